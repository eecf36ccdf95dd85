/-! SHELVES -/
def OnJ (c : Nat) (σ σ' : ns_St) : Prop := σ'.1 = σ.1 ∧ σ'.2.2 = σ.2.2 ∧ ∀ b, b ≠ c → σ'.2.1 b = σ.2.1 b
theorem OnJ.rfl (c : Nat) (σ : ns_St) : OnJ c σ σ := ⟨Eq.refl _, Eq.refl _, fun _ _ => Eq.refl _⟩
theorem OnJ.trans {c : Nat} {x y z : ns_St} (h1 : OnJ c x y) (h2 : OnJ c y z) : OnJ c x z := ⟨h2.1.trans h1.1, h2.2.1.trans h1.2.1, fun b hb => (h2.2.2 b hb).trans (h1.2.2 b hb)⟩
theorem OnJ.pJ {c k : Nat} {σ : ns_St} {v : Int64} : OnJ c σ (ns_pJ σ c k v) := ⟨Eq.refl _, Eq.refl _, fun b hb => pJ_ne σ k v hb⟩
def Sh1 (σ : ns_St) (s : Nat) : Prop := σ.1 (49 + 2 * s) 0 = σ.1 66 s ∧ σ.1 (49 + 2 * s) 1 = σ.1 67 s ∧ (∃ z, z ≤ 40 ∧ σ.1 67 s = nI z) ∧ (σ.1 66 s = -1 ∨ (∃ z, z ≤ 4 ∧ σ.1 66 s = nI z) ∨ ∃ j, σ.1 66 s = nI (10 + j) ∧ j < (σ.1 65 5).toNatClampNeg) ∧ ∀ i, i < 40 → σ.2.1 (50 + 2 * s) i = σ.2.1 68 (40 * s + i)
/-- one SHELF changes, in both -/
theorem Inv.shelf {B : Nat} {σ σ' : ns_St} (h : Inv B σ) {s : Nat} (hs : s < 8) (hr : σ'.2.2 = σ.2.2) (h1 : ∀ c, c ≠ 49 + 2 * s → c ≠ 66 → c ≠ 67 → σ'.1 c = σ.1 c) (h66 : ∀ i, i ≠ s → σ'.1 66 i = σ.1 66 i) (h67 : ∀ i, i ≠ s → σ'.1 67 i = σ.1 67 i) (h2 : ∀ c, c ≠ 50 + 2 * s → c ≠ 68 → σ'.2.1 c = σ.2.1 c) (h68 : ∀ i, (i < 40 * s ∨ 40 * s + 40 ≤ i) → σ'.2.1 68 i = σ.2.1 68 i) (hn : Sh1 σ' s) : Inv B σ' := by
  obtain ⟨⟨g1, g2, hrf⟩, hw, him, hsh, htp, hrs⟩ := h
  have key : ∀ c, (c < 49 ∨ 65 ≤ c) → c ≠ 66 → c ≠ 67 → σ'.1 c = σ.1 c := fun c a b d => h1 c (by omega) b d
  have k65 := key 65 (by omega) (by omega) (by omega)
  refine ⟨⟨g1, g2, by rw [hr]; exact hrf⟩, hw.cong (fun c _ _ => key c (by omega) (by omega) (by omega)) (h2 2 (by omega) (by omega)) (by rw [k65]) (by rw [k65]) (by rw [k65]) (by rw [k65]) (by rw [k65]) (fun c _ _ => key c (by omega) (by omega) (by omega)), him.cong (by rw [key 0 (by omega) (by omega) (by omega)]) (by rw [k65]) (fun c _ _ => key c (by omega) (by omega) (by omega)) (h2 11 (by omega) (by omega)) (key 78 (by omega) (by omega) (by omega)), ?_, htp.cong (key 29 (by omega) (by omega) (by omega)) (key 30 (by omega) (by omega) (by omega)) (key 76 (by omega) (by omega) (by omega)) (by rw [k65]), hrs.cong (key 48 (by omega) (by omega) (by omega)) (key 77 (by omega) (by omega) (by omega))⟩
  intro t ht
  by_cases e : t = s
  · subst e; exact hn
  · obtain ⟨b1, b2, b3, b4, b5⟩ := hsh t ht
    rw [h1 (49 + 2 * t) (by omega) (by omega) (by omega), h66 t e, h67 t e, k65]
    refine ⟨b1, b2, b3, b4, fun i hi => ?_⟩
    rw [h2 (50 + 2 * t) (by omega) (by omega), h68 _ (by omega)]
    exact b5 i hi
/-- what a SHELF holds -/
def Hd (x : Int32) : Prop := x = -1 ∨ (∃ z, z ≤ 4 ∧ x = nI z) ∨ ∃ j, j < 6 ∧ x = nI (10 + j)
def trb (x : Int32) : Int32 := if x = -1 then -4 else if x < 10 then 0 else -3
theorem trb_1 : trb (-1) = -4 := by decide
theorem trb_z {z : Nat} (h : z ≤ 4) : trb (nI z) = 0 := by
  unfold trb; rw [if_neg (nI_nm1 (by omega)), if_pos (show nI z < (10 : Int32) from nI_lt (b := 10) (by omega) (by decide))]
theorem trb_m {j : Nat} (h : j < 6) : trb (nI (10 + j)) = -3 := by
  unfold trb; rw [if_neg (nI_nm1 (by omega)), if_neg (show ¬ nI (10 + j) < (10 : Int32) from nI_nlt (b := 10) (by omega) (by omega))]
theorem Inv.hd {B : Nat} {σ : ns_St} (h : Inv B σ) {s : Nat} (hs : s < 8) : Hd (σ.1 66 s) := by
  obtain ⟨E, H, a1, a2, a3, a4, a5, a6⟩ := h.2.1.get
  obtain ⟨b1, b2, b3, b4, b5⟩ := h.2.2.2.1 s hs
  rcases b4 with q | q | ⟨j, q1, q2⟩
  · exact Or.inl q
  · exact Or.inr (Or.inl q)
  · rw [a2, nI_clamp (by omega)] at q2
    exact Or.inr (Or.inr ⟨j, by omega, q1⟩)
theorem rg_cases (x : Int32) {n : Nat} (hn : n < 2 ^ 31) : (∃ j, j < n ∧ x = nI j ∧ (0 ≤ x ∧ x ≤ nI n - 1)) ∨ (¬ (0 ≤ x ∧ x ≤ nI n - 1) ∧ (x < 0 ∨ nI n ≤ x)) := by
  rcases pk_ix x hn with h | h | ⟨j, hj, hx⟩
  · exact Or.inr ⟨fun q => absurd h (Int32.not_lt.mpr q.1), Or.inl h⟩
  · refine Or.inr ⟨fun q => ?_, Or.inr h⟩
    cases n with
    | zero =>
      have h2 : x ≤ nI 0 - 1 := q.2
      exact absurd (Int32.le_trans q.1 h2) (by decide)
    | succ n =>
      rw [nI_pred] at q
      exact absurd (Int32.le_trans h q.2) (nI_ge (by omega) hn)
  · refine Or.inl ⟨j, hj, hx, ?_, ?_⟩
    · rw [hx]; exact nI_pos' (by omega)
    · cases n with
      | zero => omega
      | succ n => rw [nI_pred, hx]; exact nI_le (by omega) (by omega)
theorem rn_cases (x : Int32) {n : Nat} (hn : n < 2 ^ 31) : (∃ j, j ≤ n ∧ x = nI j ∧ (0 ≤ x ∧ x ≤ nI n)) ∨ ¬ (0 ≤ x ∧ x ≤ nI n) := by
  by_cases h : 0 ≤ x ∧ x ≤ nI n
  · obtain ⟨j, h1, h2⟩ := ns_rng hn h
    exact Or.inl ⟨j, h1, h2, h⟩
  · exact Or.inr h
theorem e_noRow {σ : ns_St} {g1 g2 : Option Nat} (hR : σ.2.2 = ns_rg g1 g2) {s : Nat} (hs : s < 8) (hb : (0 : Int32) ≤ nI s ∧ nI s ≤ (7 : Int32)) (hd : Hd (σ.1 66 s)) : g_M_noRow σ 65 (nI s) = some (trb (σ.1 66 s), σ) := by
  have hin : ns_in (nI s) (ns_ln 66) := ns_inI hs (by decide)
  unfold g_M_noRow
  simp only [gk_65, e_within, ev_cl2, ite2_y hb, hR, rg_65_0, ev_drf, gk_66, grd_t hin]
  rw [ns_ixI (by omega)]
  rcases hd with q | ⟨z, hz, q⟩ | ⟨j, hj, q⟩
  · rw [q, ite2_p (by decide), ite2_n (by decide), trb_1]
  · rw [q, ite2_p (show nI z ≤ (4 : Int32) from nI_le (b := 4) hz (by decide)), ite2_p (nI_pos' (by omega)), trb_z hz]
  · rw [q, ite2_n (show ¬ nI (10 + j) ≤ (4 : Int32) from nI_ge (a := 4) (by omega) (by omega)), trb_m hj]
theorem e_noRowN {σ : ns_St} {x : Int32} (hb : ¬ (0 ≤ x ∧ x ≤ 7)) : g_M_noRow σ 65 x = some (-2, σ) := by
  unfold g_M_noRow
  simp only [gk_65, e_within, ev_cl2, ite2_z hb]
theorem e_isRow {σ : ns_St} {g1 g2 : Option Nat} (hR : σ.2.2 = ns_rg g1 g2) {s : Nat} (hs : s < 8) : g_M_isRow σ 65 (nI s) = some (yn (0 ≤ σ.1 66 s ∧ σ.1 66 s ≤ 4), σ) := by
  have hin : ns_in (nI s) (ns_ln 66) := ns_inI hs (by decide)
  unfold g_M_isRow
  simp only [gk_65, hR, rg_65_0, ev_drf, gk_66, grd_t hin, e_within, ev_cl2, grd_y]
  rw [ns_ixI (by omega)]
theorem hd_row {x : Int32} (hd : Hd x) : (trb x = 0 ∧ (0 ≤ x ∧ x ≤ 4) ∧ ∃ z, z ≤ 4 ∧ x = nI z) ∨ (trb x = -4 ∧ x = -1 ∧ ¬ (0 ≤ x ∧ x ≤ 4)) ∨ (trb x = -3 ∧ ¬ (0 ≤ x ∧ x ≤ 4) ∧ ∃ j, j < 6 ∧ x = nI (10 + j)) := by
  rcases hd with q | ⟨z, hz, q⟩ | ⟨j, hj, q⟩
  · exact Or.inr (Or.inl ⟨by rw [q]; exact trb_1, q, by rw [q]; decide⟩)
  · exact Or.inl ⟨by rw [q]; exact trb_z hz, ⟨by rw [q]; exact nI_pos' (by omega), by rw [q]; exact nI_le (b := 4) hz (by decide)⟩, z, hz, q⟩
  · refine Or.inr (Or.inr ⟨by rw [q]; exact trb_m hj, fun h => ?_, j, hj, q⟩)
    rw [q] at h
    exact absurd h.2 (nI_ge (a := 4) (by omega) (by omega))
theorem e_trb {σ : ns_St} {s : Nat} (hs : s < 8) : g_Shelf_troubleAsRow σ (49 + 2 * s) = some (trb (σ.1 (49 + 2 * s) 0), σ) := e_trouble hs
theorem ix40 (s j : Nat) : (40 : Int32) * nI s + nI j = nI (40 * s + j) := by rw [show (40 : Int32) = nI 40 from rfl, pk_mul, nI_add]
theorem e_cellAt {σ : ns_St} {g1 g2 : Option Nat} (hR : σ.2.2 = ns_rg g1 g2) {s n i : Nat} (hs : s < 8) (ht : trb (σ.1 (49 + 2 * s) 0) = 0) (hn : σ.1 (49 + 2 * s) 1 = nI n) (h40 : n ≤ 40) (hi : i < n) : g_Shelf_cellAt σ (49 + 2 * s) (nI i) = some (σ.2.1 (50 + 2 * s) i, σ) := by
  have hin : ns_in (nI i) (ns_ln (50 + 2 * s)) := by rw [ln_sc s hs]; exact ns_inI (by omega) (by decide)
  unfold g_Shelf_cellAt
  rw [grd_t (kd_sh s hs), e_trb hs, ev_cl2, ite2_p ht, ite2_n (nI_pos (by omega)), hn, ite2_n (nI_ge hi (by omega)), ite2_n (show ¬ (40 : Int32) ≤ nI i from nI_ge (b := 40) (by omega) (by decide)), hR, rg_sh g1 g2 hs, ev_drf, grd_t (kd_sc s hs), grd_t hin, ns_ixI (by omega)]
theorem k_element {B : Nat} {σ : ns_St} (h : Inv B σ) (x y : Int32) : both B (g_N_element σ 0 x y) (fun σ => g_M_element σ 65 x y) := by
  obtain ⟨g1, g2, hR⟩ := h.1
  rcases sh_cases x with ⟨s, hs, rfl, hx⟩ | hx
  · obtain ⟨b1, b2, ⟨n, b3, b3'⟩, b4, b5⟩ := h.2.2.2.1 s hs
    have hin : ns_in (nI s) (ns_ln 67) := ns_inI hs (by decide)
    have zero : g_N_element σ 0 (nI s) y = some (0, σ) → g_M_element σ 65 (nI s) y = some (0, σ) → both B (g_N_element σ 0 (nI s) y) (fun σ => g_M_element σ 65 (nI s) y) := fun p q => ⟨0, σ, σ, p, q, h⟩
    have hN : g_N_element σ 0 (nI s) y = cl2 (g_Shelf_cellAt σ (49 + 2 * s) y) fun r10 σ9 => some (r10, σ9) := by
      unfold g_N_element
      rw [gk_0, e_shelfAt hR hs hx, ev_cl2, ev_ons, grd_t (kd_sh s hs)]
    rcases hd_row (h.hd hs) with ⟨t1, t2, z, hz, t3⟩ | ⟨t1, t2, t3⟩ | ⟨t1, t2, t3⟩
    · rcases rg_cases y (n := n) (by omega) with ⟨i, hi, rfl, hy⟩ | ⟨hy, hy2⟩
      · refine ⟨σ.2.1 68 (40 * s + i), σ, σ, ?_, ?_, h⟩
        · rw [hN, e_cellAt hR hs (by rw [b1]; exact t1) (b2.trans b3') b3 hi, ev_cl2, b5 i (by omega)]
        · show g_M_element σ 65 (nI s) (nI i) = _
          have hin2 : ns_in (nI (40 * s + i)) (ns_ln 68) := ns_inI (show 40 * s + i < 320 by omega) (by decide)
          unfold g_M_element
          simp only [gk_65, e_within, ev_cl2, ite2_y hx, e_isRow hR hs, ite2_y t2, hR, rg_65_1, rg_65_2, ev_drf, gk_67, gk_68, grd_t hin]
          rw [ns_ixI (by omega), b3', ite2_y hy, ix40, grd_t hin2, ns_ixI (by omega)]
      · refine zero ?_ ?_
        · rw [hN]
          unfold g_Shelf_cellAt
          rw [grd_t (kd_sh s hs), e_trb hs, ev_cl2, b1, ite2_p t1, b2, b3']
          by_cases h0 : y < 0
          · rw [ite2_p h0, ev_cl2]
          · rw [ite2_n h0, ite2_p (hy2.resolve_left h0), ev_cl2]
        · unfold g_M_element
          simp only [gk_65, e_within, ev_cl2, ite2_y hx, e_isRow hR hs, ite2_y t2, hR, rg_65_1, ev_drf, gk_67, grd_t hin]
          rw [ns_ixI (by omega), b3', ite2_z hy]
    · refine zero ?_ ?_
      · rw [hN]
        unfold g_Shelf_cellAt
        rw [grd_t (kd_sh s hs), e_trb hs, ev_cl2, b1, ite2_n (by rw [t1]; decide), ev_cl2]
      · unfold g_M_element
        simp only [gk_65, e_within, ev_cl2, ite2_y hx, e_isRow hR hs, ite2_z t3]
    · refine zero ?_ ?_
      · rw [hN]
        unfold g_Shelf_cellAt
        rw [grd_t (kd_sh s hs), e_trb hs, ev_cl2, b1, ite2_n (by rw [t1]; decide), ev_cl2]
      · unfold g_M_element
        simp only [gk_65, e_within, ev_cl2, ite2_y hx, e_isRow hR hs, ite2_z t2]
  · refine ⟨0, σ, σ, ?_, ?_, h⟩
    · unfold g_N_element
      rw [gk_0, e_shelfAtN hx, ev_cl2, ev_onn]
    · show g_M_element σ 65 x y = _
      unfold g_M_element
      simp only [gk_65, e_within, ev_cl2, ite2_z hx]
theorem e_hold12 {g1 g2 : Option Nat} {s : Nat} (hs : s < 8) : ∀ (r k f : Nat) (τ : ns_St), r < f → k + r = 40 → τ.2.2 = ns_rg g1 g2 → ∃ τ', g_Shelf_holdRow_12 f τ (49 + 2 * s) (nI k) = some ((), τ') ∧ OnJ (50 + 2 * s) τ τ' ∧ ∀ i, i < 40 → τ'.2.1 (50 + 2 * s) i = if k ≤ i then 0 else τ.2.1 (50 + 2 * s) i := by
  intro r
  induction r with
  | zero =>
    intro k f τ hf hk hR
    obtain ⟨f, rfl⟩ : ∃ q, f = q + 1 := ⟨f - 1, by omega⟩
    refine ⟨τ, ?_, OnJ.rfl _ _, fun i hi => by rw [if_neg (by omega)]⟩
    rw [g_Shelf_holdRow_12, ite2_p (show (40 : Int32) ≤ nI k from nI_le (a := 40) (by omega) (by omega))]
  | succ r ih =>
    intro k f τ hf hk hR
    obtain ⟨f, rfl⟩ : ∃ q, f = q + 1 := ⟨f - 1, by omega⟩
    have hin : ns_in (nI k) (ns_ln (50 + 2 * s)) := by rw [ln_sc s hs]; exact ns_inI (by omega) (by decide)
    obtain ⟨τ', e, on, v⟩ := ih (k + 1) f (ns_pJ τ (50 + 2 * s) k 0) (by omega) (by omega) hR
    refine ⟨τ', ?_, OnJ.pJ.trans on, fun i hi => ?_⟩
    · rw [g_Shelf_holdRow_12, ite2_n (show ¬ (40 : Int32) ≤ nI k from nI_ge (b := 40) (by omega) (by decide)), hR, rg_sh g1 g2 hs, ev_drf, grd_t (kd_sc s hs), grd_t hin, ev_bnd, ev_bnd, ns_ixI (by omega), ← nI_succ]
      exact e
    · rw [v i hi]
      by_cases q : k = i
      · subst q; rw [if_neg (by omega), if_pos (Nat.le_refl _), pJ_at]
      · by_cases q2 : k ≤ i
        · rw [if_pos (by omega), if_pos q2]
        · rw [if_neg (by omega), if_neg q2, pJ_st _ _ _ (by omega)]
theorem e_row53 {g1 g2 : Option Nat} {s : Nat} (hs : s < 8) : ∀ (r k f : Nat) (τ : ns_St), r < f → k + r = 40 → τ.2.2 = ns_rg g1 g2 → ∃ τ', g_M_row_53 f τ 65 (nI s) (nI k) = some (1, τ') ∧ OnJ 68 τ τ' ∧ ∀ i, τ'.2.1 68 i = if 40 * s + k ≤ i ∧ i < 40 * s + 40 then 0 else τ.2.1 68 i := by
  intro r
  induction r with
  | zero =>
    intro k f τ hf hk hR
    obtain ⟨f, rfl⟩ : ∃ q, f = q + 1 := ⟨f - 1, by omega⟩
    refine ⟨τ, ?_, OnJ.rfl _ _, fun i => by rw [if_neg (by omega)]⟩
    rw [g_M_row_53, ite2_p (show (40 : Int32) ≤ nI k from nI_le (a := 40) (by omega) (by omega))]
  | succ r ih =>
    intro k f τ hf hk hR
    obtain ⟨f, rfl⟩ : ∃ q, f = q + 1 := ⟨f - 1, by omega⟩
    have hin : ns_in (nI (40 * s + k)) (ns_ln 68) := ns_inI (show 40 * s + k < 320 by omega) (by decide)
    obtain ⟨τ', e, on, v⟩ := ih (k + 1) f (ns_pJ τ 68 (40 * s + k) 0) (by omega) (by omega) hR
    refine ⟨τ', ?_, OnJ.pJ.trans on, fun i => ?_⟩
    · rw [g_M_row_53, ite2_n (show ¬ (40 : Int32) ≤ nI k from nI_ge (b := 40) (by omega) (by decide)), hR, rg_65_2, ev_drf, gk_68, ix40, grd_t hin, ev_bnd, ev_bnd, ns_ixI (by omega), ← nI_succ]
      exact e
    · rw [v i]
      by_cases q : i = 40 * s + k
      · subst q; rw [if_neg (by omega), if_pos (by omega), pJ_at]
      · rw [pJ_st _ _ _ q]
        by_cases q2 : 40 * s + k ≤ i ∧ i < 40 * s + 40
        · rw [if_pos (by omega), if_pos q2]
        · rw [if_neg (by omega), if_neg q2]
theorem k_row {B : Nat} {σ : ns_St} (h : Inv B σ) (x y w : Int32) : both B (g_N_row σ 0 x y w) (fun σ => g_M_row σ 65 x y w) := by
  obtain ⟨g1, g2, hR⟩ := h.1
  rcases sh_cases x with ⟨s, hs, rfl, hx⟩ | hx
  · have hN : g_N_row σ 0 (nI s) y w = ite2 (yn ((0 : Int32) ≤ y ∧ y ≤ 4) = 0) (cl2 (g_N_refuse σ 0 (-2 : Int32)) fun r σ' => some (r, σ')) (ite2 (yn ((0 : Int32) ≤ w ∧ w ≤ 40) = 0) (cl2 (g_N_refuse σ 0 (-2 : Int32)) fun r σ' => some (r, σ')) (cl2 (g_Shelf_holdRow σ (49 + 2 * s) y w) fun r32 σ31 => some ((1 : Int32), σ31))) := by
      unfold g_N_row
      simp only [gk_0, e_shelfAt hR hs hx, ev_cl2, ev_ons, grd_t (kd_sh s hs), e_isWithin]
    by_cases hy : 0 ≤ y ∧ y ≤ 4
    · by_cases hw : 0 ≤ w ∧ w ≤ 40
      · obtain ⟨z, hz, hz2⟩ := ns_rng (n := 4) (by decide) hy
        obtain ⟨n, hn, hn2⟩ := ns_rng (n := 40) (by decide) hw
        obtain ⟨τ, e, on, v⟩ := e_hold12 (g1 := g1) (g2 := g2) hs 40 0 ns_F (ns_pI (ns_pI σ (49 + 2 * s) 0 y) (49 + 2 * s) 1 w) (by decide) (by omega) hR
        have hRτ : τ.2.2 = ns_rg g1 g2 := on.2.1.trans hR
        have in66 : ns_in (nI s) (ns_ln 66) := ns_inI hs (by decide)
        have in67 : ns_in (nI s) (ns_ln 67) := ns_inI hs (by decide)
        obtain ⟨τ2, e2, on2, v2⟩ := e_row53 (g1 := g1) (g2 := g2) hs 40 0 ns_F (ns_pI (ns_pI τ 66 s y) 67 s w) (by decide) (by omega) hRτ
        refine ⟨1, τ, τ2, ?_, ?_, ?_⟩
        · rw [hN, ite2_y hy, ite2_y hw]
          unfold g_Shelf_holdRow
          rw [grd_t (kd_sh s hs), ev_bnd, ev_bnd]
          have e' : g_Shelf_holdRow_12 ns_F (ns_pI (ns_pI σ (49 + 2 * s) 0 y) (49 + 2 * s) 1 w) (49 + 2 * s) 0 = some ((), τ) := e
          rw [e', ev_cl2]
        · show g_M_row τ 65 (nI s) y w = _
          unfold g_M_row
          simp only [gk_65, e_within, ev_cl2, ite2_y hx, ite2_y hy, ite2_y hw, pI_R, hRτ, rg_65_0, rg_65_1, ev_drf, gk_66, gk_67, grd_t in66, grd_t in67, ev_bnd]
          rw [ns_ixI (by omega)]
          exact e2
        · have k1 : ∀ c, c ≠ 49 + 2 * s → c ≠ 66 → c ≠ 67 → τ2.1 c = σ.1 c := fun c p q r => by
            rw [on2.1, pI_ne _ _ _ r, pI_ne _ _ _ q, on.1, pI_ne _ _ _ p, pI_ne _ _ _ p]
          have f66 : τ2.1 66 s = y := by rw [on2.1, pI_ne _ _ _ (by decide), pI_at]
          have f67 : τ2.1 67 s = w := by rw [on2.1, pI_at]
          have c49 : τ2.1 (49 + 2 * s) = (ns_pI (ns_pI σ (49 + 2 * s) 0 y) (49 + 2 * s) 1 w).1 (49 + 2 * s) := by
            rw [on2.1, pI_ne _ _ _ (by omega), pI_ne _ _ _ (by omega), on.1]
          refine h.shelf hs (by rw [on2.2.1]; exact on.2.1) k1 ?_ ?_ ?_ ?_ ?_
          · intro i hi
            rw [on2.1, pI_ne _ _ _ (by decide), pI_st _ _ _ hi, on.1, pI_ne _ _ _ (by omega), pI_ne _ _ _ (by omega)]
          · intro i hi
            rw [on2.1, pI_st _ _ _ hi, pI_ne _ _ _ (by decide), on.1, pI_ne _ _ _ (by omega), pI_ne _ _ _ (by omega)]
          · intro c p q
            rw [on2.2.2 c q]
            exact on.2.2 c p
          · intro i hi
            rw [v2 i, if_neg (by omega)]
            show τ.2.1 68 i = _
            rw [on.2.2 68 (by omega)]
            rfl
          · refine ⟨?_, ?_, ⟨n, hn, by rw [f67]; exact hn2⟩, Or.inr (Or.inl ⟨z, hz, by rw [f66]; exact hz2⟩), fun i hi => ?_⟩
            · rw [f66, c49, pI_st _ _ _ (by decide), pI_at]
            · rw [f67, c49, pI_at]
            · rw [v2, if_pos (by omega), on2.2.2 _ (by omega)]
              exact v i hi
      · refine both.bad h hR (z := 0) (by decide) (c := -2) (by decide) (by decide) ?_ ?_
        · rw [hN, ite2_y hy, ite2_z hw]
        · show g_M_row (rfN σ 0) 65 (nI s) y w = _
          unfold g_M_row
          simp only [gk_65, e_within, ev_cl2, ite2_y hx, ite2_y hy, ite2_z hw]
    · refine both.bad h hR (z := 0) (by decide) (c := -2) (by decide) (by decide) ?_ ?_
      · rw [hN, ite2_z hy]
      · show g_M_row (rfN σ 0) 65 (nI s) y w = _
        unfold g_M_row
        simp only [gk_65, e_within, ev_cl2, ite2_y hx, ite2_z hy]
  · refine both.bad h hR (z := 0) (by decide) (c := -2) (by decide) (by decide) ?_ ?_
    · unfold g_N_row
      rw [gk_0, e_shelfAtN hx, ev_cl2, ev_onn]
    · show g_M_row (rfN σ 0) 65 x y w = _
      unfold g_M_row
      simp only [gk_65, e_within, ev_cl2, ite2_z hx]
