/-! the highest PLACE at which something is -/
theorem e_isThere16 {σ : ns_St} {g1 g2 : Option Nat} (hR : σ.2.2 = ns_rg g1 g2) {p w : Nat} (hp : p ≤ 60) : g_M_isThere σ 65 (nI p) (nI (2 ^ w)) = some (yn (tb (σ.1 69 p) (nI (2 ^ w)) = true), σ) := e_isThere hR hp _
theorem gb_all {σ : ns_St} {g E : Nat} {th : Nat → Int32} (hG : GR σ g th E) {p : Nat} (hp : p < 64) : gb ((((σ.2.1 g 1) ||| (σ.2.1 g 2)) ||| (σ.2.1 g 3)) ||| (σ.2.1 g 4)) p = (decide (p ≤ E) && decide (th p ≠ 0)) := by
  have b := hG.2.2.2.1 p hp
  rw [gb_or, gb_or, gb_or, b.1, b.2.1, b.2.2.1, b.2.2.2]
  by_cases h : p ≤ E
  · obtain ⟨⟨v, v1, v2⟩, _⟩ := hG.2.2.2.2 p (by have := hG.2.2.1; omega)
    have z := z16 v v1
    rw [decide_eq_true h, v2]
    by_cases q : nI v = 0
    · obtain ⟨q1, q2, q3, q4⟩ := z.mp q
      rw [q1, q2, q3, q4, decide_eq_false (show ¬ nI v ≠ 0 from fun e => e q)]; rfl
    · rw [decide_eq_true q]
      cases t1 : tb (nI v) 1 <;> cases t2 : tb (nI v) 2 <;> cases t3 : tb (nI v) 4 <;> cases t4 : tb (nI v) 8 <;> first | rfl | exact absurd (z.mpr ⟨t1, t2, t3, t4⟩) q
  · rw [decide_eq_false h]; rfl
/-- none, or the last one -/
def hiN (th : Nat → Int32) (E : Nat) : Prop := ∀ p, p ≤ E → th p = 0
def hiS (th : Nat → Int32) (E k : Nat) : Prop := k ≤ E ∧ th k ≠ 0 ∧ ∀ p, k < p → p ≤ E → th p = 0
theorem hi_or (th : Nat → Int32) (E : Nat) : hiN th E ∨ ∃ k, hiS th E k := by
  by_cases q : ∃ i, i < E + 1 ∧ th i ≠ 0
  · obtain ⟨k, k1, k2, k3⟩ := fb_last (p := fun i => th i ≠ 0) q
    refine Or.inr ⟨k, by omega, k2, fun p a b => ?_⟩
    by_cases e : th p = 0
    · exact e
    · exact absurd e (k3 p a (by omega))
  · refine Or.inl (fun p hp => ?_)
    by_cases e : th p = 0
    · exact e
    · exact absurd ⟨p, by omega, e⟩ q
theorem e_ghi {σ : ns_St} {g E : Nat} {th : Nat → Int32} (hg : ns_kd g = 1) (hG : GR σ g th E) : (hiN th E → g_Ground_highest σ g = some (-1, σ)) ∧ ∀ k, hiS th E k → g_Ground_highest σ g = some (nI k, σ) := by
  have h60 := hG.2.2.1
  refine ⟨fun h => ?_, fun k h => ?_⟩
  · unfold g_Ground_highest
    rw [grd_t hg, e_lastOf0 (fun p hp => ?_), ev_cl2]
    rw [gb_all hG hp]
    by_cases q : p ≤ E
    · rw [h p q]; simp
    · rw [decide_eq_false q]; rfl
  · unfold g_Ground_highest
    obtain ⟨h1, h2, h3⟩ := h
    rw [grd_t hg, e_lastOf (k := k) (by omega) ?_ (fun p a b => ?_), ev_cl2]
    · rw [gb_all hG (by omega), decide_eq_true h1, decide_eq_true h2]; rfl
    · rw [gb_all hG b]
      by_cases q : p ≤ E
      · rw [h3 p a q]; simp
      · rw [decide_eq_false q]; rfl
theorem e_mhi4 {σ : ns_St} {g1 g2 : Option Nat} (hR : σ.2.2 = ns_rg g1 g2) {E : Nat} (hE : σ.1 65 3 = nI E) (h60 : E ≤ 60) {k : Nat} (hk : hiS (σ.1 69) E k) : ∀ (r p f : Nat) (x : Int32), r < f → p + r = E + 1 → (k < p → x = nI k) → g_M_highest_4 f σ 65 x (nI p) = some (nI k, σ) := by
  intro r
  induction r with
  | zero =>
    intro p f x hf hp hx
    obtain ⟨f, rfl⟩ : ∃ q, f = q + 1 := ⟨f - 1, by omega⟩
    rw [g_M_highest_4, hE, ite2_p (nI_lt (by omega) (by omega)), hx (by have := hk.1; omega)]
  | succ r ih =>
    intro p f x hf hp hx
    obtain ⟨f, rfl⟩ : ∃ q, f = q + 1 := ⟨f - 1, by omega⟩
    have hin : ns_in (nI p) (ns_ln 69) := ns_inI (show p < 61 by omega) (by decide)
    rw [g_M_highest_4, hE, ite2_n (nI_nlt (by omega) (by omega)), hR, rg_65_4, ev_drf, gk_69, grd_t hin, ns_ixI (by omega)]
    by_cases q : σ.1 69 p = 0
    · rw [ite2_p q, ev_bnd, ← nI_succ]
      refine ih (p + 1) f x (by omega) (by omega) (fun h => ?_)
      by_cases e : k = p
      · subst e; exact absurd q hk.2.1
      · exact hx (by omega)
    · rw [ite2_n q, ev_bnd, ← nI_succ]
      refine ih (p + 1) f (nI p) (by omega) (by omega) (fun h => ?_)
      have : k = p := by
        rcases Nat.lt_or_ge k p with w | w
        · exact absurd (hk.2.2 p w (by omega)) q
        · omega
      rw [this]
theorem e_mhi0 {σ : ns_St} {g1 g2 : Option Nat} (hR : σ.2.2 = ns_rg g1 g2) {E : Nat} (hE : σ.1 65 3 = nI E) (h60 : E ≤ 60) (hk : hiN (σ.1 69) E) : ∀ (r p f : Nat) (x : Int32), r < f → p + r = E + 1 → g_M_highest_4 f σ 65 x (nI p) = some (x, σ) := by
  intro r
  induction r with
  | zero =>
    intro p f x hf hp
    obtain ⟨f, rfl⟩ : ∃ q, f = q + 1 := ⟨f - 1, by omega⟩
    rw [g_M_highest_4, hE, ite2_p (nI_lt (by omega) (by omega))]
  | succ r ih =>
    intro p f x hf hp
    obtain ⟨f, rfl⟩ : ∃ q, f = q + 1 := ⟨f - 1, by omega⟩
    have hin : ns_in (nI p) (ns_ln 69) := ns_inI (show p < 61 by omega) (by decide)
    rw [g_M_highest_4, hE, ite2_n (nI_nlt (by omega) (by omega)), hR, rg_65_4, ev_drf, gk_69, grd_t hin, ns_ixI (by omega), ite2_p (hk p (by omega)), ev_bnd, ← nI_succ]
    exact ih (p + 1) f x (by omega) (by omega)
theorem e_mhi {σ : ns_St} {g1 g2 : Option Nat} (hR : σ.2.2 = ns_rg g1 g2) {E : Nat} (hE : σ.1 65 3 = nI E) (h60 : E ≤ 60) : (hiN (σ.1 69) E → g_M_highest σ 65 = some (0, σ)) ∧ ∀ k, hiS (σ.1 69) E k → g_M_highest σ 65 = some (nI k, σ) := by
  refine ⟨fun h => ?_, fun k h => ?_⟩
  · unfold g_M_highest
    rw [gk_65]
    exact e_mhi0 hR hE h60 h (E + 1) 0 ns_F 0 (by show E + 1 < 10000; omega) (by omega)
  · unfold g_M_highest
    rw [gk_65]
    exact e_mhi4 hR hE h60 h (E + 1) 0 ns_F 0 (by show E + 1 < 10000; omega) (by omega) (fun q => by omega)
/-- longer: nothing was there -/
theorem e_longer {σ : ns_St} {g1 g2 : Option Nat} (hR : σ.2.2 = ns_rg g1 g2) {E n : Nat} (hE : σ.1 65 3 = nI E) (h60 : E ≤ 60) (hn : n ≤ 60) (h0 : ∀ p, E < p → p ≤ 60 → σ.1 69 p = 0) : g_M_longer σ 65 (nI n) = some ((), ns_pI σ 65 3 (nI n)) := by
  have key : ∀ (r p f : Nat), r < f → E < p → n + 1 ≤ p + r → p + r ≤ 61 → g_M_longer_7 f σ 65 (nI n) (nI p) = some ((), ns_pI σ 65 3 (nI n)) := by
    intro r
    induction r with
    | zero =>
      intro p f hf hp h1 h2
      obtain ⟨f, rfl⟩ : ∃ q, f = q + 1 := ⟨f - 1, by omega⟩
      rw [g_M_longer_7, ite2_p (nI_lt (by omega) (by omega)), ev_bnd]
    | succ r ih =>
      intro p f hf hp h1 h2
      obtain ⟨f, rfl⟩ : ∃ q, f = q + 1 := ⟨f - 1, by omega⟩
      rw [g_M_longer_7]
      by_cases q : n < p
      · rw [ite2_p (nI_lt q (by omega)), ev_bnd]
      · have hin : ns_in (nI p) (ns_ln 69) := ns_inI (show p < 61 by omega) (by decide)
        rw [ite2_n (nI_nlt (by omega) (by omega)), hR, rg_65_4, ev_drf, gk_69, grd_t hin, ev_bnd, ev_bnd, ns_ixI (by omega), pI_id (h0 p hp (by omega)), ← nI_succ]
        exact ih (p + 1) f (by omega) (by omega) (by omega) (by omega)
  unfold g_M_longer
  rw [gk_65, ev_bnd, hE, show (1 : Int32) = nI 1 from rfl, nI_add]
  exact key (60 - E) (E + 1) ns_F (by show 60 - E < 10000; omega) (by omega) (by omega) (by omega)
theorem GR.len {σ σ' : ns_St} {g E n : Nat} {th th' : Nat → Int32} (hG : GR σ g th E) (h0 : σ'.1 g 0 = nI n) (hJ : σ'.2.1 g = σ.2.1 g) (ht : th' = th) (hn : 1 ≤ n) (hn2 : n ≤ 60) (hh : ∀ p, n < p → p ≤ E → th p = 0) : GR σ' g th' n := by
  subst ht
  have h60 := hG.2.2.1
  have z : ∀ p, p ≤ 60 → n < p → th' p = 0 := fun p a b => by
    by_cases q : p ≤ E
    · exact hh p b q
    · exact (hG.2.2.2.2 p a).2 (by omega)
  refine GR.mk h0 hn hn2 (fun w p hw hp => ?_) (fun p hp => ⟨(hG.2.2.2.2 p hp).1, z p hp⟩)
  rw [hJ, hG.w hw hp]
  by_cases q : p ≤ 60
  · by_cases e1 : p ≤ E
    · by_cases e2 : p ≤ n
      · rw [decide_eq_true e1, decide_eq_true e2]
      · rw [z p q (by omega), decide_eq_false e2, decide_eq_true e1]
        have : tb 0 (nI (2 ^ w)) = false := by simp [tb]
        rw [this]; rfl
    · by_cases e2 : p ≤ n
      · rw [(hG.2.2.2.2 p q).2 (by omega)]
        have : tb 0 (nI (2 ^ w)) = false := by simp [tb]
        rw [this]; simp
      · rw [decide_eq_false e1, decide_eq_false e2]
  · rw [decide_eq_false (show ¬ p ≤ E by omega), decide_eq_false (show ¬ p ≤ n by omega)]
theorem k_length {B : Nat} {σ : ns_St} (h : Inv B σ) (x : Int32) : both B (g_N_length σ 0 x) (fun σ => g_M_length σ 65 x) := by
  obtain ⟨g1, g2, hR⟩ := h.1
  obtain ⟨E, H, a1, a2, a3, hG, a5, a6⟩ := h.2.1.get
  have h60 := hG.2.2.1
  by_cases hx : 1 ≤ x ∧ x ≤ 60
  · obtain ⟨n, hn, rfl⟩ := ns_rng (x := x) (n := 60) (by decide) ⟨Int32.le_trans (by decide) hx.1, hx.2⟩
    have hn1 : 1 ≤ n := (nI_leI (a := 1) (by decide) (by omega)).mp hx.1
    have stuck : (0 < H ∨ ∃ k, hiS (σ.1 69) E k ∧ n < k) → both B (g_N_length σ 0 (nI n)) (fun σ => g_M_length σ 65 (nI n)) := fun hst => by
      refine both.bad h hR (z := 3) (by decide) (c := -5) (by decide) (by decide) ?_ ?_
      · unfold g_N_length
        simp only [gk_0, e_isWithin, ev_cl2, ite2_y hx, hR, rg_0_0, rg_1_0, ev_drf, gk_1, gk_2]
        rw [a5]
        by_cases q : 0 < H
        · rw [ite2_p (show (0 : Int32) < nI H from nI_lt (a := 0) q (by omega))]
        · rw [ite2_n (show ¬ (0 : Int32) < nI H from nI_nlt (b := H) (a := 0) (by omega) (by omega))]
          obtain ⟨k, hk, hnk⟩ := hst.resolve_left q
          rw [(e_ghi kd_2 hG).2 k hk, ev_cl2, ite2_n (nI_ge hnk (by have := hk.1; omega))]
      · show g_M_length (rfN σ 3) 65 (nI n) = _
        have e65 : (rfN σ 3).1 65 = σ.1 65 := by rw [rfN, pI_ne _ _ _ (by decide)]
        have e69 : (rfN σ 3).1 69 = σ.1 69 := by rw [rfN, pI_ne _ _ _ (by decide)]
        unfold g_M_length
        rw [gk_65, e_within, ev_cl2, ite2_y hx, e65, a2]
        by_cases q : 0 < H
        · rw [ite2_p (show (0 : Int32) < nI H from nI_lt (a := 0) q (by omega))]
        · rw [ite2_n (show ¬ (0 : Int32) < nI H from nI_nlt (b := H) (a := 0) (by omega) (by omega))]
          obtain ⟨k, hk, hnk⟩ := hst.resolve_left q
          rw [(e_mhi (σ := rfN σ 3) hR (by rw [e65]; exact a1) h60).2 k (by rw [e69]; exact hk), ev_cl2, ite2_n (nI_ge hnk (by have := hk.1; omega))]
    by_cases q : 0 < H
    · exact stuck (Or.inl q)
    · have good : (∀ p, n < p → p ≤ E → σ.1 69 p = 0) → (∃ u v : Int32, g_Ground_highest σ 2 = some (u, σ) ∧ u ≤ nI n ∧ (∀ τ : ns_St, τ.2.2 = ns_rg g1 g2 → τ.1 65 3 = nI E → τ.1 69 = σ.1 69 → g_M_highest τ 65 = some (v, τ)) ∧ v ≤ nI n) → both B (g_N_length σ 0 (nI n)) (fun σ => g_M_length σ 65 (nI n)) := by
        intro hz ⟨u, v, u1, u2, v1, v2⟩
        refine ⟨nI E, ns_pI σ 2 0 (nI n), ns_pI (ns_pI σ 2 0 (nI n)) 65 3 (nI n), ?_, ?_, ?_⟩
        · unfold g_N_length
          simp only [gk_0, e_isWithin, ev_cl2, ite2_y hx, hR, rg_0_0, rg_1_0, ev_drf, gk_1, gk_2, u1, ev_bnd]
          rw [a5, ite2_n (show ¬ (0 : Int32) < nI H from nI_nlt (b := H) (a := 0) (by omega) (by omega)), ite2_p u2, hG.1]
        · show g_M_length (ns_pI σ 2 0 (nI n)) 65 (nI n) = _
          have e65 : (ns_pI σ 2 0 (nI n)).1 65 = σ.1 65 := by rw [pI_ne _ _ _ (by decide)]
          have e69 : (ns_pI σ 2 0 (nI n)).1 69 = σ.1 69 := by rw [pI_ne _ _ _ (by decide)]
          unfold g_M_length
          rw [gk_65, e_within, ev_cl2, ite2_y hx, e65, a2, ite2_n (show ¬ (0 : Int32) < nI H from nI_nlt (b := H) (a := 0) (by omega) (by omega)), v1 (ns_pI σ 2 0 (nI n)) hR (by rw [e65]; exact a1) e69, ev_cl2, ite2_p v2, ev_bnd, e65, a1, e_longer (σ := ns_pI σ 2 0 (nI n)) hR (by rw [e65]; exact a1) h60 hn (fun p a b => by rw [e69]; exact (hG.2.2.2.2 p b).2 a), ev_cl2]
        · have i1 : ∀ c, c ≠ 2 → c ≠ 65 → (ns_pI (ns_pI σ 2 0 (nI n)) 65 3 (nI n)).1 c = σ.1 c := fun c p q => by rw [pI_ne _ _ _ q, pI_ne _ _ _ p]
          have i65 : ∀ k, k ≠ 3 → (ns_pI (ns_pI σ 2 0 (nI n)) 65 3 (nI n)).1 65 k = σ.1 65 k := fun k p => by rw [pI_st _ _ _ p, pI_ne _ _ _ (by decide)]
          refine h.wld (Nat.le_refl _) ⟨g1, g2, hR⟩ (h.2.1.gnd (E' := n) (by rw [pI_at]) (hG.len (by rw [pI_ne _ _ _ (by decide), pI_at]) rfl (i1 69 (by decide) (by decide)) hn1 hn hz) (Or.inr ?_) (fun c hc => i1 c (by omega) (by omega)) (fun k hk => i65 k (by omega))) ⟨fun c hc => i1 c (by omega) (by omega), fun c _ => rfl, i65 15 (by decide), i65 22 (by decide)⟩ (by rw [i65 5 (by decide)]; exact Nat.le_refl _)
          rw [a2, show H = 0 by omega]; rfl
      rcases hi_or (σ.1 69) E with hk | ⟨k, hk⟩
      · exact good (fun p _ b => hk p b) ⟨-1, 0, (e_ghi kd_2 hG).1 hk, Int32.le_trans (show (-1 : Int32) ≤ 0 by decide) (nI_pos' (by omega)), fun τ t1 t2 t3 => (e_mhi t1 t2 h60).1 (by rw [t3]; exact hk), nI_pos' (by omega)⟩
      · by_cases w : n < k
        · exact stuck (Or.inr ⟨k, hk, w⟩)
        · exact good (fun p a b => hk.2.2 p (by omega) b) ⟨nI k, nI k, (e_ghi kd_2 hG).2 k hk, nI_le (by omega) (by omega), fun τ t1 t2 t3 => (e_mhi t1 t2 h60).2 k (by rw [t3]; exact hk), nI_le (by omega) (by omega)⟩
  · refine both.bad h hR (z := 0) (by decide) (c := -2) (by decide) (by decide) ?_ ?_
    · unfold g_N_length
      rw [gk_0, e_isWithin, ev_cl2, ite2_z hx]
    · show g_M_length (rfN σ 0) 65 x = _
      unfold g_M_length
      rw [gk_65, e_within, ev_cl2, ite2_z hx]
