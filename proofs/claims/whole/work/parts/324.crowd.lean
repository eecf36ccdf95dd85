/-! how many STOPS are at a PLACE -/
def jq (σ : ns_St) (E p j : Nat) : Bool := jp (σ.1 69) (gm σ 70 j) (gm σ 72 j) (gm σ 71 j) (gm σ 73 j) E p
def Cw (σ : ns_St) (E H p : Nat) : Nat := fb_ct (jq σ E p) H
theorem jq_f {σ : ns_St} {E p j : Nat} (h : p ≤ gm σ 72 j) : jq σ E p j = false := by
  unfold jq jp; rw [decide_eq_false (by omega)]; rfl
theorem jq_hi {σ : ns_St} {E p j : Nat} (h : E < p) : jq σ E p j = false := by
  unfold jq jp; rw [decide_eq_false (by omega)]; rfl
theorem Cw_le {σ : ns_St} {E H p : Nat} : Cw σ E H p ≤ H := fb_ct_le _ _
theorem Cw_0 {σ : ns_St} {E H : Nat} : Cw σ E H 0 = 0 := fb_ct_zero.mpr (fun _ _ => jq_f (by omega))
theorem Cw_hi {σ : ns_St} {E H p : Nat} (h : E < p) : Cw σ E H p = 0 := fb_ct_zero.mpr (fun _ _ => jq_hi h)
theorem e_crowdAt4 {B : Nat} {σ : ns_St} {E H p : Nat} (hW : PW B σ E H) (hp : p ≤ E) : ∀ (r k f : Nat) (τ : ns_St), r < f → k + r = H → Same σ τ → ∃ τ', g_M_crowdAt_4 f τ 65 (nI p) (nI (fb_ct (jq σ E p) k)) (nI k) = some (nI (Cw σ E H p), τ') ∧ Same σ τ' := by
  have hH := hW.2.2.2.1
  have h60 := hW.h60
  intro r
  induction r with
  | zero =>
    intro k f τ hf hk s
    obtain ⟨f, rfl⟩ : ∃ q, f = q + 1 := ⟨f - 1, by omega⟩
    have hk' : k = H := by omega
    subst hk'
    refine ⟨τ, ?_, s⟩
    rw [g_M_crowdAt_4, (hW.same s).2.2.1, ite2_p (nI_le (by omega) (by omega))]
    rfl
  | succ r ih =>
    intro k f τ hf hk s
    obtain ⟨f, rfl⟩ : ∃ q, f = q + 1 := ⟨f - 1, by omega⟩
    obtain ⟨g1, g2, hR⟩ := (hW.same s).1
    have m := hW.m (j := k) (by omega)
    have hin : ns_in (nI k) (ns_ln 72) := ns_inI (show k < 6 by omega) (by decide)
    have mA : τ.1 72 k = nI (gm σ 72 k) := by rw [s.mi (by omega)]; exact m.2.2.2.2.1
    have hAE := m.1.2.2.2.1
    rw [g_M_crowdAt_4, (hW.same s).2.2.1, ite2_n (nI_ge (by omega) (by omega)), hR, rg_65_8, ev_drf, gk_72, grd_t hin, ns_ixI (by omega), mA]
    by_cases hA : p ≤ gm σ 72 k
    · obtain ⟨τ2, e2, s2⟩ := ih (k + 1) f τ (by omega) (by omega) s
      rw [ct_f (jq_f hA)] at e2
      refine ⟨τ2, ?_, s2⟩
      rw [ite2_p (nI_le hA (by omega)), ev_bnd, ← nI_succ]
      exact e2
    · obtain ⟨τ1, e1, s1⟩ := e_sAt hW s (k := k) (by omega) (S := gm σ 72 k) (p := p) (by omega) hp
      obtain ⟨τ2, e2, s2⟩ := ih (k + 1) f τ1 (by omega) (by omega) s1
      refine ⟨τ2, ?_, s2⟩
      rw [ite2_n (nI_ge (by omega) (by omega)), ev_drf, gk_72, grd_t hin, mA, e1, ev_cl2]
      have hq : jp (σ.1 69) (gm σ 70 k) (gm σ 72 k) (gm σ 71 k) (gm σ 73 k) E p = jq σ E p k := rfl
      rw [hq]
      cases hjq : jq σ E p k with
      | false =>
        rw [ct_f hjq] at e2
        rw [ite2_z (by decide), ev_bnd, ← nI_succ]
        exact e2
      | true =>
        rw [ct_t hjq] at e2
        rw [ite2_y (Eq.refl true), ev_bnd, ev_bnd, ← nI_succ, ← nI_succ]
        exact e2
theorem e_crowdAt {B : Nat} {σ τ : ns_St} {E H p : Nat} (hW : PW B σ E H) (s : Same σ τ) (hp : p ≤ E) : ∃ τ', g_M_crowdAt τ 65 (nI p) = some (nI (Cw σ E H p), τ') ∧ Same σ τ' := by
  have hH := hW.2.2.2.1
  obtain ⟨τ', e, s'⟩ := e_crowdAt4 hW hp H 0 ns_F τ (by show H < 10000; omega) (by omega) s
  refine ⟨τ', ?_, s'⟩
  unfold g_M_crowdAt
  rw [gk_65]
  exact e
theorem e_stopsOn {B : Nat} {σ τ : ns_St} {E H : Nat} (hW : PW B σ E H) (s : Same σ τ) {k : Nat} (hk : k < H) : ∃ τ', g_N_stopsOf τ 0 (4 + k) = some (jm (σ.1 69) (gm σ 70 k) (gm σ 72 k) (gm σ 71 k) (gm σ 73 k) E, τ') ∧ On 46 τ τ' := by
  have hk6 : k < 6 := by have := hW.2.2.2.1; omega
  have m := (hW.m hk).same s hk6
  have hJ := m.jc (hW.same s)
  obtain ⟨g1, g2, hR⟩ := (hW.same s).1
  obtain ⟨u0, u1, u2, u3, u4, u5, u6, u7⟩ := m.2.1
  obtain ⟨τ', e, on⟩ := e_stopsBy hR (hW.same s).2.2.2.2.1 (c := 4 + k) (K := gm σ 70 k) (A := gm σ 72 k) (N := gm σ 71 k) (C := gm σ 73 k) (kd_m4 k hk6) (by omega) m.1.1 hJ.2.2.2.2.2.1 hJ.2.2.2.2.2.2 hJ.2.2.2.1 u0 u7
  rw [s.mi (a := 69) (by omega)] at e
  refine ⟨τ', ?_, on⟩
  unfold g_N_stopsOf
  rw [gk_0, grd_t (kd_m4 k hk6), u2, u1, u3, e, ev_cl2]
  rfl
theorem scr47 : scr 47 := by unfold scr; omega
theorem e_cc51 {σ : ns_St} (hI : Irf σ) {E j : Nat} {x : Int64} (hx : ∀ p, p < 64 → gb x p = jq σ E p j) (hj : j < 6) (kh : ns_St → Nat → Int32 → Option (Unit × ns_St)) : ∀ (r k f : Nat) (τ : ns_St), r < f → k + r = 61 → Same σ τ → (∀ p, p < 61 → τ.1 47 p = nI (fb_ct (jq σ E p) (if p < k then j + 1 else j))) →
    ∃ τ', g_N_countCrowds_51 kh f τ 0 (nI j) x (nI k) = kh τ' 0 (nI (j + 1)) ∧ Same σ τ' ∧ ∀ p, p < 61 → τ'.1 47 p = nI (fb_ct (jq σ E p) (j + 1)) := by
  intro r
  induction r with
  | zero =>
    intro k f τ hf hk s hc
    obtain ⟨f, rfl⟩ : ∃ q, f = q + 1 := ⟨f - 1, by omega⟩
    refine ⟨τ, ?_, s, fun p hp => by rw [hc p hp, if_pos (by omega)]⟩
    rw [g_N_countCrowds_51, ite2_p (show (61 : Int32) ≤ nI k from nI_le (a := 61) (by omega) (by omega)), ev_bnd, ← nI_succ]
  | succ r ih =>
    intro k f τ hf hk s hc
    obtain ⟨f, rfl⟩ : ∃ q, f = q + 1 := ⟨f - 1, by omega⟩
    obtain ⟨g1, g2, hR⟩ := s.2.2.2 hI
    have hin : ns_in (nI k) (ns_ln 47) := ns_inI (show k < 61 by omega) (by decide)
    have step : ∀ v : Int32, v = nI (fb_ct (jq σ E k) (j + 1)) → ∃ τ', g_N_countCrowds_51 kh f (ns_pI τ 47 k v) 0 (nI j) x (nI k + 1) = kh τ' 0 (nI (j + 1)) ∧ Same σ τ' ∧ ∀ p, p < 61 → τ'.1 47 p = nI (fb_ct (jq σ E p) (j + 1)) := by
      intro v hv
      rw [← nI_succ]
      refine ih (k + 1) f (ns_pI τ 47 k v) (by omega) (by omega) (s.trans (Same.pI scr47)) ?_
      intro p hp
      by_cases e : p = k
      · subst e; rw [pI_at, if_pos (by omega)]; exact hv
      · rw [pI_st _ _ _ e, hc p hp]
        by_cases q : p < k
        · rw [if_pos q, if_pos (by omega)]
        · rw [if_neg q, if_neg (by omega)]
    rw [g_N_countCrowds_51, ite2_n (show ¬ (61 : Int32) ≤ nI k from nI_ge (b := 61) (by omega) (by decide)), hR, rg_0_9, ev_drf, gk_47, grd_t hin, e_isIn (by omega), ev_cl2, hx k (by omega), ns_ixI (by omega), hc k (by omega), if_neg (by omega : ¬ k < k)]
    cases hq : jq σ E k j with
    | false =>
      rw [ite2_z (by decide), grd_t hin, ev_bnd, ev_bnd]
      exact step _ (by rw [ct_f hq, show (0 : Int32) = nI 0 from rfl, nI_add]; rfl)
    | true =>
      rw [ite2_y (Eq.refl true), grd_t hin, ev_bnd, ev_bnd]
      exact step _ (by rw [ct_t hq, nI_succ])
theorem e_cc23 {B : Nat} {σ : ns_St} {E H : Nat} (hW : PW B σ E H) : ∀ (r k f : Nat) (τ : ns_St), r < f → k + r = H → Same σ τ → (∀ p, p < 61 → τ.1 47 p = nI (fb_ct (jq σ E p) k)) → ∃ τ', g_N_countCrowds_23 f τ 0 (nI k) = some ((), τ') ∧ Same σ τ' ∧ ∀ p, p < 61 → τ'.1 47 p = nI (Cw σ E H p) := by
  have hH := hW.2.2.2.1
  have h60 := hW.h60
  intro r
  induction r with
  | zero =>
    intro k f τ hf hk s hc
    obtain ⟨f, rfl⟩ : ∃ q, f = q + 1 := ⟨f - 1, by omega⟩
    obtain ⟨g1, g2, hR⟩ := (hW.same s).1
    have hk' : k = H := by omega
    subst hk'
    refine ⟨τ, ?_, s, hc⟩
    rw [g_N_countCrowds_23, hR, rg_0_0, ev_drf, gk_1, (hW.same s).2.2.2.2.2.1, ite2_p (nI_le (by omega) (by omega))]
  | succ r ih =>
    intro k f τ hf hk s hc
    obtain ⟨f, rfl⟩ : ∃ q, f = q + 1 := ⟨f - 1, by omega⟩
    obtain ⟨g1, g2, hR⟩ := (hW.same s).1
    have hin : ns_in (nI k) (ns_ln 3) := ns_inI (show k < 6 by omega) (by decide)
    have m := hW.m (j := k) (by omega)
    obtain ⟨τ1, e1, on1⟩ := e_stopsOn hW s (k := k) (by omega)
    have s1 := s.trans (on1.same scr46)
    obtain ⟨τ2, e2, s2, c2⟩ := e_cc51 hW.1 (E := E) (j := k) (x := jm (σ.1 69) (gm σ 70 k) (gm σ 72 k) (gm σ 71 k) (gm σ 73 k) E) (fun p hp => gb_jm h60 m.1.2.2.2.1 hp) (by omega) (g_N_countCrowds_23 f) 61 0 ns_F τ1 (by show 61 < 10000; omega) (by omega) s1 (fun p hp => by rw [on1.2 47 (by decide), hc p hp, if_neg (by omega)])
    obtain ⟨τ3, e3, s3, c3⟩ := ih (k + 1) f τ2 (by omega) (by omega) s2 c2
    refine ⟨τ3, ?_, s3, c3⟩
    rw [g_N_countCrowds_23, hR, rg_0_0, ev_drf, gk_1, (hW.same s).2.2.2.2.2.1, ite2_n (nI_ge (by omega) (by omega)), ev_drf, gk_1, rg_1_1, ev_drf, gk_3, grd_t hin, ns_ixI (by omega), rg_ml3 g1 g2 (show k < 6 by omega), ev_drf, grd_t (kd_m4 k (by omega)), e1, ev_cl2]
    rw [show nI 0 = (0 : Int32) from rfl] at e2
    rw [e2]
    exact e3
theorem e_cc2 {B : Nat} {σ : ns_St} {E H : Nat} (hW : PW B σ E H) : ∀ (r k f : Nat) (τ : ns_St), r < f → k + r = 61 → Same σ τ → (∀ p, p < k → τ.1 47 p = 0) → ∃ τ', g_N_countCrowds_2 f τ 0 (nI k) = some ((), τ') ∧ Same σ τ' ∧ ∀ p, p < 61 → τ'.1 47 p = nI (Cw σ E H p) := by
  have hH := hW.2.2.2.1
  intro r
  induction r with
  | zero =>
    intro k f τ hf hk s hc
    obtain ⟨f, rfl⟩ : ∃ q, f = q + 1 := ⟨f - 1, by omega⟩
    obtain ⟨τ', e, s', c'⟩ := e_cc23 hW H 0 ns_F τ (by show H < 10000; omega) (by omega) s (fun p hp => hc p (by omega))
    refine ⟨τ', ?_, s', c'⟩
    rw [g_N_countCrowds_2, ite2_p (show (61 : Int32) ≤ nI k from nI_le (a := 61) (by omega) (by omega))]
    exact e
  | succ r ih =>
    intro k f τ hf hk s hc
    obtain ⟨f, rfl⟩ : ∃ q, f = q + 1 := ⟨f - 1, by omega⟩
    obtain ⟨g1, g2, hR⟩ := (hW.same s).1
    have hin : ns_in (nI k) (ns_ln 47) := ns_inI (show k < 61 by omega) (by decide)
    rw [g_N_countCrowds_2, ite2_n (show ¬ (61 : Int32) ≤ nI k from nI_ge (b := 61) (by omega) (by decide)), hR, rg_0_9, ev_drf, gk_47, grd_t hin, ns_ixI (by omega), ev_bnd, ev_bnd, ← nI_succ]
    refine ih (k + 1) f (ns_pI τ 47 k 0) (by omega) (by omega) (s.trans (Same.pI scr47)) ?_
    intro p hp
    by_cases e : p = k
    · subst e; rw [pI_at]
    · rw [pI_st _ _ _ e]; exact hc p (by omega)
theorem e_countCrowds {B : Nat} {σ : ns_St} {E H : Nat} (hW : PW B σ E H) : ∃ τ', g_N_countCrowds σ 0 = some ((), τ') ∧ Same σ τ' ∧ ∀ p, p < 61 → τ'.1 47 p = nI (Cw σ E H p) := by
  obtain ⟨τ', e, s', c'⟩ := e_cc2 hW 61 0 ns_F σ (by show 61 < 10000; omega) (by omega) (Same.rfl σ) (fun p hp => absurd hp (by omega))
  refine ⟨τ', ?_, s', c'⟩
  unfold g_N_countCrowds
  rw [gk_0]
  exact e
theorem k_crowd {B : Nat} {σ : ns_St} (h : Inv B σ) (hB : B < 2 ^ 26) (x : Int32) : both B (g_N_crowd σ 0 x) (fun σ => g_M_crowd σ 65 x) := by
  obtain ⟨g1, g2, hR⟩ := h.1
  obtain ⟨E, H, hW⟩ := PW.of h hB
  have h60 := hW.h60
  have a4 := hW.2.2.2.2.1.1
  rcases rn_cases x (n := E) (by omega) with ⟨p, hp, rfl, hx⟩ | hx
  · obtain ⟨τ1, e1, s1, c1⟩ := e_countCrowds hW
    obtain ⟨τ2, e2, s2⟩ := e_crowdAt hW s1 hp
    obtain ⟨g3, g4, hR1⟩ := (hW.same s1).1
    have hin : ns_in (nI p) (ns_ln 47) := ns_inI (show p < 61 by omega) (by decide)
    refine ⟨nI (Cw σ E H p), τ1, τ2, ?_, ?_, h.same s2⟩
    · unfold g_N_crowd
      rw [gk_0, e_isPlace hR, ev_cl2, a4, ite2_y hx, e1, ev_cl2, hR1, rg_0_9, ev_drf, gk_47, grd_t hin, ns_ixI (by omega), c1 p (by omega)]
    · show g_M_crowd τ1 65 (nI p) = _
      unfold g_M_crowd
      rw [gk_65, e_isPlaceM, ev_cl2, (hW.same s1).2.1, ite2_y hx, e2, ev_cl2]
  · refine both.bad h hR (z := 0) (by decide) (c := -2) (by decide) (by decide) ?_ ?_
    · unfold g_N_crowd
      rw [gk_0, e_isPlace hR, ev_cl2, a4, ite2_z hx]
    · show g_M_crowd (rfN σ 0) 65 x = _
      have e3 : (rfN σ 0).1 65 3 = nI E := by rw [rfN, pI_ne _ _ _ (by decide)]; exact hW.2.1
      unfold g_M_crowd
      rw [gk_65, e_isPlaceM, ev_cl2, e3, ite2_z hx]
