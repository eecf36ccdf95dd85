/-! STOPS by PLACES -/
theorem jp_0 {th : Nat → Int32} {K A N C E : Nat} : jp th K A N C E A = false := by
  unfold jp; rw [decide_eq_false (by omega)]; rfl
theorem jp_s {th : Nat → Int32} {K A N C E k : Nat} (h : A + k < E) : jp th K A N C E (A + k + 1) = js th K A N C k := by
  unfold jp; rw [decide_eq_true (by omega), Bool.true_and, show A + k + 1 - A - 1 = k by omega]
theorem e_sa13 {σ : ns_St} {E K A N C p : Nat} (hJ : JC σ E K A N C) (hp : p ≤ E) : ∀ (r k f : Nat) (τ : ns_St), r < f → A + k + r = p → At σ τ K A N C k →
    ∃ τ', g_M_stopsAt_13 f τ 65 (nI p) (yn (jp (σ.1 69) K A N C E (A + k) = true)) = some (yn (jp (σ.1 69) K A N C E p = true), τ') ∧ Th σ τ' := by
  have h60 := hJ.2.2.1
  intro r
  induction r with
  | zero =>
    intro k f τ hf hE hA
    obtain ⟨f, rfl⟩ : ∃ q, f = q + 1 := ⟨f - 1, by omega⟩
    refine ⟨τ, ?_, hA.1⟩
    have e27 : τ.1 65 27 = nI (A + k) := hA.2.2.2.1
    rw [g_M_stopsAt_13, e27, ite2_p (nI_le (by omega) (by omega)), grd_y, show A + k = p by omega]
  | succ r ih =>
    intro k f τ hf hE hA
    obtain ⟨f, rfl⟩ : ∃ q, f = q + 1 := ⟨f - 1, by omega⟩
    obtain ⟨τ1, e1, hA1⟩ := hA.go hJ (by omega)
    obtain ⟨τ2, e2, t2⟩ := ih (k + 1) f τ1 (by omega) (by omega) hA1
    have e27 : τ.1 65 27 = nI (A + k) := hA.2.2.2.1
    refine ⟨τ2, ?_, t2⟩
    rw [g_M_stopsAt_13, e27, ite2_n (nI_ge (by omega) (by omega)), e1, ev_cl2]
    rw [show jp (σ.1 69) K A N C E (A + (k + 1)) = js (σ.1 69) K A N C k from jp_s (by omega)] at e2
    exact e2
theorem e_stopsAt {σ : ns_St} {E K A A' N C j p : Nat} (hJ : JC σ E K A' N C) (hj : j < 6) (m0 : σ.1 70 j = nI K) (m1 : σ.1 71 j = nI N) (m2 : σ.1 72 j = nI A) (m3 : σ.1 73 j = nI C) (hp : A' ≤ p) (hpE : p ≤ E) : ∃ τ, g_M_stopsAt σ 65 (nI j) (nI A') (nI p) = some (yn (jp (σ.1 69) K A' N C E p = true), τ) ∧ Th σ τ := by
  obtain ⟨g1, g2, hR⟩ := hJ.1
  have h60 := hJ.2.2.1
  obtain ⟨τ1, e1, t, a0, a1, a2, a3⟩ := e_begins hR hj m0 m1 m2 m3
  have hA2 : At σ (ns_pI τ1 65 27 (nI A')) K A' N C 0 := ⟨t.trans (Th.pI (by omega)), by rw [pI_st _ _ _ (by decide)]; exact a0, by rw [pI_st _ _ _ (by decide)]; exact a1, pI_at _ _ _ _, by rw [pI_st _ _ _ (by decide)]; exact a3⟩
  obtain ⟨τ2, e2, t2⟩ := e_sa13 hJ hpE (p - A') 0 ns_F _ (by show p - A' < 10000; omega) (by omega) hA2
  refine ⟨τ2, ?_, t2⟩
  unfold g_M_stopsAt
  rw [gk_65, e1, ev_cl2, ev_bnd]
  rw [show A' + 0 = A' from rfl, jp_0, yn_f (by decide)] at e2
  exact e2
theorem e_sAt {B : Nat} {σ τ : ns_St} {E H : Nat} (hW : PW B σ E H) (s : Same σ τ) {k : Nat} (hk : k < H) {S p : Nat} (hp : S ≤ p) (hpE : p ≤ E) : ∃ τ', g_M_stopsAt τ 65 (nI k) (nI S) (nI p) = some (yn (jp (σ.1 69) (gm σ 70 k) S (gm σ 71 k) (gm σ 73 k) E p = true), τ') ∧ Same σ τ' := by
  have hk6 : k < 6 := by have := hW.2.2.2.1; omega
  have m := (hW.m hk).same s hk6
  have hJ := m.jc (hW.same s)
  obtain ⟨τ', e, t⟩ := e_stopsAt (A' := S) ⟨hJ.1, hJ.2.1, hJ.2.2.1, by omega, hJ.2.2.2.2⟩ hk6 m.2.2.1 m.2.2.2.1 m.2.2.2.2.1 m.2.2.2.2.2.1 hp hpE
  rw [s.mi (a := 69) (by omega)] at e
  exact ⟨τ', e, s.trans t.same⟩
theorem e_sBy {B : Nat} {σ τ : ns_St} {E H : Nat} (hW : PW B σ E H) (s : Same σ τ) {k : Nat} (hk : k < H) {S : Nat} (hS : S ≤ E) : ∃ τ', g_N_stopsBy τ 0 (4 + k) (nI S) (nI (gm σ 71 k)) (nI (gm σ 73 k)) = some (jm (σ.1 69) (gm σ 70 k) S (gm σ 71 k) (gm σ 73 k) E, τ') ∧ Same σ τ' := by
  have hk6 : k < 6 := by have := hW.2.2.2.1; omega
  have m := (hW.m hk).same s hk6
  have hJ := m.jc (hW.same s)
  obtain ⟨τ', e, s'⟩ := e_stopsBy2 (hW.same s) m hk6 (A' := S) (N' := gm σ 71 k) (C' := gm σ 73 k) hS hJ.2.2.2.2.2.1 hJ.2.2.2.2.2.2
  rw [s.mi (a := 69) (by omega)] at e
  exact ⟨τ', e, s.trans s'⟩
theorem e_maxN {σ : ns_St} {a b : Nat} (ha : a < 2 ^ 31) (hb : b < 2 ^ 31) : g_Math_max σ (nI a) (nI b) = some (nI (max a b), σ) := by
  rw [e_max]
  by_cases h : a < b
  · rw [if_pos (nI_lt h hb), Nat.max_eq_right (by omega)]
  · rw [if_neg (nI_nlt (by omega) ha), Nat.max_eq_left (by omega)]
/-! ROPED -/
theorem e_roped66 {B : Nat} {σ : ns_St} {E H i j S : Nat} (w : Int32) (hW : PW B σ E H) (hi : i < H) (hj : j < H) (F G P Q : Nat → Bool) (hF : ∀ n, F n = js (σ.1 69) (gm σ 70 i) S (gm σ 71 i) (gm σ 73 i) n) (hG : ∀ n, G n = js (σ.1 69) (gm σ 70 j) S (gm σ 71 j) (gm σ 73 j) n) (hP : ∀ n, P n = (F n || G n)) (hQ : ∀ n, Q n = (F n && G n)) : ∀ (r k f : Nat) (τ : ns_St), r < f → S + k + r = E → Same σ τ →
    ∃ τ', g_M_roped_66 f τ 65 (nI i) (nI j) w (nI S) (nI (fb_ct P k)) (fst Q (fun n => nI (S + n + 1)) k) (nI (S + k + 1)) = some (if w = 0 then nI (fb_ct P (E - S)) else fst Q (fun n => nI (S + n + 1)) (E - S), τ') ∧ Same σ τ' := by
  have h60 := hW.h60
  intro r
  induction r with
  | zero =>
    intro k f τ hf hE s
    obtain ⟨f, rfl⟩ : ∃ q, f = q + 1 := ⟨f - 1, by omega⟩
    refine ⟨τ, ?_, s⟩
    rw [g_M_roped_66, (hW.same s).2.1, ite2_p (nI_lt (by omega) (by omega)), show E - S = k by omega]
    by_cases w0 : w = 0
    · rw [ite2_p w0, if_pos w0]
    · rw [ite2_n w0, if_neg w0]
  | succ r ih =>
    intro k f τ hf hE s
    obtain ⟨f, rfl⟩ : ∃ q, f = q + 1 := ⟨f - 1, by omega⟩
    obtain ⟨τ0, e0, s0⟩ := e_sAt hW s hi (S := S) (p := S + k + 1) (by omega) (by omega)
    obtain ⟨τ1, e1, s1⟩ := e_sAt hW s0 hj (S := S) (p := S + k + 1) (by omega) (by omega)
    rw [jp_s (by omega), ← hF] at e0
    rw [jp_s (by omega), ← hG] at e1
    obtain ⟨τ2, e2, s2⟩ := ih (k + 1) f τ1 (by omega) (by omega) s1
    refine ⟨τ2, ?_, s2⟩
    rw [g_M_roped_66, (hW.same s).2.1, ite2_n (nI_nlt (by omega) (by omega)), e0, ev_cl2, e1, ev_cl2]
    have pk := hP k
    have qk := hQ k
    cases hFk : F k with
    | false =>
      rw [hFk] at pk qk
      cases hGk : G k with
      | false =>
        rw [hGk] at pk qk
        rw [ct_f pk, fst_f qk] at e2
        rw [ite2_z (by decide), ite2_z (by decide)]
        unfold g_M_roped_110
        rw [ite2_z (by decide), ev_bnd, ← nI_succ]
        exact e2
      | true =>
        rw [hGk] at pk qk
        rw [ct_t pk, fst_f qk] at e2
        rw [ite2_z (by decide), ite2_y (Eq.refl true)]
        unfold g_M_roped_107
        rw [ev_bnd, ← nI_succ]
        unfold g_M_roped_110
        rw [ite2_z (by decide), ev_bnd, ← nI_succ]
        exact e2
    | true =>
      rw [hFk] at pk qk
      rw [ite2_y (Eq.refl true)]
      unfold g_M_roped_107
      rw [ev_bnd, ← nI_succ]
      unfold g_M_roped_110
      rw [ite2_y (Eq.refl true)]
      cases hGk : G k with
      | false =>
        rw [hGk] at pk qk
        rw [ct_t pk, fst_f qk] at e2
        rw [ite2_z (by decide), ev_bnd, ← nI_succ]
        exact e2
      | true =>
        rw [hGk] at pk qk
        rw [ct_t pk, fst, qk] at e2
        rw [ite2_y (Eq.refl true)]
        by_cases hf1 : fst Q (fun n => nI (S + n + 1)) k = -1
        · rw [if_pos hf1, if_pos (show (true && true) = true from rfl)] at e2
          rw [ite2_p hf1, ev_bnd, ← nI_succ]
          exact e2
        · rw [if_neg hf1] at e2
          rw [ite2_n hf1, ev_bnd, ← nI_succ]
          exact e2
def jo (th : Nat → Int32) (K S N C K2 N2 C2 n : Nat) : Bool := js th K S N C n || js th K2 S N2 C2 n
def ja (th : Nat → Int32) (K S N C K2 N2 C2 n : Nat) : Bool := js th K S N C n && js th K2 S N2 C2 n
theorem gb_or2 {th : Nat → Int32} {K S N C K2 N2 C2 E : Nat} (hE : E ≤ 60) (hS : S ≤ E) : ∀ p, p < 64 → gb (jm th K S N C E ||| jm th K2 S N2 C2 E) p = (decide (S < p ∧ p ≤ E) && jo th K S N C K2 N2 C2 (p - S - 1)) := by
  intro p hp
  rw [gb_or, gb_jm hE hS hp, gb_jm hE hS hp, jp, jp]
  by_cases h : S < p ∧ p ≤ E
  · rw [decide_eq_true h]; rfl
  · rw [decide_eq_false h]; rfl
theorem gb_and2 {th : Nat → Int32} {K S N C K2 N2 C2 E : Nat} (hE : E ≤ 60) (hS : S ≤ E) : ∀ p, p < 64 → gb (jm th K S N C E &&& jm th K2 S N2 C2 E) p = (decide (S < p ∧ p ≤ E) && ja th K S N C K2 N2 C2 (p - S - 1)) := by
  intro p hp
  rw [gb_and, gb_jm hE hS hp, gb_jm hE hS hp, jp, jp]
  by_cases h : S < p ∧ p ≤ E
  · rw [decide_eq_true h]; rfl
  · rw [decide_eq_false h]; rfl
theorem k_roped {B : Nat} {σ : ns_St} (h : Inv B σ) (hB : B < 2 ^ 26) (x y z : Int32) : both B (g_N_roped σ 0 x y z) (fun σ => g_M_roped σ 65 x y z) := by
  obtain ⟨g1, g2, hR⟩ := h.1
  obtain ⟨E, H, hW⟩ := PW.of h hB
  have a2 := hW.2.2.1
  have a3 := hW.2.2.2.1
  have a5 := hW.2.2.2.2.2.1
  have h60 := hW.h60
  have e5 : (rfN σ 0).1 65 5 = nI H := by rw [rfN, pI_ne _ _ _ (by decide)]; exact a2
  rcases mu_cases x a3 with ⟨i, hi, rfl, hx⟩ | ⟨hx, hx2⟩
  · have hi6 : i < 6 := by omega
    rcases mu_cases y a3 with ⟨j, hj, rfl, hy⟩ | ⟨hy, hy2⟩
    · have hj6 : j < 6 := by omega
      by_cases hij : nI i = nI j
      · refine both.bad h hR (z := 0) (by decide) (c := -2) (by decide) (by decide) ?_ ?_
        · unfold g_N_roped
          simp only [gk_0, hR, rg_0_0, ev_drf, gk_1, e_muleAt hR a3 a5 hi, e_muleAt hR a3 a5 hj, ev_cl2, ev_ons, grd_t (kd_m4 i hi6), grd_t (kd_m4 j hj6), ite2_p hij]
        · show g_M_roped (rfN σ 0) 65 (nI i) (nI j) z = _
          unfold g_M_roped
          rw [gk_65, e_isMule, ev_cl2, e5, ite2_y hx, e_isMule, ev_cl2, e5, ite2_y hy, ite2_p hij]
      · by_cases hz : 0 ≤ z ∧ z ≤ 1
        · have mi := hW.m hi
          have mj := hW.m hj
          have s := Same.rfl σ
          have hSE : max (gm σ 72 i) (gm σ 72 j) ≤ E := by
            have := mi.1.2.2.2.1
            have := mj.1.2.2.2.1
            omega
          have ai : gm σ 72 i ≤ 60 := by omega
          have aj : gm σ 72 j ≤ 60 := by omega
          obtain ⟨τ1, e1, s1⟩ := e_sBy hW s hi hSE
          obtain ⟨τ2, e2, s2⟩ := e_sBy hW s1 hj hSE
          obtain ⟨τ3, e3, s3⟩ := e_roped66 (S := max (gm σ 72 i) (gm σ 72 j)) z hW hi hj _ _ (jo (σ.1 69) (gm σ 70 i) (max (gm σ 72 i) (gm σ 72 j)) (gm σ 71 i) (gm σ 73 i) (gm σ 70 j) (gm σ 71 j) (gm σ 73 j)) (ja (σ.1 69) (gm σ 70 i) (max (gm σ 72 i) (gm σ 72 j)) (gm σ 71 i) (gm σ 73 i) (gm σ 70 j) (gm σ 71 j) (gm σ 73 j)) (fun _ => rfl) (fun _ => rfl) (fun _ => rfl) (fun _ => rfl) (E - max (gm σ 72 i) (gm σ 72 j)) 0 ns_F τ2 (by show E - _ < 10000; omega) (by omega) s2
          obtain ⟨u0, u1, u2, u3, u4, u5, u6, u7⟩ := mi.2.1
          obtain ⟨v0, v1, v2, v3, v4, v5, v6, v7⟩ := mj.2.1
          have w1 : τ1.1 (4 + j) 1 = nI (gm σ 71 j) := by rw [s1.lo (by omega)]; exact v1
          have w3 : τ1.1 (4 + j) 3 = nI (gm σ 73 j) := by rw [s1.lo (by omega)]; exact v3
          refine ⟨_, τ2, τ3, ?_, Eq.trans ?_ e3, h.same s3⟩
          · unfold g_N_roped
            simp only [gk_0, hR, rg_0_0, ev_drf, gk_1, e_muleAt hR a3 a5 hi, e_muleAt hR a3 a5 hj, ev_cl2, ev_ons, grd_t (kd_m4 i hi6), grd_t (kd_m4 j hj6), ite2_n hij, e_isWithin, ite2_y hz, u1, u2, u3, v2]
            rw [e_maxN (by omega) (by omega), ev_cl2, u1, u3, e1, ev_cl2, w1, w3, e2, ev_cl2]
            by_cases z0 : z = 0
            · rw [ite2_p z0, e_bitCount, ev_cl2, if_pos z0, ct_win (f := jo (σ.1 69) (gm σ 70 i) (max (gm σ 72 i) (gm σ 72 j)) (gm σ 71 i) (gm σ 73 i) (gm σ 70 j) (gm σ 71 j) (gm σ 73 j)) hSE h60 (gb_or2 h60 hSE)]
            · rw [ite2_n z0, e_fst (A := max (gm σ 72 i) (gm σ 72 j)) (f := ja (σ.1 69) (gm σ 70 i) (max (gm σ 72 i) (gm σ 72 j)) (gm σ 71 i) (gm σ 73 i) (gm σ 70 j) (gm σ 71 j) (gm σ 73 j)) h60 (gb_and2 h60 hSE), ev_cl2, if_neg z0]
          · show g_M_roped τ2 65 (nI i) (nI j) z = _
            obtain ⟨g3, g4, hR2⟩ := (hW.same s2).1
            have i8 : ns_in (nI i) (ns_ln 72) := ns_inI (show i < 6 by omega) (by decide)
            have j8 : ns_in (nI j) (ns_ln 72) := ns_inI (show j < 6 by omega) (by decide)
            have p1 : τ2.1 72 i = nI (gm σ 72 i) := by rw [s2.mi (by omega)]; exact mi.2.2.2.2.1
            have p2 : τ2.1 72 j = nI (gm σ 72 j) := by rw [s2.mi (by omega)]; exact mj.2.2.2.2.1
            unfold g_M_roped
            rw [gk_65, e_isMule, ev_cl2, (hW.same s2).2.2.1, ite2_y hx, e_isMule, ev_cl2, (hW.same s2).2.2.1, ite2_y hy, ite2_n hij, e_within, ev_cl2, ite2_y hz, hR2, rg_65_8, ev_drf, gk_72, grd_t i8, ev_drf, gk_72, grd_t j8, ns_ixI (by omega), ns_ixI (by omega), p1, p2, e_maxN (by omega) (by omega), ev_cl2, ev_bnd, ← nI_succ]
            rfl
        · refine both.bad h hR (z := 0) (by decide) (c := -2) (by decide) (by decide) ?_ ?_
          · unfold g_N_roped
            simp only [gk_0, hR, rg_0_0, ev_drf, gk_1, e_muleAt hR a3 a5 hi, e_muleAt hR a3 a5 hj, ev_cl2, ev_ons, grd_t (kd_m4 i hi6), grd_t (kd_m4 j hj6), ite2_n hij, e_isWithin, ite2_z hz]
          · show g_M_roped (rfN σ 0) 65 (nI i) (nI j) z = _
            unfold g_M_roped
            rw [gk_65, e_isMule, ev_cl2, e5, ite2_y hx, e_isMule, ev_cl2, e5, ite2_y hy, ite2_n hij, e_within, ev_cl2, ite2_z hz]
    · refine both.bad h hR (z := 0) (by decide) (c := -2) (by decide) (by decide) ?_ ?_
      · unfold g_N_roped
        simp only [gk_0, hR, rg_0_0, ev_drf, gk_1, e_muleAt hR a3 a5 hi, e_muleAtN a5 hy2, ev_cl2, ev_ons, ev_onn, grd_t (kd_m4 i hi6)]
      · show g_M_roped (rfN σ 0) 65 (nI i) y z = _
        unfold g_M_roped
        rw [gk_65, e_isMule, ev_cl2, e5, ite2_y hx, e_isMule, ev_cl2, e5, ite2_z hy]
  · refine both.bad h hR (z := 0) (by decide) (c := -2) (by decide) (by decide) ?_ ?_
    · unfold g_N_roped
      simp only [gk_0, hR, rg_0_0, ev_drf, gk_1, e_muleAtN a5 hx2, ev_cl2, ev_onn]
      rcases mu_cases y a3 with ⟨j, hj, rfl, hy⟩ | ⟨hy, hy2⟩
      · rw [e_muleAt hR a3 a5 hj, ev_cl2, ev_ons, grd_t (kd_m4 j (by omega))]
      · rw [e_muleAtN a5 hy2, ev_cl2, ev_onn]
    · show g_M_roped (rfN σ 0) 65 x y z = _
      unfold g_M_roped
      rw [gk_65, e_isMule, ev_cl2, e5, ite2_z hx]
