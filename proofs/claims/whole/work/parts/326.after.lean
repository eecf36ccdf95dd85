/-! where it is after t minutes: how many STEPS -/
def af (R : Nat) (f : Nat → Bool) (t : Nat) : Nat → Nat → Nat
  | 0, k => k
  | r + 1, k => if k + 1 + R * fb_ct f k ≤ t then af R f t r (k + 1) else k
theorem af_spec (R : Nat) (f : Nat → Bool) (t : Nat) : ∀ r k, k ≤ af R f t r k ∧ af R f t r k ≤ k + r ∧ (af R f t r k = k + r ∨ t < af R f t r k + 1 + R * fb_ct f (af R f t r k)) ∧ (af R f t r k = k ∨ af R f t r k + R * fb_ct f (af R f t r k - 1) ≤ t)
  | 0, k => ⟨Nat.le_refl _, Nat.le_refl _, Or.inl rfl, Or.inl rfl⟩
  | r + 1, k => by
    rw [af]
    by_cases h : k + 1 + R * fb_ct f k ≤ t
    · rw [if_pos h]
      obtain ⟨a, b, c, d⟩ := af_spec R f t r (k + 1)
      refine ⟨by omega, by omega, ?_, ?_⟩
      · rcases c with c | c
        · left; omega
        · right; exact c
      · rcases d with d | d
        · right; rw [d]; exact h
        · right; exact d
    · rw [if_neg h]
      exact ⟨by omega, by omega, Or.inr (by omega), Or.inl rfl⟩
theorem e_arrival {τ : ns_St} {c : Nat} (hc : ns_kd c = 2) {th : Nat → Int32} {K A N C E R p : Nat} (h60 : E ≤ 60) (hAp : A ≤ p) (hp : p ≤ E) (h2 : τ.1 c 2 = nI A) (h6 : τ.1 c 6 = nI R) : g_Mule_arrival τ c (nI p) (jm th K A N C E) = some (nI (p - A + R * sct th K A N C (p - A - 1)), τ) := by
  have hct : fb_ct (gb (jm th K A N C E &&& ((1 : Int64) <<< ((nI p).toInt64 &&& 63) - 1))) 64 = sct th K A N C (p - A - 1) := by
    by_cases e : p = A
    · subst e
      rw [show p - p - 1 = 0 by omega]
      refine fb_ct_zero.mpr (fun q hq => ?_)
      rw [gb_and, gb_jm h60 hp hq, gb_below (by omega), jp]
      by_cases g : p < q
      · rw [decide_eq_false (show ¬ q < p by omega)]; simp
      · rw [decide_eq_false (show ¬ (p < q ∧ q ≤ E) by omega)]; rfl
    · rw [show p - A - 1 = p - 1 - A by omega]
      refine ct_win (by omega) (by omega) (fun q hq => ?_)
      rw [gb_and, gb_jm h60 (by omega) hq, gb_below (by omega), jp]
      by_cases g : A < q ∧ q ≤ p - 1
      · rw [decide_eq_true g, decide_eq_true (show A < q ∧ q ≤ E by omega), decide_eq_true (show q < p by omega), Bool.and_true]
      · rw [decide_eq_false g]
        by_cases g2 : q < p
        · rw [decide_eq_false (show ¬ (A < q ∧ q ≤ E) by omega)]; rfl
        · rw [decide_eq_false g2]; simp
  unfold g_Mule_arrival
  rw [grd_t hc, e_bit, ev_cl2, e_bitCount, ev_cl2, hct, h2, h6, pk_sub hAp, pk_mul, nI_add]
theorem ar_lt {R n k : Nat} (hR : R ≤ 10) (hn : n ≤ 60) (hk : k ≤ 60) : k + R * n < 1000 := by
  have := Nat.mul_le_mul hR hn
  omega
theorem e_aft52 {τ : ns_St} {g1 g2 : Option Nat} (hR : τ.2.2 = ns_rg g1 g2) {c : Nat} {th : Nat → Int32} {K A N C E R t : Nat} (hc : ns_kd c = 2) (h60 : E ≤ 60) (hE : τ.1 2 0 = nI E) (hR10 : R ≤ 10) (ht : t ≤ 400) (h2 : τ.1 c 2 = nI A) (h6 : τ.1 c 6 = nI R) : ∀ (r k f : Nat), r < f → A + k + r = E → g_N_after_52 f τ 0 (nI t) c (jm th K A N C E) (nI (A + k)) (nI (A + k + 1)) = some (nI (A + af R (js th K A N C) t r k), τ) := by
  intro r
  induction r with
  | zero =>
    intro k f hf hk
    obtain ⟨f, rfl⟩ : ∃ q, f = q + 1 := ⟨f - 1, by omega⟩
    rw [g_N_after_52, hR, rg_0_0, ev_drf, gk_1, rg_1_0, ev_drf, gk_2, hE, ite2_p (nI_lt (by omega) (by omega))]
    rfl
  | succ r ih =>
    intro k f hf hk
    obtain ⟨f, rfl⟩ : ∃ q, f = q + 1 := ⟨f - 1, by omega⟩
    have sl := sct_le th K A N C k
    have b := ar_lt (R := R) (n := sct th K A N C k) (k := k + 1) hR10 (by omega) (by omega)
    rw [g_N_after_52, hR, rg_0_0, ev_drf, gk_1, rg_1_0, ev_drf, gk_2, hE, ite2_n (nI_nlt (by omega) (by omega)), e_arrival hc h60 (by omega) (by omega) h2 h6, ev_cl2, show A + k + 1 - A = k + 1 by omega, show k + 1 - 1 = k by omega, af]
    by_cases q : k + 1 + R * fb_ct (js th K A N C) k ≤ t
    · have q' : k + 1 + R * sct th K A N C k ≤ t := q
      rw [if_pos q, ite2_p (nI_le q' (by omega)), ev_bnd, ← nI_succ]
      exact ih (k + 1) f (by omega) (by omega)
    · rw [if_neg q, ite2_n (nI_ge (by show t < k + 1 + R * fb_ct (js th K A N C) k; omega) (by omega))]
theorem e_afA7 {σ : ns_St} {E K A N C O j t : Nat} (hJ : JC σ E K A N C) (hj : j < 6) (m0 : σ.1 70 j = nI K) (m5 : σ.1 75 j = nI O) (hO : O ≤ 9) (ht : t ≤ 400) : ∀ (r k f : Nat) (τ : ns_St), r < f → A + k + r = E → At σ τ K A N C k →
    ∃ τ', g_M_afterAll_7 f τ 65 (nI j) (nI t) (nI (k + rt K O * sct (σ.1 69) K A N C k)) = some (nI (A + af (rt K O) (js (σ.1 69) K A N C) t r k), τ') ∧ Th σ τ' := by
  intro r
  induction r with
  | zero =>
    intro k f τ hf hE hA
    obtain ⟨f, rfl⟩ : ∃ q, f = q + 1 := ⟨f - 1, by omega⟩
    have := hJ.2.2.1
    refine ⟨τ, ?_, hA.1⟩
    rw [g_M_afterAll_7, ite2_p (hA.fin hJ (by omega) (by omega)), hA.2.2.2.1]
    rfl
  | succ r ih =>
    intro k f τ hf hE hA
    obtain ⟨f, rfl⟩ : ∃ q, f = q + 1 := ⟨f - 1, by omega⟩
    obtain ⟨g1, g2, hR⟩ := hJ.1
    have h60 := hJ.2.2.1
    have sl := sct_le (σ.1 69) K A N C k
    have b := ar_lt (R := rt K O) (n := sct (σ.1 69) K A N C k) (k := k) (rt_le hO) (by omega) (by omega)
    rw [g_M_afterAll_7, ite2_n (hA.on hJ (by omega)), af]
    by_cases q : k + 1 + rt K O * fb_ct (js (σ.1 69) K A N C) k ≤ t
    · obtain ⟨τ1, e1, hA1⟩ := hA.go hJ (by omega)
      have er := e_rest (σ := τ1) (hA1.1.R hR) hj hJ.2.2.2.2.1 (by rw [hA1.1.2.1 70 (by decide)]; exact m0) (by rw [hA1.1.2.1 75 (by decide)]; exact m5)
      obtain ⟨τ2, e2, t2⟩ := ih (k + 1) f τ1 (by omega) (by omega) hA1
      rw [if_pos q, ite2_n (nI_ge (by show k + rt K O * fb_ct (js (σ.1 69) K A N C) k < t; omega) (by omega)), e1, ev_cl2]
      cases hs : js (σ.1 69) K A N C k with
      | false =>
        rw [ite2_z (by decide), ev_bnd]
        rw [sct_s, hs] at e2
        refine ⟨τ2, ?_, t2⟩
        rw [← e2, ← nI_succ]
        congr 2
        show _ = k + 1 + rt K O * (sct (σ.1 69) K A N C k + 0)
        rw [Nat.add_zero (sct (σ.1 69) K A N C k)]; omega
      | true =>
        rw [ite2_y (Eq.refl true), er, ev_cl2, ev_bnd]
        rw [sct_s, hs] at e2
        refine ⟨τ2, ?_, t2⟩
        rw [← e2, show (1 : Int32) = nI 1 from rfl, nI_add, nI_add]
        congr 2
        show _ = k + 1 + rt K O * (sct (σ.1 69) K A N C k + 1)
        rw [Nat.mul_add]; omega
    · refine ⟨τ, ?_, hA.1⟩
      rw [if_neg q, ite2_p (nI_le (by show t ≤ k + rt K O * fb_ct (js (σ.1 69) K A N C) k; omega) (by omega)), hA.2.2.2.1]
theorem e_afterAll {σ : ns_St} {E K A N C O j t : Nat} (hJ : JC σ E K A N C) (hj : j < 6) (m0 : σ.1 70 j = nI K) (m1 : σ.1 71 j = nI N) (m2 : σ.1 72 j = nI A) (m3 : σ.1 73 j = nI C) (m5 : σ.1 75 j = nI O) (hO : O ≤ 9) (ht : t ≤ 400) : ∃ τ', g_M_afterAll σ 65 (nI j) (nI t) = some (nI (A + af (rt K O) (js (σ.1 69) K A N C) t (E - A) 0), τ') ∧ Th σ τ' := by
  obtain ⟨g1, g2, hR⟩ := hJ.1
  obtain ⟨τ1, e1, hA1⟩ := e_begins hR hj m0 m1 m2 m3
  have h60 := hJ.2.2.1
  have hA := hJ.2.2.2.1
  obtain ⟨τ2, e2, t2⟩ := e_afA7 hJ hj m0 m5 hO ht (E - A) 0 ns_F τ1 (by show E - A < 10000; omega) (by omega) hA1
  refine ⟨τ2, ?_, t2⟩
  unfold g_M_afterAll
  rw [gk_65, e1, ev_cl2]
  exact e2
/-- the PLACE of a MULE after t minutes -/
def pt (σ : ns_St) (E j t : Nat) : Nat := gm σ 72 j + af (rt (gm σ 70 j) (gm σ 75 j)) (js (σ.1 69) (gm σ 70 j) (gm σ 72 j) (gm σ 71 j) (gm σ 73 j)) t (E - gm σ 72 j) 0
theorem e_afM {B : Nat} {σ τ : ns_St} {E H : Nat} (hW : PW B σ E H) (s : Same σ τ) {k t : Nat} (hk : k < H) (ht : t ≤ 400) : ∃ τ', g_M_afterAll τ 65 (nI k) (nI t) = some (nI (pt σ E k t), τ') ∧ Same σ τ' := by
  have hk6 : k < 6 := by have := hW.2.2.2.1; omega
  have m := (hW.m hk).same s hk6
  obtain ⟨τ', e, t⟩ := e_afterAll (t := t) (m.jc (hW.same s)) hk6 m.2.2.1 m.2.2.2.1 m.2.2.2.2.1 m.2.2.2.2.2.1 m.2.2.2.2.2.2 m.1.2.2.2.2.2.1 ht
  rw [s.mi (a := 69) (by omega)] at e
  exact ⟨τ', e, s.trans t.same⟩
theorem k_after {B : Nat} {σ : ns_St} (h : Inv B σ) (hB : B < 2 ^ 26) (x y : Int32) : both B (g_N_after σ 0 x y) (fun σ => g_M_after σ 65 x y) := by
  obtain ⟨g1, g2, hR⟩ := h.1
  obtain ⟨E, H, hW⟩ := PW.of h hB
  have a2 := hW.2.2.1
  have a3 := hW.2.2.2.1
  have a5 := hW.2.2.2.2.2.1
  have h60 := hW.h60
  have e5 : (rfN σ 0).1 65 5 = nI H := by rw [rfN, pI_ne _ _ _ (by decide)]; exact a2
  rcases mu_cases x a3 with ⟨j, hj, rfl, hx⟩ | ⟨hx, hx2⟩
  · have hj6 : j < 6 := by omega
    have hk := kd_m4 j hj6
    rcases rn_cases y (n := 400) (by omega) with ⟨t, ht, rfl, hy⟩ | hy
    · have hy' : (0 : Int32) ≤ nI t ∧ nI t ≤ (400 : Int32) := hy
      have m := hW.m hj
      obtain ⟨τ1, e1, on1⟩ := e_stopsOn hW (Same.rfl σ) hj
      have s1 := on1.same scr46
      have m1 := m.same s1 hj6
      obtain ⟨u0, u1, u2, u3, u4, u5, u6, u7⟩ := m1.2.1
      obtain ⟨g3, g4, hR1⟩ := (hW.same s1).1
      obtain ⟨τ2, e2, s2⟩ := e_afM hW s1 hj ht
      have hAE := m.1.2.2.2.1
      have el := e_aft52 hR1 (c := 4 + j) (th := σ.1 69) (K := gm σ 70 j) (A := gm σ 72 j) (N := gm σ 71 j) (C := gm σ 73 j) (E := E) (R := rt (gm σ 70 j) (gm σ 75 j)) (t := t) hk h60 (hW.same s1).2.2.2.2.1.1 (rt_le m.1.2.2.2.2.2.1) ht u2 u6 (E - gm σ 72 j) 0 ns_F (by show E - _ < 10000; omega) (by omega)
      refine ⟨nI (pt σ E j t), τ1, τ2, ?_, ?_, h.same s2⟩
      · unfold g_N_after
        rw [gk_0, hR, rg_0_0, ev_drf, gk_1, e_muleAt hR a3 a5 hj, ev_cl2, ev_ons, grd_t hk, e_isWithin, ev_cl2, ite2_y hy', e1, ev_cl2, ev_bnd, ev_bnd, u2, ← nI_succ]
        exact el
      · show g_M_after τ1 65 (nI j) (nI t) = _
        unfold g_M_after
        rw [gk_65, e_isMule, ev_cl2, (hW.same s1).2.2.1, ite2_y hx, e_within, ev_cl2, ite2_y hy', e2, ev_cl2]
    · have hy' : ¬ ((0 : Int32) ≤ y ∧ y ≤ (400 : Int32)) := hy
      refine both.bad h hR (z := 0) (by decide) (c := -2) (by decide) (by decide) ?_ ?_
      · unfold g_N_after
        rw [gk_0, hR, rg_0_0, ev_drf, gk_1, e_muleAt hR a3 a5 hj, ev_cl2, ev_ons, grd_t hk, e_isWithin, ev_cl2, ite2_z hy']
      · show g_M_after (rfN σ 0) 65 (nI j) y = _
        unfold g_M_after
        rw [gk_65, e_isMule, ev_cl2, e5, ite2_y hx, e_within, ev_cl2, ite2_z hy']
  · refine both.bad h hR (z := 0) (by decide) (c := -2) (by decide) (by decide) ?_ ?_
    · unfold g_N_after
      rw [gk_0, hR, rg_0_0, ev_drf, gk_1, e_muleAtN a5 hx2, ev_cl2, ev_onn]
    · show g_M_after (rfN σ 0) 65 x y = _
      unfold g_M_after
      rw [gk_65, e_isMule, ev_cl2, e5, ite2_z hx]
/-! two at the same PLACE -/
def ap (σ : ns_St) (j p : Nat) : Nat := p - gm σ 72 j + rt (gm σ 70 j) (gm σ 75 j) * fb_ct (js (σ.1 69) (gm σ 70 j) (gm σ 72 j) (gm σ 71 j) (gm σ 73 j)) (p - gm σ 72 j - 1)
theorem ap_up {σ : ns_St} {j : Nat} : ∀ p, gm σ 72 j ≤ p → ap σ j p < ap σ j (p + 1) := by
  intro p hp
  have m := Nat.mul_le_mul_left (rt (gm σ 70 j) (gm σ 75 j)) (fb_ct_mono (js (σ.1 69) (gm σ 70 j) (gm σ 72 j) (gm σ 71 j) (gm σ 73 j)) (show p - gm σ 72 j - 1 ≤ p + 1 - gm σ 72 j - 1 by omega))
  unfold ap
  omega
theorem pt_at {σ : ns_St} {E j : Nat} (hA : gm σ 72 j ≤ E) (t : Nat) : gm σ 72 j ≤ pt σ E j t ∧ pt σ E j t ≤ E ∧ ap σ j (pt σ E j t) ≤ t ∧ (pt σ E j t = E ∨ t < ap σ j (pt σ E j t + 1)) := by
  obtain ⟨a, b, c, d⟩ := af_spec (rt (gm σ 70 j) (gm σ 75 j)) (js (σ.1 69) (gm σ 70 j) (gm σ 72 j) (gm σ 71 j) (gm σ 73 j)) t (E - gm σ 72 j) 0
  unfold pt ap
  generalize af (rt (gm σ 70 j) (gm σ 75 j)) (js (σ.1 69) (gm σ 70 j) (gm σ 72 j) (gm σ 71 j) (gm σ 73 j)) t (E - gm σ 72 j) 0 = q at *
  refine ⟨by omega, by omega, ?_, ?_⟩
  · rw [show gm σ 72 j + q - gm σ 72 j = q by omega]
    rcases d with d | d
    · rw [d]; show 0 + _ * 0 ≤ t; omega
    · exact d
  · rw [show gm σ 72 j + q + 1 - gm σ 72 j = q + 1 by omega, show q + 1 - 1 = q by omega]
    rcases c with c | c
    · left; omega
    · right; exact c
theorem inc_le {a : Nat → Nat} {A : Nat} (m : ∀ p, A ≤ p → a p < a (p + 1)) : ∀ d p, A ≤ p → a p + d ≤ a (p + d)
  | 0, p, _ => Nat.le_refl _
  | d + 1, p, h => by
    have := inc_le m d p h
    have := m (p + d) (by omega)
    show a p + (d + 1) ≤ a (p + d + 1)
    omega
theorem inc_lt {a : Nat → Nat} {A : Nat} (m : ∀ p, A ≤ p → a p < a (p + 1)) {p q : Nat} (h : A ≤ p) (hpq : p < q) : a p < a q := by
  have := inc_le m (q - p) p h
  rw [show p + (q - p) = q by omega] at this
  omega
theorem pos_one {a : Nat → Nat} {A E p q t : Nat} (m : ∀ p, A ≤ p → a p < a (p + 1)) (h1 : A ≤ p) (h2 : p ≤ E) (h3 : a p ≤ t) (h4 : p = E ∨ t < a (p + 1)) (k1 : A ≤ q) (k2 : q ≤ E) (k3 : a q ≤ t) (k4 : q = E ∨ t < a (q + 1)) : p = q := by
  have key : ∀ p q : Nat, A ≤ p → p ≤ E → (p = E ∨ t < a (p + 1)) → q ≤ E → a q ≤ t → ¬ p < q := by
    intro p q h1 h2 h4 k2 k3 hlt
    rcases h4 with h4 | h4
    · omega
    · by_cases e : p + 1 = q
      · subst e; omega
      · have := inc_lt m (p := p + 1) (q := q) (by omega) (by omega)
        omega
  have := key p q h1 h2 h4 k2 k3
  have := key q p k1 k2 k4 h2 h3
  omega
def ft (a b : Nat → Nat) : Nat → Nat → Nat
  | 0, p => max (a p) (b p)
  | r + 1, p => if max (a p) (b p) < min (a (p + 1)) (b (p + 1)) then max (a p) (b p) else ft a b r (p + 1)
theorem ft_spec (a b : Nat → Nat) : ∀ r p, ∃ q, p ≤ q ∧ q ≤ p + r ∧ ft a b r p = max (a q) (b q) ∧ (q = p + r ∨ max (a q) (b q) < min (a (q + 1)) (b (q + 1))) ∧ ∀ q', p ≤ q' → q' < q → ¬ max (a q') (b q') < min (a (q' + 1)) (b (q' + 1))
  | 0, p => ⟨p, Nat.le_refl _, Nat.le_refl _, rfl, Or.inl rfl, fun q' h1 h2 => absurd h2 (by omega)⟩
  | r + 1, p => by
    rw [ft]
    by_cases h : max (a p) (b p) < min (a (p + 1)) (b (p + 1))
    · rw [if_pos h]
      exact ⟨p, Nat.le_refl _, by omega, rfl, Or.inr h, fun q' h1 h2 => absurd h2 (by omega)⟩
    · rw [if_neg h]
      obtain ⟨q, q1, q2, q3, q4, q5⟩ := ft_spec a b r (p + 1)
      refine ⟨q, by omega, by omega, q3, ?_, ?_⟩
      · rcases q4 with q4 | q4
        · left; omega
        · right; exact q4
      · intro q' h1 h2
        by_cases e : q' = p
        · subst e; exact h
        · exact q5 q' (by omega) h2
theorem meet_pure {S E A1 A2 q : Nat} {a1 a2 p1 p2 : Nat → Nat} (hS : S = max A1 A2) (m1 : ∀ p, A1 ≤ p → a1 p < a1 (p + 1)) (m2 : ∀ p, A2 ≤ p → a2 p < a2 (p + 1)) (P1 : ∀ t, A1 ≤ p1 t ∧ p1 t ≤ E ∧ a1 (p1 t) ≤ t ∧ (p1 t = E ∨ t < a1 (p1 t + 1))) (P2 : ∀ t, A2 ≤ p2 t ∧ p2 t ≤ E ∧ a2 (p2 t) ≤ t ∧ (p2 t = E ∨ t < a2 (p2 t + 1))) (hq : S ≤ q) (hqE : q ≤ E) (hq1 : q = E ∨ max (a1 q) (a2 q) < min (a1 (q + 1)) (a2 (q + 1))) (hq2 : ∀ q', S ≤ q' → q' < q → ¬ max (a1 q') (a2 q') < min (a1 (q' + 1)) (a2 (q' + 1))) : p1 (max (a1 q) (a2 q)) = p2 (max (a1 q) (a2 q)) ∧ ∀ t, t < max (a1 q) (a2 q) → p1 t ≠ p2 t := by
  constructor
  · obtain ⟨x1, x2, x3, x4⟩ := P1 (max (a1 q) (a2 q))
    obtain ⟨y1, y2, y3, y4⟩ := P2 (max (a1 q) (a2 q))
    have e1 := pos_one m1 x1 x2 x3 x4 (q := q) (by omega) hqE (by omega) (by omega)
    have e2 := pos_one m2 y1 y2 y3 y4 (q := q) (by omega) hqE (by omega) (by omega)
    omega
  · intro t ht e
    obtain ⟨x1, x2, x3, x4⟩ := P1 t
    obtain ⟨y1, y2, y3, y4⟩ := P2 t
    rw [← e] at y1 y2 y3 y4
    have hle : q ≤ p1 t := by
      rcases Nat.lt_or_ge (p1 t) q with g | g
      · exact absurd (show max (a1 (p1 t)) (a2 (p1 t)) < min (a1 (p1 t + 1)) (a2 (p1 t + 1)) by omega) (hq2 (p1 t) (by omega) g)
      · exact g
    by_cases e2 : q = p1 t
    · rw [← e2] at x3 y3; omega
    · have i1 := inc_lt m1 (p := q) (q := p1 t) (by omega) (by omega)
      have i2 := inc_lt m2 (p := q) (q := p1 t) (by omega) (by omega)
      omega
theorem e_minNN {σ : ns_St} {a b : Nat} (ha : a < 2 ^ 31) (hb : b < 2 ^ 31) : g_Math_min σ (nI a) (nI b) = some (nI (min a b), σ) := by
  rw [e_min]
  by_cases h : b < a
  · rw [if_pos (nI_lt h ha), Nat.min_eq_right (by omega)]
  · rw [if_neg (nI_nlt (by omega) hb), Nat.min_eq_left (by omega)]
theorem e_ft38 {B : Nat} {σ τ : ns_St} {E H i j : Nat} (hW : PW B σ E H) (s : Same σ τ) (hi : i < H) (hj : j < H) : ∀ (r p f : Nat), r < f → p + r = E → gm σ 72 i ≤ p → gm σ 72 j ≤ p → g_N_firstTogether_38 f τ (4 + i) (4 + j) (jm (σ.1 69) (gm σ 70 i) (gm σ 72 i) (gm σ 71 i) (gm σ 73 i) E) (jm (σ.1 69) (gm σ 70 j) (gm σ 72 j) (gm σ 71 j) (gm σ 73 j) E) (nI E) (nI p) = some (nI (ft (ap σ i) (ap σ j) r p), τ) := by
  have hH := hW.2.2.2.1
  have h60 := hW.h60
  have mi := (hW.m hi).same s (by omega)
  have mj := (hW.m hj).same s (by omega)
  obtain ⟨u0, u1, u2, u3, u4, u5, u6, u7⟩ := mi.2.1
  obtain ⟨v0, v1, v2, v3, v4, v5, v6, v7⟩ := mj.2.1
  have ei : ∀ p, gm σ 72 i ≤ p → p ≤ E → g_Mule_arrival τ (4 + i) (nI p) (jm (σ.1 69) (gm σ 70 i) (gm σ 72 i) (gm σ 71 i) (gm σ 73 i) E) = some (nI (ap σ i p), τ) := fun p h1 h2 => e_arrival (kd_m4 i (by omega)) h60 h1 h2 u2 u6
  have ej : ∀ p, gm σ 72 j ≤ p → p ≤ E → g_Mule_arrival τ (4 + j) (nI p) (jm (σ.1 69) (gm σ 70 j) (gm σ 72 j) (gm σ 71 j) (gm σ 73 j) E) = some (nI (ap σ j p), τ) := fun p h1 h2 => e_arrival (kd_m4 j (by omega)) h60 h1 h2 v2 v6
  have bd : ∀ {k : Nat}, k < H → ∀ p, p ≤ E → ap σ k p < 1000 := by
    intro k hk p hp
    have m := hW.m hk
    have l := fb_ct_le (js (σ.1 69) (gm σ 70 k) (gm σ 72 k) (gm σ 71 k) (gm σ 73 k)) (p - gm σ 72 k - 1)
    exact ar_lt (rt_le m.1.2.2.2.2.2.1) (by omega) (by omega)
  intro r
  induction r with
  | zero =>
    intro p f hf hp h1 h2
    obtain ⟨f, rfl⟩ : ∃ q, f = q + 1 := ⟨f - 1, by omega⟩
    have hp' : p = E := by omega
    subst hp'
    have b1 := bd hi p (by omega)
    have b2 := bd hj p (by omega)
    rw [g_N_firstTogether_38, ite2_p (nI_le (by omega) (by omega)), ei p h1 (by omega), ev_cl2, ej p h2 (by omega), ev_cl2, e_maxN (by omega) (by omega), ev_cl2, ft]
  | succ r ih =>
    intro p f hf hp h1 h2
    obtain ⟨f, rfl⟩ : ∃ q, f = q + 1 := ⟨f - 1, by omega⟩
    have b1 := bd hi p (by omega)
    have b2 := bd hj p (by omega)
    have b3 := bd hi (p + 1) (by omega)
    have b4 := bd hj (p + 1) (by omega)
    rw [g_N_firstTogether_38, ite2_n (nI_ge (by omega) (by omega)), ei p h1 (by omega), ev_cl2, ej p h2 (by omega), ev_cl2, e_maxN (by omega) (by omega), ev_cl2, ← nI_succ, ei (p + 1) (by omega) (by omega), ev_cl2, ej (p + 1) (by omega) (by omega), ev_cl2, e_minNN (by omega) (by omega), ev_cl2, ft]
    by_cases q : max (ap σ i p) (ap σ j p) < min (ap σ i (p + 1)) (ap σ j (p + 1))
    · rw [if_pos q, ite2_n (nI_ge q (by omega))]
    · rw [if_neg q, ite2_p (nI_le (by omega) (by omega)), ev_bnd]
      exact ih (p + 1) f (by omega) (by omega) (by omega) (by omega)
theorem e_mt30 {B : Nat} {σ : ns_St} {E H i j T : Nat} (hW : PW B σ E H) (hi : i < H) (hj : j < H) (hT : pt σ E i T = pt σ E j T) (hT2 : ∀ t, t < T → pt σ E i t ≠ pt σ E j t) : ∀ (r t f : Nat) (τ : ns_St), r < f → t + r = 401 → t ≤ T → Same σ τ → ∃ τ', g_M_meets_30 f τ 65 (nI i) (nI j) (nI t) = some (if T ≤ 400 then nI T else -1, τ') ∧ Same σ τ' := by
  have h60 := hW.h60
  have pi := fun t => (pt_at (σ := σ) (E := E) (j := i) (hW.m hi).1.2.2.2.1 t).2.1
  have pj := fun t => (pt_at (σ := σ) (E := E) (j := j) (hW.m hj).1.2.2.2.1 t).2.1
  intro r
  induction r with
  | zero =>
    intro t f τ hf ht htT s
    obtain ⟨f, rfl⟩ : ∃ q, f = q + 1 := ⟨f - 1, by omega⟩
    refine ⟨τ, ?_, s⟩
    rw [g_M_meets_30, ite2_p (show (401 : Int32) ≤ nI t from nI_le (a := 401) (by omega) (by omega)), if_neg (by omega)]
  | succ r ih =>
    intro t f τ hf ht htT s
    obtain ⟨f, rfl⟩ : ∃ q, f = q + 1 := ⟨f - 1, by omega⟩
    obtain ⟨τ1, e1, s1⟩ := e_afM hW s hi (t := t) (by omega)
    obtain ⟨τ2, e2, s2⟩ := e_afM hW s1 hj (t := t) (by omega)
    have b1 := pi t
    have b2 := pj t
    rw [g_M_meets_30, ite2_n (show ¬ (401 : Int32) ≤ nI t from nI_ge (b := 401) (by omega) (by decide)), e1, ev_cl2, e2, ev_cl2]
    by_cases e : t = T
    · subst e
      refine ⟨τ2, ?_, s2⟩
      rw [ite2_p (by rw [hT]), if_pos (by omega)]
    · rw [ite2_n (fun q => hT2 t (by omega) ((nI_eq (by omega) (by omega)).mp q)), ev_bnd, ← nI_succ]
      exact ih (t + 1) f τ2 (by omega) (by omega) (by omega) s2
theorem k_meets {B : Nat} {σ : ns_St} (h : Inv B σ) (hB : B < 2 ^ 26) (x y : Int32) : both B (g_N_meets σ 0 x y) (fun σ => g_M_meets σ 65 x y) := by
  obtain ⟨g1, g2, hR⟩ := h.1
  obtain ⟨E, H, hW⟩ := PW.of h hB
  have a2 := hW.2.2.1
  have a3 := hW.2.2.2.1
  have a5 := hW.2.2.2.2.2.1
  have h60 := hW.h60
  have e5 : (rfN σ 0).1 65 5 = nI H := by rw [rfN, pI_ne _ _ _ (by decide)]; exact a2
  rcases mu_cases x a3 with ⟨i, hi, rfl, hx⟩ | ⟨hx, hx2⟩
  · have hi6 : i < 6 := by omega
    rcases mu_cases y a3 with ⟨j, hj, rfl, hy⟩ | ⟨hy, hy2⟩
    · have hj6 : j < 6 := by omega
      by_cases hij : nI i = nI j
      · refine both.bad h hR (z := 0) (by decide) (c := -2) (by decide) (by decide) ?_ ?_
        · unfold g_N_meets
          simp only [gk_0, hR, rg_0_0, ev_drf, gk_1, e_muleAt hR a3 a5 hi, e_muleAt hR a3 a5 hj, ev_cl2, ev_ons, grd_t (kd_m4 i hi6), grd_t (kd_m4 j hj6), ite2_p hij]
        · show g_M_meets (rfN σ 0) 65 (nI i) (nI j) = _
          unfold g_M_meets
          rw [gk_65, e_isMule, ev_cl2, e5, ite2_y hx, e_isMule, ev_cl2, e5, ite2_y hy, ite2_p hij]
      · have mi := hW.m hi
        have mj := hW.m hj
        have ai := mi.1.2.2.2.1
        have aj := mj.1.2.2.2.1
        obtain ⟨τ1, e1, on1⟩ := e_stopsOn hW (Same.rfl σ) hi
        have s1 := on1.same scr46
        obtain ⟨τ2, e2, on2⟩ := e_stopsOn hW s1 hj
        have s2 := s1.trans (on2.same scr46)
        have m1 := mi.same s2 hi6
        have m2 := mj.same s2 hj6
        obtain ⟨u0, u1, u2, u3, u4, u5, u6, u7⟩ := m1.2.1
        obtain ⟨v0, v1, v2, v3, v4, v5, v6, v7⟩ := m2.2.1
        obtain ⟨g3, g4, hR2⟩ := (hW.same s2).1
        have e3 := e_ft38 hW s2 hi hj (E - max (gm σ 72 i) (gm σ 72 j)) (max (gm σ 72 i) (gm σ 72 j)) ns_F (by show E - _ < 10000; omega) (by omega) (by omega) (by omega)
        obtain ⟨q, q1, q2, q3, q4, q5⟩ := ft_spec (ap σ i) (ap σ j) (E - max (gm σ 72 i) (gm σ 72 j)) (max (gm σ 72 i) (gm σ 72 j))
        have mp := meet_pure (E := E) (q := q) (p1 := pt σ E i) (p2 := pt σ E j) (rfl : max (gm σ 72 i) (gm σ 72 j) = max (gm σ 72 i) (gm σ 72 j)) (ap_up (σ := σ) (j := i)) (ap_up (σ := σ) (j := j)) (fun t => pt_at ai t) (fun t => pt_at aj t) q1 (by omega) (by omega) q5
        obtain ⟨τ3, e4, s4⟩ := e_mt30 hW hi hj mp.1 mp.2 401 0 ns_F τ2 (by show 401 < 10000; omega) (by omega) (by omega) s2
        have eF : g_N_firstTogether σ 0 (4 + i) (4 + j) = some (nI (max (ap σ i q) (ap σ j q)), τ2) := by
          unfold g_N_firstTogether
          rw [gk_0, grd_t (kd_m4 i hi6), grd_t (kd_m4 j hj6), e1, ev_cl2, e2, ev_cl2, hR2, rg_0_0, ev_drf, gk_1, rg_1_0, ev_drf, gk_2, ev_bnd, (hW.same s2).2.2.2.2.1.1, u2, v2, e_maxN (by omega) (by omega), ev_cl2, e3, q3]
        have bq : max (ap σ i q) (ap σ j q) < 2 ^ 31 := by
          have l1 := fb_ct_le (js (σ.1 69) (gm σ 70 i) (gm σ 72 i) (gm σ 71 i) (gm σ 73 i)) (q - gm σ 72 i - 1)
          have l2 := fb_ct_le (js (σ.1 69) (gm σ 70 j) (gm σ 72 j) (gm σ 71 j) (gm σ 73 j)) (q - gm σ 72 j - 1)
          have b1 : ap σ i q < 1000 := ar_lt (rt_le mi.1.2.2.2.2.2.1) (by omega) (by omega)
          have b2 : ap σ j q < 1000 := ar_lt (rt_le mj.1.2.2.2.2.2.1) (by omega) (by omega)
          omega
        refine ⟨if max (ap σ i q) (ap σ j q) ≤ 400 then nI (max (ap σ i q) (ap σ j q)) else -1, τ2, τ3, ?_, ?_, h.same s4⟩
        · unfold g_N_meets
          simp only [gk_0, hR, rg_0_0, ev_drf, gk_1, e_muleAt hR a3 a5 hi, e_muleAt hR a3 a5 hj, ev_cl2, ev_ons, grd_t (kd_m4 i hi6), grd_t (kd_m4 j hj6), ite2_n hij, eF]
          by_cases hT : max (ap σ i q) (ap σ j q) ≤ 400
          · rw [if_pos hT, ite2_p (show nI _ ≤ (400 : Int32) from nI_le (b := 400) hT (by decide))]
          · rw [if_neg hT, ite2_n (show ¬ nI _ ≤ (400 : Int32) from nI_ge (a := 400) (by omega) bq)]
        · show g_M_meets τ2 65 (nI i) (nI j) = _
          unfold g_M_meets
          rw [gk_65, e_isMule, ev_cl2, (hW.same s2).2.2.1, ite2_y hx, e_isMule, ev_cl2, (hW.same s2).2.2.1, ite2_y hy, ite2_n hij]
          exact e4
    · refine both.bad h hR (z := 0) (by decide) (c := -2) (by decide) (by decide) ?_ ?_
      · unfold g_N_meets
        simp only [gk_0, hR, rg_0_0, ev_drf, gk_1, e_muleAt hR a3 a5 hi, e_muleAtN a5 hy2, ev_cl2, ev_ons, ev_onn, grd_t (kd_m4 i hi6)]
      · show g_M_meets (rfN σ 0) 65 (nI i) y = _
        unfold g_M_meets
        rw [gk_65, e_isMule, ev_cl2, e5, ite2_y hx, e_isMule, ev_cl2, e5, ite2_z hy]
  · refine both.bad h hR (z := 0) (by decide) (c := -2) (by decide) (by decide) ?_ ?_
    · unfold g_N_meets
      simp only [gk_0, hR, rg_0_0, ev_drf, gk_1, e_muleAtN a5 hx2, ev_cl2, ev_onn]
      rcases mu_cases y a3 with ⟨j, hj, rfl, hy⟩ | ⟨hy, hy2⟩
      · rw [e_muleAt hR a3 a5 hj, ev_cl2, ev_ons, grd_t (kd_m4 j (by omega))]
      · rw [e_muleAtN a5 hy2, ev_cl2, ev_onn]
    · show g_M_meets (rfN σ 0) 65 x y = _
      unfold g_M_meets
      rw [gk_65, e_isMule, ev_cl2, e5, ite2_z hx]
