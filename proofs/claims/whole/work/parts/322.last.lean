/-! what each MULE has, by numbers; the first greatest -/
def gm (σ : ns_St) (c j : Nat) : Nat := (σ.1 c j).toNatClampNeg
theorem PM.gm {B : Nat} {σ : ns_St} {E j K N A C O : Nat} (h : PM B σ E j K N A C O) (hB : B < 2 ^ 26) (hE : E ≤ 60) : gm σ 70 j = K ∧ gm σ 71 j = N ∧ gm σ 72 j = A ∧ gm σ 73 j = C ∧ gm σ 75 j = O := by
  obtain ⟨⟨v1, v2, v3, v4, v5, v6, v7⟩, m2, m3, m4, m5, m6, m7⟩ := h
  refine ⟨?_, ?_, ?_, ?_, ?_⟩
  · show (σ.1 70 j).toNatClampNeg = K; rw [m3, nI_clamp (by omega)]
  · show (σ.1 71 j).toNatClampNeg = N; rw [m4, nI_clamp (by omega)]
  · show (σ.1 72 j).toNatClampNeg = A; rw [m5, nI_clamp (by omega)]
  · show (σ.1 73 j).toNatClampNeg = C; rw [m6, nI_clamp (by omega)]
  · show (σ.1 75 j).toNatClampNeg = O; rw [m7, nI_clamp (by omega)]
def Vl (σ : ns_St) (E j : Nat) : Nat := E - gm σ 72 j + rt (gm σ 70 j) (gm σ 75 j) * sct (σ.1 69) (gm σ 70 j) (gm σ 72 j) (gm σ 71 j) (gm σ 73 j) (E - gm σ 72 j)
def Vw (σ : ns_St) (E j : Nat) : Nat := fb_ct (jcl (σ.1 69) (gm σ 70 j) (gm σ 72 j) (gm σ 71 j) (gm σ 73 j)) (E - gm σ 72 j)
def am (V : Nat → Nat) : Nat → Nat
  | 0 => 0
  | k + 1 => if V (am V k) < V k then k else am V k
theorem am_lt (V : Nat → Nat) : ∀ k, am V (k + 1) ≤ k
  | 0 => by
    show (if V 0 < V 0 then 0 else 0) ≤ 0
    split <;> omega
  | k + 1 => by
    have := am_lt V k
    show (if V (am V (k + 1)) < V (k + 1) then k + 1 else am V (k + 1)) ≤ k + 1
    split <;> omega
theorem am_1 (V : Nat → Nat) : am V 1 = 0 := Nat.le_zero.mp (am_lt V 0)
theorem PW.h60 {B : Nat} {σ : ns_St} {E H : Nat} (h : PW B σ E H) : E ≤ 60 := h.2.2.2.2.1.2.2.1
theorem PW.m {B : Nat} {σ : ns_St} {E H : Nat} (h : PW B σ E H) {j : Nat} (hj : j < H) : PM B σ E j (gm σ 70 j) (gm σ 71 j) (gm σ 72 j) (gm σ 73 j) (gm σ 75 j) := by
  obtain ⟨K, N, A, C, O, hm⟩ := h.2.2.2.2.2.2.2 j hj
  obtain ⟨e1, e2, e3, e4, e5⟩ := hm.gm h.2.2.2.2.2.2.1 h.h60
  rw [e1, e2, e3, e4, e5]; exact hm
theorem rt_le {K O : Nat} (h : O ≤ 9) : rt K O ≤ 10 := by unfold rt; split <;> omega
theorem Vl_lt {B : Nat} {σ : ns_St} {E H : Nat} (h : PW B σ E H) {j : Nat} (hj : j < H) : Vl σ E j < 1000 := by
  have m := (h.m hj).1
  have h60 := h.h60
  have b := sct_le (σ.1 69) (gm σ 70 j) (gm σ 72 j) (gm σ 71 j) (gm σ 73 j) (E - gm σ 72 j)
  have r := rt_le (K := gm σ 70 j) m.2.2.2.2.2.1
  have := Nat.mul_le_mul r b
  unfold Vl
  omega
theorem Vw_lt {B : Nat} {σ : ns_St} {E H : Nat} (h : PW B σ E H) (j : Nat) : Vw σ E j < 1000 := by
  have h60 := h.h60
  have b := fb_ct_le (jcl (σ.1 69) (gm σ 70 j) (gm σ 72 j) (gm σ 71 j) (gm σ 73 j)) (E - gm σ 72 j)
  unfold Vw
  omega
theorem e_minN {B : Nat} {σ τ : ns_St} {E H : Nat} (hW : PW B σ E H) (s : Same σ τ) {k : Nat} (hk : k < H) : ∃ τ', g_N_minutesOf τ 0 (4 + k) = some (nI (Vl σ E k), τ') ∧ Same σ τ' := by
  have hk6 : k < 6 := by have := hW.2.2.2.1; omega
  obtain ⟨τ', e, s'⟩ := e_minutesOf (hW.same s) ((hW.m hk).same s hk6) hk6
  rw [s.mi (a := 69) (by omega)] at e
  exact ⟨τ', e, s.trans s'⟩
theorem e_minM {B : Nat} {σ τ : ns_St} {E H : Nat} (hW : PW B σ E H) (s : Same σ τ) {k : Nat} (hk : k < H) : ∃ τ', g_M_minutesOf τ 65 (nI k) = some (nI (Vl σ E k), τ') ∧ Same σ τ' := by
  have hk6 : k < 6 := by have := hW.2.2.2.1; omega
  have m := (hW.m hk).same s hk6
  obtain ⟨τ', e, t⟩ := e_minutesOfM (m.jc (hW.same s)) hk6 m.2.2.1 m.2.2.2.1 m.2.2.2.2.1 m.2.2.2.2.2.1 m.2.2.2.2.2.2
  rw [s.mi (a := 69) (by omega)] at e
  exact ⟨τ', e, s.trans t.same⟩
theorem e_joM {B : Nat} {σ τ : ns_St} {E H : Nat} (hW : PW B σ E H) (s : Same σ τ) {k : Nat} (hk : k < H) : ∃ τ', g_M_journey τ 65 (nI k) 0 = some (nI (Vw σ E k), τ') ∧ Same σ τ' := by
  have hk6 : k < 6 := by have := hW.2.2.2.1; omega
  have m := (hW.m hk).same s hk6
  obtain ⟨τ', e, t⟩ := e_journey (m.jc (hW.same s)) hk6 m.2.2.1 m.2.2.2.1 m.2.2.2.2.1 m.2.2.2.2.2.1 0
  rw [s.mi (a := 69) (by omega), jout0] at e
  exact ⟨τ', e, s.trans t.same⟩
theorem e_wsN {B : Nat} {σ τ : ns_St} {E H : Nat} (hW : PW B σ E H) (s : Same σ τ) {k : Nat} (hk : k < H) : ∃ τ' x, g_N_stopsOf τ 0 (4 + k) = some (x, τ') ∧ Same σ τ' ∧ fb_ct (gb (x &&& τ'.2.1 2 3)) 64 = Vw σ E k := by
  have hk6 : k < 6 := by have := hW.2.2.2.1; omega
  have m := (hW.m hk).same s hk6
  obtain ⟨τ', e, s'⟩ := e_stopsOf (hW.same s) m hk6
  rw [s.mi (a := 69) (by omega)] at e
  have hW' := (hW.same s).same s'
  have hG : GR τ' 2 (σ.1 69) E := by rw [← (s.trans s').mi (a := 69) (by omega)]; exact hW'.2.2.2.2.1
  exact ⟨τ', _, e, s.trans s', ct_win m.1.2.2.2.1 hW.h60 (gb_cl hG m.1.2.2.2.1)⟩
theorem e_last6 {B : Nat} {σ : ns_St} {E H : Nat} (hW : PW B σ E H) : ∀ (r k f : Nat) (τ : ns_St), r < f → k + 1 + r = H → Same σ τ → ∃ τ', g_N_last_6 f τ 0 (nI (am (Vl σ E) (k + 1))) (nI (Vl σ E (am (Vl σ E) (k + 1)))) (nI (k + 1)) = some (nI (am (Vl σ E) H), τ') ∧ Same σ τ' := by
  have hH := hW.2.2.2.1
  intro r
  induction r with
  | zero =>
    intro k f τ hf hk s
    obtain ⟨f, rfl⟩ : ∃ q, f = q + 1 := ⟨f - 1, by omega⟩
    obtain ⟨g1, g2, hR⟩ := (hW.same s).1
    have hk' : k + 1 = H := by omega
    have al := am_lt (Vl σ E) k
    refine ⟨τ, ?_, s⟩
    rw [g_N_last_6, hR, rg_0_0, ev_drf, gk_1, (hW.same s).2.2.2.2.2.1, ite2_p (nI_le (by omega) (by omega)), ite2_n (nI_nm1 (by omega)), hk']
  | succ r ih =>
    intro k f τ hf hk s
    obtain ⟨f, rfl⟩ : ∃ q, f = q + 1 := ⟨f - 1, by omega⟩
    obtain ⟨g1, g2, hR⟩ := (hW.same s).1
    have hin : ns_in (nI (k + 1)) (ns_ln 3) := ns_inI (show k + 1 < 6 by omega) (by decide)
    have al := am_lt (Vl σ E) k
    have b1 := Vl_lt hW (j := k + 1) (by omega)
    have b2 := Vl_lt hW (j := am (Vl σ E) (k + 1)) (by omega)
    obtain ⟨τ1, e1, s1⟩ := e_minN hW s (k := k + 1) (by omega)
    obtain ⟨g3, g4, hR1⟩ := (hW.same s1).1
    obtain ⟨τ2, e2, s2⟩ := ih (k + 1) f τ1 (by omega) (by omega) s1
    refine ⟨τ2, ?_, s2⟩
    rw [g_N_last_6, hR, rg_0_0, ev_drf, gk_1, (hW.same s).2.2.2.2.2.1, ite2_n (nI_ge (by omega) (by omega)), ev_drf, gk_1, rg_1_1, ev_drf, gk_3, grd_t hin, ns_ixI (by omega), rg_ml3 g1 g2 (show k + 1 < 6 by omega), ev_drf, grd_t (kd_m4 (k + 1) (by omega)), e1, ev_cl2]
    have ea : am (Vl σ E) (k + 1 + 1) = if Vl σ E (am (Vl σ E) (k + 1)) < Vl σ E (k + 1) then k + 1 else am (Vl σ E) (k + 1) := rfl
    rw [ea] at e2
    by_cases q : Vl σ E (am (Vl σ E) (k + 1)) < Vl σ E (k + 1)
    · rw [if_pos q] at e2
      rw [ite2_n (nI_ge q (by omega)), ev_bnd, ← nI_succ]
      exact e2
    · rw [if_neg q] at e2
      rw [ite2_p (nI_le (by omega) (by omega)), ev_bnd, ← nI_succ]
      exact e2
theorem e_last18 {B : Nat} {σ : ns_St} {E H : Nat} (hW : PW B σ E H) : ∀ (r k f : Nat) (τ : ns_St), r < f → k + 1 + r = H → Same σ τ → ∃ τ', g_M_last_18 f τ 65 (nI (am (Vl σ E) (k + 1))) (nI (k + 1)) = some (nI (am (Vl σ E) H), τ') ∧ Same σ τ' := by
  have hH := hW.2.2.2.1
  intro r
  induction r with
  | zero =>
    intro k f τ hf hk s
    obtain ⟨f, rfl⟩ : ∃ q, f = q + 1 := ⟨f - 1, by omega⟩
    have hk' : k + 1 = H := by omega
    refine ⟨τ, ?_, s⟩
    rw [g_M_last_18, (hW.same s).2.2.1, ite2_p (nI_le (by omega) (by omega)), hk']
  | succ r ih =>
    intro k f τ hf hk s
    obtain ⟨f, rfl⟩ : ∃ q, f = q + 1 := ⟨f - 1, by omega⟩
    have al := am_lt (Vl σ E) k
    have b1 := Vl_lt hW (j := k + 1) (by omega)
    have b2 := Vl_lt hW (j := am (Vl σ E) (k + 1)) (by omega)
    obtain ⟨τ0, e0, s0⟩ := e_minM hW s (k := k + 1) (by omega)
    obtain ⟨τ1, e1, s1⟩ := e_minM hW s0 (k := am (Vl σ E) (k + 1)) (by omega)
    obtain ⟨τ2, e2, s2⟩ := ih (k + 1) f τ1 (by omega) (by omega) s1
    refine ⟨τ2, ?_, s2⟩
    rw [g_M_last_18, (hW.same s).2.2.1, ite2_n (nI_ge (by omega) (by omega)), e0, ev_cl2, e1, ev_cl2]
    have ea : am (Vl σ E) (k + 1 + 1) = if Vl σ E (am (Vl σ E) (k + 1)) < Vl σ E (k + 1) then k + 1 else am (Vl σ E) (k + 1) := rfl
    rw [ea] at e2
    by_cases q : Vl σ E (am (Vl σ E) (k + 1)) < Vl σ E (k + 1)
    · rw [if_pos q] at e2
      rw [ite2_n (nI_ge q (by omega)), ev_bnd, ← nI_succ]
      exact e2
    · rw [if_neg q] at e2
      rw [ite2_p (nI_le (by omega) (by omega)), ev_bnd, ← nI_succ]
      exact e2
theorem k_last {B : Nat} {σ : ns_St} (h : Inv B σ) (hB : B < 2 ^ 26) : both B (g_N_last σ 0) (fun σ => g_M_last σ 65) := by
  obtain ⟨g1, g2, hR⟩ := h.1
  obtain ⟨E, H, hW⟩ := PW.of h hB
  have hH := hW.2.2.2.1
  by_cases h0 : H = 0
  · subst h0
    refine both.bad h hR (z := 3) (by decide) (c := -5) (by decide) (by decide) ?_ ?_
    · unfold g_N_last
      show grd (ns_kd 0 = 8) (g_N_last_6 (9999 + 1) σ 0 (-1) (-1) 0) = _
      rw [gk_0, g_N_last_6, hR, rg_0_0, ev_drf, gk_1, hW.2.2.2.2.2.1, ite2_p (by decide), ite2_p (by decide)]
    · show g_M_last (rfN σ 3) 65 = _
      unfold g_M_last
      rw [gk_65, ite2_p (show (rfN σ 3).1 65 5 = 0 by rw [rfN, pI_ne _ _ _ (by decide)]; exact hW.2.2.1)]
  · have b1 := Vl_lt hW (j := 0) (by omega)
    have s := Same.rfl σ
    obtain ⟨τ1, e1, s1⟩ := e_minN hW s (k := 0) (by omega)
    obtain ⟨g3, g4, hR1⟩ := (hW.same s1).1
    obtain ⟨τ2, e2, s2⟩ := e_last6 hW (H - 1) 0 9999 τ1 (by omega) (by omega) s1
    obtain ⟨τ3, e3, s3⟩ := e_last18 hW (H - 1) 0 ns_F τ2 (by show H - 1 < 10000; omega) (by omega) s2
    refine ⟨nI (am (Vl σ E) H), τ2, τ3, ?_, ?_, h.same s3⟩
    · unfold g_N_last
      show grd (ns_kd 0 = 8) (g_N_last_6 (9999 + 1) σ 0 (-1) (-1) (nI 0)) = _
      have hin : ns_in (nI 0) (ns_ln 3) := ns_inI (show 0 < 6 by omega) (by decide)
      rw [gk_0, g_N_last_6, hR, rg_0_0, ev_drf, gk_1, hW.2.2.2.2.2.1, ite2_n (nI_ge (by omega) (by omega)), ev_drf, gk_1, rg_1_1, ev_drf, gk_3, grd_t hin, ns_ixI (by omega), rg_ml3 g1 g2 (show 0 < 6 by omega), ev_drf, grd_t (kd_m4 0 (by omega)), e1, ev_cl2, ite2_n (fun q => absurd (Int32.le_trans (nI_pos' (n := Vl σ E 0) (by omega)) q) (by decide)), ev_bnd, ← nI_succ]
      rw [am_1] at e2
      exact e2
    · show g_M_last τ2 65 = _
      unfold g_M_last
      rw [gk_65, (hW.same s2).2.2.1, ite2_n (nI_ne0 (by omega) (by omega))]
      rw [am_1] at e3
      exact e3
theorem e_worst6 {B : Nat} {σ : ns_St} {E H : Nat} (hW : PW B σ E H) : ∀ (r k f : Nat) (τ : ns_St), r < f → k + 1 + r = H → Same σ τ → ∃ τ', g_N_worst_6 f τ 0 (nI (am (Vw σ E) (k + 1))) (nI (Vw σ E (am (Vw σ E) (k + 1)))) (nI (k + 1)) = some (nI (am (Vw σ E) H), τ') ∧ Same σ τ' := by
  have hH := hW.2.2.2.1
  intro r
  induction r with
  | zero =>
    intro k f τ hf hk s
    obtain ⟨f, rfl⟩ : ∃ q, f = q + 1 := ⟨f - 1, by omega⟩
    obtain ⟨g1, g2, hR⟩ := (hW.same s).1
    have hk' : k + 1 = H := by omega
    have al := am_lt (Vw σ E) k
    refine ⟨τ, ?_, s⟩
    rw [g_N_worst_6, hR, rg_0_0, ev_drf, gk_1, (hW.same s).2.2.2.2.2.1, ite2_p (nI_le (by omega) (by omega)), ite2_n (nI_nm1 (by omega)), hk']
  | succ r ih =>
    intro k f τ hf hk s
    obtain ⟨f, rfl⟩ : ∃ q, f = q + 1 := ⟨f - 1, by omega⟩
    obtain ⟨g1, g2, hR⟩ := (hW.same s).1
    have hin : ns_in (nI (k + 1)) (ns_ln 3) := ns_inI (show k + 1 < 6 by omega) (by decide)
    have al := am_lt (Vw σ E) k
    have b1 := Vw_lt hW (k + 1)
    have b2 := Vw_lt hW (am (Vw σ E) (k + 1))
    obtain ⟨τ1, x, e1, s1, ex⟩ := e_wsN hW s (k := k + 1) (by omega)
    obtain ⟨g3, g4, hR1⟩ := (hW.same s1).1
    obtain ⟨τ2, e2, s2⟩ := ih (k + 1) f τ1 (by omega) (by omega) s1
    refine ⟨τ2, ?_, s2⟩
    rw [g_N_worst_6, hR, rg_0_0, ev_drf, gk_1, (hW.same s).2.2.2.2.2.1, ite2_n (nI_ge (by omega) (by omega)), ev_drf, gk_1, rg_1_1, ev_drf, gk_3, grd_t hin, ns_ixI (by omega), rg_ml3 g1 g2 (show k + 1 < 6 by omega), ev_drf, grd_t (kd_m4 (k + 1) (by omega)), e1, ev_cl2, hR1, rg_0_0, ev_drf, gk_1, rg_1_0, ev_drf, gk_2, e_bitCount, ev_cl2, ex]
    have ea : am (Vw σ E) (k + 1 + 1) = if Vw σ E (am (Vw σ E) (k + 1)) < Vw σ E (k + 1) then k + 1 else am (Vw σ E) (k + 1) := rfl
    rw [ea] at e2
    by_cases q : Vw σ E (am (Vw σ E) (k + 1)) < Vw σ E (k + 1)
    · rw [if_pos q] at e2
      rw [ite2_n (nI_ge q (by omega)), ev_bnd, ← nI_succ]
      exact e2
    · rw [if_neg q] at e2
      rw [ite2_p (nI_le (by omega) (by omega)), ev_bnd, ← nI_succ]
      exact e2
theorem e_worst18 {B : Nat} {σ : ns_St} {E H : Nat} (hW : PW B σ E H) : ∀ (r k f : Nat) (τ : ns_St), r < f → k + 1 + r = H → Same σ τ → ∃ τ', g_M_worst_18 f τ 65 (nI (am (Vw σ E) (k + 1))) (nI (k + 1)) = some (nI (am (Vw σ E) H), τ') ∧ Same σ τ' := by
  have hH := hW.2.2.2.1
  intro r
  induction r with
  | zero =>
    intro k f τ hf hk s
    obtain ⟨f, rfl⟩ : ∃ q, f = q + 1 := ⟨f - 1, by omega⟩
    have hk' : k + 1 = H := by omega
    refine ⟨τ, ?_, s⟩
    rw [g_M_worst_18, (hW.same s).2.2.1, ite2_p (nI_le (by omega) (by omega)), hk']
  | succ r ih =>
    intro k f τ hf hk s
    obtain ⟨f, rfl⟩ : ∃ q, f = q + 1 := ⟨f - 1, by omega⟩
    have al := am_lt (Vw σ E) k
    have b1 := Vw_lt hW (k + 1)
    have b2 := Vw_lt hW (am (Vw σ E) (k + 1))
    obtain ⟨τ0, e0, s0⟩ := e_joM hW s (k := k + 1) (by omega)
    obtain ⟨τ1, e1, s1⟩ := e_joM hW s0 (k := am (Vw σ E) (k + 1)) (by omega)
    obtain ⟨τ2, e2, s2⟩ := ih (k + 1) f τ1 (by omega) (by omega) s1
    refine ⟨τ2, ?_, s2⟩
    rw [g_M_worst_18, (hW.same s).2.2.1, ite2_n (nI_ge (by omega) (by omega)), e0, ev_cl2, e1, ev_cl2]
    have ea : am (Vw σ E) (k + 1 + 1) = if Vw σ E (am (Vw σ E) (k + 1)) < Vw σ E (k + 1) then k + 1 else am (Vw σ E) (k + 1) := rfl
    rw [ea] at e2
    by_cases q : Vw σ E (am (Vw σ E) (k + 1)) < Vw σ E (k + 1)
    · rw [if_pos q] at e2
      rw [ite2_n (nI_ge q (by omega)), ev_bnd, ← nI_succ]
      exact e2
    · rw [if_neg q] at e2
      rw [ite2_p (nI_le (by omega) (by omega)), ev_bnd, ← nI_succ]
      exact e2
theorem k_worst {B : Nat} {σ : ns_St} (h : Inv B σ) (hB : B < 2 ^ 26) : both B (g_N_worst σ 0) (fun σ => g_M_worst σ 65) := by
  obtain ⟨g1, g2, hR⟩ := h.1
  obtain ⟨E, H, hW⟩ := PW.of h hB
  have hH := hW.2.2.2.1
  by_cases h0 : H = 0
  · subst h0
    refine both.bad h hR (z := 3) (by decide) (c := -5) (by decide) (by decide) ?_ ?_
    · unfold g_N_worst
      show grd (ns_kd 0 = 8) (g_N_worst_6 (9999 + 1) σ 0 (-1) (-1) 0) = _
      rw [gk_0, g_N_worst_6, hR, rg_0_0, ev_drf, gk_1, hW.2.2.2.2.2.1, ite2_p (by decide), ite2_p (by decide)]
    · show g_M_worst (rfN σ 3) 65 = _
      unfold g_M_worst
      rw [gk_65, ite2_p (show (rfN σ 3).1 65 5 = 0 by rw [rfN, pI_ne _ _ _ (by decide)]; exact hW.2.2.1)]
  · have b1 := Vw_lt hW (0)
    have s := Same.rfl σ
    obtain ⟨τ1, x, e1, s1, ex⟩ := e_wsN hW s (k := 0) (by omega)
    obtain ⟨g3, g4, hR1⟩ := (hW.same s1).1
    obtain ⟨τ2, e2, s2⟩ := e_worst6 hW (H - 1) 0 9999 τ1 (by omega) (by omega) s1
    obtain ⟨τ3, e3, s3⟩ := e_worst18 hW (H - 1) 0 ns_F τ2 (by show H - 1 < 10000; omega) (by omega) s2
    refine ⟨nI (am (Vw σ E) H), τ2, τ3, ?_, ?_, h.same s3⟩
    · unfold g_N_worst
      show grd (ns_kd 0 = 8) (g_N_worst_6 (9999 + 1) σ 0 (-1) (-1) (nI 0)) = _
      have hin : ns_in (nI 0) (ns_ln 3) := ns_inI (show 0 < 6 by omega) (by decide)
      rw [gk_0, g_N_worst_6, hR, rg_0_0, ev_drf, gk_1, hW.2.2.2.2.2.1, ite2_n (nI_ge (by omega) (by omega)), ev_drf, gk_1, rg_1_1, ev_drf, gk_3, grd_t hin, ns_ixI (by omega), rg_ml3 g1 g2 (show 0 < 6 by omega), ev_drf, grd_t (kd_m4 0 (by omega)), e1, ev_cl2, hR1, rg_0_0, ev_drf, gk_1, rg_1_0, ev_drf, gk_2, e_bitCount, ev_cl2, ex, ite2_n (fun q => absurd (Int32.le_trans (nI_pos' (n := Vw σ E 0) (by omega)) q) (by decide)), ev_bnd, ← nI_succ]
      rw [am_1] at e2
      exact e2
    · show g_M_worst τ2 65 = _
      unfold g_M_worst
      rw [gk_65, (hW.same s2).2.2.1, ite2_n (nI_ne0 (by omega) (by omega))]
      rw [am_1] at e3
      exact e3
