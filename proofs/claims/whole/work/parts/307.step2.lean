theorem nI_k : ∀ K, K ≤ 5 → ((nI K = (1 : Int32) ↔ K = 1) ∧ (nI K = (2 : Int32) ↔ K = 2) ∧ (nI K = (3 : Int32) ↔ K = 3) ∧ (nI K = (4 : Int32) ↔ K = 4) ∧ (nI K = (5 : Int32) ↔ K = 5)) := by decide +kernel
theorem e_min (σ : ns_St) (x y : Int32) : g_Math_min σ x y = some (if y < x then y else x, σ) := by
  unfold g_Math_min
  by_cases h : y < x
  · rw [ite2_p h, if_pos h]
  · rw [ite2_n h, if_neg h]
theorem s3_i1 {σ : ns_St} {a i : Nat} {v1 v2 v3 : Int32} (h1 : σ.1 a i = v1) (h2 : σ.1 a (i + 1) = v2) (h3 : σ.1 a (i + 2) = v3) (w : Int32) : ns_pI σ a i w = s3 σ a i w v2 v3 := by
  have := (s3_put σ a i v1 v2 v3 w).1
  rwa [s3_self h1 h2 h3] at this
theorem s3_i2 {σ : ns_St} {a i : Nat} {v1 v2 v3 : Int32} (h1 : σ.1 a i = v1) (h2 : σ.1 a (i + 1) = v2) (h3 : σ.1 a (i + 2) = v3) (w : Int32) : ns_pI σ a (i + 1) w = s3 σ a i v1 w v3 := by
  have := (s3_put σ a i v1 v2 v3 w).2.1
  rwa [s3_self h1 h2 h3] at this
theorem s3_i3 {σ : ns_St} {a i : Nat} {v1 v2 v3 : Int32} (h1 : σ.1 a i = v1) (h2 : σ.1 a (i + 1) = v2) (h3 : σ.1 a (i + 2) = v3) (w : Int32) : ns_pI σ a (i + 2) w = s3 σ a i v1 v2 w := by
  have := (s3_put σ a i v1 v2 v3 w).2.2
  rwa [s3_self h1 h2 h3] at this
theorem dbl {N : Nat} (hN : N < 2 ^ 29) : (if (2 : Int32) * nI N < 64 then (2 : Int32) * nI N else 64) = nI (if 2 * N < 64 then 2 * N else 64) := by
  have e : (2 : Int32) * nI N = nI (2 * N) := pk_mul 2 N
  rw [e]
  by_cases h : 2 * N < 64
  · rw [if_pos h, if_pos (show nI (2 * N) < (64 : Int32) from nI_lt (b := 64) h (by decide))]
  · rw [if_neg h, if_neg (show ¬ nI (2 * N) < (64 : Int32) from nI_nlt (b := 64) (by omega) (by omega))]; rfl
theorem e_mayStop {σ : ns_St} {a g : Nat} (hk : ns_kd a = 2) (hg : ns_kd g = 1) {K N p C : Nat} (hK : K ≤ 5) (hp : p < 64) (hN : N < 2 ^ 29) (hC : C < 2 ^ 29) (h0 : σ.1 a 0 = nI K) (h1 : σ.1 a 1 = nI N) (h2 : σ.1 a 2 = nI p) (h3 : σ.1 a 3 = nI C) : g_Mule_mayStop σ a g = some (yn ((decide (N ≤ C) && !(decide (K = 3) && gb (σ.2.1 g 3) p)) = true), σ) := by
  unfold g_Mule_mayStop
  rw [grd_t hk, grd_t hg, h3, h1, h0, h2]
  by_cases hlt : C < N
  · rw [ite2_p (nI_lt hlt (by omega)), yn_f (by simp; omega)]
  · rw [ite2_n (nI_nlt (by omega) (by omega))]
    by_cases k3 : K = 3
    · rw [ite2_p (show nI K = 3 by rw [k3]; rfl)]
      cases hb : gb (σ.2.1 g 3) p with
      | false => rw [ite2_p ((ns_bc hp).mpr hb), yn_t (by simp; omega)]
      | true => rw [ite2_n (fun e => by rw [(ns_bc hp).mp e] at hb; cases hb), yn_f (by simp [k3])]
    · rw [ite2_n (fun e => k3 ((nI_k K hK).2.2.1.mp e)), yn_t (by simp [k3]; omega)]
theorem e_ms110 {σ : ns_St} {a K N p C : Nat} (P Q : Bool) (hK : K ≤ 5) (hN : N < 2 ^ 29) (h0 : σ.1 a 0 = nI K) (h1 : σ.1 a 1 = nI N) (h2 : σ.1 a 2 = nI p) (h3 : σ.1 a 3 = nI C) : g_Mule_makeStep_110 σ a (yn (Q = true)) (yn (P = true)) = some (yn (P = true), s3 σ a 1 (nI (if (Q && decide (K = 4)) = true then (if 2 * N < 64 then 2 * N else 64) else N)) (nI p) (nI C)) := by
  unfold g_Mule_makeStep_110
  cases Q with
  | false => rw [ite2_p (yn_f (by decide)), grd_y, if_neg (show ¬ (false && decide (K = 4)) = true by simp), s3_self h1 h2 h3]
  | true =>
    rw [ite2_y (rfl : true = true), h0]
    by_cases k4 : K = 4
    · rw [ite2_p (show nI K = 4 by rw [k4]; rfl), e_min, ev_cl2, ev_bnd, grd_y, h1, dbl hN, if_pos (show (true && decide (K = 4)) = true by simp [k4]), s3_i1 h1 h2 h3]
    · rw [ite2_n (fun e => k4 ((nI_k K hK).2.2.2.1.mp e)), grd_y, if_neg (show ¬ (true && decide (K = 4)) = true by simp [k4]), s3_self h1 h2 h3]
theorem e_ms98 {σ : ns_St} {a K N p C : Nat} (P Q : Bool) (hK : K ≤ 5) (hN : N < 2 ^ 29) (h0 : σ.1 a 0 = nI K) (h1 : σ.1 a 1 = nI N) (h2 : σ.1 a 2 = nI p) (h3 : σ.1 a 3 = nI C) : g_Mule_makeStep_98 σ (yn (P = true)) a (yn (Q = true)) = some (yn (P = true), s3 σ a 1 (nI (if (Q && decide (K = 4)) = true then (if 2 * N < 64 then 2 * N else 64) else N)) (nI p) (nI (if P = true then 0 else C))) := by
  unfold g_Mule_makeStep_98
  cases P with
  | false => rw [ite2_p (yn_f (by decide)), if_neg (show ¬ false = true by decide)]; exact e_ms110 false Q hK hN h0 h1 h2 h3
  | true =>
    rw [ite2_y (rfl : true = true), ev_bnd, if_pos (rfl : true = true), s3_i3 (i := 1) h1 h2 h3]
    rw [show s3 σ a 1 (nI N) (nI p) 0 = s3 σ a 1 (nI N) (nI p) (nI 0) from rfl, e_ms110 (K := K) (N := N) (p := p) (C := 0) true Q hK hN (by rw [s3_go _ _ _ _ _ _ (by omega)]; exact h0) (s3_g1 _ _ _ _ _ _) (s3_g2 _ _ _ _ _ _) (s3_g3 _ _ _ _ _ _), s3_s3]
theorem e_ms72 {σ : ns_St} {a g K N p C : Nat} (hk : ns_kd a = 2) (hg : ns_kd g = 1) (Q : Bool) (hK : K ≤ 5) (hp : p < 64) (hN : N < 2 ^ 29) (hC : C < 2 ^ 29) (h0 : σ.1 a 0 = nI K) (h1 : σ.1 a 1 = nI N) (h2 : σ.1 a 2 = nI p) (h3 : σ.1 a 3 = nI C) : g_Mule_makeStep_72 σ (yn (Q = true)) a g = some (yn (stopN K N C Q (gb (σ.2.1 g 3) p) = true), s3 σ a 1 (nI (if (Q && decide (K = 4)) = true then (if 2 * N < 64 then 2 * N else 64) else N)) (nI p) (nI (if stopN K N C Q (gb (σ.2.1 g 3) p) = true then 0 else C))) := by
  unfold g_Mule_makeStep_72
  rw [e_mayStop hk hg hK hp hN hC h0 h1 h2 h3, ev_cl2]
  have hyes : ∀ P : Bool, P = true → g_Mule_makeStep_93 σ a (yn (Q = true)) = some (yn (P = true), s3 σ a 1 (nI (if (Q && decide (K = 4)) = true then (if 2 * N < 64 then 2 * N else 64) else N)) (nI p) (nI (if P = true then 0 else C))) := by
    intro P hP
    subst hP
    unfold g_Mule_makeStep_93
    exact e_ms98 true Q hK hN h0 h1 h2 h3
  have hno : ∀ P : Bool, P = false → g_Mule_makeStep_97 σ a (yn (Q = true)) = some (yn (P = true), s3 σ a 1 (nI (if (Q && decide (K = 4)) = true then (if 2 * N < 64 then 2 * N else 64) else N)) (nI p) (nI (if P = true then 0 else C))) := by
    intro P hP
    subst hP
    unfold g_Mule_makeStep_97
    exact e_ms98 false Q hK hN h0 h1 h2 h3
  cases hm : (decide (N ≤ C) && !(decide (K = 3) && gb (σ.2.1 g 3) p)) with
  | true =>
    rw [ite2_y (rfl : true = true)]
    exact hyes _ (by rw [stopN, hm]; rfl)
  | false =>
    rw [ite2_z (by decide)]
    cases Q with
    | false =>
      rw [ite2_p (yn_f (by decide))]
      exact hno _ (by rw [stopN, hm]; rfl)
    | true =>
      rw [ite2_y (rfl : true = true), h0]
      by_cases k5 : K = 5
      · rw [ite2_p (show nI K = 5 by rw [k5]; rfl)]
        exact hyes _ (by rw [stopN, hm, k5]; rfl)
      · rw [ite2_n (fun e => k5 ((nI_k K hK).2.2.2.2.mp e))]
        exact hno _ (by rw [stopN, hm]; simp [k5])
/-- makeStep -/
theorem e_makeStep {σ : ns_St} {a g K N p C b : Nat} (hk : ns_kd a = 2) (hg : ns_kd g = 1) (hK : K ≤ 5) (hp : p < 63) (hN : N < 2 ^ 29) (hC : C < 2 ^ 28) (hb : b < 100) (h0 : σ.1 a 0 = nI K) (h1 : σ.1 a 1 = nI N) (h2 : σ.1 a 2 = nI p) (h3 : σ.1 a 3 = nI C) (h7 : σ.1 a 7 = nI (wtK K)) :
    g_Mule_makeStep σ a g (nI b) = some (yn ((stN K N C (gb (σ.2.1 g 1) (p + 1)) (gb (σ.2.1 g 2) (p + 1)) (gb (σ.2.1 g 3) (p + 1)) b).2.2 = true), s3 σ a 1 (nI (stN K N C (gb (σ.2.1 g 1) (p + 1)) (gb (σ.2.1 g 2) (p + 1)) (gb (σ.2.1 g 3) (p + 1)) b).1) (nI (p + 1)) (nI (stN K N C (gb (σ.2.1 g 1) (p + 1)) (gb (σ.2.1 g 2) (p + 1)) (gb (σ.2.1 g 3) (p + 1)) b).2.1)) := by
  have hw : wtK K ≤ 1 := by unfold wtK; split <;> omega
  have h51 : ∀ C' : Nat, C' < 2 ^ 29 → ∀ τ : ns_St, τ = s3 σ a 1 (nI N) (nI (p + 1)) (nI C') → g_Mule_makeStep_51 τ a g = some (yn (stopN K N C' (gb (σ.2.1 g 2) (p + 1)) (gb (σ.2.1 g 3) (p + 1)) = true), s3 σ a 1 (nI (if (gb (σ.2.1 g 2) (p + 1) && decide (K = 4)) = true then (if 2 * N < 64 then 2 * N else 64) else N)) (nI (p + 1)) (nI (if stopN K N C' (gb (σ.2.1 g 2) (p + 1)) (gb (σ.2.1 g 3) (p + 1)) = true then 0 else C'))) := by
    intro C' hC' τ hτ
    have t0 : τ.1 a 0 = nI K := by rw [hτ, s3_go _ _ _ _ _ _ (by omega)]; exact h0
    have t1 : τ.1 a 1 = nI N := by rw [hτ]; exact s3_g1 _ _ _ _ _ _
    have t2 : τ.1 a 2 = nI (p + 1) := by rw [hτ]; exact s3_g2 _ _ _ _ _ _
    have t3 : τ.1 a 3 = nI C' := by rw [hτ]; exact s3_g3 _ _ _ _ _ _
    have tJ : τ.2.1 = σ.2.1 := by rw [hτ]; rfl
    have key : ∀ Q : Bool, gb (σ.2.1 g 2) (p + 1) = Q → g_Mule_makeStep_72 τ (yn (Q = true)) a g = some (yn (stopN K N C' (gb (σ.2.1 g 2) (p + 1)) (gb (σ.2.1 g 3) (p + 1)) = true), s3 σ a 1 (nI (if (gb (σ.2.1 g 2) (p + 1) && decide (K = 4)) = true then (if 2 * N < 64 then 2 * N else 64) else N)) (nI (p + 1)) (nI (if stopN K N C' (gb (σ.2.1 g 2) (p + 1)) (gb (σ.2.1 g 3) (p + 1)) = true then 0 else C'))) := by
      intro Q hQ
      rw [e_ms72 (K := K) (N := N) (p := p + 1) (C := C') hk hg Q hK (by omega) hN hC' t0 t1 t2 t3, tJ, hQ, hτ, s3_s3]
    unfold g_Mule_makeStep_51
    rw [t2, tJ]
    cases hi : gb (σ.2.1 g 2) (p + 1) with
    | false =>
      rw [ite2_p ((ns_bc (by omega)).mpr hi)]
      have := key false hi
      rw [hi] at this
      exact this
    | true =>
      rw [ite2_n (fun e => by rw [(ns_bc (by omega)).mp e] at hi; cases hi)]
      have := key true hi
      rw [hi] at this
      exact this
  unfold g_Mule_makeStep
  rw [grd_t hk, grd_t hg, ev_bnd, h2, ← nI_succ, s3_i2 (i := 1) h1 h2 h3, ev_bnd]
  have e3 : (s3 σ a 1 (nI N) (nI (p + 1)) (nI C)).1 a 3 = nI C := s3_g3 _ _ _ _ _ _
  have ec : nI C + ((1 : Int32) + nI b) = nI (C + (1 + b)) := by rw [show (1 : Int32) = nI 1 from rfl, nI_add, nI_add]
  rw [e3, ec, (s3_put σ a 1 (nI N) (nI (p + 1)) (nI C) (nI (C + (1 + b)))).2.2]
  have e2 : (s3 σ a 1 (nI N) (nI (p + 1)) (nI (C + (1 + b)))).1 a 2 = nI (p + 1) := s3_g2 _ _ _ _ _ _
  have e3' : (s3 σ a 1 (nI N) (nI (p + 1)) (nI (C + (1 + b)))).1 a 3 = nI (C + (1 + b)) := s3_g3 _ _ _ _ _ _
  have e7 : (s3 σ a 1 (nI N) (nI (p + 1)) (nI (C + (1 + b)))).1 a 7 = nI (wtK K) := by rw [s3_go _ _ _ _ _ _ (by omega)]; exact h7
  rw [e2, s3_J]
  cases hs : gb (σ.2.1 g 1) (p + 1) with
  | false =>
    rw [ite2_p ((ns_bc (by omega)).mpr hs), h51 (C + (1 + b)) (by omega) _ rfl]
    rfl
  | true =>
    rw [ite2_n (fun e => by rw [(ns_bc (by omega)).mp e] at hs; cases hs), ev_bnd, e3', e7, nI_add, (s3_put σ a 1 (nI N) (nI (p + 1)) (nI (C + (1 + b))) (nI (C + (1 + b) + wtK K))).2.2, h51 (C + (1 + b) + wtK K) (by omega) _ rfl]
    rfl
/-! the reference's STEP -/
theorem e_isThere {σ : ns_St} {g1 g2 : Option Nat} (hR : σ.2.2 = ns_rg g1 g2) {p : Nat} (hp : p ≤ 60) (b : Int32) : g_M_isThere σ 65 (nI p) b = some (yn (tb (σ.1 69 p) b = true), σ) := by
  have hin : ns_in (nI p) (ns_ln 69) := ns_inI (show p < 61 by omega) (by decide)
  unfold g_M_isThere
  simp only [gk_65, hR, rg_65_4, ev_drf, gk_69, grd_t hin]
  rw [ns_ixI (by omega)]
  by_cases h : σ.1 69 p &&& b = 0
  · rw [ite2_p h, yn_f (by simp [tb, h])]
  · rw [ite2_n h, yn_t (by simp [tb, h])]
theorem e_stopsHere {σ : ns_St} {g1 g2 : Option Nat} (hR : σ.2.2 = ns_rg g1 g2) {K N p C : Nat} (hK : K ≤ 5) (hp : p ≤ 60) (hN : N < 2 ^ 29) (hC : C < 2 ^ 29) (h0 : σ.1 65 25 = nI K) (h1 : σ.1 65 26 = nI N) (h2 : σ.1 65 27 = nI p) (h3 : σ.1 65 28 = nI C) :
    g_M_stopsHere σ 65 = some (yn ((decide (N ≤ C) && !(decide (K = 3) && tb (σ.1 69 p) 4)) = true), s3 σ 65 26 (nI N) (nI p) (nI (if (decide (N ≤ C) && !(decide (K = 3) && tb (σ.1 69 p) 4)) = true then 0 else C))) := by
  unfold g_M_stopsHere
  rw [gk_65, h3, h1, h0, h2]
  by_cases hlt : C < N
  · have hf : ¬ (decide (N ≤ C) && !(decide (K = 3) && tb (σ.1 69 p) 4)) = true := by simp; omega
    rw [ite2_p (nI_lt hlt (by omega)), yn_f hf, if_neg hf, s3_self h1 h2 h3]
  · rw [ite2_n (nI_nlt (by omega) (by omega))]
    by_cases k3 : K = 3
    · rw [ite2_p ((nI_k K hK).2.2.1.mpr k3), e_isThere hR hp, ev_cl2]
      cases hb : tb (σ.1 69 p) 4 with
      | false =>
        have ht : (decide (N ≤ C) && !(decide (K = 3) && false)) = true := by simp; omega
        rw [ite2_z (by decide), ev_bnd, yn_t ht, if_pos ht, s3_i3 (i := 26) h1 h2 h3]
        rfl
      | true =>
        have hf : ¬ (decide (N ≤ C) && !(decide (K = 3) && true)) = true := by simp [k3]
        rw [ite2_y (rfl : true = true), yn_f hf, if_neg hf, s3_self h1 h2 h3]
    · have ht : (decide (N ≤ C) && !(decide (K = 3) && tb (σ.1 69 p) 4)) = true := by simp [k3]; omega
      rw [ite2_n (fun e => k3 ((nI_k K hK).2.2.1.mp e)), ev_bnd, yn_t ht, if_pos ht, s3_i3 (i := 26) h1 h2 h3]
      rfl
theorem e_st98 {σ : ns_St} {g1 g2 : Option Nat} (hR : σ.2.2 = ns_rg g1 g2) {K N p C : Nat} (hK : K ≤ 5) (hp : p ≤ 60) (hN : N < 2 ^ 29) (h0 : σ.1 65 25 = nI K) (h1 : σ.1 65 26 = nI N) (h2 : σ.1 65 27 = nI p) (h3 : σ.1 65 28 = nI C) (P : Bool) :
    g_M_stepped_98 σ 65 (yn (P = true)) = some (yn (P = true), s3 σ 65 26 (nI (if (tb (σ.1 69 p) 2 && decide (K = 4)) = true then (if 2 * N < 64 then 2 * N else 64) else N)) (nI p) (nI C)) := by
  unfold g_M_stepped_98
  rw [h0, h2]
  by_cases k4 : K = 4
  · rw [ite2_p ((nI_k K hK).2.2.2.1.mpr k4), e_isThere hR hp, ev_cl2]
    cases hb : tb (σ.1 69 p) 2 with
    | false => rw [ite2_z (by decide), grd_y, if_neg (show ¬ (false && decide (K = 4)) = true by simp), s3_self h1 h2 h3]
    | true => rw [ite2_y (rfl : true = true), e_min, ev_cl2, ev_bnd, grd_y, h1, dbl hN, if_pos (show (true && decide (K = 4)) = true by simp [k4]), s3_i1 h1 h2 h3]
  · rw [ite2_n (fun e => k4 ((nI_k K hK).2.2.2.1.mp e)), grd_y, if_neg (show ¬ (tb (σ.1 69 p) 2 && decide (K = 4)) = true by simp [k4]), s3_self h1 h2 h3]
theorem e_st66 {σ : ns_St} {g1 g2 : Option Nat} (hR : σ.2.2 = ns_rg g1 g2) {K N p C : Nat} (hK : K ≤ 5) (hp : p ≤ 60) (hN : N < 2 ^ 29) (hC : C < 2 ^ 29) (h0 : σ.1 65 25 = nI K) (h1 : σ.1 65 26 = nI N) (h2 : σ.1 65 27 = nI p) (h3 : σ.1 65 28 = nI C) :
    g_M_stepped_66 σ 65 = some (yn (stopN K N C (tb (σ.1 69 p) 2) (tb (σ.1 69 p) 4) = true), s3 σ 65 26 (nI (if (tb (σ.1 69 p) 2 && decide (K = 4)) = true then (if 2 * N < 64 then 2 * N else 64) else N)) (nI p) (nI (if stopN K N C (tb (σ.1 69 p) 2) (tb (σ.1 69 p) 4) = true then 0 else C))) := by
  unfold g_M_stepped_66
  rw [e_stopsHere hR hK hp hN hC h0 h1 h2 h3, ev_cl2]
  generalize hP : (decide (N ≤ C) && !(decide (K = 3) && tb (σ.1 69 p) 4)) = P
  have q0 : ∀ (w : Int32), (s3 σ 65 26 (nI N) (nI p) w).1 65 25 = nI K := fun w => by rw [s3_go _ _ _ _ _ _ (by omega)]; exact h0
  have q2 : ∀ (w : Int32), (s3 σ 65 26 (nI N) (nI p) w).1 65 27 = nI p := fun w => s3_g2 _ _ _ _ _ _
  have q69 : ∀ (w : Int32), (s3 σ 65 26 (nI N) (nI p) w).1 69 = σ.1 69 := fun w => s3_ne _ _ _ _ _ (by decide)
  rw [q0, q2]
  by_cases k5 : K = 5
  · rw [ite2_p ((nI_k K hK).2.2.2.2.mpr k5), e_isThere (σ := s3 σ 65 26 (nI N) (nI p) (nI (if P = true then 0 else C))) hR hp, ev_cl2, q69]
    cases hb : tb (σ.1 69 p) 2 with
    | false =>
      have es : stopN K N C false (tb (σ.1 69 p) 4) = P := by rw [stopN, hP]; simp
      rw [ite2_z (by decide), es]
      have := e_st98 (σ := s3 σ 65 26 (nI N) (nI p) (nI (if P = true then 0 else C))) hR hK hp hN (q0 _) (s3_g1 _ _ _ _ _ _) (s3_g2 _ _ _ _ _ _) (s3_g3 _ _ _ _ _ _) P
      rw [this, q69, hb, s3_s3]
    | true =>
      have es : stopN K N C true (tb (σ.1 69 p) 4) = true := by rw [stopN]; simp [k5]
      rw [ite2_y (rfl : true = true), ev_bnd, (s3_put σ 65 26 (nI N) (nI p) (nI (if P = true then 0 else C)) 0).2.2, es, if_pos (rfl : true = true)]
      have := e_st98 (σ := s3 σ 65 26 (nI N) (nI p) (nI 0)) hR hK hp hN (q0 _) (s3_g1 _ _ _ _ _ _) (s3_g2 _ _ _ _ _ _) (s3_g3 _ _ _ _ _ _) true
      rw [q69, hb, s3_s3] at this
      exact this
  · have es : stopN K N C (tb (σ.1 69 p) 2) (tb (σ.1 69 p) 4) = P := by rw [stopN, hP]; simp [k5]
    rw [ite2_n (fun e => k5 ((nI_k K hK).2.2.2.2.mp e)), es]
    have := e_st98 (σ := s3 σ 65 26 (nI N) (nI p) (nI (if P = true then 0 else C))) hR hK hp hN (q0 _) (s3_g1 _ _ _ _ _ _) (s3_g2 _ _ _ _ _ _) (s3_g3 _ _ _ _ _ _) P
    rw [this, q69, s3_s3]
/-- stepped -/
theorem e_stepped {σ : ns_St} {g1 g2 : Option Nat} (hR : σ.2.2 = ns_rg g1 g2) {K N p C b : Nat} (hK : K ≤ 5) (hp : p < 60) (hN : N < 2 ^ 29) (hC : C < 2 ^ 28) (hb : b = 0 ∨ b = 1) (h0 : σ.1 65 25 = nI K) (h1 : σ.1 65 26 = nI N) (h2 : σ.1 65 27 = nI p) (h3 : σ.1 65 28 = nI C) :
    g_M_stepped σ 65 (nI b) = some (yn ((stN K N C (tb (σ.1 69 (p + 1)) 1) (tb (σ.1 69 (p + 1)) 2) (tb (σ.1 69 (p + 1)) 4) b).2.2 = true), s3 σ 65 26 (nI (stN K N C (tb (σ.1 69 (p + 1)) 1) (tb (σ.1 69 (p + 1)) 2) (tb (σ.1 69 (p + 1)) 4) b).1) (nI (p + 1)) (nI (stN K N C (tb (σ.1 69 (p + 1)) 1) (tb (σ.1 69 (p + 1)) 2) (tb (σ.1 69 (p + 1)) 4) b).2.1)) := by
  have q0 : ∀ (w : Int32), (s3 σ 65 26 (nI N) (nI (p + 1)) w).1 65 25 = nI K := fun w => by rw [s3_go _ _ _ _ _ _ (by omega)]; exact h0
  have q69 : ∀ (w : Int32), (s3 σ 65 26 (nI N) (nI (p + 1)) w).1 69 = σ.1 69 := fun w => s3_ne _ _ _ _ _ (by decide)
  -- what follows once it is known how far COUNT goes
  have h48 : ∀ d : Nat, d ≤ 2 → cnN K C (tb (σ.1 69 (p + 1)) 1) b = C + d + b → g_M_stepped_48 (s3 σ 65 26 (nI N) (nI (p + 1)) (nI C)) 65 (nI C) (nI d) 65 (nI b) = some (yn ((stN K N C (tb (σ.1 69 (p + 1)) 1) (tb (σ.1 69 (p + 1)) 2) (tb (σ.1 69 (p + 1)) 4) b).2.2 = true), s3 σ 65 26 (nI (stN K N C (tb (σ.1 69 (p + 1)) 1) (tb (σ.1 69 (p + 1)) 2) (tb (σ.1 69 (p + 1)) 4) b).1) (nI (p + 1)) (nI (stN K N C (tb (σ.1 69 (p + 1)) 1) (tb (σ.1 69 (p + 1)) 2) (tb (σ.1 69 (p + 1)) 4) b).2.1)) := by
    intro d hd hcn
    have fin : ∀ c' : Nat, c' = C + d + b → g_M_stepped_66 (s3 σ 65 26 (nI N) (nI (p + 1)) (nI c')) 65 = some (yn ((stN K N C (tb (σ.1 69 (p + 1)) 1) (tb (σ.1 69 (p + 1)) 2) (tb (σ.1 69 (p + 1)) 4) b).2.2 = true), s3 σ 65 26 (nI (stN K N C (tb (σ.1 69 (p + 1)) 1) (tb (σ.1 69 (p + 1)) 2) (tb (σ.1 69 (p + 1)) 4) b).1) (nI (p + 1)) (nI (stN K N C (tb (σ.1 69 (p + 1)) 1) (tb (σ.1 69 (p + 1)) 2) (tb (σ.1 69 (p + 1)) 4) b).2.1)) := by
      intro c' hc'
      rw [e_st66 (σ := s3 σ 65 26 (nI N) (nI (p + 1)) (nI c')) hR hK (by omega : p + 1 ≤ 60) hN (by omega : c' < 2 ^ 29) (q0 _) (s3_g1 _ _ _ _ _ _) (s3_g2 _ _ _ _ _ _) (s3_g3 _ _ _ _ _ _), q69, s3_s3]
      unfold stN
      rw [hcn, hc']
    unfold g_M_stepped_48
    rw [ev_bnd, nI_add, (s3_put σ 65 26 (nI N) (nI (p + 1)) (nI C) (nI (C + d))).2.2]
    rcases hb with rfl | rfl
    · rw [ite2_p (show nI 0 = (0 : Int32) from rfl)]
      exact fin _ rfl
    · rw [ite2_n (show ¬ nI 1 = (0 : Int32) by decide), ev_bnd]
      have e3 : (s3 σ 65 26 (nI N) (nI (p + 1)) (nI (C + d))).1 65 28 = nI (C + d) := s3_g3 _ _ _ _ _ _
      rw [e3, ← nI_succ, (s3_put σ 65 26 (nI N) (nI (p + 1)) (nI (C + d)) (nI (C + d + 1))).2.2]
      exact fin _ rfl
  unfold g_M_stepped
  rw [gk_65, ev_bnd, h2, ← nI_succ, s3_i2 (i := 26) h1 h2 h3]
  have e2 : (s3 σ 65 26 (nI N) (nI (p + 1)) (nI C)).1 65 27 = nI (p + 1) := s3_g2 _ _ _ _ _ _
  have e3 : (s3 σ 65 26 (nI N) (nI (p + 1)) (nI C)).1 65 28 = nI C := s3_g3 _ _ _ _ _ _
  rw [e2, e3, e_isThere (σ := s3 σ 65 26 (nI N) (nI (p + 1)) (nI C)) hR (by omega : p + 1 ≤ 60), ev_cl2, q69, q0]
  have one : cnN K C (tb (σ.1 69 (p + 1)) 1) b = C + 1 + b → g_M_stepped_47 (s3 σ 65 26 (nI N) (nI (p + 1)) (nI C)) 65 (nI C) 65 (nI b) = _ := fun hcn => by
    unfold g_M_stepped_47
    exact h48 1 (by omega) hcn
  cases hs : tb (σ.1 69 (p + 1)) 1 with
  | false =>
    rw [ite2_z (by decide)]
    rw [hs] at one
    exact one (by unfold cnN; simp; omega)
  | true =>
    rw [ite2_y (rfl : true = true)]
    rw [hs] at one h48
    by_cases k2 : K = 2
    · rw [ite2_p ((nI_k K hK).2.1.mpr k2)]
      exact one (by unfold cnN wtK; simp [k2]; omega)
    · rw [ite2_n (fun e => k2 ((nI_k K hK).2.1.mp e))]
      by_cases k5 : K = 5
      · rw [ite2_p ((nI_k K hK).2.2.2.2.mpr k5)]
        exact one (by unfold cnN wtK; simp [k5]; omega)
      · rw [ite2_n (fun e => k5 ((nI_k K hK).2.2.2.2.mp e))]
        exact h48 2 (by omega) (by unfold cnN wtK; simp [k2, k5]; omega)
