/-! TURNS: the class's plan -/
theorem e_capped {τ : ns_St} {a n m : Nat} (hk : ns_kd a = 2) (hn : n < 2 ^ 31) (hm : m < 2 ^ 31) (h1 : τ.1 a 1 = nI n) (h3 : τ.1 a 3 = nI m) : g_Mule_cappedCount τ a = some (nI (cap n m), τ) := by
  unfold g_Mule_cappedCount
  have e1 : g_Math_min τ (nI n) (63 : Int32) = some (nI (min n 63), τ) := e_minNN (b := 63) hn (by decide)
  rw [grd_t hk, h1, e1, ev_cl2, h3, e_minNN hm (by omega), ev_cl2]
  rfl
theorem e_cellOf {τ : ns_St} {p c : Nat} (hp : p ≤ 60) (hc : c ≤ 63) : g_TurnPlan_cellOf τ (nI p) (nI c) = some (nI (64 * p + c), τ) := by
  have e1 : g_Math_min τ (nI p) (60 : Int32) = some (nI p, τ) := by have := e_minNN (σ := τ) (a := p) (b := 60) (by omega) (by decide); rw [Nat.min_eq_left hp] at this; exact this
  have e2 : ∀ x, x < 2 ^ 31 → g_Math_max τ (0 : Int32) (nI x) = some (nI x, τ) := fun x hx => by have := e_maxN (σ := τ) (a := 0) (b := x) (by decide) hx; rw [Nat.max_eq_right (by omega)] at this; exact this
  have e3 : g_Math_min τ (nI c) (63 : Int32) = some (nI c, τ) := by have := e_minNN (σ := τ) (a := c) (b := 63) (by omega) (by decide); rw [Nat.min_eq_left hc] at this; exact this
  unfold g_TurnPlan_cellOf
  rw [e1, ev_cl2, e2 p (by omega), ev_cl2, e3, ev_cl2, e2 c (by omega), ev_cl2, show (64 : Int32) = nI 64 from rfl, pk_mul, nI_add, Nat.mul_comm p 64]
/-- memories that differ in NUMBER, PLACE and COUNT of one MULE -/
def O3 (c : Nat) (σ τ : ns_St) : Prop := τ.2 = σ.2 ∧ (∀ b, b ≠ c → τ.1 b = σ.1 b) ∧ ∀ i, ¬ (1 ≤ i ∧ i ≤ 3) → τ.1 c i = σ.1 c i
theorem O3.rfl (c : Nat) (σ : ns_St) : O3 c σ σ := ⟨Eq.refl _, fun _ _ => Eq.refl _, fun _ _ => Eq.refl _⟩
theorem O3.trans {c : Nat} {x y z : ns_St} (h1 : O3 c x y) (h2 : O3 c y z) : O3 c x z := ⟨h2.1.trans h1.1, fun b hb => (h2.2.1 b hb).trans (h1.2.1 b hb), fun i hi => (h2.2.2 i hi).trans (h1.2.2 i hi)⟩
theorem O3.s3 {c : Nat} {σ : ns_St} {v1 v2 v3 : Int32} : O3 c σ (s3 σ c 1 v1 v2 v3) := ⟨Eq.refl _, fun b hb => s3_ne σ 1 v1 v2 v3 hb, fun i hi => s3_go _ _ _ _ _ _ (by omega)⟩
theorem O3.on {c : Nat} {σ τ : ns_St} (h : O3 c σ τ) : On c σ τ := ⟨h.1, h.2.1⟩
theorem scr34 : scr 34 := by unfold scr; omega
theorem scr33 : scr 33 := by unfold scr; omega
theorem scr32 : scr 32 := by unfold scr; omega
theorem scr31 : scr 31 := by unfold scr; omega
/-- what the plan needs of NUMBERS -/
def NN (K N : Nat) : Prop := 2 ≤ N ∧ N ≤ 64 ∧ (K ≠ 4 → N ≤ 13) ∧ K ≤ 5
theorem NN.t13 {K N : Nat} (h : NN K N) {th : Nat → Int32} {A : Nat} (k : Nat) (k3 : K = 3) : nbk th K A N k ≤ 13 := by
  rw [nbk_3 (by omega)]; exact h.2.2.1 (by omega)
def TP (σ τ : ns_St) (th : Nat → Int32) (g2 : Option Nat) (E K A N fc : Nat) : Prop := Same σ τ ∧ τ.2.2 = ns_rg (some 2) g2 ∧ τ.1 31 4 = nI A ∧ τ.1 31 5 = nI fc ∧ τ.1 34 0 = nI K ∧ τ.1 34 7 = nI (wtK K) ∧ ∀ k, A + k ≤ E → τ.1 33 (A + k) = nI (nbk th K A N k)
theorem TP.o3 {σ τ τ' : ns_St} {th : Nat → Int32} {g2 : Option Nat} {E K A N fc : Nat} (h : TP σ τ th g2 E K A N fc) (o : O3 34 τ τ') : TP σ τ' th g2 E K A N fc := by
  obtain ⟨h1, h2, h3, h4, h5, h6, h7⟩ := h
  refine ⟨h1.trans (o.on.same scr34), by rw [o.1]; exact h2, by rw [o.2.1 31 (by decide)]; exact h3, by rw [o.2.1 31 (by decide)]; exact h4, by rw [o.2.2 0 (by omega)]; exact h5, by rw [o.2.2 7 (by omega)]; exact h6, fun k hk => by rw [o.2.1 33 (by decide)]; exact h7 k hk⟩
theorem TP.tab {σ τ : ns_St} {th : Nat → Int32} {g2 : Option Nat} {E K A N fc : Nat} (h : TP σ τ th g2 E K A N fc) (i : Nat) (v : Int32) : TP σ (ns_pI τ 32 i v) th g2 E K A N fc := by
  obtain ⟨h1, h2, h3, h4, h5, h6, h7⟩ := h
  refine ⟨h1.trans (Same.pI scr32), h2, by rw [pI_ne _ _ _ (by decide)]; exact h3, by rw [pI_ne _ _ _ (by decide)]; exact h4, by rw [pI_ne _ _ _ (by decide)]; exact h5, by rw [pI_ne _ _ _ (by decide)]; exact h6, fun k hk => by rw [pI_ne _ _ _ (by decide)]; exact h7 k hk⟩
/-- the plan's table from k STEPS on -/
def TT (τ : ns_St) (th : Nat → Int32) (E K A N k0 : Nat) : Prop := ∀ k, k0 ≤ k → A + k ≤ E → ∀ c, c ≤ 63 → (A + k < E → c ≤ nbk th K A N k) → τ.1 32 (64 * (A + k) + c) = nI (Mv th K A N (E - A - k) k c)
theorem TT.o3 {τ τ' : ns_St} {th : Nat → Int32} {E K A N k0 : Nat} (h : TT τ th E K A N k0) (o : O3 34 τ τ') : TT τ' th E K A N k0 := fun k h1 h2 c h3 h4 => by rw [o.2.1 32 (by decide)]; exact h k h1 h2 c h3 h4
theorem e_hasSeen {σ τ : ns_St} {th : Nat → Int32} {g2 : Option Nat} {E K A N fc k c : Nat} (hP : TP σ τ th g2 E K A N fc) (hG : GR σ 2 th E) (hk : A + k ≤ E) (hc : c < 2 ^ 31) : g_TurnPlan_hasSeen τ 31 (nI (A + k)) (nI c) = some (yn (seen th A k c = true), τ) := by
  have h60 := hG.2.2.1
  have hG' : GR τ 2 th E := hG.cong (hP.1.lo (by omega)) (hP.1.2.2.1 2 (nscr_w1 (by omega)))
  unfold g_TurnPlan_hasSeen
  rw [gk_31, hP.2.2.1]
  unfold seen
  by_cases q : k = 0
  · rw [ite2_p (by rw [q]; rfl), yn_t (by rw [decide_eq_true q]; rfl)]
  · rw [ite2_n (fun e => by have := (nI_eq (by omega) (by omega)).mp e; omega)]
    by_cases q2 : c = 0
    · rw [ite2_p (by rw [q2]; rfl), yn_t (by rw [decide_eq_true q2]; simp)]
    · rw [ite2_n (nI_ne0 (by omega) hc), hP.2.1, rg_31_3, ev_drf, gk_2, e_isIn (by omega), ev_cl2, (hG'.bits hk).2.2.2, decide_eq_false q, decide_eq_false q2]
      cases hv : tb (th (A + k)) 8 with
      | false => rw [ite2_z (by decide), yn_t (by decide)]
      | true => rw [ite2_y (Eq.refl true), yn_f (by decide)]
theorem e_nw26 {σ : ns_St} {th : Nat → Int32} {g2 : Option Nat} {E K A N fc k R : Nat} (hN : NN K N) (hG : GR σ 2 th E) (hk : A + k + (R + 1) = E) : ∀ (j i f : Nat) (τ : ns_St) (c : Nat) (h : Bool), j < f → i + j ≤ 3 → c + j < 2 ^ 27 → TP σ τ th g2 E K A N fc → TT τ th E K A N (k + 1) → τ.1 34 1 = nI (nbk th K A N k) → τ.1 34 2 = nI (A + k) → τ.1 34 3 = nI c →
    ∃ τ', g_TurnPlan_needWith_26 f τ 31 (nI (A + k)) (nI (i + j)) (yn (h = true)) (nI i) = some (nI (nw th K A N k (Mv th K A N R (k + 1)) j i c h), τ') ∧ O3 34 τ τ' ∧ (nw th K A N k (Mv th K A N R (k + 1)) j i c h < 1000 → τ'.1 34 1 = nI (nbk th K A N (k + 1)) ∧ τ'.1 34 3 = nI (nct th K A N k j c)) := by
  have h60 := hG.2.2.1
  have nb := nbk_b (th := th) (K := K) (A := A) hN.1 hN.2.1 k
  have nb1 := nbk_b (th := th) (K := K) (A := A) hN.1 hN.2.1 (k + 1)
  intro j
  induction j with
  | zero =>
    intro i f τ c h hf hij hc hP hT h1 h2 h3
    obtain ⟨f, rfl⟩ : ∃ q, f = q + 1 := ⟨f - 1, by omega⟩
    have hG' : GR τ 2 th E := hG.cong (hP.1.lo (by omega)) (hP.1.2.2.1 2 (nscr_w1 (by omega)))
    obtain ⟨b1, b2, b3, b4⟩ := hG'.bits (p := A + k + 1) (by omega)
    have e := e_makeStep (σ := τ) (a := 34) (g := 2) (K := K) (N := nbk th K A N k) (p := A + k) (C := c) (b := 0) kd_34 kd_2 hN.2.2.2 (by omega) (by omega) (by omega) (by omega) hP.2.2.2.2.1 h1 h2 h3 hP.2.2.2.2.2.1
    rw [b1, b2, b3] at e
    have e' : g_Mule_makeStep τ 34 2 (0 : Int32) = some (yn ((sg th K (nbk th K A N k) c (A + k + 1) 0).2.2 = true), s3 τ 34 1 (nI (nbk th K A N (k + 1))) (nI (A + k + 1)) (nI (sg th K (nbk th K A N k) c (A + k + 1) 0).2.1)) := e
    have hcb : (sg th K (nbk th K A N k) c (A + k + 1) 0).2.1 ≤ c + 2 := stN_C
    have hcap : Eq' K (nbk th K A N (k + 1)) (cap (nbk th K A N (k + 1)) (sg th K (nbk th K A N k) c (A + k + 1) 0).2.1) (sg th K (nbk th K A N k) c (A + k + 1) 0).2.1 := cap_eq nb1.2 (fun k3 => stN_nc nb.1 nb.2 k3) (fun k3 => hN.t13 (k + 1) k3)
    generalize hT' : s3 τ 34 1 (nI (nbk th K A N (k + 1))) (nI (A + k + 1)) (nI (sg th K (nbk th K A N k) c (A + k + 1) 0).2.1) = T at e'
    have oT : O3 34 τ T := by rw [← hT']; exact O3.s3
    have T1 : T.1 34 1 = nI (nbk th K A N (k + 1)) := by rw [← hT']; exact s3_g1 _ _ _ _ _ _
    have Tp : T.1 34 2 = nI (A + k + 1) := by rw [← hT']; exact s3_g2 _ _ _ _ _ _
    have T3 : T.1 34 3 = nI (sg th K (nbk th K A N k) c (A + k + 1) 0).2.1 := by rw [← hT']; exact s3_g3 _ _ _ _ _ _
    have hPT := hP.o3 oT
    have hTT := hT.o3 oT
    refine ⟨T, ?_, oT, fun _ => ⟨T1, T3⟩⟩
    -- what comes of it
    have f113 : ∀ s0 : Bool, (s0 = ((sg th K (nbk th K A N k) c (A + k + 1) 0).2.2 && tb (th (A + k + 1)) 4)) → g_TurnPlan_needWith_113 T (yn (s0 = true)) 31 (nI (A + k)) (nI i) (yn (h = true)) = some (nI (nw th K A N k (Mv th K A N R (k + 1)) 0 i c h), T) := by
      intro s0 hs0
      unfold g_TurnPlan_needWith_113
      rw [nw, opv, ← hs0]
      cases h with
      | false => rw [ite2_z (by decide), if_neg (by simp)]; rfl
      | true =>
        rw [ite2_y (Eq.refl true)]
        cases s0 with
        | true => rw [ite2_y (Eq.refl true), if_neg (by decide)]; rfl
        | false =>
          have hcap63 : cap (nbk th K A N (k + 1)) (sg th K (nbk th K A N k) c (A + k + 1) 0).2.1 ≤ 63 := by unfold cap; omega
          have hcapn : cap (nbk th K A N (k + 1)) (sg th K (nbk th K A N k) c (A + k + 1) 0).2.1 ≤ nbk th K A N (k + 1) := by unfold cap; omega
          have tv := hTT (k + 1) (by omega) (by omega) _ hcap63 (fun _ => hcapn)
          rw [show E - A - (k + 1) = R by omega, Mv_eq hN.1 hN.2.1 R (k + 1) _ _ hcap] at tv
          have i32 : ns_in (nI (64 * (A + (k + 1)) + cap (nbk th K A N (k + 1)) (sg th K (nbk th K A N k) c (A + k + 1) 0).2.1)) (ns_ln 32) := ns_inI (show _ < 3904 by omega) (by decide)
          have ml := Mv_le (th := th) (K := K) (A := A) (N := N) R (k + 1) (sg th K (nbk th K A N k) c (A + k + 1) 0).2.1
          have emin : ∀ x, x < 2 ^ 31 → g_Math_min T (1000 : Int32) (nI x) = some (nI (min 1000 x), T) := fun x hx => e_minNN (a := 1000) (by decide) hx
          rw [ite2_z (by decide), hPT.2.1, rg_31_0, ev_drf, gk_32, rg_31_2, ev_drf, gk_34, e_capped kd_34 (by omega) (by omega) T1 T3, ev_cl2, ← nI_succ, e_cellOf (by omega) hcap63, ev_cl2]
          have tv' : T.1 32 (64 * (A + k + 1) + cap (nbk th K A N (k + 1)) (sg th K (nbk th K A N k) c (A + k + 1) 0).2.1) = _ := tv
          have i32' : ns_in (nI (64 * (A + k + 1) + cap (nbk th K A N (k + 1)) (sg th K (nbk th K A N k) c (A + k + 1) 0).2.1)) (ns_ln 32) := i32
          rw [grd_t i32', ns_ixI (by omega), tv', nI_add, emin _ (by omega), ev_cl2, if_pos (by decide)]
    rw [g_TurnPlan_needWith_26, ite2_p (nI_le (by omega) (by omega)), hP.2.1, rg_31_2, ev_drf, gk_34, rg_31_3, ev_drf, gk_2, e', ev_cl2]
    have hJT : T.2.1 = τ.2.1 := by rw [oT.1]
    cases hst : (sg th K (nbk th K A N k) c (A + k + 1) 0).2.2 with
    | false =>
      rw [ite2_z (by decide)]
      unfold g_TurnPlan_needWith_112
      exact f113 false (by rw [hst]; rfl)
    | true =>
      rw [ite2_y (Eq.refl true), hPT.2.1, rg_31_3, ev_drf, gk_2, rg_31_2, ev_drf, gk_34, Tp, e_isIn (by omega), ev_cl2, hJT, b3]
      cases hcl : tb (th (A + k + 1)) 4 with
      | false =>
        rw [ite2_z (by decide)]
        unfold g_TurnPlan_needWith_112
        exact f113 false (by rw [hst, hcl]; rfl)
      | true =>
        rw [ite2_y (Eq.refl true)]
        exact f113 true (by rw [hst, hcl]; rfl)
  | succ j ih =>
    intro i f τ c h hf hij hc hP hT h1 h2 h3
    obtain ⟨f, rfl⟩ : ∃ q, f = q + 1 := ⟨f - 1, by omega⟩
    have hG' : GR τ 2 th E := hG.cong (hP.1.lo (by omega)) (hP.1.2.2.1 2 (nscr_w1 (by omega)))
    obtain ⟨b1, b2, b3, b4⟩ := hG'.bits (p := A + k) (by omega)
    have e := e_makeTurn (σ := τ) (a := 34) (g := 2) (K := K) (N := nbk th K A N k) (p := A + k) (C := c) kd_34 kd_2 hN.2.2.2 (by omega) (by omega) (by omega) hP.2.2.2.2.1 h1 h2 h3
    rw [b3] at e
    generalize hT' : s3 τ 34 1 (nI (nbk th K A N k)) (nI (A + k)) (nI (tct K (nbk th K A N k) c (tb (th (A + k)) 4))) = T at e
    have oT : O3 34 τ T := by rw [← hT']; exact O3.s3
    have T1 : T.1 34 1 = nI (nbk th K A N k) := by rw [← hT']; exact s3_g1 _ _ _ _ _ _
    have Tp : T.1 34 2 = nI (A + k) := by rw [← hT']; exact s3_g2 _ _ _ _ _ _
    have T3 : T.1 34 3 = nI (tct K (nbk th K A N k) c (tb (th (A + k)) 4)) := by rw [← hT']; exact s3_g3 _ _ _ _ _ _
    have hPT := hP.o3 oT
    have hTT := hT.o3 oT
    have hJT : T.2.1 = τ.2.1 := by rw [oT.1]
    rw [g_TurnPlan_needWith_26, ite2_n (nI_ge (by omega) (by omega)), hP.2.1, rg_31_2, ev_drf, gk_34, rg_31_3, ev_drf, gk_2, e, ev_cl2, nw_s, nct]
    cases hst : tst K (nbk th K A N k) c (tb (th (A + k)) 4) with
    | false =>
      have hc' : tct K (nbk th K A N k) c (tb (th (A + k)) 4) = c + 1 := by unfold tct; rw [hst]; rfl
      rw [hc'] at T3
      obtain ⟨τ2, e2, o2, f2⟩ := ih (i + 1) f T (c + 1) h (by omega) (by omega) (by omega) hPT hTT T1 Tp T3
      refine ⟨τ2, ?_, oT.trans o2, ?_⟩
      · rw [ite2_z (by decide), ev_bnd, ← nI_succ, if_neg (by decide), show i + (j + 1) = i + 1 + j by omega]
        exact e2
      · rw [if_neg (by decide), if_neg (by decide)]; exact f2
    | true =>
      have hc' : tct K (nbk th K A N k) c (tb (th (A + k)) 4) = 0 := by unfold tct; rw [hst]; rfl
      rw [hc'] at T3
      rw [ite2_y (Eq.refl true), hPT.2.1, rg_31_3, ev_drf, gk_2, e_isIn (by omega), ev_cl2, hJT, b3, if_pos rfl, if_pos rfl]
      cases hcl : tb (th (A + k)) 4 with
      | false =>
        obtain ⟨τ2, e2, o2, f2⟩ := ih (i + 1) f T 0 true (by omega) (by omega) (by omega) hPT hTT T1 Tp T3
        refine ⟨τ2, ?_, oT.trans o2, ?_⟩
        · rw [ite2_z (by decide), ev_bnd, ← nI_succ, if_neg (by decide), show i + (j + 1) = i + 1 + j by omega]
          exact e2
        · rw [if_neg (by decide)]; exact f2
      | true =>
        refine ⟨T, ?_, oT, fun q => ?_⟩
        · rw [ite2_y (Eq.refl true), if_pos rfl]; rfl
        · rw [if_pos rfl] at q; omega
theorem e_needWith {σ τ : ns_St} {th : Nat → Int32} {g2 : Option Nat} {E K A N fc k R c j : Nat} (hN : NN K N) (hG : GR σ 2 th E) (hk : A + k + (R + 1) = E) (hj : j ≤ 3) (hc : c ≤ 64) (hP : TP σ τ th g2 E K A N fc) (hT : TT τ th E K A N (k + 1)) :
    ∃ τ', g_TurnPlan_needWith τ 31 (nI (A + k)) (nI c) (nI j) = some (nI (nw th K A N k (Mv th K A N R (k + 1)) j 0 c (seen th A k c)), τ') ∧ O3 34 τ τ' ∧ (nw th K A N k (Mv th K A N R (k + 1)) j 0 c (seen th A k c) < 1000 → τ'.1 34 1 = nI (nbk th K A N (k + 1)) ∧ τ'.1 34 3 = nI (nct th K A N k j c)) := by
  have h60 := hG.2.2.1
  have i33 : ns_in (nI (A + k)) (ns_ln 33) := ns_inI (show A + k < 61 by omega) (by decide)
  have n33 := hP.2.2.2.2.2.2 k (by omega)
  have oS : O3 34 τ (s3 τ 34 1 (nI (nbk th K A N k)) (nI (A + k)) (nI c)) := O3.s3
  obtain ⟨τ2, e2, o2, f2⟩ := e_nw26 hN hG hk j 0 ns_F (s3 τ 34 1 (nI (nbk th K A N k)) (nI (A + k)) (nI c)) c (seen th A k c) (by show j < 10000; omega) (by omega) (by omega) (hP.o3 oS) (hT.o3 oS) (s3_g1 _ _ _ _ _ _) (s3_g2 _ _ _ _ _ _) (s3_g3 _ _ _ _ _ _)
  refine ⟨τ2, ?_, oS.trans o2, f2⟩
  unfold g_TurnPlan_needWith
  rw [gk_31, hP.2.1, rg_31_2, ev_drf, gk_34, rg_31_1, ev_drf, gk_33, grd_t i33, ns_ixI (by omega), n33, e_standAt kd_34, ev_cl2, e_hasSeen (hP.o3 oS) hG (by omega) (by omega), ev_cl2]
  rw [Nat.zero_add] at e2
  exact e2
/-- the least so far -/
def Lj (f : Nat → Nat) : Nat → Nat
  | 0 => 1000
  | j + 1 => f j
theorem Lj_end {th : Nat → Int32} {K A N k : Nat} {G : Nat → Nat} {c : Nat} {h : Bool} {j : Nat} (hj : j ≤ 3) (q : Lj (fun j => mn th K A N k G j 0 c h) j ≤ j) : mn th K A N k G 3 0 c h = Lj (fun j => mn th K A N k G j 0 c h) j := by
  have e1 : mn th K A N k G 1 0 c h = min (mn th K A N k G 0 0 c h) (nw th K A N k G 1 0 c h) := mn_nw 0 0 c h
  have e2 : mn th K A N k G 2 0 c h = min (mn th K A N k G 1 0 c h) (nw th K A N k G 2 0 c h) := mn_nw 1 0 c h
  have e3 : mn th K A N k G 3 0 c h = min (mn th K A N k G 2 0 c h) (nw th K A N k G 3 0 c h) := mn_nw 2 0 c h
  have g1 := nw_ge (th := th) (K := K) (A := A) (N := N) (k := k) (G := G) 1 0 c h
  have g2 := nw_ge (th := th) (K := K) (A := A) (N := N) (k := k) (G := G) 2 0 c h
  have g3 := nw_ge (th := th) (K := K) (A := A) (N := N) (k := k) (G := G) 3 0 c h
  rcases (by omega : j = 0 ∨ j = 1 ∨ j = 2 ∨ j = 3) with rfl | rfl | rfl | rfl
  · have : (1000 : Nat) ≤ 0 := q
    omega
  · have q' : mn th K A N k G 0 0 c h ≤ 1 := q
    show _ = mn th K A N k G 0 0 c h
    omega
  · have q' : mn th K A N k G 1 0 c h ≤ 2 := q
    show _ = mn th K A N k G 1 0 c h
    omega
  · have q' : mn th K A N k G 2 0 c h ≤ 3 := q
    show _ = mn th K A N k G 2 0 c h
    omega
theorem Lj_le {th : Nat → Int32} {K A N k : Nat} {G : Nat → Nat} {c : Nat} {h : Bool} (j : Nat) : Lj (fun j => mn th K A N k G j 0 c h) j ≤ 1000 := by
  cases j with
  | zero => exact Nat.le_refl _
  | succ j => exact mn_le j 0 c h
theorem Lj_next {th : Nat → Int32} {K A N k : Nat} {G : Nat → Nat} {c : Nat} {h : Bool} (j : Nat) : min (Lj (fun j => mn th K A N k G j 0 c h) j) (nw th K A N k G j 0 c h) = Lj (fun j => mn th K A N k G j 0 c h) (j + 1) := by
  cases j with
  | zero =>
    have := nw_le (th := th) (K := K) (A := A) (N := N) (k := k) (G := G) 0 0 c h
    show min 1000 (nw th K A N k G 0 0 c h) = nw th K A N k G 0 0 c h
    omega
  | succ j => exact (mn_nw j 0 c h).symm
theorem e_fill27 {σ : ns_St} {th : Nat → Int32} {g2 : Option Nat} {E K A N fc k R c : Nat} (hN : NN K N) (hG : GR σ 2 th E) (hk : A + k + (R + 1) = E) (hc : c ≤ 64) (m : Int32) (kh : ns_St → Nat → Int32 → Int32 → Int32 → Option (Unit × ns_St)) : ∀ (r j f : Nat) (τ : ns_St), r < f → j + r = 4 → TP σ τ th g2 E K A N fc → TT τ th E K A N (k + 1) →
    ∃ τ', g_TurnPlan_fillPlace_27 kh f τ 31 (nI (A + k)) m (nI c) (nI (Lj (fun j => mn th K A N k (Mv th K A N R (k + 1)) j 0 c (seen th A k c)) j)) (nI j) = g_TurnPlan_fillPlace_61 kh τ' 31 (nI (A + k)) m (nI c) (nI (Mv th K A N (R + 1) k c)) ∧ O3 34 τ τ' := by
  intro r
  induction r with
  | zero =>
    intro j f τ hf hj hP hT
    obtain ⟨f, rfl⟩ : ∃ q, f = q + 1 := ⟨f - 1, by omega⟩
    have hj' : j = 4 := by omega
    subst hj'
    refine ⟨τ, ?_, O3.rfl _ _⟩
    rw [g_TurnPlan_fillPlace_27, ite2_p (show (3 : Int32) < nI 4 by decide)]
    rfl
  | succ r ih =>
    intro j f τ hf hj hP hT
    obtain ⟨f, rfl⟩ : ∃ q, f = q + 1 := ⟨f - 1, by omega⟩
    have ll := Lj_le (th := th) (K := K) (A := A) (N := N) (k := k) (G := Mv th K A N R (k + 1)) (c := c) (h := seen th A k c) j
    have nl := nw_le (th := th) (K := K) (A := A) (N := N) (k := k) (G := Mv th K A N R (k + 1)) j 0 c (seen th A k c)
    rw [g_TurnPlan_fillPlace_27, ite2_n (show ¬ (3 : Int32) < nI j from nI_nlt (a := 3) (by omega) (by decide))]
    by_cases q : Lj (fun j => mn th K A N k (Mv th K A N R (k + 1)) j 0 c (seen th A k c)) j ≤ j
    · refine ⟨τ, ?_, O3.rfl _ _⟩
      rw [ite2_p (nI_le q (by omega)), Mv, Lj_end (by omega) q]
    · obtain ⟨τ1, e1, o1, _⟩ := e_needWith hN hG hk (j := j) (by omega) hc hP hT
      obtain ⟨τ2, e2, o2⟩ := ih (j + 1) f τ1 (by omega) (by omega) (hP.o3 o1) (hT.o3 o1)
      refine ⟨τ2, ?_, o1.trans o2⟩
      rw [ite2_n (nI_ge (by omega) (by omega)), e1, ev_cl2, e_minNN (by omega) (by omega), ev_cl2, ev_bnd, ← nI_succ, Lj_next]
      exact e2
theorem e_fill14 {σ : ns_St} {th : Nat → Int32} {g2 : Option Nat} {E K A N fc k R : Nat} (hN : NN K N) (hG : GR σ 2 th E) (hk : A + k + (R + 1) = E) : ∀ (r c f : Nat) (τ : ns_St), r < f → c + r = min (nbk th K A N k) 63 + 1 → TP σ τ th g2 E K A N fc → TT τ th E K A N (k + 1) → (∀ c', c' < c → τ.1 32 (64 * (A + k) + c') = nI (Mv th K A N (R + 1) k c')) →
    ∃ τ', g_TurnPlan_fillPlace_14 f τ 31 (nI (A + k)) (nI (min (nbk th K A N k) 63)) (nI c) = some ((), τ') ∧ TP σ τ' th g2 E K A N fc ∧ TT τ' th E K A N k := by
  have h60 := hG.2.2.1
  have nb := nbk_b (th := th) (K := K) (A := A) hN.1 hN.2.1 k
  intro r
  induction r with
  | zero =>
    intro c f τ hf hc hP hT hr
    obtain ⟨f, rfl⟩ : ∃ q, f = q + 1 := ⟨f - 1, by omega⟩
    refine ⟨τ, ?_, hP, fun k' h1 h2 c' h3 h4 => ?_⟩
    · rw [g_TurnPlan_fillPlace_14, ite2_p (nI_lt (by omega) (by omega))]
    · by_cases e : k' = k
      · subst e
        rw [show E - A - k' = R + 1 by omega]
        exact hr c' (by have := h4 (by omega); omega)
      · exact hT k' (by omega) h2 c' h3 h4
  | succ r ih =>
    intro c f τ hf hc hP hT hr
    obtain ⟨f, rfl⟩ : ∃ q, f = q + 1 := ⟨f - 1, by omega⟩
    obtain ⟨τ1, e1, o1⟩ := e_fill27 hN hG hk (c := c) (by omega) (nI (min (nbk th K A N k) 63)) (g_TurnPlan_fillPlace_14 f) 4 0 ns_F τ (by show 4 < 10000; omega) (by omega) hP hT
    have e1' : g_TurnPlan_fillPlace_27 (g_TurnPlan_fillPlace_14 f) ns_F τ 31 (nI (A + k)) (nI (min (nbk th K A N k) 63)) (nI c) (1000 : Int32) (0 : Int32) = _ := e1
    have i32 : ns_in (nI (64 * (A + k) + c)) (ns_ln 32) := ns_inI (show 64 * (A + k) + c < 3904 by omega) (by decide)
    have hP1 := hP.o3 o1
    rw [g_TurnPlan_fillPlace_14, ite2_n (nI_nlt (by omega) (by omega)), e1']
    unfold g_TurnPlan_fillPlace_61
    rw [hP1.2.1, rg_31_0, ev_drf, gk_32, e_cellOf (by omega) (by omega), ev_cl2, grd_t i32, ns_ixI (by omega), ev_bnd, ev_bnd, ← nI_succ]
    refine ih (c + 1) f _ (by omega) (by omega) (hP1.tab _ _) (fun k' h1 h2 c' h3 h4 => ?_) (fun c' hc' => ?_)
    · rw [pI_st _ _ _ (by omega)]; exact hT.o3 o1 k' h1 h2 c' h3 h4
    · by_cases e : c' = c
      · subst e; rw [pI_at]
      · rw [pI_st _ _ _ (by omega), o1.2.1 32 (by decide)]; exact hr c' (by omega)
theorem e_fillPlace {σ τ : ns_St} {th : Nat → Int32} {g2 : Option Nat} {E K A N fc k R : Nat} (hN : NN K N) (hG : GR σ 2 th E) (hk : A + k + (R + 1) = E) (hP : TP σ τ th g2 E K A N fc) (hT : TT τ th E K A N (k + 1)) : ∃ τ', g_TurnPlan_fillPlace τ 31 (nI (A + k)) = some ((), τ') ∧ TP σ τ' th g2 E K A N fc ∧ TT τ' th E K A N k := by
  have h60 := hG.2.2.1
  have nb := nbk_b (th := th) (K := K) (A := A) hN.1 hN.2.1 k
  have i33 : ns_in (nI (A + k)) (ns_ln 33) := ns_inI (show A + k < 61 by omega) (by decide)
  have n33 := hP.2.2.2.2.2.2 k (by omega)
  have em : g_Math_min τ (nI (nbk th K A N k)) (63 : Int32) = some (nI (min (nbk th K A N k) 63), τ) := e_minNN (b := 63) (by omega) (by decide)
  obtain ⟨τ1, e1, p1, t1⟩ := e_fill14 hN hG hk (min (nbk th K A N k) 63 + 1) 0 ns_F τ (by show min _ 63 + 1 < 10000; omega) (by omega) hP hT (fun c' hc' => absurd hc' (by omega))
  refine ⟨τ1, ?_, p1, t1⟩
  unfold g_TurnPlan_fillPlace
  rw [gk_31, hP.2.1, rg_31_1, ev_drf, gk_33, grd_t i33, ns_ixI (by omega), n33, em, ev_cl2]
  exact e1
theorem e_make99 {σ : ns_St} {th : Nat → Int32} {g2 : Option Nat} {E K A N fc : Nat} (hN : NN K N) (hG : GR σ 2 th E) (hA : A ≤ E) (hfc : fc ≤ 63) (hfc2 : fc ≤ N) : ∀ (k f : Nat) (τ : ns_St), k < f → A + k ≤ E → TP σ τ th g2 E K A N fc → TT τ th E K A N k →
    ∃ τ', g_TurnPlan_make_99 f τ 31 (nI (A + k) + (-1)) = some (if Mv th K A N (E - A) 0 fc < 1000 then nI (Mv th K A N (E - A) 0 fc) else -1, τ') ∧ TP σ τ' th g2 E K A N fc ∧ TT τ' th E K A N 0 := by
  have h60 := hG.2.2.1
  intro k
  induction k with
  | zero =>
    intro f τ hf hk hP hT
    obtain ⟨f, rfl⟩ : ∃ q, f = q + 1 := ⟨f - 1, by omega⟩
    have i32 : ns_in (nI (64 * A + fc)) (ns_ln 32) := ns_inI (show 64 * A + fc < 3904 by omega) (by decide)
    have tv := hT 0 (by omega) (by omega) fc hfc (fun _ => hfc2)
    have ml := Mv_le (th := th) (K := K) (A := A) (N := N) (E - A) 0 fc
    have lt : nI (A + 0) + (-1) < nI A := by
      rw [Nat.add_zero]
      cases A with
      | zero => decide
      | succ a => rw [pk_m1]; exact nI_lt (by omega) (by omega)
    refine ⟨τ, ?_, hP, hT⟩
    rw [g_TurnPlan_make_99, hP.2.2.1, ite2_p lt, hP.2.1, rg_31_0, ev_drf, gk_32, hP.2.2.2.1, e_cellOf (by omega) hfc, ev_cl2, grd_t i32, ns_ixI (by omega)]
    rw [Nat.add_zero, Nat.sub_zero] at tv
    rw [tv, ev_bnd]
    by_cases q : Mv th K A N (E - A) 0 fc < 1000
    · rw [ite2_p (show nI _ < (1000 : Int32) from nI_lt (b := 1000) q (by decide)), if_pos q]
    · rw [ite2_n (show ¬ nI _ < (1000 : Int32) from nI_nlt (b := 1000) (by omega) (by omega)), if_neg q]
  | succ k ih =>
    intro f τ hf hk hP hT
    obtain ⟨f, rfl⟩ : ∃ q, f = q + 1 := ⟨f - 1, by omega⟩
    obtain ⟨τ1, e1, p1, t1⟩ := e_fillPlace hN hG (k := k) (R := E - A - k - 1) (by omega) hP hT
    have ep : nI (A + (k + 1)) + (-1) = nI (A + k) := pk_m1 (A + k)
    rw [g_TurnPlan_make_99, hP.2.2.1, ep, ite2_n (nI_nlt (by omega) (by omega)), e1, ev_cl2, ev_bnd]
    exact ih f τ1 (by omega) (by omega) p1 t1
theorem e_make39 {σ : ns_St} {th : Nat → Int32} {g2 : Option Nat} {E K A N fc : Nat} (hN : NN K N) (hG : GR σ 2 th E) (hA : A ≤ E) (hfc : fc ≤ 63) (hfc2 : fc ≤ N) : ∀ (r c f : Nat) (τ : ns_St), r < f → c + r = 64 → TP σ τ th g2 E K A N fc → (∀ c', c' < c → τ.1 32 (64 * E + c') = nI (Mv th K A N 0 (E - A) c')) →
    ∃ τ', g_TurnPlan_make_39 f τ 31 (nI c) = some (if Mv th K A N (E - A) 0 fc < 1000 then nI (Mv th K A N (E - A) 0 fc) else -1, τ') ∧ TP σ τ' th g2 E K A N fc ∧ TT τ' th E K A N 0 := by
  have h60 := hG.2.2.1
  have hE1 := hG.2.1
  intro r
  induction r with
  | zero =>
    intro c f τ hf hc hP hr
    obtain ⟨f, rfl⟩ : ∃ q, f = q + 1 := ⟨f - 1, by omega⟩
    have hT : TT τ th E K A N (E - A) := fun k h1 h2 c' h3 h4 => by
      have hk : k = E - A := by omega
      subst hk
      rw [show A + (E - A) = E by omega, show E - A - (E - A) = 0 by omega]
      exact hr c' (by omega)
    obtain ⟨τ1, e1, p1, t1⟩ := e_make99 hN hG hA hfc hfc2 (E - A) ns_F τ (by show E - A < 10000; omega) (by omega) hP hT
    refine ⟨τ1, ?_, p1, t1⟩
    have pE : τ.1 2 0 = nI E := by rw [hP.1.lo (by omega)]; exact hG.1
    have em : nI E - 1 = nI (A + (E - A)) + (-1) := by
      rw [show A + (E - A) = E by omega]
      obtain ⟨e, rfl⟩ : ∃ e, E = e + 1 := ⟨E - 1, by omega⟩
      rw [nI_pred, pk_m1]
    rw [g_TurnPlan_make_39, ite2_p (show (64 : Int32) ≤ nI c from nI_le (a := 64) (by omega) (by omega)), hP.2.1, rg_31_3, ev_drf, gk_2, pE, em, ev_bnd]
    exact e1
  | succ r ih =>
    intro c f τ hf hc hP hr
    obtain ⟨f, rfl⟩ : ∃ q, f = q + 1 := ⟨f - 1, by omega⟩
    have pE : τ.1 2 0 = nI E := by rw [hP.1.lo (by omega)]; exact hG.1
    have i32 : ns_in (nI (64 * E + c)) (ns_ln 32) := ns_inI (show 64 * E + c < 3904 by omega) (by decide)
    have es := e_hasSeen (k := E - A) (c := c) hP hG (by omega) (by omega)
    rw [show A + (E - A) = E by omega] at es
    have step : ∀ v : Int32, v = nI (Mv th K A N 0 (E - A) c) → ∃ τ', g_TurnPlan_make_39 f (ns_pI τ 32 (64 * E + c) v) 31 (nI (c + 1)) = some (if Mv th K A N (E - A) 0 fc < 1000 then nI (Mv th K A N (E - A) 0 fc) else -1, τ') ∧ TP σ τ' th g2 E K A N fc ∧ TT τ' th E K A N 0 := by
      intro v hv
      refine ih (c + 1) f _ (by omega) (by omega) (hP.tab _ _) (fun c' hc' => ?_)
      by_cases e : c' = c
      · subst e; rw [pI_at]; exact hv
      · rw [pI_st _ _ _ (by omega)]; exact hr c' (by omega)
    rw [g_TurnPlan_make_39, ite2_n (show ¬ (64 : Int32) ≤ nI c from nI_ge (b := 64) (by omega) (by decide)), hP.2.1, rg_31_0, ev_drf, gk_32, rg_31_3, ev_drf, gk_2, pE, e_cellOf h60 (by omega), ev_cl2, hP.2.1, rg_31_3, ev_drf, gk_2, pE, es, ev_cl2]
    rw [Mv] at step
    cases hs : seen th A (E - A) c with
    | false =>
      rw [hs, if_neg (by decide)] at step
      rw [ite2_z (by decide), grd_t i32, ns_ixI (by omega), ev_bnd, ev_bnd, ← nI_succ]
      exact step _ rfl
    | true =>
      rw [hs, if_pos rfl] at step
      rw [ite2_y (Eq.refl true), grd_t i32, ns_ixI (by omega), ev_bnd, ev_bnd, ← nI_succ]
      exact step _ rfl
