/-! STONES: the class's plan -/
theorem scr35 : scr 35 := by unfold scr; omega
theorem scrR {c : Nat} (h : 35 ≤ c ∧ c ≤ 42) : scr c := by unfold scr; omega
def SV (th : Nat → Int32) (g1 : Option Nat) (E : Nat) (τ : ns_St) : Prop := τ.2.2 = ns_rg g1 (some 2) ∧ GR τ 2 th E
def MC (τ : ns_St) (a K n p c : Nat) : Prop := τ.1 a 0 = nI K ∧ τ.1 a 1 = nI n ∧ τ.1 a 2 = nI p ∧ τ.1 a 3 = nI c ∧ τ.1 a 7 = nI (wtK K)
theorem MC.of {τ τ' : ns_St} {a K n p c : Nat} (h : MC τ a K n p c) (e : τ'.1 a = τ.1 a) : MC τ' a K n p c := by unfold MC; rw [e]; exact h
theorem SV.o3 {th : Nat → Int32} {g1 : Option Nat} {E a : Nat} {τ τ' : ns_St} (h : SV th g1 E τ) (o : O3 a τ τ') (ha : a ≠ 2) : SV th g1 E τ' := ⟨by rw [o.1]; exact h.1, h.2.cong (o.2.1 2 (fun e => ha e.symm)) (by rw [o.1])⟩
theorem e_fallsNext {th : Nat → Int32} {g1 : Option Nat} {E K A N k c b a : Nat} {τ : ns_St} (hN : NN K N) (hV : SV th g1 E τ) (hk : A + k < E) (ka : ns_kd a = 2) (hb : b ≤ 1) (hc : c < 2 ^ 27) (hM : MC τ a K (nbk th K A N k) (A + k) c) : ∃ τ', g_StonePlan_fallsNext τ 35 a (nI b) = some (yn (fl th K A N k c b = true), τ') ∧ O3 a τ τ' ∧ MC τ' a K (nbk th K A N (k + 1)) (A + (k + 1)) (n1 th K A N k c b) := by
  have h60 := hV.2.2.2.1
  have nb := nbk_b (th := th) (K := K) (A := A) hN.1 hN.2.1 k
  obtain ⟨b1, b2, b3, b4⟩ := hV.2.bits (p := A + k + 1) (by omega)
  have e := e_makeStep (σ := τ) (a := a) (g := 2) (K := K) (N := nbk th K A N k) (p := A + k) (C := c) (b := b) ka kd_2 hN.2.2.2 (by omega) (by omega) (by omega) (by omega) hM.1 hM.2.1 hM.2.2.1 hM.2.2.2.1 hM.2.2.2.2
  rw [b1, b2, b3] at e
  have e' : g_Mule_makeStep τ a 2 (nI b) = some (yn ((sg th K (nbk th K A N k) c (A + k + 1) b).2.2 = true), s3 τ a 1 (nI (nbk th K A N (k + 1))) (nI (A + k + 1)) (nI (n1 th K A N k c b))) := e
  generalize hT : s3 τ a 1 (nI (nbk th K A N (k + 1))) (nI (A + k + 1)) (nI (n1 th K A N k c b)) = T at e'
  have oT : O3 a τ T := by rw [← hT]; exact O3.s3
  have Tp : T.1 a 2 = nI (A + k + 1) := by rw [← hT]; exact s3_g2 _ _ _ _ _ _
  have mT : MC T a K (nbk th K A N (k + 1)) (A + (k + 1)) (n1 th K A N k c b) := ⟨by rw [oT.2.2 0 (by omega)]; exact hM.1, by rw [← hT]; exact s3_g1 _ _ _ _ _ _, Tp, by rw [← hT]; exact s3_g3 _ _ _ _ _ _, by rw [oT.2.2 7 (by omega)]; exact hM.2.2.2.2⟩
  refine ⟨T, ?_, oT, mT⟩
  have hRT : T.2.2 = ns_rg g1 (some 2) := by rw [oT.1]; exact hV.1
  have hJT : T.2.1 = τ.2.1 := by rw [oT.1]
  unfold g_StonePlan_fallsNext fl
  rw [gk_35, grd_t ka, hV.1, rg_35_7, ev_drf, gk_2, e', ev_cl2]
  cases hst : (sg th K (nbk th K A N k) c (A + k + 1) b).2.2 with
  | false => rw [ite2_z (by decide), yn_f (by simp)]
  | true =>
    rw [ite2_y (Eq.refl true), hRT, rg_35_7, ev_drf, gk_2, Tp, e_isIn (by omega), ev_cl2, hJT, b3]
    cases hcl : tb (th (A + k + 1)) 4 with
    | false => rw [ite2_z (by decide), yn_f (by decide)]
    | true => rw [ite2_y (Eq.refl true), yn_t (by decide)]
/-- the table of what is safe, from k0 STEPS on -/
def ST (th : Nat → Int32) (E K A N k0 : Nat) (τ : ns_St) : Prop := ∀ k, k0 ≤ k → A + k ≤ E → ∀ c, c ≤ 63 → (A + k < E → c ≤ nbk th K A N k) → gb (τ.2.1 36 (A + k)) c = sf th K A N X0 (E - A - k) k c
theorem ST.cong {th : Nat → Int32} {E K A N k0 : Nat} {τ τ' : ns_St} (h : ST th E K A N k0 τ) (e : τ'.2.1 36 = τ.2.1 36) : ST th E K A N k0 τ' := fun k h1 h2 c h3 h4 => by rw [e]; exact h k h1 h2 c h3 h4
theorem e_isSafe {th : Nat → Int32} {g1 : Option Nat} {E K A N k k0 c a : Nat} {τ : ns_St} (hN : NN K N) (hV : SV th g1 E τ) (hk : A + k ≤ E) (hk0 : k0 ≤ k) (ka : ns_kd a = 2) (hc : c < 2 ^ 27) (hnc : K ≠ 3 → c < nbk th K A N k) (hM : MC τ a K (nbk th K A N k) (A + k) c) (hS : ST th E K A N k0 τ) : g_StonePlan_isSafe τ 35 a = some (yn (sf th K A N X0 (E - A - k) k c = true), τ) := by
  have h60 := hV.2.2.2.1
  have nb := nbk_b (th := th) (K := K) (A := A) hN.1 hN.2.1 k
  have i36 : ns_in (nI (A + k)) (ns_ln 36) := ns_inI (show A + k < 61 by omega) (by decide)
  have c63 : cap (nbk th K A N k) c ≤ 63 := by unfold cap; omega
  have cn : cap (nbk th K A N k) c ≤ nbk th K A N k := by unfold cap; omega
  have tv := hS k hk0 hk _ c63 (fun _ => cn)
  rw [sf_eq (E - A - k) k (cap_eq nb.2 hnc (fun k3 => hN.t13 k k3))] at tv
  unfold g_StonePlan_isSafe
  rw [gk_35, grd_t ka, hV.1, rg_35_0, ev_drf, gk_36, hM.2.2.1, grd_t i36, e_capped ka (by omega) (by omega) hM.2.1 hM.2.2.2.1, ev_cl2, ns_ixI (by omega), e_isIn (by omega), ev_cl2, tv, grd_y]
/-- memories that differ in the trial and the table alone -/
def F1 (p : Nat) (τ τ' : ns_St) : Prop := τ'.2.2 = τ.2.2 ∧ (∀ b, b ≠ 42 → τ'.1 b = τ.1 b) ∧ (∀ i, ¬ (1 ≤ i ∧ i ≤ 3) → τ'.1 42 i = τ.1 42 i) ∧ (∀ b, b ≠ 36 → τ'.2.1 b = τ.2.1 b) ∧ ∀ i, i ≠ p → τ'.2.1 36 i = τ.2.1 36 i
theorem F1.rfl (p : Nat) (τ : ns_St) : F1 p τ τ := ⟨Eq.refl _, fun _ _ => Eq.refl _, fun _ _ => Eq.refl _, fun _ _ => Eq.refl _, fun _ _ => Eq.refl _⟩
theorem F1.trans {p : Nat} {a b c : ns_St} (h1 : F1 p a b) (h2 : F1 p b c) : F1 p a c := ⟨h2.1.trans h1.1, fun x hx => (h2.2.1 x hx).trans (h1.2.1 x hx), fun i hi => (h2.2.2.1 i hi).trans (h1.2.2.1 i hi), fun x hx => (h2.2.2.2.1 x hx).trans (h1.2.2.2.1 x hx), fun i hi => (h2.2.2.2.2 i hi).trans (h1.2.2.2.2 i hi)⟩
theorem F1.o3 {p : Nat} {a b : ns_St} (h : O3 42 a b) : F1 p a b := ⟨by rw [h.1], h.2.1, h.2.2, fun _ _ => by rw [h.1], fun _ _ => by rw [h.1]⟩
theorem F1.pJ {p : Nat} {a : ns_St} {v : Int64} : F1 p a (ns_pJ a 36 p v) := ⟨Eq.refl _, fun _ _ => Eq.refl _, fun _ _ => Eq.refl _, fun b hb => pJ_ne _ _ _ hb, fun i hi => pJ_st _ _ _ hi⟩
theorem SV.f1 {th : Nat → Int32} {g1 : Option Nat} {E p : Nat} {τ τ' : ns_St} (h : SV th g1 E τ) (o : F1 p τ τ') : SV th g1 E τ' := ⟨by rw [o.1]; exact h.1, h.2.cong (o.2.1 2 (by decide)) (o.2.2.2.1 2 (by decide))⟩
theorem e_fs71 {th : Nat → Int32} {g1 : Option Nat} {E K A N k R a : Nat} (hN : NN K N) (hk : A + k + (R + 1) = E) (kh : ns_St → Nat → Nat → Int32 → Option (Unit × ns_St)) : ∀ (r c f : Nat) (τ : ns_St), r < f → c + r = min (nbk th K A N k) 63 + 1 → SV th g1 E τ → τ.1 42 0 = nI K → τ.1 42 7 = nI (wtK K) → τ.1 38 (A + k) = nI (nbk th K A N k) → ST th E K A N (k + 1) τ → (∀ x, x < 64 → gb (τ.2.1 36 (A + k)) x = (decide (x < c) && sf th K A N X0 (R + 1) k x)) →
    ∃ τ', g_StonePlan_fillSafe_71 kh f τ 35 a (nI (A + k)) (nI (min (nbk th K A N k) 63)) (nI c) = kh τ' 35 a (nI (A + k) + (-1)) ∧ F1 (A + k) τ τ' ∧ ST th E K A N k τ' := by
  have nb := nbk_b (th := th) (K := K) (A := A) hN.1 hN.2.1 k
  intro r
  induction r with
  | zero =>
    intro c f τ hf hc hV h0 h7 h38 hS hb
    obtain ⟨f, rfl⟩ : ∃ q, f = q + 1 := ⟨f - 1, by omega⟩
    refine ⟨τ, ?_, F1.rfl _ _, fun k' h1 h2 c' h3 h4 => ?_⟩
    · rw [g_StonePlan_fillSafe_71, ite2_p (nI_lt (by omega) (by omega)), ev_bnd]
    · by_cases e : k' = k
      · subst e
        rw [hb c' (by omega), decide_eq_true (by have := h4 (by omega); omega), Bool.true_and, show E - A - k' = R + 1 by omega]
      · exact hS k' (by omega) h2 c' h3 h4
  | succ r ih =>
    intro c f τ hf hc hV h0 h7 h38 hS hb
    obtain ⟨f, rfl⟩ : ∃ q, f = q + 1 := ⟨f - 1, by omega⟩
    have h60 := hV.2.2.2.1
    have i38 : ns_in (nI (A + k)) (ns_ln 38) := ns_inI (show A + k < 61 by omega) (by decide)
    have i36 : ns_in (nI (A + k)) (ns_ln 36) := ns_inI (show A + k < 61 by omega) (by decide)
    have oS : O3 42 τ (s3 τ 42 1 (nI (nbk th K A N k)) (nI (A + k)) (nI c)) := O3.s3
    generalize hS' : s3 τ 42 1 (nI (nbk th K A N k)) (nI (A + k)) (nI c) = S at oS
    have mS : MC S 42 K (nbk th K A N k) (A + k) c := ⟨by rw [oS.2.2 0 (by omega)]; exact h0, by rw [← hS']; exact s3_g1 _ _ _ _ _ _, by rw [← hS']; exact s3_g2 _ _ _ _ _ _, by rw [← hS']; exact s3_g3 _ _ _ _ _ _, by rw [oS.2.2 7 (by omega)]; exact h7⟩
    have hVS := hV.o3 oS (by decide)
    obtain ⟨T, eT, oT, mT⟩ := e_fallsNext hN hVS (show A + k < E by omega) kd_42 (b := 0) (by omega) (by omega) mS
    have eT' : g_StonePlan_fallsNext S 35 42 (0 : Int32) = some (yn (fl th K A N k c 0 = true), T) := eT
    have hVT := hVS.o3 oT (by decide)
    have fT : F1 (A + k) τ T := (F1.o3 oS).trans (F1.o3 oT)
    have STT : ST th E K A N (k + 1) T := hS.cong (by rw [oT.1, oS.1])
    have bT : ∀ x, x < 64 → gb (T.2.1 36 (A + k)) x = (decide (x < c) && sf th K A N X0 (R + 1) k x) := fun x hx => by rw [oT.1, oS.1]; exact hb x hx
    have sfv : sf th K A N X0 (R + 1) k c = (!fl th K A N k c 0 && sf th K A N X0 R (k + 1) (n1 th K A N k c 0)) := rfl
    have stay : sf th K A N X0 (R + 1) k c = false → ∀ x, x < 64 → gb (T.2.1 36 (A + k)) x = (decide (x < c + 1) && sf th K A N X0 (R + 1) k x) := fun hz x hx => by
      rw [bT x hx]
      by_cases e : x = c
      · subst e; rw [hz]; simp
      · congr 1; apply decide_eq_decide.mpr; omega
    rw [g_StonePlan_fillSafe_71, ite2_n (nI_nlt (by omega) (by omega)), hV.1, rg_35_6, ev_drf, gk_42, rg_35_2, ev_drf, gk_38, grd_t i38, ns_ixI (by omega), h38, e_standAt kd_42, hS', ev_cl2, hVS.1, rg_35_6, ev_drf, gk_42, eT', ev_cl2]
    cases hfl : fl th K A N k c 0 with
    | true =>
      rw [ite2_y (Eq.refl true), ev_bnd, ← nI_succ]
      obtain ⟨τ', e', f', s'⟩ := ih (c + 1) f T (by omega) (by omega) hVT (by rw [fT.2.2.1 0 (by omega)]; exact h0) (by rw [fT.2.2.1 7 (by omega)]; exact h7) (by rw [fT.2.1 38 (by decide)]; exact h38) STT (stay (by rw [sfv, hfl]; rfl))
      exact ⟨τ', e', fT.trans f', s'⟩
    | false =>
      have n1b := n1_le (th := th) (K := K) (A := A) (N := N) (k := k) (c := c) (b := 0)
      have es := e_isSafe hN hVT (k := k + 1) (k0 := k + 1) (by omega) (by omega) kd_42 (by omega) (fun k3 => n1_nc hN.1 hN.2.1 k3) mT STT
      rw [show E - A - (k + 1) = R by omega] at es
      rw [ite2_z (by decide), hVT.1, rg_35_6, ev_drf, gk_42, es, ev_cl2]
      cases hsf : sf th K A N X0 R (k + 1) (n1 th K A N k c 0) with
      | false =>
        rw [ite2_z (by decide), ev_bnd, ← nI_succ]
        obtain ⟨τ', e', f', s'⟩ := ih (c + 1) f T (by omega) (by omega) hVT (by rw [fT.2.2.1 0 (by omega)]; exact h0) (by rw [fT.2.2.1 7 (by omega)]; exact h7) (by rw [fT.2.1 38 (by decide)]; exact h38) STT (stay (by rw [sfv, hsf]; simp))
        exact ⟨τ', e', fT.trans f', s'⟩
      | true =>
        rw [ite2_y (Eq.refl true), hVT.1, rg_35_0, ev_drf, gk_36, grd_t i36, e_bit, ev_cl2, grd_t i36, ev_bnd, ev_bnd, ← nI_succ]
        have fU : F1 (A + k) τ (ns_pJ T 36 (A + k) (T.2.1 36 (A + k) ||| (1 : Int64) <<< ((nI c).toInt64 &&& 63))) := fT.trans F1.pJ
        obtain ⟨τ', e', f', s'⟩ := ih (c + 1) f _ (by omega) (by omega) (hV.f1 fU) (by rw [fU.2.2.1 0 (by omega)]; exact h0) (by rw [fU.2.2.1 7 (by omega)]; exact h7) (by rw [fU.2.1 38 (by decide)]; exact h38) (fun k' h1 h2 c' h3 h4 => by rw [pJ_st _ _ _ (by omega)]; exact STT k' h1 h2 c' h3 h4) (fun x hx => by
          rw [pJ_at, gb_or, gb_bit (by omega), bT x hx]
          by_cases e : x = c
          · subst e; rw [sfv, hfl, hsf, decide_eq_true rfl, decide_eq_true (show x < x + 1 by omega)]; simp
          · rw [decide_eq_false e, Bool.or_false]; congr 1; apply decide_eq_decide.mpr; omega)
        exact ⟨τ', e', fU.trans f', s'⟩
/-- memories that differ in the trial, the NUMBERS and the table -/
def F2 (τ τ' : ns_St) : Prop := τ'.2.2 = τ.2.2 ∧ (∀ b, b ≠ 42 → b ≠ 38 → τ'.1 b = τ.1 b) ∧ ∀ b, b ≠ 36 → τ'.2.1 b = τ.2.1 b
theorem e_fs41 {th : Nat → Int32} {g1 : Option Nat} {E K A N a : Nat} (hN : NN K N) (ha : a ≠ 42) : ∀ (k f : Nat) (τ : ns_St), k < f → A + k ≤ E → SV th g1 E τ → τ.1 42 0 = nI K → τ.1 42 7 = nI (wtK K) → τ.1 a 2 = nI A → (∀ k, A + k ≤ E → τ.1 38 (A + k) = nI (nbk th K A N k)) → ST th E K A N k τ →
    ∃ τ', g_StonePlan_fillSafe_41 f τ 35 a (nI (A + k) + (-1)) = some ((), τ') ∧ F2 τ τ' ∧ ST th E K A N 0 τ' := by
  intro k
  induction k with
  | zero =>
    intro f τ hf hk hV h0 h7 h2 h38 hS
    obtain ⟨f, rfl⟩ : ∃ q, f = q + 1 := ⟨f - 1, by omega⟩
    have h60 := hV.2.2.2.1
    have lt : nI (A + 0) + (-1) < nI A := by
      rw [Nat.add_zero]
      cases A with
      | zero => decide
      | succ a => rw [pk_m1]; exact nI_lt (by omega) (by omega)
    refine ⟨τ, ?_, ⟨rfl, fun _ _ _ => rfl, fun _ _ => rfl⟩, hS⟩
    rw [g_StonePlan_fillSafe_41, h2, ite2_p lt]
  | succ k ih =>
    intro f τ hf hk hV h0 h7 h2 h38 hS
    obtain ⟨f, rfl⟩ : ∃ q, f = q + 1 := ⟨f - 1, by omega⟩
    have h60 := hV.2.2.2.1
    have nb := nbk_b (th := th) (K := K) (A := A) hN.1 hN.2.1 k
    have ep : nI (A + (k + 1)) + (-1) = nI (A + k) := pk_m1 (A + k)
    have i38 : ns_in (nI (A + k)) (ns_ln 38) := ns_inI (show A + k < 61 by omega) (by decide)
    have i36 : ns_in (nI (A + k)) (ns_ln 36) := ns_inI (show A + k < 61 by omega) (by decide)
    have f0 : F1 (A + k) τ (ns_pJ τ 36 (A + k) 0) := F1.pJ
    have hV0 := hV.f1 f0
    have em : g_Math_min (ns_pJ τ 36 (A + k) 0) (nI (nbk th K A N k)) (63 : Int32) = some (nI (min (nbk th K A N k) 63), ns_pJ τ 36 (A + k) 0) := e_minNN (b := 63) (by omega) (by decide)
    obtain ⟨τ1, e1, f1, s1⟩ := e_fs71 (g1 := g1) (a := a) hN (k := k) (R := E - A - k - 1) (by omega) (g_StonePlan_fillSafe_41 f) (min (nbk th K A N k) 63 + 1) 0 ns_F (ns_pJ τ 36 (A + k) 0) (by show min _ 63 + 1 < 10000; omega) (by omega) hV0 h0 h7 (h38 k (by omega)) (fun k' h1 h2 c' h3 h4 => by rw [pJ_st _ _ _ (by omega)]; exact hS k' h1 h2 c' h3 h4) (fun x hx => by rw [pJ_at, gb_0, decide_eq_false (by omega)]; rfl)
    have ft := f0.trans f1
    obtain ⟨τ2, e2, f2, s2⟩ := ih f τ1 (by omega) (by omega) (hV.f1 ft) (by rw [ft.2.2.1 0 (by omega)]; exact h0) (by rw [ft.2.2.1 7 (by omega)]; exact h7) (by rw [ft.2.1 a ha]; exact h2) (fun k' hk' => by rw [ft.2.1 38 (by decide)]; exact h38 k' hk') s1
    refine ⟨τ2, ?_, ⟨f2.1.trans ft.1, fun b h3 h4 => (f2.2.1 b h3 h4).trans (ft.2.1 b h3), fun b hb => (f2.2.2 b hb).trans (ft.2.2.2.1 b hb)⟩, s2⟩
    have e1' : g_StonePlan_fillSafe_71 (g_StonePlan_fillSafe_41 f) ns_F (ns_pJ τ 36 (A + k) 0) 35 a (nI (A + k)) (nI (min (nbk th K A N k) 63)) (0 : Int32) = _ := e1
    have n38 : (ns_pJ τ 36 (A + k) 0).1 38 (A + k) = nI (nbk th K A N k) := h38 k (by omega)
    rw [g_StonePlan_fillSafe_41, h2, ep, ite2_n (nI_nlt (by omega) (by omega)), hV.1, rg_35_0, ev_drf, gk_36, grd_t i36, ns_ixI (by omega), ev_bnd, pJ_R, hV.1, rg_35_2, ev_drf, gk_38, grd_t i38, n38, em, ev_cl2, e1']
    exact e2
theorem gb_m1 : ∀ p, p < 64 → gb (-1 : Int64) p = true := by decide +kernel
theorem e_fillSafe {th : Nat → Int32} {g1 : Option Nat} {E K A N C a : Nat} {τ : ns_St} (hN : NN K N) (hV : SV th g1 E τ) (hA : A ≤ E) (hC : C < 2 ^ 26) (ka : ns_kd a = 2) (ha : a < 38) (hM : MC τ a K N A C) : ∃ τ', g_StonePlan_fillSafe τ 35 a = some ((), τ') ∧ F2 τ τ' ∧ ST th E K A N 0 τ' := by
  have h60 := hV.2.2.2.1
  have hE1 := hV.2.2.1
  obtain ⟨τ1, e1, q1, q2, q3, q4, q5⟩ := e_tellNumbers (σ := τ) hV.1 (th := th) (E := E) (K := K) (A := A) (N := N) (C := C) (a := a) (t := 42) (b := 38) hN hV.2 hA hC ka kd_42 kd_38 ln_38 (by omega) (by omega) (by omega) (by omega) (by omega) hM.1 hM.2.1 hM.2.2.1 hM.2.2.2.1 hM.2.2.2.2
  have i36 : ns_in (nI E) (ns_ln 36) := ns_inI (show E < 61 by omega) (by decide)
  have hV1 : SV th g1 E τ1 := ⟨by rw [q1]; exact hV.1, hV.2.cong (q2 2 (by decide) (by decide)) (by rw [q1])⟩
  have f1 : F1 E τ1 (ns_pJ τ1 36 E (-1)) := F1.pJ
  have hV2 := hV1.f1 f1
  have em : nI E - 1 = nI (A + (E - A)) + (-1) := by
    rw [show A + (E - A) = E by omega]
    obtain ⟨e, rfl⟩ : ∃ e, E = e + 1 := ⟨E - 1, by omega⟩
    rw [nI_pred, pk_m1]
  obtain ⟨τ2, e2, f2, s2⟩ := e_fs41 (g1 := g1) (a := a) hN (by omega) (E - A) ns_F (ns_pJ τ1 36 E (-1)) (by show E - A < 10000; omega) (by omega) hV2 q3 q4 (by show τ1.1 a 2 = _; rw [q2 a (by omega) (by omega)]; exact hM.2.2.1) q5 (fun k h1 h2 c h3 h4 => by
    have hk : k = E - A := by omega
    subst hk
    rw [show A + (E - A) = E by omega, pJ_at, gb_m1 c (by omega), show E - A - (E - A) = 0 by omega]
    rfl)
  refine ⟨τ2, ?_, ⟨f2.1.trans (by show τ1.2.2 = _; rw [q1]), fun b h3 h4 => (f2.2.1 b h3 h4).trans (q2 b h3 h4), fun b hb => (f2.2.2 b hb).trans (by rw [pJ_ne _ _ _ hb, q1])⟩, s2⟩
  have pE : τ1.1 2 0 = nI E := hV1.2.1
  have pE2 : (ns_pJ τ1 36 E (-1)).1 2 0 = nI E := pE
  unfold g_StonePlan_fillSafe
  rw [gk_35, grd_t ka, hV.1, rg_35_7, ev_drf, gk_2, rg_35_6, ev_drf, gk_42, rg_35_2, ev_drf, gk_38, e1, ev_cl2, hV1.1, rg_35_0, ev_drf, gk_36, rg_35_7, ev_drf, gk_2, pE, grd_t i36, ns_ixI (by omega), ev_bnd, pJ_R, hV1.1, rg_35_7, ev_drf, gk_2, pE2, ev_bnd, em]
  exact e2
/-- memories that differ in inner and trial -/
def F3 (τ τ' : ns_St) : Prop := τ'.2 = τ.2 ∧ ∀ b, b ≠ 41 → b ≠ 42 → τ'.1 b = τ.1 b
theorem F3.trans {a b c : ns_St} (h1 : F3 a b) (h2 : F3 b c) : F3 a c := ⟨h2.1.trans h1.1, fun x hx hy => (h2.2 x hx hy).trans (h1.2 x hx hy)⟩
theorem SV.f3 {th : Nat → Int32} {g1 : Option Nat} {E : Nat} {τ τ' : ns_St} (h : SV th g1 E τ) (o : F3 τ τ') : SV th g1 E τ' := ⟨by rw [o.1]; exact h.1, h.2.cong (o.2 2 (by decide) (by decide)) (by rw [o.1])⟩
theorem e_ha18 {th : Nat → Int32} {g1 : Option Nat} {E K A N k0 c0 a : Nat} (hN : NN K N) (ha : a ≠ 41) (ha2 : a ≠ 42) : ∀ (r k f : Nat) (τ : ns_St) (c : Nat) (x : Int64), r < f → A + k + r = E → k0 ≤ k → c + 3 * r < 2 ^ 27 → SV th g1 E τ → ST th E K A N (k0 + 1) τ → τ.1 a 7 = nI (wtK K) → MC τ 41 K (nbk th K A N k) (A + k) c → (∀ q, A + k < q → q ≤ E → sf th K A N (X1 q) (E - A - k0) k0 c0 = sf th K A N (X1 q) (E - A - k) k c) → (∀ p, p < 64 → gb x p = (decide (A + k0 < p ∧ p ≤ A + k) && sf th K A N (X1 p) (E - A - k0) k0 c0)) →
    ∃ m τ', g_StonePlan_helpersAhead_18 f τ 35 a x (nI (A + k + 1)) = some (m, τ') ∧ F3 τ τ' ∧ ∀ p, p < 64 → gb m p = (decide (A + k0 < p ∧ p ≤ E) && sf th K A N (X1 p) (E - A - k0) k0 c0) := by
  intro r
  induction r with
  | zero =>
    intro k f τ c x hf hk hk0 hc hV hS h7 hM hq hx
    obtain ⟨f, rfl⟩ : ∃ q, f = q + 1 := ⟨f - 1, by omega⟩
    have h60 := hV.2.2.2.1
    refine ⟨x, τ, ?_, ⟨rfl, fun _ _ _ => rfl⟩, fun p hp => by rw [hx p hp, show A + k = E by omega]⟩
    rw [g_StonePlan_helpersAhead_18, hV.1, rg_35_7, ev_drf, gk_2, hV.2.1, ite2_p (nI_lt (by omega) (by omega))]
  | succ r ih =>
    intro k f τ c x hf hk hk0 hc hV hS h7 hM hq hx
    obtain ⟨f, rfl⟩ : ∃ q, f = q + 1 := ⟨f - 1, by omega⟩
    have h60 := hV.2.2.2.1
    have wl := wtK_le K
    obtain ⟨S, eS, oS, cS⟩ := e_takeFrom (σ := τ) kd_42 kd_41 (by decide)
    have hVS : SV th g1 E S := ⟨by rw [oS.1]; exact hV.1, hV.2.cong (oS.2 2 (by decide)) (by rw [oS.1])⟩
    have mS : MC S 42 K (nbk th K A N k) (A + k) c := ⟨by rw [cS 0 (by omega)]; exact hM.1, by rw [cS 1 (by omega)]; exact hM.2.1, by rw [cS 2 (by omega)]; exact hM.2.2.1, by rw [cS 3 (by omega)]; exact hM.2.2.2.1, by rw [cS 7 (by omega)]; exact hM.2.2.2.2⟩
    obtain ⟨T, eT, oT, mT⟩ := e_fallsNext hN hVS (show A + k < E by omega) kd_42 (b := wtK K) (by omega) (by omega) mS
    have hVT := hVS.o3 oT (by decide)
    have fT : F3 τ T := ⟨by rw [oT.1, oS.1], fun b h1 h2 => by rw [oT.2.1 b h2, oS.2 b h2]⟩
    have STT : ST th E K A N (k0 + 1) T := hS.cong (by rw [fT.1])
    have n1b := n1_le (th := th) (K := K) (A := A) (N := N) (k := k) (c := c) (b := wtK K)
    have n1c := n1_le (th := th) (K := K) (A := A) (N := N) (k := k) (c := c) (b := 0)
    have S7 : S.1 a 7 = nI (wtK K) := by rw [oS.2 a ha2]; exact h7
    -- the bit at this PLACE
    have hbit : sf th K A N (X1 (A + k + 1)) (E - A - k0) k0 c0 = (!fl th K A N k c (wtK K) && sf th K A N X0 r (k + 1) (n1 th K A N k c (wtK K))) := by
      rw [hq (A + k + 1) (by omega) (by omega), show E - A - k = r + 1 by omega, sf]
      have eb : bx K (X1 (A + k + 1)) (A + k + 1) = wtK K := by unfold bx X1; rw [decide_eq_true rfl, if_pos rfl]
      rw [eb, sf_cong (Y := X0) r (k + 1) _ (fun p h1 h2 => by unfold X1 X0; exact decide_eq_false (by omega))]
    -- what follows
    have go75 : ∀ (U : ns_St) (y : Int64), F3 τ U → U.1 41 = τ.1 41 → (∀ p, p < 64 → gb y p = (decide (A + k0 < p ∧ p ≤ A + (k + 1)) && sf th K A N (X1 p) (E - A - k0) k0 c0)) → ∃ m τ', g_StonePlan_helpersAhead_75 (g_StonePlan_helpersAhead_18 f) U 35 a y (nI (A + k + 1)) = some (m, τ') ∧ F3 τ τ' ∧ ∀ p, p < 64 → gb m p = (decide (A + k0 < p ∧ p ≤ E) && sf th K A N (X1 p) (E - A - k0) k0 c0) := by
      intro U y fU u41 hy
      have hVU := hV.f3 fU
      obtain ⟨W, eW, oW, mW⟩ := e_fallsNext hN hVU (show A + k < E by omega) kd_41 (b := 0) (by omega) (by omega) (hM.of u41)
      have eW' : g_StonePlan_fallsNext U 35 41 (0 : Int32) = some (yn (fl th K A N k c 0 = true), W) := eW
      have fW : F3 τ W := fU.trans ⟨oW.1, fun b h1 _ => oW.2.1 b h1⟩
      have nx : ∀ q, A + (k + 1) < q → q ≤ E → sf th K A N (X1 q) (E - A - k0) k0 c0 = (!fl th K A N k c 0 && sf th K A N (X1 q) (E - A - (k + 1)) (k + 1) (n1 th K A N k c 0)) := fun q h1 h2 => by
        rw [hq q (by omega) h2, show E - A - k = r + 1 by omega, sf, show E - A - (k + 1) = r by omega]
        have eb : bx K (X1 q) (A + k + 1) = 0 := by unfold bx X1; rw [decide_eq_false (by omega), if_neg (by decide)]
        rw [eb]
      unfold g_StonePlan_helpersAhead_75
      rw [hVU.1, rg_35_5, ev_drf, gk_41, eW', ev_cl2]
      cases hfl : fl th K A N k c 0 with
      | true =>
        rw [ite2_y (Eq.refl true)]
        refine ⟨y, W, rfl, fW, fun p hp => ?_⟩
        rw [hy p hp]
        by_cases e : A + k0 < p ∧ p ≤ A + (k + 1)
        · rw [decide_eq_true e, decide_eq_true (show A + k0 < p ∧ p ≤ E by omega)]
        · rw [decide_eq_false e]
          by_cases e2 : A + k0 < p ∧ p ≤ E
          · rw [nx p (by omega) (by omega), hfl]; simp
          · rw [decide_eq_false e2]
      | false =>
        rw [ite2_z (by decide), ev_bnd, ← nI_succ]
        obtain ⟨m, τ', e', f', b'⟩ := ih (k + 1) f W (n1 th K A N k c 0) y (by omega) (by omega) (by omega) (by omega) (hV.f3 fW) (hS.cong (by rw [fW.1])) (by rw [fW.2 a ha ha2]; exact h7) mW (fun q h1 h2 => by rw [nx q h1 h2, hfl]; rfl) hy
        exact ⟨m, τ', e', fW.trans f', b'⟩
    have y0 : sf th K A N (X1 (A + k + 1)) (E - A - k0) k0 c0 = false → ∀ p, p < 64 → gb x p = (decide (A + k0 < p ∧ p ≤ A + (k + 1)) && sf th K A N (X1 p) (E - A - k0) k0 c0) := fun hz p hp => by
      rw [hx p hp]
      by_cases e : p = A + k + 1
      · subst e; rw [hz]; simp
      · congr 1; apply decide_eq_decide.mpr; omega
    rw [g_StonePlan_helpersAhead_18, hV.1, rg_35_7, ev_drf, gk_2, hV.2.1, ite2_n (nI_nlt (by omega) (by omega)), rg_35_6, ev_drf, gk_42, rg_35_5, ev_drf, gk_41, eS, ev_cl2, hVS.1, rg_35_6, ev_drf, gk_42, S7, eT, ev_cl2]
    have t41 : T.1 41 = τ.1 41 := by rw [oT.2.1 41 (by decide), oS.2 41 (by decide)]
    cases hfl : fl th K A N k c (wtK K) with
    | true =>
      rw [ite2_y (Eq.refl true)]
      exact go75 T x fT t41 (y0 (by rw [hbit, hfl]; rfl))
    | false =>
      have es := e_isSafe hN hVT (k := k + 1) (k0 := k0 + 1) (by omega) (by omega) kd_42 (by omega) (fun k3 => n1_nc hN.1 hN.2.1 k3) mT STT
      rw [show E - A - (k + 1) = r by omega] at es
      rw [ite2_z (by decide), hVT.1, rg_35_6, ev_drf, gk_42, es, ev_cl2]
      cases hsf : sf th K A N X0 r (k + 1) (n1 th K A N k c (wtK K)) with
      | false =>
        rw [ite2_z (by decide)]
        exact go75 T x fT t41 (y0 (by rw [hbit, hsf]; simp))
      | true =>
        rw [ite2_y (Eq.refl true), e_bit, ev_cl2, ev_bnd]
        refine go75 T _ fT t41 (fun p hp => ?_)
        rw [gb_or, gb_bit (by omega), hx p hp]
        by_cases e : p = A + k + 1
        · subst e; rw [hbit, hfl, hsf, decide_eq_true rfl, decide_eq_true (show A + k0 < A + k + 1 ∧ A + k + 1 ≤ A + (k + 1) by omega)]; simp
        · rw [decide_eq_false e, Bool.or_false]; congr 1; apply decide_eq_decide.mpr; omega
theorem e_helpersAhead {th : Nat → Int32} {g1 : Option Nat} {E K A N k0 c0 a : Nat} {τ : ns_St} (hN : NN K N) (hV : SV th g1 E τ) (hk : A + k0 ≤ E) (ka : ns_kd a = 2) (ha : a ≠ 41) (ha2 : a ≠ 42) (hc : c0 < 2 ^ 26 + 1000) (hM : MC τ a K (nbk th K A N k0) (A + k0) c0) (hS : ST th E K A N (k0 + 1) τ) : ∃ m τ', g_StonePlan_helpersAhead τ 35 a = some (m, τ') ∧ F3 τ τ' ∧ ∀ p, p < 64 → gb m p = (decide (A + k0 < p ∧ p ≤ E) && sf th K A N (X1 p) (E - A - k0) k0 c0) := by
  have h60 := hV.2.2.2.1
  obtain ⟨S, eS, oS, cS⟩ := e_takeFrom (σ := τ) kd_41 ka ha
  have fS : F3 τ S := ⟨oS.1, fun b h1 _ => oS.2 b h1⟩
  have hVS := hV.f3 fS
  have mS : MC S 41 K (nbk th K A N k0) (A + k0) c0 := ⟨by rw [cS 0 (by omega)]; exact hM.1, by rw [cS 1 (by omega)]; exact hM.2.1, by rw [cS 2 (by omega)]; exact hM.2.2.1, by rw [cS 3 (by omega)]; exact hM.2.2.2.1, by rw [cS 7 (by omega)]; exact hM.2.2.2.2⟩
  obtain ⟨m, τ', e', f', b'⟩ := e_ha18 (k0 := k0) (c0 := c0) hN ha ha2 (E - A - k0) k0 ns_F S c0 0 (by show _ < 10000; omega) (by omega) (Nat.le_refl _) (by omega) hVS (hS.cong (by rw [oS.1])) (by rw [oS.2 a ha]; exact hM.2.2.2.2) mS (fun _ _ _ => rfl) (fun p hp => by rw [gb_0, decide_eq_false (by omega)]; rfl)
  refine ⟨m, τ', ?_, fS.trans f', b'⟩
  unfold g_StonePlan_helpersAhead
  rw [gk_35, grd_t ka, hV.1, rg_35_5, ev_drf, gk_41, eS, ev_cl2, oS.2 a ha, hM.2.2.1, ev_bnd, ← nI_succ]
  exact e'
