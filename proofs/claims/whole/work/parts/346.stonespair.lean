/-! STONES: two -/
/-- memories that differ in the seconds, and in outer to trial -/
def HF (τ τ' : ns_St) : Prop := τ'.2.2 = τ.2.2 ∧ (∀ b, ¬ (39 ≤ b ∧ b ≤ 42) → τ'.1 b = τ.1 b) ∧ ∀ b, b ≠ 37 → τ'.2.1 b = τ.2.1 b
theorem HF.rfl (τ : ns_St) : HF τ τ := ⟨Eq.refl _, fun _ _ => Eq.refl _, fun _ _ => Eq.refl _⟩
theorem HF.trans {a b c : ns_St} (h1 : HF a b) (h2 : HF b c) : HF a c := ⟨h2.1.trans h1.1, fun x hx => (h2.2.1 x hx).trans (h1.2.1 x hx), fun x hx => (h2.2.2 x hx).trans (h1.2.2 x hx)⟩
theorem HF.sc {a b : ns_St} (h : HF a b) : Sc a b := ⟨h.1, fun x hx => h.2.1 x (by omega), fun x hx => h.2.2 x (by omega)⟩
theorem HF.on {a b : ns_St} {c : Nat} (hc : 39 ≤ c ∧ c ≤ 42) (h : On c a b) : HF a b := ⟨by rw [h.1], fun x hx => h.2 x (fun e => hx (e ▸ hc)), fun x _ => by rw [h.1]⟩
theorem HF.o3 {a b : ns_St} {c : Nat} (hc : 39 ≤ c ∧ c ≤ 42) (h : O3 c a b) : HF a b := ⟨by rw [h.1], fun x hx => h.2.1 x (fun e => hx (e ▸ hc)), fun x _ => by rw [h.1]⟩
theorem HF.f3 {a b : ns_St} (h : F3 a b) : HF a b := ⟨by rw [h.1], fun x hx => h.2 x (by omega) (by omega), fun x _ => by rw [h.1]⟩
theorem HF.pJ {a : ns_St} {k : Nat} {v : Int64} : HF a (ns_pJ a 37 k v) := ⟨Eq.refl _, fun _ _ => Eq.refl _, fun x hx => pJ_ne _ _ _ hx⟩
theorem SV.hf {th : Nat → Int32} {g1 : Option Nat} {E : Nat} {τ τ' : ns_St} (h : SV th g1 E τ) (o : HF τ τ') : SV th g1 E τ' := ⟨by rw [o.1]; exact h.1, h.2.cong (o.2.1 2 (by decide)) (o.2.2 2 (by decide))⟩
/-- where the outer MULE is after k STEPS: fallen, or going on -/
def OU (th : Nat → Int32) (E K A N C k : Nat) (τ : ns_St) (b : Bool) (c : Nat) : Prop := (b = true ∧ ∀ X : Nat → Bool, (∀ p, A < p → p ≤ A + k → X p = false) → sf th K A N X (E - A) 0 C = false) ∨ (b = false ∧ MC τ 39 K (nbk th K A N k) (A + k) c ∧ ∀ X : Nat → Bool, (∀ p, A < p → p ≤ A + k → X p = false) → sf th K A N X (E - A) 0 C = sf th K A N X (E - A - k) k c)
theorem OU.of {th : Nat → Int32} {E K A N C k c : Nat} {τ τ' : ns_St} {b : Bool} (h : OU th E K A N C k τ b c) (e : τ'.1 39 = τ.1 39) : OU th E K A N C k τ' b c := by
  rcases h with h | ⟨h1, h2, h3⟩
  · exact Or.inl h
  · exact Or.inr ⟨h1, h2.of e, h3⟩
theorem e_hs55 {th : Nat → Int32} {g1 : Option Nat} {E K A N C a : Nat} (hN : NN K N) (ha : a < 35) : ∀ (r k f : Nat) (τ : ns_St) (b : Bool) (c : Nat), r < f → A + k + r = E → c + 3 * r < 2 ^ 26 + 900 → SV th g1 E τ → ST th E K A N 0 τ → τ.1 a 7 = nI (wtK K) → OU th E K A N C k τ b c →
    ∃ τ', g_StonePlan_heedSeconds_55 f τ 35 a (yn (b = true)) (nI (A + k + 1)) = some ((), τ') ∧ HF τ τ' ∧ (∀ p, ¬ (A + k < p ∧ p ≤ E) → τ'.2.1 37 p = τ.2.1 37 p) ∧ ∀ p, A + k < p → p ≤ E → ∀ q, q < 64 → gb (τ'.2.1 37 p) q = (gb (τ.2.1 37 p) q && (decide (p < q ∧ q ≤ E) && sf th K A N (X2 p q) (E - A) 0 C)) := by
  intro r
  induction r with
  | zero =>
    intro k f τ b c hf hk hc hV hS h7 hO
    obtain ⟨f, rfl⟩ : ∃ q, f = q + 1 := ⟨f - 1, by omega⟩
    have h60 := hV.2.2.2.1
    refine ⟨τ, ?_, HF.rfl τ, fun _ _ => rfl, fun p h1 h2 => absurd h1 (by omega)⟩
    rw [g_StonePlan_heedSeconds_55, hV.1, rg_35_7, ev_drf, gk_2, hV.2.1, ite2_p (nI_lt (by omega) (by omega))]
  | succ r ih =>
    intro k f τ b c hf hk hc hV hS h7 hO
    obtain ⟨f, rfl⟩ : ∃ q, f = q + 1 := ⟨f - 1, by omega⟩
    have h60 := hV.2.2.2.1
    have wl := wtK_le K
    have i37 : ns_in (nI (A + k + 1)) (ns_ln 37) := ns_inI (show A + k + 1 < 61 by omega) (by decide)
    -- after the place is heeded
    have go144 : ∀ U : ns_St, HF τ U → U.1 39 = τ.1 39 → (∀ p, p ≠ A + k + 1 → U.2.1 37 p = τ.2.1 37 p) → (∀ q, q < 64 → gb (U.2.1 37 (A + k + 1)) q = (gb (τ.2.1 37 (A + k + 1)) q && (decide (A + k + 1 < q ∧ q ≤ E) && sf th K A N (X2 (A + k + 1) q) (E - A) 0 C))) → ∃ τ', g_StonePlan_heedSeconds_144 (g_StonePlan_heedSeconds_55 f) U 35 a (yn (b = true)) (nI (A + k + 1)) = some ((), τ') ∧ HF τ τ' ∧ (∀ p, ¬ (A + k < p ∧ p ≤ E) → τ'.2.1 37 p = τ.2.1 37 p) ∧ ∀ p, A + k < p → p ≤ E → ∀ q, q < 64 → gb (τ'.2.1 37 p) q = (gb (τ.2.1 37 p) q && (decide (p < q ∧ q ≤ E) && sf th K A N (X2 p q) (E - A) 0 C)) := by
      intro U fU u39 hu hat
      have fin : ∀ (W : ns_St) (b' : Bool) (c' : Nat), HF τ W → W.2.1 37 = U.2.1 37 → c' + 3 * r < 2 ^ 26 + 900 → OU th E K A N C (k + 1) W b' c' → ∃ τ', g_StonePlan_heedSeconds_55 f W 35 a (yn (b' = true)) (nI (A + k + 1 + 1)) = some ((), τ') ∧ HF τ τ' ∧ (∀ p, ¬ (A + k < p ∧ p ≤ E) → τ'.2.1 37 p = τ.2.1 37 p) ∧ ∀ p, A + k < p → p ≤ E → ∀ q, q < 64 → gb (τ'.2.1 37 p) q = (gb (τ.2.1 37 p) q && (decide (p < q ∧ q ≤ E) && sf th K A N (X2 p q) (E - A) 0 C)) := by
        intro W b' c' fW w37 hc' hO'
        obtain ⟨τ', e', f', n', y'⟩ := ih (k + 1) f W b' c' (by omega) (by omega) hc' (hV.hf fW) (hS.cong (fW.2.2 36 (by decide))) (by rw [fW.2.1 a (by omega)]; exact h7) hO'
        refine ⟨τ', e', fW.trans f', fun p hp => ?_, fun p h1 h2 q hq => ?_⟩
        · rw [n' p (by omega), w37, hu p (by omega)]
        · by_cases e : p = A + k + 1
          · subst e; rw [n' _ (by omega), w37]; exact hat q hq
          · rw [y' p (by omega) h2 q hq, w37, hu p e]
      have n1c := n1_le (th := th) (K := K) (A := A) (N := N) (k := k) (c := c) (b := 0)
      rcases hO with ⟨rfl, hX⟩ | ⟨rfl, hM, hX⟩
      · obtain ⟨τ', e', z'⟩ := fin U true c fU (Eq.refl _) (by omega) (Or.inl ⟨Eq.refl _, fun X h => hX X (fun p h1 h2 => h p h1 (by omega))⟩)
        refine ⟨τ', ?_, z'⟩
        unfold g_StonePlan_heedSeconds_144 g_StonePlan_heedSeconds_161
        rw [ite2_y (Eq.refl true), ev_bnd, ← nI_succ]
        exact e'
      · obtain ⟨W, eW, oW, mW⟩ := e_fallsNext hN (hV.hf fU) (show A + k < E by omega) kd_39 (b := 0) (by omega) (by omega) (hM.of u39)
        have eW' : g_StonePlan_fallsNext U 35 39 (0 : Int32) = some (yn (fl th K A N k c 0 = true), W) := eW
        have fW := fU.trans (HF.o3 (by decide) oW)
        have w37 : W.2.1 37 = U.2.1 37 := by rw [oW.1]
        have step : ∀ X : Nat → Bool, (∀ p, A < p → p ≤ A + (k + 1) → X p = false) → sf th K A N X (E - A) 0 C = (!fl th K A N k c 0 && sf th K A N X (E - A - (k + 1)) (k + 1) (n1 th K A N k c 0)) := fun X h => by
          rw [hX X (fun p h1 h2 => h p h1 (by omega)), show E - A - k = (E - A - (k + 1)) + 1 by omega, sf]
          have : bx K X (A + k + 1) = 0 := by unfold bx; rw [h (A + k + 1) (by omega) (by omega)]; rfl
          rw [this]
        unfold g_StonePlan_heedSeconds_144 g_StonePlan_heedSeconds_161
        rw [ite2_z (by decide), (hV.hf fU).1, rg_35_3, ev_drf, gk_39, eW', ev_cl2]
        cases hfl : fl th K A N k c 0 with
        | true =>
          obtain ⟨τ', e', z'⟩ := fin W true c fW w37 (by omega) (Or.inl ⟨Eq.refl _, fun X h => by rw [step X h, hfl]; rfl⟩)
          refine ⟨τ', ?_, z'⟩
          rw [ite2_y (Eq.refl true), ev_bnd, ← nI_succ]
          exact e'
        | false =>
          obtain ⟨τ', e', z'⟩ := fin W false (n1 th K A N k c 0) fW w37 (by omega) (Or.inr ⟨Eq.refl _, mW, fun X h => by rw [step X h, hfl]; rfl⟩)
          refine ⟨τ', ?_, z'⟩
          rw [ite2_z (by decide), ev_bnd, ← nI_succ]
          exact e'
    -- nothing heeded falls out
    have go114 : ∀ U : ns_St, HF τ U → U.1 39 = τ.1 39 → U.2.1 37 = τ.2.1 37 → (∀ q, A + k + 1 < q → q ≤ E → sf th K A N (X2 (A + k + 1) q) (E - A) 0 C = false) → ∃ τ', g_StonePlan_heedSeconds_114 (g_StonePlan_heedSeconds_55 f) U 35 a (yn (b = true)) (nI (A + k + 1)) = some ((), τ') ∧ HF τ τ' ∧ (∀ p, ¬ (A + k < p ∧ p ≤ E) → τ'.2.1 37 p = τ.2.1 37 p) ∧ ∀ p, A + k < p → p ≤ E → ∀ q, q < 64 → gb (τ'.2.1 37 p) q = (gb (τ.2.1 37 p) q && (decide (p < q ∧ q ≤ E) && sf th K A N (X2 p q) (E - A) 0 C)) := by
      intro U fU u39 u37 hz
      unfold g_StonePlan_heedSeconds_114 g_StonePlan_heedSeconds_115 g_StonePlan_heedSeconds_142
      rw [(hV.hf fU).1, rg_35_1, ev_drf, gk_37, grd_t i37, ite2_p (Eq.refl (0 : Int32)), grd_t i37, ns_ixI (by omega), ev_bnd]
      refine go144 _ (fU.trans HF.pJ) u39 (fun p hp => by rw [pJ_st _ _ _ hp, u37]) (fun q hq => ?_)
      rw [pJ_at, gb_and, gb_0, Bool.and_false]
      by_cases e : A + k + 1 < q ∧ q ≤ E
      · rw [hz q e.1 e.2]; simp
      · rw [decide_eq_false e]; simp
    have x2 : ∀ q p, A < p → p ≤ A + k → A + k + 1 < q → X2 (A + k + 1) q p = false := fun q p h1 h2 h3 => by unfold X2; rw [decide_eq_false (show ¬ p = A + k + 1 by omega), decide_eq_false (show ¬ p = q by omega)]; rfl
    rw [g_StonePlan_heedSeconds_55, hV.1, rg_35_7, ev_drf, gk_2, hV.2.1, ite2_n (nI_nlt (by omega) (by omega)), rg_35_1, ev_drf, gk_37, grd_t i37, ns_ixI (show A + k + 1 < 2 ^ 31 by omega)]
    by_cases hz : lg_cmp (τ.2.1 37 (A + k + 1)) 0 = 0
    · rw [ite2_p hz]
      exact go144 τ (HF.rfl τ) (Eq.refl _) (fun _ _ => Eq.refl _) (fun q hq => by rw [gb_zc.mp hz q hq]; rfl)
    · obtain ⟨S, eS, oS, cS⟩ := e_takeFrom (σ := τ) kd_40 kd_39 (by decide)
      have fS : HF τ S := HF.on (by decide) oS
      rw [ite2_n hz, rg_35_4, ev_drf, gk_40, rg_35_3, ev_drf, gk_39, eS, ev_cl2]
      have hO2 := hO
      rcases hO2 with ⟨hb, hX⟩ | ⟨hb, hM, hX⟩
      · rw [ite2_n (show ¬ yn (b = true) = 0 by rw [hb]; decide)]
        exact go114 S fS (oS.2 39 (by decide)) (by rw [oS.1]) (fun q h1 h2 => hX _ (fun p h3 h4 => x2 q p h3 h4 h1))
      · have hVS := hV.hf fS
        have mS : MC S 40 K (nbk th K A N k) (A + k) c := ⟨by rw [cS 0 (by omega)]; exact hM.1, by rw [cS 1 (by omega)]; exact hM.2.1, by rw [cS 2 (by omega)]; exact hM.2.2.1, by rw [cS 3 (by omega)]; exact hM.2.2.2.1, by rw [cS 7 (by omega)]; exact hM.2.2.2.2⟩
        obtain ⟨T, eT, oT, mT⟩ := e_fallsNext hN hVS (show A + k < E by omega) kd_40 (b := wtK K) (by omega) (by omega) mS
        have fT := fS.trans (HF.o3 (by decide) oT)
        have n1b := n1_le (th := th) (K := K) (A := A) (N := N) (k := k) (c := c) (b := wtK K)
        have t39 : T.1 39 = τ.1 39 := by rw [oT.2.1 39 (by decide), oS.2 39 (by decide)]
        have t37 : T.2.1 37 = τ.2.1 37 := by rw [oT.1, oS.1]
        have step : ∀ q, A + k + 1 < q → sf th K A N (X2 (A + k + 1) q) (E - A) 0 C = (!fl th K A N k c (wtK K) && sf th K A N (X1 q) (E - A - (k + 1)) (k + 1) (n1 th K A N k c (wtK K))) := fun q h1 => by
          rw [hX _ (fun p h3 h4 => x2 q p h3 h4 h1), show E - A - k = (E - A - (k + 1)) + 1 by omega, sf]
          have eb : bx K (X2 (A + k + 1) q) (A + k + 1) = wtK K := by unfold bx X2; rw [decide_eq_true rfl]; rfl
          rw [eb, sf_cong (Y := X1 q) _ (k + 1) _ (fun p h3 h4 => by unfold X2 X1; rw [decide_eq_false (show ¬ p = A + k + 1 by omega)]; rfl)]
        rw [ite2_p (show yn (b = true) = 0 by rw [hb]; rfl), hVS.1, rg_35_4, ev_drf, gk_40, show S.1 a 7 = nI (wtK K) by rw [oS.2 a (by omega)]; exact h7, eT, ev_cl2]
        cases hfl : fl th K A N k c (wtK K) with
        | true =>
          rw [ite2_y (Eq.refl true)]
          exact go114 T fT t39 t37 (fun q h1 h2 => by rw [step q h1, hfl]; rfl)
        | false =>
          obtain ⟨x, W, eW, fW, bW⟩ := e_helpersAhead (k0 := k + 1) (A := A) (c0 := n1 th K A N k c (wtK K)) hN (hV.hf fT) (by omega) kd_40 (by decide) (by decide) (by omega) mT (fun k' h1 h2 c' h3 h4 => by rw [fT.2.2 36 (by decide)]; exact hS k' (by omega) h2 c' h3 h4)
          rw [ite2_z (by decide)]
          unfold g_StonePlan_heedSeconds_115 g_StonePlan_heedSeconds_142
          rw [(hV.hf fT).1, rg_35_1, ev_drf, gk_37, grd_t i37, ite2_n (by decide), rg_35_4, ev_drf, gk_40, eW, ev_cl2, grd_t i37, ns_ixI (show A + k + 1 < 2 ^ 31 by omega), ev_bnd]
          refine go144 _ ((fT.trans (HF.f3 fW)).trans HF.pJ) (by show W.1 39 = _; rw [fW.2 39 (by decide) (by decide), t39]) (fun p hp => by rw [pJ_st _ _ _ hp, fW.1, t37]) (fun q hq => ?_)
          rw [pJ_at, gb_and, t37, bW q hq]
          by_cases e : A + k + 1 < q ∧ q ≤ E
          · rw [step q e.1, hfl, decide_eq_true e, decide_eq_true (show A + (k + 1) < q ∧ q ≤ E by omega)]; rfl
          · rw [decide_eq_false e, decide_eq_false (show ¬ (A + (k + 1) < q ∧ q ≤ E) by omega)]; rfl
theorem e_hs3 {a A : Nat} {g1 : Option Nat} {σ : ns_St} {x : Int64} (hA : A ≤ 60) (ha : σ.1 a 2 = nI A) (hR : σ.2.2 = ns_rg g1 (some 2)) : ∀ (r p f : Nat) (τ : ns_St), r < f → p + r = A + 1 → HF σ τ → τ.1 = σ.1 → (∀ i, τ.2.1 37 i = if i < p then σ.2.1 37 i &&& x else σ.2.1 37 i) → ∃ τ', g_StonePlan_heedSeconds_3 f τ 35 a x (nI p) = g_StonePlan_heedSeconds_36 τ' 35 a ∧ HF σ τ' ∧ τ'.1 = σ.1 ∧ ∀ i, τ'.2.1 37 i = if i < A + 1 then σ.2.1 37 i &&& x else σ.2.1 37 i := by
  intro r
  induction r with
  | zero =>
    intro p f τ hf hp s hi h37
    obtain ⟨f, rfl⟩ : ∃ q, f = q + 1 := ⟨f - 1, by omega⟩
    refine ⟨τ, ?_, s, hi, by rw [show A + 1 = p by omega]; exact h37⟩
    rw [g_StonePlan_heedSeconds_3, hi, ha, ite2_p (nI_lt (by omega) (by omega))]
  | succ r ih =>
    intro p f τ hf hp s hi h37
    obtain ⟨f, rfl⟩ : ∃ q, f = q + 1 := ⟨f - 1, by omega⟩
    have i37 : ns_in (nI p) (ns_ln 37) := ns_inI (show p < 61 by omega) (by decide)
    rw [g_StonePlan_heedSeconds_3, hi, ha, ite2_n (nI_nlt (by omega) (by omega)), ite2_n (show ¬ (61 : Int32) ≤ nI p from nI_ge (b := 61) (by omega) (by decide)), s.1, hR, rg_35_1, ev_drf, gk_37, grd_t i37, grd_t i37, ns_ixI (by omega), ev_bnd, ev_bnd, ← nI_succ]
    refine ih (p + 1) f _ (by omega) (by omega) (s.trans HF.pJ) hi (fun i => ?_)
    by_cases e : i = p
    · subst e; rw [pJ_at, h37, if_neg (by omega), if_pos (by omega)]
    · rw [pJ_st _ _ _ e, h37]
      by_cases q : i < p
      · rw [if_pos q, if_pos (by omega)]
      · rw [if_neg q, if_neg (by omega)]
/-- the seconds after j MULES -/
def SQ (σ : ns_St) (E j : Nat) (τ : ns_St) : Prop := ∀ p, p ≤ 60 → ∀ q, q < 64 → gb (τ.2.1 37 p) q = (fr1 σ E p && fr1 σ E q && decide (p < q) && aF σ E (X2 p q) j)
theorem e_heedSeconds {B : Nat} {σ τ : ns_St} {E H j : Nat} {g1 : Option Nat} {x : Int64} (hP : PS B σ E H g1) (s : Sc σ τ) (hj : j < H) (hS : ST (σ.1 69) E (gm σ 70 j) (gm σ 72 j) (gm σ 71 j) 0 τ) (hx : ∀ p, p < 64 → gb x p = (decide (p ≤ E) && sfm σ E (X1 p) j)) (hQ : SQ σ E j τ) : ∃ τ', g_StonePlan_heedSeconds τ 35 (4 + j) x = some ((), τ') ∧ Sc σ τ' ∧ SQ σ E (j + 1) τ' := by
  have hH := hP.1.2.2.2.1
  have h60 := hP.1.h60
  have m := hP.1.m hj
  have hAE := m.1.2.2.2.1
  have hCB := m.1.2.2.2.2.1
  have hBb := hP.1.2.2.2.2.2.2.1
  have ka := kd_m4 j (by omega)
  have m0 := hP.mc s hj
  have hRτ : τ.2.2 = ns_rg g1 (some 2) := by rw [s.1]; exact hP.2
  obtain ⟨τ1, e1, f1, i1, b1⟩ := e_hs3 (a := 4 + j) (A := gm σ 72 j) (g1 := g1) (σ := τ) (x := x) (by omega) m0.2.2.1 hRτ (gm σ 72 j + 1) 0 ns_F τ (by show _ < 10000; omega) (by omega) (HF.rfl τ) (Eq.refl _) (fun i => by rw [if_neg (by omega)])
  have e1' : g_StonePlan_heedSeconds_3 ns_F τ 35 (4 + j) x (0 : Int32) = _ := e1
  have s1 := s.trans f1.sc
  have m1 := hP.mc s1 hj
  obtain ⟨S, eS, oS, cS⟩ := e_takeFrom (σ := τ1) kd_39 ka (by omega)
  have fS : HF τ1 S := HF.on (by decide) oS
  have mS : MC S 39 (gm σ 70 j) (nbk (σ.1 69) (gm σ 70 j) (gm σ 72 j) (gm σ 71 j) 0) (gm σ 72 j + 0) (gm σ 73 j) := ⟨by rw [cS 0 (by omega)]; exact m1.1, by rw [cS 1 (by omega)]; exact m1.2.1, by rw [cS 2 (by omega)]; exact m1.2.2.1, by rw [cS 3 (by omega)]; exact m1.2.2.2.1, by rw [cS 7 (by omega)]; exact m1.2.2.2.2⟩
  have s2 := s1.trans fS.sc
  have hS2 : ST (σ.1 69) E (gm σ 70 j) (gm σ 72 j) (gm σ 71 j) 0 S := hS.cong (by rw [fS.2.2 36 (by decide), f1.2.2 36 (by decide)])
  obtain ⟨τ2, e2, f2, n2, y2⟩ := e_hs55 (C := gm σ 73 j) (a := 4 + j) m.nn (by omega) (E - gm σ 72 j) 0 ns_F S false (gm σ 73 j) (by show _ < 10000; omega) (by omega) (by omega) (hP.sv s2) hS2 (hP.mc s2 hj).2.2.2.2 (Or.inr ⟨Eq.refl _, mS, fun X _ => Eq.refl _⟩)
  have e2' : g_StonePlan_heedSeconds_55 ns_F S 35 (4 + j) (0 : Int32) (nI (gm σ 72 j + 1)) = some ((), τ2) := e2
  refine ⟨τ2, ?_, s2.trans f2.sc, fun p hp q hq => ?_⟩
  · unfold g_StonePlan_heedSeconds
    rw [gk_35, grd_t ka, e1']
    unfold g_StonePlan_heedSeconds_36
    rw [f1.1, hRτ, rg_35_3, ev_drf, gk_39, eS, ev_cl2, oS.2 (4 + j) (by omega), m1.2.2.1, ev_bnd, ← nI_succ, e2']
  · have o37 : S.2.1 37 = τ1.2.1 37 := by rw [oS.1]
    rw [aF]
    by_cases c1 : p ≤ gm σ 72 j
    · rw [n2 p (by omega), o37, b1, if_pos (by omega), gb_and, hQ p hp q hq, hx q hq]
      have ex : sfm σ E (X2 p q) j = sfm σ E (X1 q) j := sf_cong _ _ _ (fun y h1 h2 => by unfold X2 X1; rw [decide_eq_false (show ¬ y = p by omega)]; rfl)
      rw [ex]
      by_cases e : q ≤ E
      · rw [decide_eq_true e, Bool.true_and, Bool.and_assoc]
      · rw [fr1_hi (p := q) (by omega)]; simp
    · by_cases c2 : p ≤ E
      · rw [y2 p (by omega) c2 q hq, o37, b1, if_neg (by omega), hQ p hp q hq]
        have ex : sf (σ.1 69) (gm σ 70 j) (gm σ 72 j) (gm σ 71 j) (X2 p q) (E - gm σ 72 j) 0 (gm σ 73 j) = sfm σ E (X2 p q) j := rfl
        rw [ex]
        by_cases e : p < q ∧ q ≤ E
        · rw [decide_eq_true e, Bool.true_and, Bool.and_assoc]
        · rw [decide_eq_false e]
          by_cases e2 : q ≤ E
          · rw [decide_eq_false (show ¬ p < q by omega)]; simp
          · rw [fr1_hi (p := q) (by omega)]; simp
      · rw [n2 p (by omega), o37, b1, if_neg (by omega), hQ p hp q hq, fr1_hi (p := p) (by omega)]; simp
/-- what the plan says of two STONES -/
def Two (σ : ns_St) (E H : Nat) (x : Option (Int32 × ns_St)) (τ' : ns_St) : Prop := (∃ p q, p ≤ E ∧ q ≤ E ∧ P2 σ E H p q = true ∧ (∀ y, y < q → P2 σ E H p y = false) ∧ (∀ z y, z < p → P2 σ E H z y = false) ∧ x = some (1, τ') ∧ τ'.1 35 8 = nI p ∧ τ'.1 35 9 = nI q) ∨ ((∀ z y, P2 σ E H z y = false) ∧ x = some (0, τ'))
theorem P2_hi {σ : ns_St} {E H p q : Nat} (h : E < p ∨ E < q) : P2 σ E H p q = false := by
  unfold P2
  rcases h with h | h
  · rw [fr1_hi h]; rfl
  · rw [fr1_hi h]; simp
theorem e_pr99 {B : Nat} {σ τ : ns_St} {E H : Nat} {g1 : Option Nat} (hP : PS B σ E H g1) (s : Sc σ τ) (hQ : SQ σ E H τ) : ∀ (r p f : Nat), r < f → p + r = 61 → (∀ z y, z < p → P2 σ E H z y = false) → ∃ τ', Two σ E H (g_StonePlan_isPairEnough_99 f τ 35 (nI p)) τ' ∧ Sc σ τ' := by
  have h60 := hP.1.h60
  have hR : τ.2.2 = ns_rg g1 (some 2) := by rw [s.1]; exact hP.2
  intro r
  induction r with
  | zero =>
    intro p f hf hp hz
    obtain ⟨f, rfl⟩ : ∃ q, f = q + 1 := ⟨f - 1, by omega⟩
    refine ⟨τ, Or.inr ⟨fun z y => ?_, ?_⟩, s⟩
    · by_cases q : z < p
      · exact hz z y q
      · exact P2_hi (Or.inl (by omega))
    · rw [g_StonePlan_isPairEnough_99, ite2_p (show (61 : Int32) ≤ nI p from nI_le (a := 61) (by omega) (by omega))]
  | succ r ih =>
    intro p f hf hp hz
    obtain ⟨f, rfl⟩ : ∃ q, f = q + 1 := ⟨f - 1, by omega⟩
    have i37 : ns_in (nI p) (ns_ln 37) := ns_inI (show p < 61 by omega) (by decide)
    have hb : ∀ q, q < 64 → gb (τ.2.1 37 p) q = P2 σ E H p q := fun q hq => hQ p (by omega) q hq
    rw [g_StonePlan_isPairEnough_99, ite2_n (show ¬ (61 : Int32) ≤ nI p from nI_ge (b := 61) (by omega) (by decide)), hR, rg_35_1, ev_drf, gk_37, grd_t i37, ns_ixI (by omega)]
    rcases gb_lo (τ.2.1 37 p) with h | ⟨k, h1, h2, h3⟩
    · rw [ite2_p (gb_zc.mpr h), ev_bnd, ← nI_succ]
      refine ih (p + 1) f (by omega) (by omega) (fun z y hzp => ?_)
      by_cases e : z = p
      · subst e
        by_cases q : y < 64
        · rw [← hb y q]; exact h y q
        · exact P2_hi (Or.inr (by omega))
      · exact hz z y (by omega)
    · have n0 : ¬ lg_cmp (τ.2.1 37 p) 0 = 0 := fun q => by rw [gb_zc.mp q k h1] at h2; cases h2
      have hpk : P2 σ E H p k = true := by rw [← hb k h1]; exact h2
      have b1 : p ≤ E := by
        by_cases q : p ≤ E
        · exact q
        · rw [P2_hi (Or.inl (by omega))] at hpk; cases hpk
      have b2 : k ≤ E := by
        by_cases q : k ≤ E
        · exact q
        · rw [P2_hi (Or.inr (by omega))] at hpk; cases hpk
      refine ⟨ns_pI (ns_pI τ 35 8 (nI p)) 35 9 (nI k), Or.inl ⟨p, k, b1, b2, hpk, fun y hy => by rw [← hb y (by omega)]; exact h3 y hy, hz, ?_, by rw [pI_st _ _ _ (by decide), pI_at], pI_at _ _ _ _⟩, (s.trans (Sc.pI (by decide))).trans (Sc.pI (by decide))⟩
      rw [ite2_n n0, ev_bnd, pI_R, hR, rg_35_1, ev_drf, gk_37, grd_t i37]
      rw [show (ns_pI τ 35 8 (nI p)).2.1 37 p = τ.2.1 37 p from Eq.refl _, e_firstOf h1 h2 h3, ev_cl2, ev_bnd]
theorem e_pr59 {B : Nat} {σ : ns_St} {E H : Nat} {g1 : Option Nat} (hP : PS B σ E H g1) : ∀ (r k f : Nat) (τ : ns_St), r < f → k + r = H → Sc σ τ → SQ σ E k τ → ∃ τ', Two σ E H (g_StonePlan_isPairEnough_59 f τ 35 1 (nI k)) τ' ∧ Sc σ τ' := by
  have hH := hP.1.2.2.2.1
  intro r
  induction r with
  | zero =>
    intro k f τ hf hk s hQ
    obtain ⟨f, rfl⟩ : ∃ q, f = q + 1 := ⟨f - 1, by omega⟩
    have hk' : k = H := by omega
    subst hk'
    rw [g_StonePlan_isPairEnough_59, s.2.1 1 (by omega), hP.1.2.2.2.2.2.1, ite2_p (nI_le (by omega) (by omega))]
    exact e_pr99 hP s hQ 61 0 ns_F (by decide) (by omega) (fun z y hz => absurd hz (by omega))
  | succ r ih =>
    intro k f τ hf hk s hQ
    obtain ⟨f, rfl⟩ : ∃ q, f = q + 1 := ⟨f - 1, by omega⟩
    have i3 : ns_in (nI k) (ns_ln 3) := ns_inI (show k < 6 by omega) (by decide)
    obtain ⟨m, T, eT, sT, t37, sT0, bT⟩ := e_helpersFor hP s (show k < H by omega)
    obtain ⟨U, eU, sU, qU⟩ := e_heedSeconds hP (s.trans sT) (show k < H by omega) sT0 bT (fun p hp q hq => by rw [t37]; exact hQ p hp q hq)
    rw [g_StonePlan_isPairEnough_59, s.2.1 1 (by omega), hP.1.2.2.2.2.2.1, ite2_n (nI_ge (by omega) (by omega)), s.1, hP.2, rg_1_1, ev_drf, gk_3, grd_t i3, ns_ixI (by omega), rg_ml3 _ _ (show k < 6 by omega), ev_drf, grd_t (kd_m4 k (by omega)), ev_drf, gk_3, grd_t i3, rg_ml3 _ _ (show k < 6 by omega), ev_drf, grd_t (kd_m4 k (by omega)), eT, ev_cl2, eU, ev_cl2, ev_bnd, ← nI_succ]
    exact ih (k + 1) f U (by omega) (by omega) sU qU
theorem e_pr16 {B : Nat} {σ : ns_St} {E H : Nat} {g1 : Option Nat} (hP : PS B σ E H g1) {x : Int64} (hx : ∀ p, p < 64 → gb x p = fr1 σ E p) : ∀ (r k f : Nat) (τ : ns_St), r < f → k + r = 61 → Sc σ τ → (∀ p, p < k → ∀ q, q < 64 → gb (τ.2.1 37 p) q = (fr1 σ E p && fr1 σ E q && decide (p < q))) → ∃ τ', Two σ E H (g_StonePlan_isPairEnough_16 f τ 35 1 x (nI k)) τ' ∧ Sc σ τ' := by
  have hH := hP.1.2.2.2.1
  intro r
  induction r with
  | zero =>
    intro k f τ hf hk s hQ
    obtain ⟨f, rfl⟩ : ∃ q, f = q + 1 := ⟨f - 1, by omega⟩
    rw [g_StonePlan_isPairEnough_16, ite2_p (show (61 : Int32) ≤ nI k from nI_le (a := 61) (by omega) (by omega))]
    exact e_pr59 hP H 0 ns_F τ (by show H < 10000; omega) (by omega) s (fun p hp q hq => by rw [hQ p (by omega) q hq, aF, Bool.and_true])
  | succ r ih =>
    intro k f τ hf hk s hQ
    obtain ⟨f, rfl⟩ : ∃ q, f = q + 1 := ⟨f - 1, by omega⟩
    have i37 : ns_in (nI k) (ns_ln 37) := ns_inI (show k < 61 by omega) (by decide)
    have next : ∀ v : Int64, (∀ q, q < 64 → gb v q = (fr1 σ E k && fr1 σ E q && decide (k < q))) → ∃ τ', Two σ E H (g_StonePlan_isPairEnough_16 f (ns_pJ τ 37 k v) 35 1 x (nI (k + 1))) τ' ∧ Sc σ τ' := fun v hv => by
      refine ih (k + 1) f _ (by omega) (by omega) (s.trans (Sc.pJ (by decide))) (fun p hp q hq => ?_)
      by_cases e : p = k
      · subst e; rw [pJ_at]; exact hv q hq
      · rw [pJ_st _ _ _ e]; exact hQ p (by omega) q hq
    rw [g_StonePlan_isPairEnough_16, ite2_n (show ¬ (61 : Int32) ≤ nI k from nI_ge (b := 61) (by omega) (by decide)), s.1, hP.2, rg_35_1, ev_drf, gk_37, e_isIn (by omega), ev_cl2, hx k (by omega)]
    cases hf : fr1 σ E k with
    | false =>
      rw [ite2_z (by decide), grd_t i37, ns_ixI (by omega), ev_bnd, ev_bnd, ← nI_succ]
      exact next 0 (fun q hq => by rw [gb_0, hf]; rfl)
    | true =>
      rw [ite2_y (Eq.refl true)]
      unfold g_N_above
      rw [ev_cl2, grd_t i37, ns_ixI (by omega), ev_bnd, ev_bnd, ← nI_succ]
      exact next _ (fun q hq => by rw [gb_and, hx q hq, gb_above _ (by omega) _ hq, hf, Bool.true_and])
