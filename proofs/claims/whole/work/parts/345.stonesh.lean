/-! STONES: none, one -/
/-- memories that differ in the plan's own cells -/
def Sc (τ τ' : ns_St) : Prop := τ'.2.2 = τ.2.2 ∧ (∀ b, ¬ (35 ≤ b ∧ b ≤ 42) → τ'.1 b = τ.1 b) ∧ ∀ b, ¬ (35 ≤ b ∧ b ≤ 42) → τ'.2.1 b = τ.2.1 b
theorem Sc.rfl (τ : ns_St) : Sc τ τ := ⟨Eq.refl _, fun _ _ => Eq.refl _, fun _ _ => Eq.refl _⟩
theorem Sc.trans {a b c : ns_St} (h1 : Sc a b) (h2 : Sc b c) : Sc a c := ⟨h2.1.trans h1.1, fun x hx => (h2.2.1 x hx).trans (h1.2.1 x hx), fun x hx => (h2.2.2 x hx).trans (h1.2.2 x hx)⟩
theorem Sc.same {a b : ns_St} (h : Sc a b) : Same a b := ⟨fun x hx _ => h.2.1 x (fun q => hx (scrR q)), fun k _ => by rw [h.2.1 65 (by omega)], fun x hx => h.2.2 x (fun q => hx (scrR q)), fun ⟨g1, g2, q⟩ => ⟨g1, g2, by rw [h.1]; exact q⟩⟩
theorem Sc.on {a b : ns_St} {c : Nat} (hc : 35 ≤ c ∧ c ≤ 42) (h : On c a b) : Sc a b := ⟨by rw [h.1], fun x hx => h.2 x (fun e => hx (e ▸ hc)), fun x _ => by rw [h.1]⟩
theorem Sc.o3 {a b : ns_St} {c : Nat} (hc : 35 ≤ c ∧ c ≤ 42) (h : O3 c a b) : Sc a b := ⟨by rw [h.1], fun x hx => h.2.1 x (fun e => hx (e ▸ hc)), fun x _ => by rw [h.1]⟩
theorem Sc.f2 {a b : ns_St} (h : F2 a b) : Sc a b := ⟨h.1, fun x hx => h.2.1 x (fun e => hx (by omega)) (fun e => hx (by omega)), fun x hx => h.2.2 x (fun e => hx (by omega))⟩
theorem Sc.f3 {a b : ns_St} (h : F3 a b) : Sc a b := ⟨by rw [h.1], fun x hx => h.2 x (fun e => hx (by omega)) (fun e => hx (by omega)), fun x _ => by rw [h.1]⟩
theorem Sc.pI {a : ns_St} {c k : Nat} {v : Int32} (hc : 35 ≤ c ∧ c ≤ 42) : Sc a (ns_pI a c k v) := ⟨Eq.refl _, fun x hx => pI_ne _ _ _ (fun e => hx (e ▸ hc)), fun _ _ => Eq.refl _⟩
theorem Sc.pJ {a : ns_St} {c k : Nat} {v : Int64} (hc : 35 ≤ c ∧ c ≤ 42) : Sc a (ns_pJ a c k v) := ⟨Eq.refl _, fun _ _ => Eq.refl _, fun x hx => pJ_ne _ _ _ (fun e => hx (e ▸ hc))⟩
/-- the plan at work upon a world -/
def PS (B : Nat) (σ : ns_St) (E H : Nat) (g1 : Option Nat) : Prop := PW B σ E H ∧ σ.2.2 = ns_rg g1 (some 2)
theorem PS.sv {B : Nat} {σ τ : ns_St} {E H : Nat} {g1 : Option Nat} (h : PS B σ E H g1) (s : Sc σ τ) : SV (σ.1 69) g1 E τ := ⟨by rw [s.1]; exact h.2, h.1.2.2.2.2.1.cong (s.2.1 2 (by omega)) (s.2.2 2 (by omega))⟩
theorem PS.mc {B : Nat} {σ τ : ns_St} {E H : Nat} {g1 : Option Nat} (h : PS B σ E H g1) (s : Sc σ τ) {j : Nat} (hj : j < H) : MC τ (4 + j) (gm σ 70 j) (gm σ 71 j) (gm σ 72 j) (gm σ 73 j) := by
  have hH := h.1.2.2.2.1
  have m := (h.1.m hj).2.1
  refine MC.of (τ := σ) ⟨m.1, m.2.1, m.2.2.1, m.2.2.2.1, m.2.2.2.2.2.2.2⟩ (s.2.1 _ (by omega))
theorem e_helpersFor {B : Nat} {σ τ : ns_St} {E H j : Nat} {g1 : Option Nat} (hP : PS B σ E H g1) (s : Sc σ τ) (hj : j < H) : ∃ m τ', g_StonePlan_helpersFor τ 35 (4 + j) = some (m, τ') ∧ Sc τ τ' ∧ τ'.2.1 37 = τ.2.1 37 ∧ ST (σ.1 69) E (gm σ 70 j) (gm σ 72 j) (gm σ 71 j) 0 τ' ∧ ∀ p, p < 64 → gb m p = (decide (p ≤ E) && sfm σ E (X1 p) j) := by
  have hH := hP.1.2.2.2.1
  have h60 := hP.1.h60
  have m := hP.1.m hj
  have hAE := m.1.2.2.2.1
  have hCB := m.1.2.2.2.2.1
  have hBb := hP.1.2.2.2.2.2.2.1
  have ka := kd_m4 j (by omega)
  have m0 := hP.mc s hj
  obtain ⟨τ1, e1, f1, s1⟩ := e_fillSafe m.nn (hP.sv s) hAE (by omega) ka (by omega) m0
  have sc1 := Sc.f2 f1
  have m1 := hP.mc (s.trans sc1) hj
  obtain ⟨x, τ2, e2, f2, b2⟩ := e_helpersAhead (k0 := 0) (A := gm σ 72 j) (c0 := gm σ 73 j) m.nn (hP.sv (s.trans sc1)) (by omega) ka (by omega) (by omega) (by omega) m1 (fun k h1 h2 c h3 h4 => s1 k (by omega) h2 c h3 h4)
  have sc2 := sc1.trans (Sc.f3 f2)
  have s2 : ST (σ.1 69) E (gm σ 70 j) (gm σ 72 j) (gm σ 71 j) 0 τ2 := s1.cong (by rw [f2.1])
  have m2 := hP.mc (s.trans sc2) hj
  have es := e_isSafe (k := 0) (k0 := 0) (A := gm σ 72 j) (c := gm σ 73 j) m.nn (hP.sv (s.trans sc2)) (by omega) (Nat.le_refl _) ka (by omega) (fun k3 => m.1.2.2.2.2.2.2.1 k3) m2 s2
  have q0 : ∀ p, p ≤ gm σ 72 j → sfm σ E (X1 p) j = sf (σ.1 69) (gm σ 70 j) (gm σ 72 j) (gm σ 71 j) X0 (E - gm σ 72 j) 0 (gm σ 73 j) := fun p hp => sf_cong _ _ _ (fun y h1 h2 => by unfold X1 X0; exact decide_eq_false (by omega))
  have b2' : ∀ p, p < 64 → gb x p = (decide (gm σ 72 j < p ∧ p ≤ E) && sfm σ E (X1 p) j) := fun p hp => b2 p hp
  have s37 : τ2.2.1 37 = τ.2.1 37 := by rw [f2.1, f1.2.2 37 (by decide)]
  have es' : g_StonePlan_isSafe τ2 35 (4 + j) = some (yn (sf (σ.1 69) (gm σ 70 j) (gm σ 72 j) (gm σ 71 j) X0 (E - gm σ 72 j) 0 (gm σ 73 j) = true), τ2) := es
  cases hs : sf (σ.1 69) (gm σ 70 j) (gm σ 72 j) (gm σ 71 j) X0 (E - gm σ 72 j) 0 (gm σ 73 j) with
  | false =>
    refine ⟨x ||| 0, τ2, ?_, sc2, s37, s2, fun p hp => ?_⟩
    · unfold g_StonePlan_helpersFor
      rw [gk_35, grd_t ka, e1, ev_cl2, e2, ev_cl2, es', ev_cl2, hs, ite2_z (by decide)]
    · rw [gb_or, gb_0, Bool.or_false, b2' p hp]
      by_cases q : p ≤ gm σ 72 j
      · rw [q0 p q, hs]; simp
      · congr 1; apply decide_eq_decide.mpr; omega
  | true =>
    refine ⟨x ||| (((-2 : Int64) <<< ((nI (gm σ 72 j)).toInt64 &&& 63)) ^^^ (-1)), τ2, ?_, sc2, s37, s2, fun p hp => ?_⟩
    · unfold g_StonePlan_helpersFor
      rw [gk_35, grd_t ka, e1, ev_cl2, e2, ev_cl2, es', ev_cl2, hs, ite2_y (Eq.refl true), m2.2.2.1]
      unfold g_N_above
      rw [ev_cl2]
    · rw [gb_or, gb_not _ hp, gb_above _ (by omega) _ hp, b2' p hp]
      by_cases q : p ≤ gm σ 72 j
      · rw [q0 p q, hs, decide_eq_false (show ¬ gm σ 72 j < p by omega), decide_eq_true (show p ≤ E by omega)]; simp
      · rw [decide_eq_true (show gm σ 72 j < p by omega)]
        simp only [Bool.not_true, Bool.or_false]
        congr 1; apply decide_eq_decide.mpr; omega
theorem bx0 (K p : Nat) : bx K X0 p = 0 := if_neg (by unfold X0; decide)
theorem e_fai13 {th : Nat → Int32} {g1 : Option Nat} {E K A N : Nat} (hN : NN K N) : ∀ (r k f : Nat) (τ : ns_St) (c : Nat), r < f → A + k + r = E → c + 3 * r < 2 ^ 27 → SV th g1 E τ → MC τ 39 K (nbk th K A N k) (A + k) c → ∃ τ', g_StonePlan_fallsAsItIs_13 f τ 35 (nI (A + k)) = some (yn (sf th K A N X0 r k c = false), τ') ∧ Sc τ τ' := by
  intro r
  induction r with
  | zero =>
    intro k f τ c hf hk hc hV hM
    obtain ⟨f, rfl⟩ : ∃ q, f = q + 1 := ⟨f - 1, by omega⟩
    have h60 := hV.2.2.2.1
    refine ⟨τ, ?_, Sc.rfl τ⟩
    rw [g_StonePlan_fallsAsItIs_13, hV.1, rg_35_7, ev_drf, gk_2, hV.2.1, ite2_p (nI_le (by omega) (by omega)), yn_f (by rw [sf]; decide)]
  | succ r ih =>
    intro k f τ c hf hk hc hV hM
    obtain ⟨f, rfl⟩ : ∃ q, f = q + 1 := ⟨f - 1, by omega⟩
    have h60 := hV.2.2.2.1
    obtain ⟨T, eT, oT, mT⟩ := e_fallsNext hN hV (show A + k < E by omega) kd_39 (b := 0) (by omega) (by omega) hM
    have eT' : g_StonePlan_fallsNext τ 35 39 (0 : Int32) = some (yn (fl th K A N k c 0 = true), T) := eT
    have n1b := n1_le (th := th) (K := K) (A := A) (N := N) (k := k) (c := c) (b := 0)
    have sv : sf th K A N X0 (r + 1) k c = (!fl th K A N k c 0 && sf th K A N X0 r (k + 1) (n1 th K A N k c 0)) := by rw [sf, bx0]
    rw [g_StonePlan_fallsAsItIs_13, hV.1, rg_35_7, ev_drf, gk_2, hV.2.1, ite2_n (nI_ge (by omega) (by omega)), rg_35_3, ev_drf, gk_39, eT', ev_cl2, sv]
    cases hfl : fl th K A N k c 0 with
    | true => exact ⟨T, by rw [ite2_y (Eq.refl true), yn_t (by rfl)], Sc.o3 (by decide) oT⟩
    | false =>
      obtain ⟨τ', e', s'⟩ := ih (k + 1) f T _ (by omega) (by omega) (by omega) (hV.o3 oT (by decide)) mT
      refine ⟨τ', ?_, (Sc.o3 (by decide) oT).trans s'⟩
      rw [ite2_z (by decide), ev_bnd, ← nI_succ]
      exact e'
theorem e_fallsAsItIs {B : Nat} {σ τ : ns_St} {E H j : Nat} {g1 : Option Nat} (hP : PS B σ E H g1) (s : Sc σ τ) (hj : j < H) : ∃ τ', g_StonePlan_fallsAsItIs τ 35 (4 + j) = some (yn (sfm σ E X0 j = false), τ') ∧ Sc τ τ' := by
  have hH := hP.1.2.2.2.1
  have h60 := hP.1.h60
  have m := hP.1.m hj
  have hAE := m.1.2.2.2.1
  have hCB := m.1.2.2.2.2.1
  have hBb := hP.1.2.2.2.2.2.2.1
  have ka := kd_m4 j (by omega)
  have m0 := hP.mc s hj
  obtain ⟨S, eS, oS, cS⟩ := e_takeFrom (σ := τ) kd_39 ka (by omega)
  have sS := Sc.on (by decide) oS
  have mS : MC S 39 (gm σ 70 j) (nbk (σ.1 69) (gm σ 70 j) (gm σ 72 j) (gm σ 71 j) 0) (gm σ 72 j + 0) (gm σ 73 j) := ⟨by rw [cS 0 (by omega)]; exact m0.1, by rw [cS 1 (by omega)]; exact m0.2.1, by rw [cS 2 (by omega)]; exact m0.2.2.1, by rw [cS 3 (by omega)]; exact m0.2.2.2.1, by rw [cS 7 (by omega)]; exact m0.2.2.2.2⟩
  obtain ⟨τ', e', s'⟩ := e_fai13 m.nn (E - gm σ 72 j) 0 ns_F S (gm σ 73 j) (by show _ < 10000; omega) (by omega) (by omega) (hP.sv (s.trans sS)) mS
  refine ⟨τ', ?_, sS.trans s'⟩
  unfold g_StonePlan_fallsAsItIs
  rw [gk_35, grd_t ka, s.1, hP.2, rg_35_3, ev_drf, gk_39, eS, ev_cl2, oS.2 (4 + j) (by omega), m0.2.2.1, ev_bnd]
  exact e'
theorem e_any10 {B : Nat} {σ : ns_St} {E H : Nat} {g1 : Option Nat} (hP : PS B σ E H g1) : ∀ (r k f : Nat) (τ : ns_St), r < f → k + r = H → Sc σ τ → aF σ E X0 k = true → ∃ τ', g_StonePlan_isAnyNeeded_10 f τ 35 1 (nI k) = some (yn (aF σ E X0 H = false), τ') ∧ Sc σ τ' := by
  have hH := hP.1.2.2.2.1
  intro r
  induction r with
  | zero =>
    intro k f τ hf hk s ha
    obtain ⟨f, rfl⟩ : ∃ q, f = q + 1 := ⟨f - 1, by omega⟩
    have hk' : k = H := by omega
    subst hk'
    refine ⟨τ, ?_, s⟩
    rw [g_StonePlan_isAnyNeeded_10, s.2.1 1 (by omega), hP.1.2.2.2.2.2.1, ite2_p (nI_le (by omega) (by omega)), yn_f (by rw [ha]; decide)]
  | succ r ih =>
    intro k f τ hf hk s ha
    obtain ⟨f, rfl⟩ : ∃ q, f = q + 1 := ⟨f - 1, by omega⟩
    have i3 : ns_in (nI k) (ns_ln 3) := ns_inI (show k < 6 by omega) (by decide)
    obtain ⟨T, eT, sT⟩ := e_fallsAsItIs hP s (show k < H by omega)
    rw [g_StonePlan_isAnyNeeded_10, s.2.1 1 (by omega), hP.1.2.2.2.2.2.1, ite2_n (nI_ge (by omega) (by omega)), s.1, hP.2, rg_1_1, ev_drf, gk_3, grd_t i3, ns_ixI (by omega), rg_ml3 _ _ (show k < 6 by omega), ev_drf, grd_t (kd_m4 k (by omega)), eT, ev_cl2]
    cases hm : sfm σ E X0 k with
    | true =>
      obtain ⟨τ', e', s'⟩ := ih (k + 1) f T (by omega) (by omega) (s.trans sT) (by rw [aF, ha, hm]; rfl)
      refine ⟨τ', ?_, s'⟩
      rw [ite2_z (by decide), ev_bnd, ← nI_succ]
      exact e'
    | false =>
      refine ⟨T, ?_, s.trans sT⟩
      have na : aF σ E X0 H = false := by
        cases hq : aF σ E X0 H with
        | false => rfl
        | true => have := aF_t.mp hq k (by omega); rw [hm] at this; cases this
      rw [ite2_y (Eq.refl false), yn_t na]
theorem gb_upto : ∀ k, k < 63 → ∀ p, p < 64 → gb ((1 : Int64) <<< ((nI (k + 1)).toInt64 &&& 63) - 2) p = decide (1 ≤ p ∧ p ≤ k) := by decide +kernel
theorem e_freePlaces {B : Nat} {σ τ : ns_St} {E H : Nat} {g1 : Option Nat} (hP : PS B σ E H g1) (s : Sc σ τ) : ∃ m, g_StonePlan_freePlaces τ 35 = some (m, τ) ∧ ∀ p, p < 64 → gb m p = fr1 σ E p := by
  have h60 := hP.1.h60
  have hV := hP.sv s
  refine ⟨((1 : Int64) <<< ((nI (E + 1)).toInt64 &&& 63) - 2) &&& (τ.2.1 2 1 ^^^ (-1)), ?_, fun p hp => ?_⟩
  · unfold g_StonePlan_freePlaces
    rw [gk_35, hV.1, rg_35_7, ev_drf, gk_2, e_bit, ev_cl2, hV.1, rg_35_7, ev_drf, gk_2, hV.2.1, ← nI_succ]
  · have w := hV.2.w (w := 0) (by omega) hp
    rw [gb_and, gb_not _ hp, gb_upto _ (by omega) _ hp, w]
    unfold fr1
    by_cases q : 1 ≤ p ∧ p ≤ E
    · rw [decide_eq_true q, decide_eq_true (show p ≤ E by omega)]; rfl
    · rw [decide_eq_false q]; rfl
theorem gb_lo (x : Int64) : (∀ p, p < 64 → gb x p = false) ∨ ∃ k, k < 64 ∧ gb x k = true ∧ ∀ i, i < k → gb x i = false := by
  have go : ∀ n, (∀ i, i < n → gb x i = false) ∨ ∃ k, k < n ∧ gb x k = true ∧ ∀ i, i < k → gb x i = false := by
    intro n
    induction n with
    | zero => exact Or.inl (fun i hi => absurd hi (by omega))
    | succ n ih =>
      rcases ih with h | ⟨k, h1, h2, h3⟩
      · cases hb : gb x n with
        | true => exact Or.inr ⟨n, by omega, hb, h⟩
        | false => exact Or.inl (fun i hi => by
            by_cases e : i = n
            · subst e; exact hb
            · exact h i (by omega))
      · exact Or.inr ⟨k, by omega, h2, h3⟩
  exact go 64
theorem fr1_hi {σ : ns_St} {E p : Nat} (h : E < p) : fr1 σ E p = false := by unfold fr1; rw [decide_eq_false (by omega)]; rfl
/-- what the plan says of one STONE -/
def One (σ : ns_St) (E H : Nat) (x : Option (Int32 × ns_St)) (τ' : ns_St) : Prop := (∃ q, q ≤ E ∧ P1 σ E H q = true ∧ (∀ y, y < q → P1 σ E H y = false) ∧ x = some (1, τ') ∧ τ'.1 35 8 = nI q) ∨ ((∀ y, P1 σ E H y = false) ∧ x = some (0, τ'))
theorem e_one51 {B : Nat} {σ τ : ns_St} {E H : Nat} {g1 : Option Nat} (hP : PS B σ E H g1) (s : Sc σ τ) {x : Int64} (hx : ∀ p, p < 64 → gb x p = P1 σ E H p) : ∃ τ', One σ E H (g_StonePlan_isOneEnough_51 τ 35 x) τ' ∧ Sc σ τ' := by
  have h60 := hP.1.h60
  rcases gb_lo x with h | ⟨k, h1, h2, h3⟩
  · refine ⟨ns_pI τ 35 8 (-1), Or.inr ⟨fun y => ?_, ?_⟩, s.trans (Sc.pI (by decide))⟩
    · by_cases q : y < 64
      · rw [← hx y q]; exact h y q
      · unfold P1; rw [fr1_hi (by omega)]; rfl
    · unfold g_StonePlan_isOneEnough_51
      rw [e_firstOf0 h, ev_cl2, ev_bnd, ite2_p (gb_zc.mpr h)]
  · refine ⟨ns_pI τ 35 8 (nI k), Or.inl ⟨k, ?_, by rw [← hx k h1]; exact h2, fun y hy => by rw [← hx y (by omega)]; exact h3 y hy, ?_, pI_at _ _ _ _⟩, s.trans (Sc.pI (by decide))⟩
    · rw [hx k h1] at h2
      by_cases q : k ≤ E
      · exact q
      · unfold P1 at h2; rw [fr1_hi (by omega)] at h2; cases h2
    · unfold g_StonePlan_isOneEnough_51
      rw [e_firstOf h1 h2 h3, ev_cl2, ev_bnd, ite2_n (fun q => by rw [gb_zc.mp q k h1] at h2; cases h2)]
theorem aF_le {σ : ns_St} {E H k : Nat} {X : Nat → Bool} (hk : k ≤ H) (h : aF σ E X k = false) : aF σ E X H = false := by
  cases hq : aF σ E X H with
  | false => rfl
  | true => rw [aF_t.mpr (fun j hj => aF_t.mp hq j (by omega))] at h; cases h
theorem e_one16 {B : Nat} {σ : ns_St} {E H : Nat} {g1 : Option Nat} (hP : PS B σ E H g1) : ∀ (r k f : Nat) (τ : ns_St) (x : Int64), r < f → k + r = H → Sc σ τ → (∀ p, p < 64 → gb x p = (fr1 σ E p && aF σ E (X1 p) k)) → ∃ τ', One σ E H (g_StonePlan_isOneEnough_16 f τ 35 1 x (nI k)) τ' ∧ Sc σ τ' := by
  have hH := hP.1.2.2.2.1
  have h60 := hP.1.h60
  intro r
  induction r with
  | zero =>
    intro k f τ x hf hk s hx
    obtain ⟨f, rfl⟩ : ∃ q, f = q + 1 := ⟨f - 1, by omega⟩
    have hk' : k = H := by omega
    subst hk'
    rw [g_StonePlan_isOneEnough_16, s.2.1 1 (by omega), hP.1.2.2.2.2.2.1, ite2_p (nI_le (by omega) (by omega))]
    exact e_one51 hP s hx
  | succ r ih =>
    intro k f τ x hf hk s hx
    obtain ⟨f, rfl⟩ : ∃ q, f = q + 1 := ⟨f - 1, by omega⟩
    have i3 : ns_in (nI k) (ns_ln 3) := ns_inI (show k < 6 by omega) (by decide)
    rw [g_StonePlan_isOneEnough_16, s.2.1 1 (by omega), hP.1.2.2.2.2.2.1, ite2_n (nI_ge (by omega) (by omega))]
    by_cases q : lg_cmp x 0 = 0
    · rw [ite2_p q]
      refine e_one51 hP s (fun p hp => ?_)
      have z := gb_zc.mp q p hp
      rw [z]
      rw [hx p hp] at z
      unfold P1
      cases h1 : fr1 σ E p with
      | false => rfl
      | true => rw [h1, Bool.true_and] at z; rw [aF_le (by omega) z]; rfl
    · obtain ⟨m, T, eT, sT, _, _, bT⟩ := e_helpersFor hP s (show k < H by omega)
      rw [ite2_n q, s.1, hP.2, rg_1_1, ev_drf, gk_3, grd_t i3, ns_ixI (by omega), rg_ml3 _ _ (show k < 6 by omega), ev_drf, grd_t (kd_m4 k (by omega)), eT, ev_cl2, ev_bnd, ev_bnd, ← nI_succ]
      refine ih (k + 1) f T _ (by omega) (by omega) (s.trans sT) (fun p hp => ?_)
      rw [gb_and, hx p hp, bT p hp, aF]
      by_cases e : p ≤ E
      · rw [decide_eq_true e, Bool.true_and, Bool.and_assoc]
      · rw [fr1_hi (by omega)]; rfl
