/-! worlds copied -/
def Cp (σ τ : ns_St) (w v : Nat) : Prop := τ.2.2 = σ.2.2 ∧ (∀ c, ¬ (w ≤ c ∧ c < w + 9) → τ.1 c = σ.1 c) ∧ (∀ c, c ≠ w + 1 → τ.2.1 c = σ.2.1 c) ∧ τ.1 (w + 1) 0 = σ.1 (v + 1) 0 ∧ (∀ k, 1 ≤ k → k ≤ 4 → τ.2.1 (w + 1) k = σ.2.1 (v + 1) k) ∧ (∀ j k, j < 6 → k < 8 → τ.1 (w + 3 + j) k = σ.1 (v + 3 + j) k) ∧ ∀ k, 2 ≤ k → k ≤ 5 → τ.1 w k = σ.1 v k
def Cpk (σ τ : ns_St) (w v n : Nat) : Prop := τ.2.2 = σ.2.2 ∧ (∀ c, ¬ (w + 1 ≤ c ∧ c < w + 9) → τ.1 c = σ.1 c) ∧ (∀ c, c ≠ w + 1 → τ.2.1 c = σ.2.1 c) ∧ τ.1 (w + 1) 0 = σ.1 (v + 1) 0 ∧ (∀ k, 1 ≤ k → k ≤ 4 → τ.2.1 (w + 1) k = σ.2.1 (v + 1) k) ∧ ∀ j k, j < n → k < 8 → τ.1 (w + 3 + j) k = σ.1 (v + 3 + j) k
theorem e_wt13 {σ : ns_St} {g1 g2 : Option Nat} (hR : σ.2.2 = ns_rg g1 g2) {w v : Nat} (hw : Wk g1 g2 w) (hv : Wk g1 g2 v) (hd : w + 9 ≤ v ∨ v + 9 ≤ w) : ∀ (r k f : Nat) (τ : ns_St), r < f → k + r = 6 → Cpk σ τ w v k → ∃ τ', g_World_takeFrom_13 f τ w v (nI k) = some ((), τ') ∧ Cp σ τ' w v := by
  obtain ⟨a1, a2, a3, a4, a5, a6, a7, a8⟩ := hw
  obtain ⟨b1, b2, b3, b4, b5, b6, b7, b8⟩ := hv
  intro r
  induction r with
  | zero =>
    intro k f τ hf hk h
    obtain ⟨f, rfl⟩ : ∃ q, f = q + 1 := ⟨f - 1, by omega⟩
    obtain ⟨c1, c2, c3, c4, c5, c6⟩ := h
    have kv : ∀ (ρ : ns_St) (i : Nat) (x : Int32), (ns_pI ρ w i x).1 v = ρ.1 v := fun ρ i x => pI_ne _ _ _ (by omega)
    have v0 : τ.1 v = σ.1 v := c2 v (by omega)
    rw [g_World_takeFrom_13, ite2_p (show (6 : Int32) ≤ nI k from nI_le (a := 6) (by omega) (by omega)), ev_bnd, ev_bnd, ev_bnd, ev_bnd]
    refine ⟨_, rfl, c1, fun c hc => ?_, c3, ?_, c5, fun j i hj hi => ?_, fun i h1 h2 => ?_⟩
    · rw [pI_ne _ _ _ (by omega), pI_ne _ _ _ (by omega), pI_ne _ _ _ (by omega), pI_ne _ _ _ (by omega)]; exact c2 c (by omega)
    · rw [pI_ne _ _ _ (by omega), pI_ne _ _ _ (by omega), pI_ne _ _ _ (by omega), pI_ne _ _ _ (by omega)]; exact c4
    · rw [pI_ne _ _ _ (by omega), pI_ne _ _ _ (by omega), pI_ne _ _ _ (by omega), pI_ne _ _ _ (by omega)]; exact c6 j i (by omega) hi
    · simp only [kv, v0]
      rcases (by omega : i = 2 ∨ i = 3 ∨ i = 4 ∨ i = 5) with rfl | rfl | rfl | rfl
      · rw [pI_st _ _ _ (by decide), pI_st _ _ _ (by decide), pI_st _ _ _ (by decide), pI_at]
      · rw [pI_st _ _ _ (by decide), pI_st _ _ _ (by decide), pI_at]
      · rw [pI_st _ _ _ (by decide), pI_at]
      · rw [pI_at]
  | succ r ih =>
    intro k f τ hf hk h
    obtain ⟨f, rfl⟩ : ∃ q, f = q + 1 := ⟨f - 1, by omega⟩
    obtain ⟨c1, c2, c3, c4, c5, c6⟩ := h
    have hRτ : τ.2.2 = ns_rg g1 g2 := by rw [c1]; exact hR
    have i1 : ns_in (nI k) (ns_ln (w + 2)) := by rw [a4]; exact ns_inI (show k < 6 by omega) (by decide)
    have i2 : ns_in (nI k) (ns_ln (v + 2)) := by rw [b4]; exact ns_inI (show k < 6 by omega) (by decide)
    obtain ⟨τ1, e1, on1, p1⟩ := e_takeFrom (σ := τ) (a5 k (by omega)) (b5 k (by omega)) (by omega)
    rw [g_World_takeFrom_13, ite2_n (show ¬ (6 : Int32) ≤ nI k from nI_ge (b := 6) (by omega) (by decide)), hRτ, a7, ev_drf, grd_t a3, grd_t i1, ns_ixI (by omega), a8 k (by omega), ev_drf, grd_t (a5 k (by omega)), b7, ev_drf, grd_t b3, grd_t i2, b8 k (by omega), ev_drf, grd_t (b5 k (by omega)), e1, ev_cl2, ev_bnd, ← nI_succ]
    refine ih (k + 1) f τ1 (by omega) (by omega) ⟨by rw [on1.1]; exact c1, fun c hc => by rw [on1.2 c (by omega)]; exact c2 c hc, fun c hc => by rw [on1.1]; exact c3 c hc, by rw [on1.2 (w + 1) (by omega)]; exact c4, fun i h1 h2 => by rw [on1.1]; exact c5 i h1 h2, fun j i hj hi => ?_⟩
    by_cases e : j = k
    · subst e; rw [p1 i hi, c2 _ (by omega)]
    · rw [on1.2 (w + 3 + j) (by omega)]; exact c6 j i (by omega) hi
theorem e_wtake {σ : ns_St} {g1 g2 : Option Nat} (hR : σ.2.2 = ns_rg g1 g2) {w v : Nat} (hw : Wk g1 g2 w) (hv : Wk g1 g2 v) (hd : w + 9 ≤ v ∨ v + 9 ≤ w) : ∃ τ, g_World_takeFrom σ w v = some ((), τ) ∧ Cp σ τ w v := by
  obtain ⟨a1, a2, a3, a4, a5, a6, a7, a8⟩ := hw
  obtain ⟨b1, b2, b3, b4, b5, b6, b7, b8⟩ := hv
  have kJ : ∀ (ρ : ns_St) (i : Nat) (x : Int64), (ns_pJ ρ (w + 1) i x).2.1 (v + 1) = ρ.2.1 (v + 1) := fun ρ i x => pJ_ne _ _ _ (by omega)
  have eG : ∃ τ, g_Ground_takeFrom σ (w + 1) (v + 1) = some ((), τ) ∧ Cpk σ τ w v 0 := by
    unfold g_Ground_takeFrom
    rw [grd_t a2, grd_t b2, ev_bnd, ev_bnd, ev_bnd, ev_bnd, ev_bnd]
    refine ⟨_, rfl, rfl, fun c hc => pI_ne _ _ _ (by omega), fun c hc => ?_, ?_, fun k h1 h2 => ?_, fun j k hj => absurd hj (by omega)⟩
    · rw [pJ_ne _ _ _ hc, pJ_ne _ _ _ hc, pJ_ne _ _ _ hc, pJ_ne _ _ _ hc]; rfl
    · rw [pJ_I, pJ_I, pJ_I, pJ_I, pI_at]
    · simp only [kJ, pI_J]
      rcases (by omega : k = 1 ∨ k = 2 ∨ k = 3 ∨ k = 4) with rfl | rfl | rfl | rfl
      · rw [pJ_st _ _ _ (by decide), pJ_st _ _ _ (by decide), pJ_st _ _ _ (by decide), pJ_at]
      · rw [pJ_st _ _ _ (by decide), pJ_st _ _ _ (by decide), pJ_at]
      · rw [pJ_st _ _ _ (by decide), pJ_at]
      · rw [pJ_at]
  obtain ⟨τ1, e1, c1⟩ := eG
  obtain ⟨τ2, e2, c2⟩ := e_wt13 hR ⟨a1, a2, a3, a4, a5, a6, a7, a8⟩ ⟨b1, b2, b3, b4, b5, b6, b7, b8⟩ hd 6 0 ns_F τ1 (by show 6 < 10000; omega) (by omega) c1
  refine ⟨τ2, ?_, c2⟩
  unfold g_World_takeFrom
  rw [grd_t a1, grd_t b1, hR, a6, ev_drf, grd_t a2, b6, ev_drf, grd_t b2, e1, ev_cl2]
  exact e2
theorem GR.cp {σ τ : ns_St} {w v E : Nat} {th : Nat → Int32} (h : Cp σ τ w v) (hG : GR σ (v + 1) th E) : GR τ (w + 1) th E := by
  obtain ⟨c1, c2, c3, c4, c5, c6, c7⟩ := h
  obtain ⟨q1, q2, q3, q4, q5⟩ := hG
  refine ⟨by rw [c4]; exact q1, q2, q3, ?_, q5⟩
  rw [c5 1 (by omega) (by omega), c5 2 (by omega) (by omega), c5 3 (by omega) (by omega), c5 4 (by omega) (by omega)]
  exact q4
theorem MU.cp {σ τ : ns_St} {w v j K N A C O : Nat} {re : Int32} (h : Cp σ τ w v) (hj : j < 6) (hm : MU σ (v + 3 + j) K N A C O re) : MU τ (w + 3 + j) K N A C O re := by
  obtain ⟨c1, c2, c3, c4, c5, c6, c7⟩ := h
  unfold MU at *
  rw [c6 j 0 hj (by omega), c6 j 1 hj (by omega), c6 j 2 hj (by omega), c6 j 3 hj (by omega), c6 j 4 hj (by omega), c6 j 5 hj (by omega), c6 j 6 hj (by omega), c6 j 7 hj (by omega)]
  exact hm
theorem WR.cp {σ τ : ns_St} {w v B : Nat} {e : Int32} {th : Nat → Int32} {h : Int32} {k nu pl ct re ow : Nat → Int32} {sl fe se : Int32} (hc : Cp σ τ w v) (hw : WR σ v B e th h k nu pl ct re ow sl fe se) : WR τ w B e th h k nu pl ct re ow sl fe se := by
  obtain ⟨E, H, a1, a2, a3, a4, a5, a6, a7, a8, a9, a10⟩ := hw
  have c7 := hc.2.2.2.2.2.2
  refine ⟨E, H, a1, a2, a3, a4.cp hc, by rw [c7 2 (by omega) (by omega)]; exact a5, by rw [c7 3 (by omega) (by omega)]; exact a6, a7, by rw [c7 4 (by omega) (by omega)]; exact a8, by rw [c7 5 (by omega) (by omega)]; exact a9, fun j hj => ?_⟩
  obtain ⟨K, N, A, C, O, m1, m2, m3⟩ := a10 j hj
  exact ⟨K, N, A, C, O, m1, m2.cp hc (by omega), m3⟩
theorem GR.th {σ : ns_St} {g E : Nat} {th th' : Nat → Int32} (h : ∀ p, p ≤ 60 → th' p = th p) (hG : GR σ g th E) : GR σ g th' E := by
  obtain ⟨q1, q2, q3, q4, q5⟩ := hG
  refine ⟨q1, q2, q3, fun p hp => ?_, fun p hp => by rw [h p hp]; exact q5 p hp⟩
  have := q4 p hp
  by_cases q : p ≤ E
  · rw [h p (by omega)]; exact this
  · rw [decide_eq_false q] at *; exact this
/-- the same world of the reference, in other cells -/
theorem WR.ar {σ : ns_St} {w B : Nat} {e : Int32} {th th' : Nat → Int32} {h : Int32} {k nu pl ct re ow k' nu' pl' ct' re' ow' : Nat → Int32} {sl fe se : Int32} (ht : ∀ p, p ≤ 60 → th' p = th p) (hm : ∀ j, j < 6 → k' j = k j ∧ nu' j = nu j ∧ pl' j = pl j ∧ ct' j = ct j ∧ re' j = re j ∧ ow' j = ow j) (hw : WR σ w B e th h k nu pl ct re ow sl fe se) : WR σ w B e th' h k' nu' pl' ct' re' ow' sl fe se := by
  obtain ⟨E, H, a1, a2, a3, a4, a5, a6, a7, a8, a9, a10⟩ := hw
  refine ⟨E, H, a1, a2, a3, a4.th ht, a5, a6, a7, a8, a9, fun j hj => ?_⟩
  obtain ⟨K, N, A, C, O, m1, m2, m3⟩ := a10 j hj
  obtain ⟨x1, x2, x3, x4, x5, x6⟩ := hm j (by omega)
  rw [x1, x2, x3, x4, x5, x6]
  exact ⟨K, N, A, C, O, m1, m2, m3⟩
/-! the reference's image -/
def Kp (σ τ : ns_St) (a n : Nat) : Prop := On a σ τ ∧ (∀ p, p ≤ 60 → τ.1 a p = σ.1 69 p) ∧ ∀ j, j < n → (τ.1 a (61 + j) = σ.1 70 j ∧ τ.1 a (67 + j) = σ.1 71 j ∧ τ.1 a (73 + j) = σ.1 72 j ∧ τ.1 a (79 + j) = σ.1 73 j ∧ τ.1 a (85 + j) = σ.1 74 j ∧ τ.1 a (91 + j) = σ.1 75 j)
theorem iadd (a k : Nat) {x : Int32} (h : x = nI a) : x + nI k = nI (a + k) := by rw [h, nI_add]
theorem e_keep37 {σ : ns_St} {g1 g2 : Option Nat} (hR : σ.2.2 = ns_rg g1 g2) {a : Nat} (ha : a = 78 ∨ a = 79) : ∀ (r k f : Nat) (τ : ns_St), r < f → k + r = 6 → Kp σ τ a k → ∃ τ', g_M_keep_37 f τ 65 a (nI k) = some ((), τ') ∧ Kp σ τ' a 6 ∧ τ'.1 a 97 = σ.1 65 3 ∧ τ'.1 a 98 = σ.1 65 5 ∧ τ'.1 a 99 = σ.1 65 12 ∧ τ'.1 a 100 = σ.1 65 13 ∧ τ'.1 a 101 = σ.1 65 14 := by
  have ln : ns_ln a = 102 := by rcases ha with rfl | rfl <;> rfl
  have inn : ∀ n, n < 102 → ns_in (nI n) (ns_ln a) := fun n hn => by rw [ln]; exact ns_inI hn (by decide)
  intro r
  induction r with
  | zero =>
    intro k f τ hf hk h
    obtain ⟨f, rfl⟩ : ∃ q, f = q + 1 := ⟨f - 1, by omega⟩
    have hk' : k = 6 := by omega
    subst hk'
    obtain ⟨c1, c2, c3⟩ := h
    have k65 : ∀ (ρ : ns_St) (i : Nat) (x : Int32), (ns_pI ρ a i x).1 65 = ρ.1 65 := fun ρ i x => pI_ne _ _ _ (by omega)
    have t65 : τ.1 65 = σ.1 65 := c1.2 65 (by omega)
    rw [g_M_keep_37, ite2_p (show (6 : Int32) ≤ nI 6 by decide), grd_t (show ns_in (97 : Int32) (ns_ln a) from inn 97 (by omega)), ev_bnd, grd_t (show ns_in (98 : Int32) (ns_ln a) from inn 98 (by omega)), ev_bnd, grd_t (show ns_in (99 : Int32) (ns_ln a) from inn 99 (by omega)), ev_bnd, grd_t (show ns_in (100 : Int32) (ns_ln a) from inn 100 (by omega)), ev_bnd, grd_t (show ns_in (101 : Int32) (ns_ln a) from inn 101 (by omega)), ev_bnd]
    simp only [k65, t65]
    rw [show ns_ix (97 : Int32) = 97 by decide, show ns_ix (98 : Int32) = 98 by decide, show ns_ix (99 : Int32) = 99 by decide, show ns_ix (100 : Int32) = 100 by decide, show ns_ix (101 : Int32) = 101 by decide]
    refine ⟨_, rfl, ⟨((((c1.trans On.pI).trans On.pI).trans On.pI).trans On.pI).trans On.pI, fun p hp => ?_, fun j hj => ?_⟩, ?_, ?_, ?_, ?_, ?_⟩
    · rw [pI_st _ _ _ (by omega), pI_st _ _ _ (by omega), pI_st _ _ _ (by omega), pI_st _ _ _ (by omega), pI_st _ _ _ (by omega)]; exact c2 p hp
    · have key : ∀ i, i < 97 → (ns_pI (ns_pI (ns_pI (ns_pI (ns_pI τ a 97 (σ.1 65 3)) a 98 (σ.1 65 5)) a 99 (σ.1 65 12)) a 100 (σ.1 65 13)) a 101 (σ.1 65 14)).1 a i = τ.1 a i := fun i hi => by
        rw [pI_st _ _ _ (by omega), pI_st _ _ _ (by omega), pI_st _ _ _ (by omega), pI_st _ _ _ (by omega), pI_st _ _ _ (by omega)]
      rw [key _ (by omega), key _ (by omega), key _ (by omega), key _ (by omega), key _ (by omega), key _ (by omega)]
      exact c3 j hj
    · rw [pI_st _ _ _ (by omega), pI_st _ _ _ (by omega), pI_st _ _ _ (by omega), pI_st _ _ _ (by omega), pI_at]
    · rw [pI_st _ _ _ (by omega), pI_st _ _ _ (by omega), pI_st _ _ _ (by omega), pI_at]
    · rw [pI_st _ _ _ (by omega), pI_st _ _ _ (by omega), pI_at]
    · rw [pI_st _ _ _ (by omega), pI_at]
    · rw [pI_at]
  | succ r ih =>
    intro k f τ hf hk h
    obtain ⟨f, rfl⟩ : ∃ q, f = q + 1 := ⟨f - 1, by omega⟩
    obtain ⟨c1, c2, c3⟩ := h
    have hRτ : τ.2.2 = ns_rg g1 g2 := by rw [c1.1]; exact hR
    have ik : ∀ c, ns_ln c = 6 → ns_in (nI k) (ns_ln c) := fun c hc => by rw [hc]; exact ns_inI (show k < 6 by omega) (by decide)
    have kk : ∀ (ρ : ns_St) (i : Nat) (x : Int32) (c : Nat), c ≠ a → (ns_pI ρ a i x).1 c = ρ.1 c := fun ρ i x c hc => pI_ne _ _ _ hc
    rw [g_M_keep_37, ite2_n (show ¬ (6 : Int32) ≤ nI k from nI_ge (b := 6) (by omega) (by decide))]
    rw [show (61 : Int32) + nI k = nI (61 + k) from iadd 61 k rfl, show (67 : Int32) + nI k = nI (67 + k) from iadd 67 k rfl, show (73 : Int32) + nI k = nI (73 + k) from iadd 73 k rfl, show (79 : Int32) + nI k = nI (79 + k) from iadd 79 k rfl, show (85 : Int32) + nI k = nI (85 + k) from iadd 85 k rfl, show (91 : Int32) + nI k = nI (91 + k) from iadd 91 k rfl]
    simp only [pI_R, hRτ, rg_65_6, rg_65_7, rg_65_8, rg_65_9, rg_65_10, rg_65_11, ev_drf, gk_70, gk_71, gk_72, gk_73, gk_74, gk_75, grd_t (ik 70 rfl), grd_t (ik 71 rfl), grd_t (ik 72 rfl), grd_t (ik 73 rfl), grd_t (ik 74 rfl), grd_t (ik 75 rfl), grd_t (inn (61 + k) (by omega)), grd_t (inn (67 + k) (by omega)), grd_t (inn (73 + k) (by omega)), grd_t (inn (79 + k) (by omega)), grd_t (inn (85 + k) (by omega)), grd_t (inn (91 + k) (by omega)), ev_bnd]
    rw [ns_ixI (show k < 2 ^ 31 by omega), ns_ixI (show 61 + k < 2 ^ 31 by omega), ns_ixI (show 67 + k < 2 ^ 31 by omega), ns_ixI (show 73 + k < 2 ^ 31 by omega), ns_ixI (show 79 + k < 2 ^ 31 by omega), ns_ixI (show 85 + k < 2 ^ 31 by omega), ns_ixI (show 91 + k < 2 ^ 31 by omega), ← nI_succ]
    have n70 : (70 : Nat) ≠ a := by omega
    have n71 : (71 : Nat) ≠ a := by omega
    have n72 : (72 : Nat) ≠ a := by omega
    have n73 : (73 : Nat) ≠ a := by omega
    have n74 : (74 : Nat) ≠ a := by omega
    have n75 : (75 : Nat) ≠ a := by omega
    simp only [kk _ _ _ _ n71, kk _ _ _ _ n72, kk _ _ _ _ n73, kk _ _ _ _ n74, kk _ _ _ _ n75, c1.2 70 n70, c1.2 71 n71, c1.2 72 n72, c1.2 73 n73, c1.2 74 n74, c1.2 75 n75]
    refine ih (k + 1) f _ (by omega) (by omega) ⟨(((((c1.trans On.pI).trans On.pI).trans On.pI).trans On.pI).trans On.pI).trans On.pI, fun p hp => ?_, fun j hj => ?_⟩
    · rw [pI_st _ _ _ (by omega), pI_st _ _ _ (by omega), pI_st _ _ _ (by omega), pI_st _ _ _ (by omega), pI_st _ _ _ (by omega), pI_st _ _ _ (by omega)]; exact c2 p hp
    · by_cases e : j = k
      · subst e
        refine ⟨?_, ?_, ?_, ?_, ?_, ?_⟩
        · rw [pI_st _ _ _ (by omega), pI_st _ _ _ (by omega), pI_st _ _ _ (by omega), pI_st _ _ _ (by omega), pI_st _ _ _ (by omega), pI_at]
        · rw [pI_st _ _ _ (by omega), pI_st _ _ _ (by omega), pI_st _ _ _ (by omega), pI_st _ _ _ (by omega), pI_at]
        · rw [pI_st _ _ _ (by omega), pI_st _ _ _ (by omega), pI_st _ _ _ (by omega), pI_at]
        · rw [pI_st _ _ _ (by omega), pI_st _ _ _ (by omega), pI_at]
        · rw [pI_st _ _ _ (by omega), pI_at]
        · rw [pI_at]
      · obtain ⟨x1, x2, x3, x4, x5, x6⟩ := c3 j (by omega)
        refine ⟨?_, ?_, ?_, ?_, ?_, ?_⟩ <;> rw [pI_st _ _ _ (by omega), pI_st _ _ _ (by omega), pI_st _ _ _ (by omega), pI_st _ _ _ (by omega), pI_st _ _ _ (by omega), pI_st _ _ _ (by omega)] <;> assumption
theorem e_keep2 {σ : ns_St} {g1 g2 : Option Nat} (hR : σ.2.2 = ns_rg g1 g2) {a E : Nat} (ha : a = 78 ∨ a = 79) (hE : σ.1 65 3 = nI E) (h60 : E ≤ 60) (h0 : ∀ p, E < p → p ≤ 60 → σ.1 69 p = 0) : ∀ (r k f : Nat) (τ : ns_St), r < f → k + r = 61 → On a σ τ → (∀ p, p < k → τ.1 a p = σ.1 69 p) → ∃ τ', g_M_keep_2 f τ 65 a (nI k) = some ((), τ') ∧ Kp σ τ' a 6 ∧ τ'.1 a 97 = σ.1 65 3 ∧ τ'.1 a 98 = σ.1 65 5 ∧ τ'.1 a 99 = σ.1 65 12 ∧ τ'.1 a 100 = σ.1 65 13 ∧ τ'.1 a 101 = σ.1 65 14 := by
  have ln : ns_ln a = 102 := by rcases ha with rfl | rfl <;> rfl
  intro r
  induction r with
  | zero =>
    intro k f τ hf hk h1 h2
    obtain ⟨f, rfl⟩ : ∃ q, f = q + 1 := ⟨f - 1, by omega⟩
    rw [g_M_keep_2, ite2_p (show (61 : Int32) ≤ nI k from nI_le (a := 61) (by omega) (by omega))]
    exact e_keep37 hR ha 6 0 ns_F τ (by show 6 < 10000; omega) (by omega) ⟨h1, fun p hp => h2 p (by omega), fun j hj => absurd hj (by omega)⟩
  | succ r ih =>
    intro k f τ hf hk h1 h2
    obtain ⟨f, rfl⟩ : ∃ q, f = q + 1 := ⟨f - 1, by omega⟩
    have hRτ : τ.2.2 = ns_rg g1 g2 := by rw [h1.1]; exact hR
    have i1 : ns_in (nI k) (ns_ln a) := by rw [ln]; exact ns_inI (show k < 102 by omega) (by decide)
    have i2 : ns_in (nI k) (ns_ln 69) := ns_inI (show k < 61 by omega) (by decide)
    have p3 : τ.1 65 3 = nI E := by rw [h1.2 65 (by omega)]; exact hE
    have step : ∀ v : Int32, v = σ.1 69 k → ∃ τ', g_M_keep_2 f (ns_pI τ a k v) 65 a (nI (k + 1)) = some ((), τ') ∧ Kp σ τ' a 6 ∧ τ'.1 a 97 = σ.1 65 3 ∧ τ'.1 a 98 = σ.1 65 5 ∧ τ'.1 a 99 = σ.1 65 12 ∧ τ'.1 a 100 = σ.1 65 13 ∧ τ'.1 a 101 = σ.1 65 14 := by
      intro v hv
      refine ih (k + 1) f _ (by omega) (by omega) (h1.trans On.pI) (fun p hp => ?_)
      by_cases e : p = k
      · subst e; rw [pI_at]; exact hv
      · rw [pI_st _ _ _ e]; exact h2 p (by omega)
    rw [g_M_keep_2, ite2_n (show ¬ (61 : Int32) ≤ nI k from nI_ge (b := 61) (by omega) (by decide)), p3]
    by_cases q : E < k
    · rw [ite2_p (nI_lt q (by omega)), grd_t i1, ns_ixI (by omega), ev_bnd, ev_bnd, ← nI_succ]
      exact step 0 (h0 k q (by omega)).symm
    · rw [ite2_n (nI_nlt (by omega) (by omega)), hRτ, rg_65_4, ev_drf, gk_69, grd_t i2, grd_t i1, ns_ixI (by omega), ev_bnd, ev_bnd, ← nI_succ]
      exact step (τ.1 69 k) (by rw [h1.2 69 (by omega)])
theorem e_keep {σ : ns_St} {g1 g2 : Option Nat} (hR : σ.2.2 = ns_rg g1 g2) {a E : Nat} (ha : a = 78 ∨ a = 79) (hE : σ.1 65 3 = nI E) (h60 : E ≤ 60) (h0 : ∀ p, E < p → p ≤ 60 → σ.1 69 p = 0) : ∃ τ', g_M_keep σ 65 a = some ((), τ') ∧ Kp σ τ' a 6 ∧ τ'.1 a 97 = σ.1 65 3 ∧ τ'.1 a 98 = σ.1 65 5 ∧ τ'.1 a 99 = σ.1 65 12 ∧ τ'.1 a 100 = σ.1 65 13 ∧ τ'.1 a 101 = σ.1 65 14 := by
  have ka : ns_kd a = 10 := by rcases ha with rfl | rfl <;> rfl
  unfold g_M_keep
  rw [gk_65, grd_t ka]
  exact e_keep2 hR ha hE h60 h0 61 0 ns_F σ (by show 61 < 10000; omega) (by omega) (On.rfl _ _) (fun p hp => absurd hp (by omega))
theorem k_image {B : Nat} {σ : ns_St} (h : Inv B σ) : both B (g_N_image σ 0) (fun σ => g_M_image σ 65) := by
  obtain ⟨g1, g2, hR⟩ := h.1
  obtain ⟨hrf, hw, him, hsh, htp, hrs⟩ := h
  obtain ⟨τ1, e1, cp⟩ := e_wtake (σ := σ) hR (wk10 g1 g2) (wk1 g1 g2) (by omega)
  have cpW := hw.cp cp
  obtain ⟨E, H, a1, a2, a3, a4, a5⟩ := hw.get
  obtain ⟨c1, c2, c3, c4, c5, c6, c7⟩ := cp
  have q1 : ∀ c, ¬ (10 ≤ c ∧ c < 19) → c ≠ 0 → (ns_pI τ1 0 11 1).1 c = σ.1 c := fun c hc h0 => by rw [pI_ne _ _ _ h0]; exact c2 c hc
  have hR2 : (ns_pI (ns_pI τ1 0 11 1) 65 22 1).2.2 = ns_rg g1 g2 := by show τ1.2.2 = _; rw [c1]; exact hR
  have z65 : ∀ k, k ≠ 22 → (ns_pI (ns_pI τ1 0 11 1) 65 22 1).1 65 k = σ.1 65 k := fun k hk => by rw [pI_st _ _ _ hk, q1 65 (by omega) (by omega)]
  have zo : ∀ c, ¬ (10 ≤ c ∧ c < 19) → c ≠ 0 → c ≠ 65 → (ns_pI (ns_pI τ1 0 11 1) 65 22 1).1 c = σ.1 c := fun c h1 h2 h3 => by rw [pI_ne _ _ _ h3]; exact q1 c h1 h2
  obtain ⟨τ2, e2, ⟨on, kp, km⟩, k97, k98, k99, k100, k101⟩ := e_keep hR2 (a := 78) (E := E) (Or.inl rfl) (by rw [z65 3 (by omega)]; exact a1) a4.2.2.1 (fun p h1 h2 => by rw [zo 69 (by omega) (by omega) (by omega)]; exact (a4.2.2.2.2 p h2).2 h1)
  have fo : ∀ c, ¬ (10 ≤ c ∧ c < 19) → c ≠ 0 → c ≠ 65 → c ≠ 78 → τ2.1 c = σ.1 c := fun c h1 h2 h3 h4 => by rw [on.2 c h4]; exact zo c h1 h2 h3
  have f65 : ∀ k, k ≠ 22 → τ2.1 65 k = σ.1 65 k := fun k hk => by rw [on.2 65 (by omega)]; exact z65 k hk
  have f22 : τ2.1 65 22 = 1 := by rw [on.2 65 (by omega), pI_at]
  have f0 : τ2.1 0 11 = 1 := by rw [on.2 0 (by omega), pI_ne _ _ _ (by decide), pI_at]
  have fJ : ∀ c, c ≠ 11 → τ2.2.1 c = σ.2.1 c := fun c hc => by rw [on.1]; exact c3 c (by omega)
  have fk : ∀ c, (10 ≤ c ∧ c < 19) → τ2.1 c = τ1.1 c := fun c hc => by rw [on.2 c (by omega), pI_ne _ _ _ (by omega), pI_ne _ _ _ (by omega)]
  refine ⟨1, ns_pI τ1 0 11 1, τ2, ?_, ?_, ⟨g1, g2, by rw [on.1]; exact hR2⟩, ?_, ?_, ?_, ?_, ?_⟩
  · unfold g_N_image
    rw [gk_0, hR, rg_0_1, ev_drf, gk_10, rg_0_0, ev_drf, gk_1, e1, ev_cl2, ev_bnd]
  · show g_M_image (ns_pI τ1 0 11 1) 65 = _
    unfold g_M_image
    rw [gk_65, ev_bnd, hR2, rg_65_23, ev_drf, gk_78, e2, ev_cl2]
  · exact hw.cong (fun c h1 h2 => fo c (by omega) (by omega) (by omega) (by omega)) (fJ 2 (by omega)) (f65 3 (by omega)) (f65 5 (by omega)) (f65 12 (by omega)) (f65 13 (by omega)) (f65 14 (by omega)) (fun c h1 h2 => fo c (by omega) (by omega) (by omega) (by omega))
  · refine ⟨by rw [f0, f22], Or.inr ⟨f22, ?_⟩⟩
    unfold Wold
    rw [k97, k98, k99, k100, k101, z65 3 (by omega), z65 5 (by omega), z65 12 (by omega), z65 13 (by omega), z65 14 (by omega)]
    refine WR.ar (th := σ.1 69) (k := σ.1 70) (nu := σ.1 71) (pl := σ.1 72) (ct := σ.1 73) (re := σ.1 74) (ow := σ.1 75) (fun p hp => by rw [kp p hp, zo 69 (by omega) (by omega) (by omega)]) (fun j hj => ?_) ?_
    · obtain ⟨x1, x2, x3, x4, x5, x6⟩ := km j hj
      rw [zo 70 (by omega) (by omega) (by omega)] at x1
      rw [zo 71 (by omega) (by omega) (by omega)] at x2
      rw [zo 72 (by omega) (by omega) (by omega)] at x3
      rw [zo 73 (by omega) (by omega) (by omega)] at x4
      rw [zo 74 (by omega) (by omega) (by omega)] at x5
      rw [zo 75 (by omega) (by omega) (by omega)] at x6
      exact ⟨x1, x2, x3, x4, x5, x6⟩
    · exact WR.cong (fun c h1 h2 => fk c (by omega)) (by rw [on.1]; rfl) cpW
  · exact hsh.cong (fun c h1 h2 => fo c (by omega) (by omega) (by omega) (by omega)) (fun c h1 h2 => fJ c (by omega)) (fo 66 (by omega) (by omega) (by omega) (by omega)) (fo 67 (by omega) (by omega) (by omega) (by omega)) (fJ 68 (by omega)) (f65 5 (by omega))
  · exact htp.cong (fo 29 (by omega) (by omega) (by omega) (by omega)) (fo 30 (by omega) (by omega) (by omega) (by omega)) (fo 76 (by omega) (by omega) (by omega) (by omega)) (f65 15 (by omega))
  · exact hrs.cong (fo 48 (by omega) (by omega) (by omega) (by omega)) (fo 77 (by omega) (by omega) (by omega) (by omega))
