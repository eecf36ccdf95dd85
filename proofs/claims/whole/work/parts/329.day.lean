/-! a DAY -/
def sd (s : Int32) : Int32 := s * 1103515245 + 12345
def sdn (s : Int32) : Nat → Int32
  | 0 => s
  | n + 1 => sd (sdn s n)
def dvw (s : Int32) : Int32 := ((s.toUInt32 >>> ((16 : Int32).toUInt32 &&& Int32.toUInt32 31)).toInt32) - ((s.toUInt32 >>> ((16 : Int32).toUInt32 &&& Int32.toUInt32 31)).toInt32) / 1000 * 1000
def bes (sl s : Int32) (n : Nat) : Nat := if sl ≤ dvw (sdn s (n + 1)) then 0 else 1
theorem bes_le (sl s : Int32) (n : Nat) : bes sl s n ≤ 1 := by unfold bes; split <;> omega
theorem TN.draw {σ τ : ns_St} {j K R N p C : Nat} {re fe se : Int32} (hj : j < 6) (h : TN σ τ j K R N p C re fe se) (v : Int32) : TN σ (ns_pI τ 1 5 v) j K R N p C re fe v := by
  obtain ⟨t2, ta, tw, tfe, tse, c0, c1, c2, c3, c4, c5, c6, c7⟩ := h
  have k : (ns_pI τ 1 5 v).1 (4 + j) = τ.1 (4 + j) := pI_ne _ _ _ (by omega)
  refine ⟨t2, fun a h1 h2 => by rw [pI_ne _ _ _ h2]; exact ta a h1 h2, fun i h1 h2 => by rw [pI_st _ _ _ h2]; exact tw i h1 h2, by rw [pI_st _ _ _ (by decide)]; exact tfe, pI_at _ _ _ _, ?_⟩
  rw [k]
  exact ⟨c0, c1, c2, c3, c4, c5, c6, c7⟩
theorem TM.draw {σ τ : ns_St} {j K N p C : Nat} {re fe se : Int32} (h : TM σ τ j K N p C re fe se) (v : Int32) : TM σ (ns_pI τ 65 14 v) j K N p C re fe v := by
  obtain ⟨t2, ta, t74, tre, t65, tfe, tse, c5, c6, c7, c8⟩ := h
  refine ⟨t2, fun a h1 h2 => by rw [pI_ne _ _ _ h2]; exact ta a h1 h2, fun i hi => by rw [pI_ne _ _ _ (by decide)]; exact t74 i hi, by rw [pI_ne _ _ _ (by decide)]; exact tre, fun k h1 h2 h3 => by rw [pI_st _ _ _ h3]; exact t65 k h1 h2 h3, by rw [pI_st _ _ _ (by decide)]; exact tfe, pI_at _ _ _ _, by rw [pI_st _ _ _ (by decide)]; exact c5, by rw [pI_st _ _ _ (by decide)]; exact c6, by rw [pI_st _ _ _ (by decide)]; exact c7, by rw [pI_st _ _ _ (by decide)]; exact c8⟩
theorem e_slip5 {σ : ns_St} {g1 g2 : Option Nat} (hR : σ.2.2 = ns_rg g1 g2) {E : Nat} {th : Nat → Int32} (hG : GR σ 2 th E) {j K R A N C : Nat} {re fe s sl : Int32} (hj : j < 6) (hK : K ≤ 5) (hnc : NC K N C) (hC : C < 2 ^ 27) (hsl : σ.1 1 3 = sl) : ∀ (r k f : Nat) (τ : ns_St), r < f → A + k + r = E → TNk σ τ j K R A (tr th K A R (bes sl s) N C re fe) (sdn s k) k →
    ∃ τ', g_World_slipToEnd_5 f τ 1 (4 + j) (nI (A + k)) = some ((), τ') ∧ TNk σ τ' j K R A (tr th K A R (bes sl s) N C re fe) (sdn s (E - A)) (E - A) := by
  have h60 := hG.2.2.1
  intro r
  induction r with
  | zero =>
    intro k f τ hf hk h
    obtain ⟨f, rfl⟩ : ∃ q, f = q + 1 := ⟨f - 1, by omega⟩
    have hkm : k = E - A := by omega
    have hRτ : τ.2.2 = ns_rg g1 g2 := by rw [h.1]; exact hR
    have pE : τ.1 2 0 = nI E := by rw [h.2.1 2 (by omega) (by omega)]; exact hG.1
    refine ⟨τ, ?_, hkm ▸ h⟩
    rw [g_World_slipToEnd_5, hRτ, rg_1_0, ev_drf, gk_2, pE, ite2_p (nI_le (by omega) (by omega))]
  | succ r ih =>
    intro k f τ hf hk h
    obtain ⟨f, rfl⟩ : ∃ q, f = q + 1 := ⟨f - 1, by omega⟩
    have hRτ : τ.2.2 = ns_rg g1 g2 := by rw [h.1]; exact hR
    have pE : τ.1 2 0 = nI E := by rw [h.2.1 2 (by omega) (by omega)]; exact hG.1
    have p5 : τ.1 1 5 = sdn s k := h.2.2.2.2.1
    have p3 : τ.1 1 3 = sl := by rw [h.2.2.1 3 (by omega) (by omega)]; exact hsl
    have hd := TN.draw hj h (sdn s (k + 1))
    have ed : g_World_draw τ 1 (1000 : Int32) = some (dvw (sdn s (k + 1)), ns_pI τ 1 5 (sdn s (k + 1))) := by
      unfold g_World_draw
      rw [gk_1, ev_bnd, p5, ite2_n (by decide), grd_t (by decide), pI_at]
      rfl
    have hd' : TNk σ (ns_pI τ 1 5 (sdn s (k + 1))) j K R A (tr th K A R (bes sl s) N C re fe) (sdn s (k + 1)) k := hd
    obtain ⟨τ1, e1, t1⟩ := TNk.go hR hG hj hK (bes_le sl s) hnc hC (by omega) hd'
    obtain ⟨τ2, e2, t2⟩ := ih (k + 1) f τ1 (by omega) (by omega) t1
    have fin : g_World_slipToEnd_37 (g_World_slipToEnd_5 f) (ns_pI τ 1 5 (sdn s (k + 1))) 1 (4 + j) (nI (bes sl s k)) 1 (4 + j) (nI (A + k)) = some ((), τ2) := by
      unfold g_World_slipToEnd_37
      rw [e1, ev_cl2, ev_bnd, ← nI_succ]
      exact e2
    refine ⟨τ2, ?_, t2⟩
    rw [g_World_slipToEnd_5, hRτ, rg_1_0, ev_drf, gk_2, pE, ite2_n (nI_ge (by omega) (by omega)), ed, ev_cl2, pI_st _ _ _ (by decide), p3]
    by_cases q : sl ≤ dvw (sdn s (k + 1))
    · have eb : bes sl s k = 0 := if_pos q
      rw [eb] at fin
      rw [ite2_p q]
      exact fin
    · have eb : bes sl s k = 1 := if_neg q
      rw [eb] at fin
      rw [ite2_n q]
      exact fin
theorem e_day20 {σ : ns_St} {g1 g2 : Option Nat} (hR : σ.2.2 = ns_rg g1 g2) {E j K O A N C : Nat} {re fe s sl x1 : Int32} (hE : σ.1 65 3 = nI E) (h60 : E ≤ 60) (hj : j < 6) (hK : K ≤ 5) (hnc : NC K N C) (hC : C < 2 ^ 27) (hsl : σ.1 65 12 = sl) (m0 : σ.1 70 j = nI K) (m5 : σ.1 75 j = nI O) (kh : ns_St → Nat → Int32 → Int32 → Option (Int32 × ns_St)) : ∀ (r k f : Nat) (τ : ns_St), r < f → A + k + r = E → TMk σ τ j K A (tr (σ.1 69) K A (rt K O) (bes sl s) N C re fe) (sdn s k) k →
    ∃ τ', g_M_day_20 kh f τ 65 x1 (nI j) = (cl2 (g_M_stays τ' 65 (nI j)) fun _ σ23 => bnd (nI j + 1) fun z25 => kh σ23 65 x1 z25) ∧ TMk σ τ' j K A (tr (σ.1 69) K A (rt K O) (bes sl s) N C re fe) (sdn s (E - A)) (E - A) := by
  intro r
  induction r with
  | zero =>
    intro k f τ hf hk h
    obtain ⟨f, rfl⟩ : ∃ q, f = q + 1 := ⟨f - 1, by omega⟩
    have hkm : k = E - A := by omega
    have p2 : τ.1 65 27 = nI (A + k) := h.2.2.2.2.2.2.2.2.2.1
    have pE : τ.1 65 3 = nI E := by rw [h.2.2.2.2.1 3 (by omega) (by omega) (by omega)]; exact hE
    refine ⟨τ, ?_, hkm ▸ h⟩
    rw [g_M_day_20, pE, p2, ite2_p (nI_le (by omega) (by omega))]
  | succ r ih =>
    intro k f τ hf hk h
    obtain ⟨f, rfl⟩ : ∃ q, f = q + 1 := ⟨f - 1, by omega⟩
    have p2 : τ.1 65 27 = nI (A + k) := h.2.2.2.2.2.2.2.2.2.1
    have pE : τ.1 65 3 = nI E := by rw [h.2.2.2.2.1 3 (by omega) (by omega) (by omega)]; exact hE
    have p14 : τ.1 65 14 = sdn s k := h.2.2.2.2.2.2.1
    have p12 : τ.1 65 12 = sl := by rw [h.2.2.2.2.1 12 (by omega) (by omega) (by omega)]; exact hsl
    have hd := TM.draw h (sdn s (k + 1))
    have ed : g_M_draw τ 65 (1000 : Int32) = some (dvw (sdn s (k + 1)), ns_pI τ 65 14 (sdn s (k + 1))) := by
      unfold g_M_draw
      rw [gk_65, ev_bnd, p14, grd_t (by decide), pI_at]
      rfl
    have hd' : TMk σ (ns_pI τ 65 14 (sdn s (k + 1))) j K A (tr (σ.1 69) K A (rt K O) (bes sl s) N C re fe) (sdn s (k + 1)) k := hd
    obtain ⟨τ1, st, e1, f1, f2⟩ := TMk.go hR h60 hj hK (bes_le sl s) hnc hC (show A + k < E by omega) m0 m5 hd'
    have fin : ∃ τ2, g_M_day_51 kh (g_M_day_20 kh f) (ns_pI τ 65 14 (sdn s (k + 1))) 65 (nI (bes sl s k)) 65 x1 (nI j) = (cl2 (g_M_stays τ2 65 (nI j)) fun _ σ23 => bnd (nI j + 1) fun z25 => kh σ23 65 x1 z25) ∧ TMk σ τ2 j K A (tr (σ.1 69) K A (rt K O) (bes sl s) N C re fe) (sdn s (E - A)) (E - A) := by
      unfold g_M_day_51
      rw [e1, ev_cl2]
      cases st with
      | false =>
        obtain ⟨τ2, e2, t2⟩ := ih (k + 1) f τ1 (by omega) (by omega) (f1 rfl)
        refine ⟨τ2, ?_, t2⟩
        rw [ite2_z (by decide)]
        exact e2
      | true =>
        obtain ⟨τ0, e0, t0⟩ := f2 rfl
        obtain ⟨τ2, e2, t2⟩ := ih (k + 1) f τ0 (by omega) (by omega) t0
        refine ⟨τ2, ?_, t2⟩
        rw [ite2_y (Eq.refl true), e0, ev_cl2]
        exact e2
    obtain ⟨τ2, e2, t2⟩ := fin
    refine ⟨τ2, ?_, t2⟩
    rw [g_M_day_20, pE, p2, ite2_n (nI_ge (by omega) (by omega)), ed, ev_cl2, pI_st _ _ _ (by decide), p12]
    by_cases q : sl ≤ dvw (sdn s (k + 1))
    · have eb : bes sl s k = 0 := if_pos q
      rw [eb] at e2
      rw [ite2_p q]
      exact e2
    · have eb : bes sl s k = 1 := if_neg q
      rw [eb] at e2
      rw [ite2_n q]
      exact e2
/-- SEED and FELL behind the first k MULES -/
def dt (σ : ns_St) (E k : Nat) (s fe : Int32) : Nat × Nat × Int32 × Int32 := tr (σ.1 69) (gm σ 70 k) (gm σ 72 k) (rt (gm σ 70 k) (gm σ 75 k)) (bes (σ.1 65 12) s) (gm σ 71 k) (gm σ 73 k) (σ.1 74 k) fe (E - gm σ 72 k)
def dd (σ : ns_St) (E : Nat) : Nat → Int32 × Int32
  | 0 => (σ.1 65 14, σ.1 65 13)
  | k + 1 => (sdn (dd σ E k).1 (E - gm σ 72 k), (dt σ E k (dd σ E k).1 (dd σ E k).2).2.2.2)
def dk (σ : ns_St) (E k : Nat) : Nat × Nat × Int32 × Int32 := dt σ E k (dd σ E k).1 (dd σ E k).2
def DN (σ τ : ns_St) (E k : Nat) : Prop := τ.2 = σ.2 ∧ (∀ a, a ≠ 1 → ¬ (4 ≤ a ∧ a < 4 + k) → τ.1 a = σ.1 a) ∧ (∀ i, i ≠ 4 → i ≠ 5 → τ.1 1 i = σ.1 1 i) ∧ τ.1 1 4 = (dd σ E k).2 ∧ τ.1 1 5 = (dd σ E k).1 ∧ ∀ j, j < k → (τ.1 (4 + j) 0 = nI (gm σ 70 j) ∧ τ.1 (4 + j) 1 = nI (dk σ E j).1 ∧ τ.1 (4 + j) 2 = nI E ∧ τ.1 (4 + j) 3 = nI (dk σ E j).2.1 ∧ τ.1 (4 + j) 4 = (dk σ E j).2.2.1 ∧ τ.1 (4 + j) 5 = σ.1 (4 + j) 5 ∧ τ.1 (4 + j) 6 = nI (rt (gm σ 70 j) (gm σ 75 j)) ∧ τ.1 (4 + j) 7 = nI (wtK (gm σ 70 j)))
theorem e_dayN {B : Nat} {σ : ns_St} {E H : Nat} (h : Inv B σ) (hW : PW B σ E H) {x : Int32} : ∀ (r k f : Nat) (τ : ns_St), r < f → k + r = H → DN σ τ E k → ∃ τ', g_N_day_10 f τ 0 x (nI k) = some ((dd σ E H).2 - x, τ') ∧ DN σ τ' E H := by
  obtain ⟨g1, g2, hR⟩ := h.1
  have hH := hW.2.2.2.1
  have h60 := hW.h60
  obtain ⟨f1, f2, f3, f4⟩ := h.2.1.fs
  intro r
  induction r with
  | zero =>
    intro k f τ hf hk hD
    obtain ⟨f, rfl⟩ : ∃ q, f = q + 1 := ⟨f - 1, by omega⟩
    have hk' : k = H := by omega
    subst hk'
    have hRτ : τ.2.2 = ns_rg g1 g2 := by rw [hD.1]; exact hR
    have p2 : τ.1 1 2 = nI k := by rw [hD.2.2.1 2 (by omega) (by omega)]; exact hW.2.2.2.2.2.1
    refine ⟨τ, ?_, hD⟩
    rw [g_N_day_10, hRτ, rg_0_0, ev_drf, gk_1, p2, ite2_p (nI_le (by omega) (by omega)), ev_drf, gk_1, hD.2.2.2.1]
  | succ r ih =>
    intro k f τ hf hk hD
    obtain ⟨f, rfl⟩ : ∃ q, f = q + 1 := ⟨f - 1, by omega⟩
    obtain ⟨d1, d2, d3, d4, d5, d6⟩ := hD
    have hRτ : τ.2.2 = ns_rg g1 g2 := by rw [d1]; exact hR
    have p2 : τ.1 1 2 = nI H := by rw [d3 2 (by omega) (by omega)]; exact hW.2.2.2.2.2.1
    have hin : ns_in (nI k) (ns_ln 3) := ns_inI (show k < 6 by omega) (by decide)
    have m := hW.m (j := k) (by omega)
    have hAE := m.1.2.2.2.1
    have hCB := m.1.2.2.2.2.1
    have hBb := hW.2.2.2.2.2.2.1
    have kc : τ.1 (4 + k) = σ.1 (4 + k) := d2 (4 + k) (by omega) (by omega)
    obtain ⟨u0, u1, u2, u3, u4, u5, u6, u7⟩ := m.2.1
    have hG : GR τ 2 (σ.1 69) E := hW.2.2.2.2.1.cong (d2 2 (by omega) (by omega)) (by rw [d1])
    have start : TN τ τ k (gm σ 70 k) (rt (gm σ 70 k) (gm σ 75 k)) (gm σ 71 k) (gm σ 72 k) (gm σ 73 k) (σ.1 74 k) (dd σ E k).2 (dd σ E k).1 := ⟨rfl, fun _ _ _ => rfl, fun _ _ _ => rfl, d4, d5, by rw [kc]; exact u0, by rw [kc]; exact u1, by rw [kc]; exact u2, by rw [kc]; exact u3, by rw [kc]; exact u4, rfl, by rw [kc]; exact u6, by rw [kc]; exact u7⟩
    obtain ⟨τ1, e1, t1⟩ := e_slip5 (σ := τ) hRτ hG (j := k) (K := gm σ 70 k) (R := rt (gm σ 70 k) (gm σ 75 k)) (A := gm σ 72 k) (re := σ.1 74 k) (fe := (dd σ E k).2) (s := (dd σ E k).1) (sl := σ.1 65 12) (by omega) m.1.1 m.1.nc (by omega) (by rw [d3 3 (by omega) (by omega)]; exact f1) (E - gm σ 72 k) 0 ns_F τ (by show E - _ < 10000; omega) (by omega) start
    have hD1 : DN σ τ1 E (k + 1) := by
      obtain ⟨t2, ta, tw, tfe, tse, c0, c1, c2, c3, c4, c5, c6, c7⟩ := t1
      refine ⟨t2.trans d1, fun a h1 h2 => by rw [ta a (by omega) h1]; exact d2 a h1 (by omega), fun i h1 h2 => by rw [tw i h1 h2]; exact d3 i h1 h2, tfe, tse, fun j hj => ?_⟩
      by_cases e : j = k
      · subst e
        refine ⟨c0, c1, ?_, c3, c4, by rw [c5, kc], c6, c7⟩
        rw [c2]; congr 1; omega
      · rw [ta (4 + j) (by omega) (by omega)]
        exact d6 j (by omega)
    obtain ⟨τ2, e2, t2⟩ := ih (k + 1) f τ1 (by omega) (by omega) hD1
    refine ⟨τ2, ?_, t2⟩
    have eS : g_World_slipToEnd τ 1 (4 + k) = some ((), τ1) := by
      unfold g_World_slipToEnd
      rw [gk_1, grd_t (kd_m4 k (by omega)), ev_bnd, kc, u2]
      exact e1
    rw [g_N_day_10, hRτ, rg_0_0, ev_drf, gk_1, p2, ite2_n (nI_ge (by omega) (by omega)), ev_drf, gk_1, ev_drf, gk_1, rg_1_1, ev_drf, gk_3, grd_t hin, ns_ixI (by omega), rg_ml3 g1 g2 (show k < 6 by omega), ev_drf, grd_t (kd_m4 k (by omega)), eS, ev_cl2, ev_bnd, ← nI_succ]
    exact e2
def DM (σ ρ τ : ns_St) (E k : Nat) : Prop := τ.2 = σ.2 ∧ (∀ a, a < 10 → τ.1 a = ρ.1 a) ∧ (∀ a, 10 ≤ a → ¬ (71 ≤ a ∧ a ≤ 74) → a ≠ 65 → τ.1 a = σ.1 a) ∧ (∀ i, ¬ (25 ≤ i ∧ i ≤ 28) → i ≠ 13 → i ≠ 14 → τ.1 65 i = σ.1 65 i) ∧ τ.1 65 13 = (dd σ E k).2 ∧ τ.1 65 14 = (dd σ E k).1 ∧ (∀ a j, 71 ≤ a → a ≤ 74 → k ≤ j → τ.1 a j = σ.1 a j) ∧ ∀ j, j < k → (τ.1 71 j = nI (dk σ E j).1 ∧ τ.1 72 j = nI E ∧ τ.1 73 j = nI (dk σ E j).2.1 ∧ τ.1 74 j = (dk σ E j).2.2.1)
theorem e_dayM {B : Nat} {σ ρ : ns_St} {E H : Nat} (h : Inv B σ) (hW : PW B σ E H) {x : Int32} : ∀ (r k f : Nat) (τ : ns_St), r < f → k + r = H → DM σ ρ τ E k → ∃ τ', g_M_day_7 f τ 65 x (nI k) = some ((dd σ E H).2 - x, τ') ∧ DM σ ρ τ' E H := by
  obtain ⟨g1, g2, hR⟩ := h.1
  have hH := hW.2.2.2.1
  have h60 := hW.h60
  intro r
  induction r with
  | zero =>
    intro k f τ hf hk hD
    obtain ⟨f, rfl⟩ : ∃ q, f = q + 1 := ⟨f - 1, by omega⟩
    have hk' : k = H := by omega
    subst hk'
    have p5 : τ.1 65 5 = nI k := by rw [hD.2.2.2.1 5 (by omega) (by omega) (by omega)]; exact hW.2.2.1
    refine ⟨τ, ?_, hD⟩
    rw [g_M_day_7, p5, ite2_p (nI_le (by omega) (by omega)), hD.2.2.2.2.1]
  | succ r ih =>
    intro k f τ hf hk hD
    obtain ⟨f, rfl⟩ : ∃ q, f = q + 1 := ⟨f - 1, by omega⟩
    obtain ⟨d1, d2, d3, d4, d5, d6, d7, d8⟩ := hD
    have hRτ : τ.2.2 = ns_rg g1 g2 := by rw [d1]; exact hR
    have p5 : τ.1 65 5 = nI H := by rw [d4 5 (by omega) (by omega) (by omega)]; exact hW.2.2.1
    have m := hW.m (j := k) (by omega)
    have hAE := m.1.2.2.2.1
    have hCB := m.1.2.2.2.2.1
    have hBb := hW.2.2.2.2.2.2.1
    have q70 : τ.1 70 k = nI (gm σ 70 k) := by rw [d3 70 (by omega) (by omega) (by omega)]; exact m.2.2.1
    have q75 : τ.1 75 k = nI (gm σ 75 k) := by rw [d3 75 (by omega) (by omega) (by omega)]; exact m.2.2.2.2.2.2
    have q69 : τ.1 69 = σ.1 69 := d3 69 (by omega) (by omega) (by omega)
    obtain ⟨τ0, e0, hA0⟩ := e_begins (σ := τ) hRτ (j := k) (by omega) q70 (by rw [d7 71 k (by omega) (by omega) (by omega)]; exact m.2.2.2.1) (by rw [d7 72 k (by omega) (by omega) (by omega)]; exact m.2.2.2.2.1) (by rw [d7 73 k (by omega) (by omega) (by omega)]; exact m.2.2.2.2.2.1)
    have start := hA0.tm k
    rw [d7 74 k (by omega) (by omega) (by omega), d5, d6] at start
    obtain ⟨τ1, e1, t1⟩ := e_day20 (σ := τ) hRτ (E := E) (j := k) (K := gm σ 70 k) (O := gm σ 75 k) (A := gm σ 72 k) (re := σ.1 74 k) (fe := (dd σ E k).2) (s := (dd σ E k).1) (sl := σ.1 65 12) (x1 := x) (by rw [d4 3 (by omega) (by omega) (by omega)]; exact hW.2.1) h60 (by omega) m.1.1 m.1.nc (by omega) (d4 12 (by omega) (by omega) (by omega)) q70 q75 (g_M_day_7 f) (E - gm σ 72 k) 0 ns_F τ0 (by show E - _ < 10000; omega) (by omega) start
    rw [q69] at t1
    obtain ⟨τ2, e2, s2, sa, si, s71, s72, s73⟩ := e_stays (σ := τ1) (g1 := g1) (g2 := g2) (by rw [t1.1]; exact hRτ) (j := k) (by omega)
    have hD1 : DM σ ρ τ2 E (k + 1) := by
      obtain ⟨r2, ra, r74, rre, r65, rfe, rse, c5, c6, c7, c8⟩ := t1
      refine ⟨(s2.trans r2).trans d1, fun a ha => by rw [sa a (by omega), ra a (by omega) (by omega)]; exact d2 a ha, fun a h1 h2 h3 => by rw [sa a (by omega), ra a (by omega) h3]; exact d3 a h1 h2 h3, fun i h1 h2 h3 => by rw [sa 65 (by omega), r65 i h1 h2 h3]; exact d4 i h1 h2 h3, by rw [sa 65 (by omega)]; exact rfe, by rw [sa 65 (by omega)]; exact rse, fun a j h1 h2 h3 => ?_, fun j hj => ?_⟩
      · by_cases e : a = 74
        · subst e; rw [sa 74 (by omega), r74 j (by omega)]; exact d7 74 j h1 h2 (by omega)
        · rw [si a j (by omega) (by omega) (by omega), ra a e (by omega)]; exact d7 a j h1 h2 (by omega)
      · by_cases e : j = k
        · subst e
          refine ⟨by rw [s71]; exact c6, ?_, by rw [s73]; exact c8, by rw [sa 74 (by omega)]; exact rre⟩
          rw [s72, c7]; congr 1; omega
        · rw [si 71 j (by omega) (by omega) e, si 72 j (by omega) (by omega) e, si 73 j (by omega) (by omega) e, sa 74 (by omega), r74 j e, ra 71 (by omega) (by omega), ra 72 (by omega) (by omega), ra 73 (by omega) (by omega)]
          exact d8 j (by omega)
    obtain ⟨τ3, e3, t3⟩ := ih (k + 1) f τ2 (by omega) (by omega) hD1
    refine ⟨τ3, ?_, t3⟩
    rw [g_M_day_7, p5, ite2_n (nI_ge (by omega) (by omega)), e0, ev_cl2, e1, e2, ev_cl2, ev_bnd, ← nI_succ]
    exact e3
theorem k_day {B : Nat} {σ : ns_St} (h : Inv B σ) (hB : B < 2 ^ 26) : both (B + 180) (g_N_day σ 0) (fun σ => g_M_day σ 65) := by
  obtain ⟨g1, g2, hR⟩ := h.1
  obtain ⟨E, H, hW⟩ := PW.of h hB
  have hH := hW.2.2.2.1
  have h60 := hW.h60
  obtain ⟨f1, f2, f3, f4⟩ := h.2.1.fs
  obtain ⟨τ1, e1, d1⟩ := e_dayN h hW (x := σ.1 65 13) H 0 ns_F σ (by show H < 10000; omega) (by omega) ⟨rfl, fun _ _ _ => rfl, fun _ _ _ => rfl, f3, f4, fun j hj => absurd hj (by omega)⟩
  obtain ⟨n1, n2, n3, n4, n5, n6⟩ := d1
  have q : ∀ a, 10 ≤ a → τ1.1 a = σ.1 a := fun a ha => n2 a (by omega) (by omega)
  obtain ⟨τ2, e2, d2⟩ := e_dayM (ρ := τ1) h hW (x := σ.1 65 13) H 0 ns_F τ1 (by show H < 10000; omega) (by omega) ⟨n1, fun _ _ => rfl, fun a h1 _ _ => q a h1, fun i _ _ _ => by rw [q 65 (by omega)], by rw [q 65 (by omega)]; rfl, by rw [q 65 (by omega)]; rfl, fun a j h1 _ _ => by rw [q a (by omega)], fun j hj => absurd hj (by omega)⟩
  refine ⟨(dd σ E H).2 - σ.1 65 13, τ1, τ2, ?_, ?_, ?_⟩
  · unfold g_N_day
    rw [gk_0, hR, rg_0_0, ev_drf, gk_1, ev_bnd, f3]
    exact e1
  · show g_M_day τ1 65 = _
    unfold g_M_day
    rw [gk_65, ev_bnd, q 65 (by omega)]
    exact e2
  · obtain ⟨m1, m2, m3, m4, m5, m6, m7, m8⟩ := d2
    refine h.truth (by omega) hW m1 (fun c h1 h3 h4 h5 => ?_) m4 (fun k h1 h3 => by rw [m2 1 (by omega)]; exact n3 k h1 h3) (by rw [m2 1 (by omega), n4, m5]) (by rw [m2 1 (by omega), n5, m6]) (fun j hj => ?_)
    · by_cases hc : c < 10
      · rw [m2 c hc]; exact n2 c h1 (by omega)
      · exact m3 c (by omega) h5 h4
    · have m := hW.m hj
      obtain ⟨c0, c1, c2, c3, c4, c5, c6, c7⟩ := n6 j hj
      obtain ⟨r1, r2, r3, r4⟩ := m8 j hj
      have hAE := m.1.2.2.2.1
      have hCB := m.1.2.2.2.2.1
      have ok := tr_ok (th := σ.1 69) (A := gm σ 72 j) (R := rt (gm σ 70 j) (gm σ 75 j)) (b := bes (σ.1 65 12) (dd σ E j).1) (re := σ.1 74 j) (fe := (dd σ E j).2) (bes_le _ _) m.1.nc (E - gm σ 72 j)
      have ok' : NC (gm σ 70 j) (dk σ E j).1 (dk σ E j).2.1 ∧ (dk σ E j).2.1 ≤ gm σ 73 j + 3 * (E - gm σ 72 j) := ok
      refine ⟨gm σ 70 j, (dk σ E j).1, E, (dk σ E j).2.1, gm σ 75 j, ⟨m.1.1, ok'.1.1, ok'.1.2.1, Nat.le_refl _, by omega, m.1.2.2.2.2.2.1, ok'.1.2.2.1, ok'.1.2.2.2⟩, ?_, by rw [m3 70 (by omega) (by omega) (by omega)]; exact m.2.2.1, r1, r2, r3, by rw [m3 75 (by omega) (by omega) (by omega)]; exact m.2.2.2.2.2.2⟩
      unfold MU
      rw [m2 (4 + j) (by omega), r4]
      exact ⟨c0, c1, c2, c3, c4, by rw [c5]; exact m.2.1.2.2.2.2.2.1, c6, c7⟩
