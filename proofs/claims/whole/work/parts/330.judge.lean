/-! the least NUMBER by which it is GOOD -/
def gd (σ : ns_St) (E j v : Nat) : Prop := fb_ct (jcl (σ.1 69) (gm σ 70 j) (gm σ 72 j) v 0) (E - gm σ 72 j) = 0 ∧ fb_ct (jmi (σ.1 69) (gm σ 70 j) (gm σ 72 j) v 0) (E - gm σ 72 j) = 0
noncomputable def lk (σ : ns_St) (E j : Nat) : Nat → Nat → Int32
  | 0, _ => -1
  | r + 1, v => @ite _ (gd σ E j v) (Classical.propDecidable _) (nI v) (lk σ E j r (v + 1))
theorem e_lucky22 {B : Nat} {σ : ns_St} {E H j : Nat} (hW : PW B σ E H) (hj : j < H) : ∀ (r v f : Nat) (τ : ns_St), r < f → v + r = 14 → Same σ τ → ∃ τ', g_N_lucky_22 f τ 0 (4 + j) (nI v) = some (lk σ E j r v, τ') ∧ Same σ τ' := by
  have hj6 : j < 6 := by have := hW.2.2.2.1; omega
  have h60 := hW.h60
  intro r
  induction r with
  | zero =>
    intro v f τ hf hv s
    obtain ⟨f, rfl⟩ : ∃ q, f = q + 1 := ⟨f - 1, by omega⟩
    refine ⟨τ, ?_, s⟩
    rw [g_N_lucky_22, ite2_p (show (13 : Int32) < nI v from nI_lt (a := 13) (by omega) (by omega))]
    rfl
  | succ r ih =>
    intro v f τ hf hv s
    obtain ⟨f, rfl⟩ : ∃ q, f = q + 1 := ⟨f - 1, by omega⟩
    have m := (hW.m hj).same s hj6
    have hAE := m.1.2.2.2.1
    obtain ⟨u0, u1, u2, u3, u4, u5, u6, u7⟩ := m.2.1
    obtain ⟨τ1, e1, s1⟩ := e_stopsBy2 (hW.same s) m hj6 (A' := gm σ 72 j) (N' := v) (C' := 0) hAE (by omega) (by omega)
    rw [s.mi (a := 69) (by omega)] at e1
    have ss := s.trans s1
    obtain ⟨g3, g4, hR1⟩ := (hW.same ss).1
    have hG1 : GR τ1 2 (σ.1 69) E := by rw [← ss.mi (a := 69) (by omega)]; exact (hW.same ss).2.2.2.2.1
    have e2 := e_isGood hR1 (K := gm σ 70 j) (A := gm σ 72 j) (N := v) (C := 0) hG1 hAE
    have e1' : g_N_stopsBy τ 0 (4 + j) (nI (gm σ 72 j)) (nI v) (0 : Int32) = some (jm (σ.1 69) (gm σ 70 j) (gm σ 72 j) v 0 E, τ1) := e1
    rw [g_N_lucky_22, ite2_n (show ¬ (13 : Int32) < nI v from nI_nlt (a := 13) (by omega) (by decide)), u2, e1', ev_cl2, e2, ev_cl2]
    by_cases q : gd σ E j v
    · have q' := q
      unfold gd at q'
      refine ⟨τ1, ?_, ss⟩
      rw [ite2_y q', lk, if_pos q]
    · have q' := q
      unfold gd at q'
      obtain ⟨τ2, e3, s3⟩ := ih (v + 1) f τ1 (by omega) (by omega) ss
      refine ⟨τ2, ?_, s3⟩
      rw [ite2_z q', ev_bnd, ← nI_succ, lk, if_neg q]
      exact e3
/-- the reference, while it tries NUMBERS -/
def LM (σ τ : ns_St) (j : Nat) : Prop := τ.2 = σ.2 ∧ (∀ a, a ≠ 65 → a ≠ 71 → a ≠ 73 → τ.1 a = σ.1 a) ∧ (∀ i, i ≠ j → τ.1 71 i = σ.1 71 i) ∧ (∀ i, i ≠ j → τ.1 73 i = σ.1 73 i) ∧ τ.1 73 j = 0 ∧ ∀ k, ¬ (25 ≤ k ∧ k ≤ 28) → τ.1 65 k = σ.1 65 k
theorem e_lucky80 {σ τ : ns_St} {g1 g2 : Option Nat} (hR : σ.2.2 = ns_rg g1 g2) {j : Nat} (hj : j < 6) (h : LM σ τ j) (x : Int32) : ∃ τ', g_M_lucky_80 τ 65 (nI j) (σ.1 71 j) (σ.1 73 j) x = some (x, τ') ∧ Same σ τ' := by
  obtain ⟨l1, l2, l3, l4, l5, l6⟩ := h
  have i1 : ns_in (nI j) (ns_ln 71) := ns_inI (show j < 6 by omega) (by decide)
  have i3 : ns_in (nI j) (ns_ln 73) := ns_inI (show j < 6 by omega) (by decide)
  have hRτ : τ.2.2 = ns_rg g1 g2 := by rw [l1]; exact hR
  refine ⟨ns_pI (ns_pI τ 71 j (σ.1 71 j)) 73 j (σ.1 73 j), ?_, ?_⟩
  · unfold g_M_lucky_80
    simp only [pI_R, hRτ, rg_65_7, rg_65_9, ev_drf, gk_71, gk_73, grd_t i1, grd_t i3, ev_bnd]
    rw [ns_ixI (by omega)]
  · refine ⟨fun a ha h65 => ?_, fun k hk => ?_, fun a _ => by show τ.2.1 a = _; rw [l1], fun _ => ⟨g1, g2, hRτ⟩⟩
    · funext i
      by_cases e1 : a = 71
      · subst e1
        rw [pI_ne _ _ _ (by decide)]
        by_cases e : i = j
        · subst e; rw [pI_at]
        · rw [pI_st _ _ _ e]; exact l3 i e
      · by_cases e3 : a = 73
        · subst e3
          by_cases e : i = j
          · subst e; rw [pI_at]
          · rw [pI_st _ _ _ e, pI_ne _ _ _ (by decide)]; exact l4 i e
        · rw [pI_ne _ _ _ e3, pI_ne _ _ _ e1, l2 a h65 e1 e3]
    · rw [pI_ne _ _ _ (by decide), pI_ne _ _ _ (by decide)]
      exact l6 k (fun q => hk (Or.inr q))
theorem e_lucky42 {B : Nat} {σ : ns_St} {E H j : Nat} (hW : PW B σ E H) (hj : j < H) : ∀ (r v f : Nat) (τ : ns_St), r + 1 < f → v + r = 14 → LM σ τ j → ∃ τ', g_M_lucky_42 f τ 65 (nI j) (σ.1 71 j) (σ.1 73 j) (-1) (nI v) = some (lk σ E j r v, τ') ∧ Same σ τ' := by
  have hj6 : j < 6 := by have := hW.2.2.2.1; omega
  have h60 := hW.h60
  obtain ⟨g1, g2, hR⟩ := hW.1
  intro r
  induction r with
  | zero =>
    intro v f τ hf hv s
    obtain ⟨f, rfl⟩ : ∃ q, f = q + 1 := ⟨f - 1, by omega⟩
    rw [g_M_lucky_42, ite2_p (show (14 : Int32) ≤ nI v from nI_le (a := 14) (by omega) (by omega))]
    exact e_lucky80 hR hj6 s _
  | succ r ih =>
    intro v f τ hf hv s
    obtain ⟨f, rfl⟩ : ∃ q, f = q + 1 + 1 := ⟨f - 2, by omega⟩
    have m := hW.m hj
    obtain ⟨l1, l2, l3, l4, l5, l6⟩ := s
    have i1 : ns_in (nI j) (ns_ln 71) := ns_inI (show j < 6 by omega) (by decide)
    have hRτ : τ.2.2 = ns_rg g1 g2 := by rw [l1]; exact hR
    have hJ : JC (ns_pI τ 71 j (nI v)) E (gm σ 70 j) (gm σ 72 j) v 0 := ⟨⟨g1, g2, hRτ⟩, by rw [pI_ne _ _ _ (by decide), l6 3 (by omega)]; exact hW.2.1, h60, m.1.2.2.2.1, m.1.1, by omega, by omega⟩
    obtain ⟨τ1, e1, t1⟩ := e_isGoodM hJ hj6 (by rw [pI_ne _ _ _ (by decide), l2 70 (by decide) (by decide) (by decide)]; exact m.2.2.1) (pI_at _ _ _ _) (by rw [pI_ne _ _ _ (by decide), l2 72 (by decide) (by decide) (by decide)]; exact m.2.2.2.2.1) (by rw [pI_ne _ _ _ (by decide)]; exact l5)
    rw [pI_ne _ _ _ (by decide), l2 69 (by decide) (by decide) (by decide)] at e1
    have hL : LM σ τ1 j := by
      refine ⟨t1.1.trans l1, fun a h1 h2 h3 => by rw [t1.2.1 a h1, pI_ne _ _ _ h2]; exact l2 a h1 h2 h3, fun i hi => by rw [t1.2.1 71 (by decide), pI_st _ _ _ hi]; exact l3 i hi, fun i hi => by rw [t1.2.1 73 (by decide), pI_ne _ _ _ (by decide)]; exact l4 i hi, by rw [t1.2.1 73 (by decide), pI_ne _ _ _ (by decide)]; exact l5, fun k hk => by rw [t1.2.2 k hk, pI_ne _ _ _ (by decide)]; exact l6 k hk⟩
    rw [g_M_lucky_42, ite2_n (show ¬ (14 : Int32) ≤ nI v from nI_ge (b := 14) (by omega) (by decide)), ite2_n (by decide), hRτ, rg_65_7, ev_drf, gk_71, grd_t i1, ns_ixI (by omega), ev_bnd, e1, ev_cl2]
    by_cases q : gd σ E j v
    · have q' := q
      unfold gd at q'
      rw [ite2_y q', ev_bnd, ← nI_succ, lk, if_pos q, g_M_lucky_42]
      have done := e_lucky80 hR hj6 hL (nI v)
      by_cases c : 14 ≤ v + 1
      · rw [ite2_p (show (14 : Int32) ≤ nI (v + 1) from nI_le (a := 14) c (by omega))]
        exact done
      · rw [ite2_n (show ¬ (14 : Int32) ≤ nI (v + 1) from nI_ge (b := 14) (by omega) (by decide)), ite2_p (nI_pos' (by omega))]
        exact done
    · have q' := q
      unfold gd at q'
      obtain ⟨τ2, e3, s3⟩ := ih (v + 1) (f + 1) τ1 (by omega) (by omega) hL
      refine ⟨τ2, ?_, s3⟩
      rw [ite2_z q', ev_bnd, ← nI_succ, lk, if_neg q]
      exact e3
theorem k_lucky {B : Nat} {σ : ns_St} (h : Inv B σ) (hB : B < 2 ^ 26) (x : Int32) : both B (g_N_lucky σ 0 x) (fun σ => g_M_lucky σ 65 x) := by
  obtain ⟨g1, g2, hR⟩ := h.1
  obtain ⟨E, H, hW⟩ := PW.of h hB
  have a2 := hW.2.2.1
  have a3 := hW.2.2.2.1
  have a5 := hW.2.2.2.2.2.1
  rcases mu_cases x a3 with ⟨j, hj, rfl, hx⟩ | ⟨hx, hx2⟩
  · have hj6 : j < 6 := by omega
    obtain ⟨τ1, e1, s1⟩ := e_lucky22 hW hj 12 2 ns_F σ (by show 12 < 10000; omega) (by omega) (Same.rfl σ)
    have hW1 := hW.same s1
    obtain ⟨g3, g4, hR1⟩ := hW1.1
    have i1 : ns_in (nI j) (ns_ln 71) := ns_inI (show j < 6 by omega) (by decide)
    have i3 : ns_in (nI j) (ns_ln 73) := ns_inI (show j < 6 by omega) (by decide)
    have hL : LM τ1 (ns_pI τ1 73 j 0) j := ⟨rfl, fun a _ _ h3 => pI_ne _ _ _ h3, fun i _ => by rw [pI_ne _ _ _ (by decide)], fun i hi => pI_st _ _ _ hi, pI_at _ _ _ _, fun k _ => by rw [pI_ne _ _ _ (by decide)]⟩
    obtain ⟨τ2, e2, s2⟩ := e_lucky42 hW1 hj 12 2 ns_F (ns_pI τ1 73 j 0) (by show 13 < 10000; omega) (by omega) hL
    have el : ∀ r v, lk τ1 E j r v = lk σ E j r v := by
      have eg : ∀ v, gd τ1 E j v = gd σ E j v := fun v => by
        unfold gd gm
        rw [s1.mi (a := 69) (by omega), s1.mi (a := 70) (by omega), s1.mi (a := 72) (by omega)]
      intro r
      induction r with
      | zero => intro v; rfl
      | succ r ih =>
        intro v
        rw [lk, lk, ih]
        by_cases q : gd σ E j v
        · rw [if_pos q, if_pos (by rw [eg]; exact q)]
        · rw [if_neg q, if_neg (by rw [eg]; exact q)]
    rw [el] at e2
    refine ⟨lk σ E j 12 2, τ1, τ2, ?_, ?_, (h.same s1).same s2⟩
    · unfold g_N_lucky
      rw [gk_0, hR, rg_0_0, ev_drf, gk_1, e_muleAt hR a3 a5 hj, ev_cl2, ev_ons, grd_t (kd_m4 j hj6)]
      exact e1
    · show g_M_lucky τ1 65 (nI j) = _
      unfold g_M_lucky
      rw [gk_65, e_isMule, ev_cl2, hW1.2.2.1, ite2_y hx]
      simp only [hR1, rg_65_7, rg_65_9, ev_drf, gk_71, gk_73, grd_t i1, grd_t i3, ev_bnd]
      rw [ns_ixI (by omega)]
      exact e2
  · refine both.bad h hR (z := 0) (by decide) (c := -2) (by decide) (by decide) ?_ ?_
    · unfold g_N_lucky
      rw [gk_0, hR, rg_0_0, ev_drf, gk_1, e_muleAtN a5 hx2, ev_cl2, ev_onn]
    · show g_M_lucky (rfN σ 0) 65 x = _
      have e5 : (rfN σ 0).1 65 5 = nI H := by rw [rfN, pI_ne _ _ _ (by decide)]; exact a2
      unfold g_M_lucky
      rw [gk_65, e_isMule, ev_cl2, e5, ite2_z hx]
/-! a ROW in a SHELF -/
theorem trb_neg {x : Int32} (hd : Hd x) (ne : trb x ≠ 0) : ¬ 0 ≤ trb x := by
  rcases hd_row hd with ⟨t1, _⟩ | ⟨t1, _⟩ | ⟨t1, _⟩
  · exact absurd t1 ne
  · rw [t1]; decide
  · rw [t1]; decide
theorem both.trb {B : Nat} {σ : ns_St} (h : Inv B σ) {g1 g2 : Option Nat} (hR : σ.2.2 = ns_rg g1 g2) {s : Nat} (hs : s < 8) (ne : trb (σ.1 66 s) ≠ 0) {x : Option (Int32 × ns_St)} {y : ns_St → Option (Int32 × ns_St)} (hx : x = cl2 (g_N_refuse σ 0 (trb (σ.1 66 s))) fun r σ' => some (r, σ')) (hy : ∀ z, y (rfN σ z) = cl2 (g_M_no (rfN σ z) 65 (trb (σ.1 66 s))) fun r σ' => some (r, σ')) : both B x y := by
  rcases hd_row (h.hd hs) with ⟨t1, _⟩ | ⟨t1, _⟩ | ⟨t1, _⟩
  · exact absurd t1 ne
  · rw [t1] at hx hy
    exact both.bad h hR (z := 2) (by decide) (c := -4) (by decide) (by decide) hx (hy 2)
  · rw [t1] at hx hy
    exact both.bad h hR (z := 1) (by decide) (c := -3) (by decide) (by decide) hx (hy 1)
def SR (σ : ns_St) (s z n : Nat) (V : Nat → Int64) : Prop := z ≤ 4 ∧ σ.1 (49 + 2 * s) 0 = nI z ∧ σ.1 66 s = nI z ∧ σ.1 (49 + 2 * s) 1 = nI n ∧ σ.1 67 s = nI n ∧ n ≤ 40 ∧ (∀ i, i < 40 → σ.2.1 (50 + 2 * s) i = V i) ∧ ∀ i, i < 40 → σ.2.1 68 (40 * s + i) = V i
theorem SR.same {σ τ : ns_St} {s z n : Nat} {V : Nat → Int64} (hs : s < 8) (h : SR σ s z n V) (q : Same σ τ) : SR τ s z n V := by
  obtain ⟨h1, h2, h3, h4, h5, h6, h7, h8⟩ := h
  have k : τ.1 (49 + 2 * s) = σ.1 (49 + 2 * s) := q.i (nscr_r (by omega)) (by omega)
  refine ⟨h1, by rw [k]; exact h2, by rw [q.mi (by omega)]; exact h3, by rw [k]; exact h4, by rw [q.mi (by omega)]; exact h5, h6, fun i hi => by rw [q.2.2.1 (50 + 2 * s) (nscr_r (by omega))]; exact h7 i hi, fun i hi => by rw [q.2.2.1 68 (nscr_r (by omega))]; exact h8 i hi⟩
theorem SR.cell {σ : ns_St} {g1 g2 : Option Nat} (hR : σ.2.2 = ns_rg g1 g2) {s z n : Nat} {V : Nat → Int64} (hs : s < 8) (h : SR σ s z n V) {i : Nat} (hi : i < n) : g_Shelf_cellAt σ (49 + 2 * s) (nI i) = some (V i, σ) := by
  obtain ⟨h1, h2, h3, h4, h5, h6, h7, h8⟩ := h
  rw [e_cellAt hR hs (by rw [h2]; exact trb_z h1) h4 h6 hi, h7 i (by omega)]
theorem Inv.sr {B : Nat} {σ : ns_St} (h : Inv B σ) {s : Nat} (hs : s < 8) (ht : trb (σ.1 66 s) = 0) : ∃ z n, SR σ s z n (fun i => σ.2.1 68 (40 * s + i)) := by
  obtain ⟨b1, b2, ⟨n, b3, b3'⟩, b4, b5⟩ := h.2.2.2.1 s hs
  rcases hd_row (h.hd hs) with ⟨t1, t2, z, hz, t3⟩ | ⟨t1, _⟩ | ⟨t1, _⟩
  · exact ⟨z, n, hz, b1.trans t3, t3, b2.trans b3', b3', b3, b5, fun _ _ => rfl⟩
  · rw [t1] at ht; exact absurd ht (by decide)
  · rw [t1] at ht; exact absurd ht (by decide)
/-! a told LIST judged -/
def jd (V : Nat → Int64) (n A : Nat) (f : Nat → Bool) : Nat → Nat → Nat → Int32
  | 0, _, i => if n ≤ i then -1 else nI i
  | r + 1, k, i => if f k = true then (if i = n then nI i else if lg_cmp (V i) ((nI (A + k + 1)).toInt64) = 0 then jd V n A f r (k + 1) (i + 1) else nI i) else jd V n A f r (k + 1) i
theorem e_fw6 {σ : ns_St} {g1 g2 : Option Nat} (hR : σ.2.2 = ns_rg g1 g2) {s z sz n : Nat} {V : Nat → Int64} (hs : s < 8) (hS : SR σ s z sz V) (hn : n ≤ sz) {th : Nat → Int32} {K A N C E : Nat} (h60 : E ≤ 60) : ∀ (r k f : Nat) (x : Int64), A + k + r = E → n - sct th K A N C k < f → sct th K A N C k ≤ n → (∀ p, p < 64 → gb x p = (jp th K A N C E p && decide (A + k < p))) → g_N_firstWrong_6 f σ (49 + 2 * s) (nI n) x (nI (sct th K A N C k)) = some (jd V n A (js th K A N C) r k (sct th K A N C k), σ) := by
  have hsz := hS.2.2.2.2.2.1
  intro r
  induction r with
  | zero =>
    intro k f x hk hf hi hx
    obtain ⟨f, rfl⟩ : ∃ q, f = q + 1 := ⟨f - 1, by omega⟩
    have x0 : lg_cmp x 0 = 0 := gb_zc.mpr (fun p hp => by
      rw [hx p hp]
      unfold jp
      by_cases q : A + k < p
      · rw [decide_eq_false (show ¬ (A < p ∧ p ≤ E) by omega)]; rfl
      · rw [decide_eq_false q]; simp)
    rw [g_N_firstWrong_6, jd]
    by_cases q : n ≤ sct th K A N C k
    · rw [ite2_p (nI_le q (by omega)), ite2_p x0, if_pos q]
    · rw [ite2_n (nI_ge (by omega) (by omega)), ite2_p x0, if_neg q]
  | succ r ih =>
    intro k f x hk hf hi hx
    rw [jd]
    cases hjs : js th K A N C k with
    | false =>
      have e : sct th K A N C (k + 1) = sct th K A N C k := by rw [sct_s, hjs]; rfl
      have := ih (k + 1) f x (by omega) (by omega) (by omega) (fun p hp => by
        rw [hx p hp]
        by_cases q : p = A + k + 1
        · subst q; rw [jp_s (by omega), hjs]; rfl
        · congr 1; apply decide_eq_decide.mpr; omega)
      rw [e] at this
      rw [if_neg (by decide)]
      exact this
    | true =>
      obtain ⟨f, rfl⟩ : ∃ q, f = q + 1 := ⟨f - 1, by omega⟩
      have e : sct th K A N C (k + 1) = sct th K A N C k + 1 := by rw [sct_s, hjs]; rfl
      have hb : gb x (A + k + 1) = true := by rw [hx _ (by omega), jp_s (by omega), hjs, decide_eq_true (by omega)]; rfl
      have hl : ∀ q, q < A + k + 1 → gb x q = false := fun q hq => by rw [hx q (by omega), decide_eq_false (by omega)]; simp
      have x1 : ¬ lg_cmp x 0 = 0 := fun q => by have := gb_zc.mp q (A + k + 1) (by omega); rw [hb] at this; cases this
      rw [g_N_firstWrong_6, if_pos rfl]
      by_cases q : sct th K A N C k = n
      · rw [ite2_p (nI_le (by omega) (by omega)), ite2_n x1, if_pos q, q]
      · rw [ite2_n (nI_ge (by omega) (by omega)), ite2_n x1, hS.cell hR hs (by omega), ev_cl2, e_firstOf (by omega) hb hl, ev_cl2, if_neg q]
        by_cases c : lg_cmp (V (sct th K A N C k)) ((nI (A + k + 1)).toInt64) = 0
        · have := ih (k + 1) f (x &&& (x - 1)) (by omega) (by omega) (by omega) (fun p hp => by
            rw [gb_drop (by omega) hb hl hp, hx p hp]
            by_cases q2 : p = A + k + 1
            · subst q2; rw [decide_eq_false (show ¬ (A + k + 1 ≠ A + k + 1) by omega), decide_eq_false (show ¬ A + (k + 1) < A + k + 1 by omega)]; simp
            · rw [decide_eq_true q2, Bool.and_true]; congr 1; apply decide_eq_decide.mpr; omega)
          rw [e] at this
          rw [ite2_p c, ev_bnd, ev_bnd, ← nI_succ, if_pos c]
          exact this
        · rw [ite2_n c, if_neg c]
theorem e_jd79 {σ : ns_St} {s z sz n : Nat} {V : Nat → Int64} (hs : s < 8) (hS : SR σ s z sz V) (hn : n ≤ sz) {E K A N C : Nat} (hJ : JC σ E K A N C) : ∀ (r k f : Nat) (τ : ns_St), r < f → A + k + r = E → At σ τ K A N C k → sct (σ.1 69) K A N C k ≤ n → ∃ τ', g_M_judge_79 f τ 65 (nI s) (nI n) (nI (sct (σ.1 69) K A N C k)) = some (jd V n A (js (σ.1 69) K A N C) r k (sct (σ.1 69) K A N C k), τ') ∧ Th σ τ' := by
  have hsz := hS.2.2.2.2.2.1
  have h60 := hJ.2.2.1
  obtain ⟨g1, g2, hR⟩ := hJ.1
  intro r
  induction r with
  | zero =>
    intro k f τ hf hE hA hi
    obtain ⟨f, rfl⟩ : ∃ q, f = q + 1 := ⟨f - 1, by omega⟩
    refine ⟨τ, ?_, hA.1⟩
    rw [g_M_judge_79, ite2_p (hA.fin hJ (by omega) (by omega)), jd]
    by_cases q : n ≤ sct (σ.1 69) K A N C k
    · rw [ite2_p (nI_le q (by omega)), if_pos q]
    · rw [ite2_n (nI_ge (by omega) (by omega)), if_neg q]
  | succ r ih =>
    intro k f τ hf hE hA hi
    obtain ⟨f, rfl⟩ : ∃ q, f = q + 1 := ⟨f - 1, by omega⟩
    obtain ⟨τ1, e1, hA1⟩ := hA.go hJ (by omega)
    rw [g_M_judge_79, ite2_n (hA.on hJ (by omega)), e1, ev_cl2, jd]
    cases hjs : js (σ.1 69) K A N C k with
    | false =>
      have e : sct (σ.1 69) K A N C (k + 1) = sct (σ.1 69) K A N C k := by rw [sct_s, hjs]; rfl
      obtain ⟨τ2, e2, t2⟩ := ih (k + 1) f τ1 (by omega) (by omega) hA1 (by omega)
      rw [e] at e2
      refine ⟨τ2, ?_, t2⟩
      rw [ite2_z (by decide), if_neg (by decide)]
      exact e2
    | true =>
      have e : sct (σ.1 69) K A N C (k + 1) = sct (σ.1 69) K A N C k + 1 := by rw [sct_s, hjs]; rfl
      rw [ite2_y (Eq.refl true), if_pos rfl]
      by_cases q : sct (σ.1 69) K A N C k = n
      · refine ⟨τ1, ?_, hA1.1⟩
        rw [ite2_p (by rw [q]), if_pos q]
      · have hin : ns_in (nI (40 * s + sct (σ.1 69) K A N C k)) (ns_ln 68) := ns_inI (show 40 * s + sct (σ.1 69) K A N C k < 320 by omega) (by decide)
        have p1 : τ1.1 65 27 = nI (A + k + 1) := hA1.2.2.2.1
        have v1 : τ1.2.1 68 (40 * s + sct (σ.1 69) K A N C k) = V (sct (σ.1 69) K A N C k) := by rw [hA1.1.1]; exact hS.2.2.2.2.2.2.2 _ (by omega)
        rw [ite2_n (fun w => q ((nI_eq (by omega) (by omega)).mp w)), hA1.1.R hR, rg_65_2, ev_drf, gk_68, ix40, grd_t hin, ns_ixI (by omega), v1, p1, if_neg q]
        by_cases c : lg_cmp (V (sct (σ.1 69) K A N C k)) ((nI (A + k + 1)).toInt64) = 0
        · obtain ⟨τ2, e2, t2⟩ := ih (k + 1) f τ1 (by omega) (by omega) hA1 (by omega)
          rw [e] at e2
          refine ⟨τ2, ?_, t2⟩
          rw [ite2_p c, ev_bnd, ← nI_succ, if_pos c]
          exact e2
        · refine ⟨τ1, ?_, hA1.1⟩
          rw [ite2_n c, if_neg c]
theorem k_judge {B : Nat} {σ : ns_St} (h : Inv B σ) (hB : B < 2 ^ 26) (x y w : Int32) : both B (g_N_judge σ 0 x y w) (fun σ => g_M_judge σ 65 x y w) := by
  obtain ⟨g1, g2, hR⟩ := h.1
  obtain ⟨E, H, hW⟩ := PW.of h hB
  have a2 := hW.2.2.1
  have a3 := hW.2.2.2.1
  have a5 := hW.2.2.2.2.2.1
  have h60 := hW.h60
  have e5 : ∀ z, (rfN σ z).1 65 5 = nI H := fun z => by rw [rfN, pI_ne _ _ _ (by decide)]; exact a2
  rcases sh_cases x with ⟨s, hs, rfl, hx⟩ | hx
  · have hks := kd_sh s hs
    rcases mu_cases w a3 with ⟨j, hj, rfl, hw⟩ | ⟨hw, hw2⟩
    · have hj6 : j < 6 := by omega
      have hk := kd_m4 j hj6
      rcases rn_cases y (n := 40) (by omega) with ⟨n, hn, rfl, hy⟩ | hy
      · have hy' : (0 : Int32) ≤ nI n ∧ nI n ≤ (40 : Int32) := hy
        have in67 : ns_in (nI s) (ns_ln 67) := ns_inI hs (by decide)
        have b1 := (h.2.2.2.1 s hs).1
        have hN0 : g_N_judge σ 0 (nI s) (nI n) (nI j) = ite2 (trb (σ.1 66 s) = 0) (ite2 (nI n ≤ (σ.1 (49 + 2 * s) 1)) (cl2 (g_N_stopsOf σ 0 (4 + j)) fun r60 σ59 => cl2 (g_N_firstWrong σ59 (49 + 2 * s) (nI n) r60) fun r62 σ61 => some (r62, σ61)) (cl2 (g_N_refuse σ 0 (-2 : Int32)) fun r64 σ63 => some (r64, σ63))) (cl2 (g_N_refuse σ 0 (trb (σ.1 66 s))) fun r66 σ65 => some (r66, σ65)) := by
          unfold g_N_judge
          rw [gk_0, e_shelfAt hR hs hx, ev_cl2, ev_ons, grd_t hks, hR, rg_0_0, ev_drf, gk_1, e_muleAt hR a3 a5 hj, ev_cl2, ev_ons, grd_t hk, e_isWithin, ev_cl2, ite2_y hy', e_trb hs, ev_cl2, b1]
        by_cases ht : trb (σ.1 66 s) = 0
        · obtain ⟨z, sz, hS⟩ := h.sr hs ht
          have hM0 : ∀ τ : ns_St, τ.2.2 = σ.2.2 → τ.1 65 5 = nI H → τ.1 66 s = σ.1 66 s → τ.1 67 s = nI sz → g_M_judge τ 65 (nI s) (nI n) (nI j) = ite2 (nI n ≤ nI sz) (cl2 (g_M_begins τ 65 (nI j)) fun _ σ67 => g_M_judge_79 ns_F σ67 65 (nI s) (nI n) (0 : Int32)) (cl2 (g_M_no τ 65 (-2 : Int32)) fun r70 σ69 => some (r70, σ69)) := fun τ q1 q2 q3 q4 => by
            unfold g_M_judge
            rw [gk_65, e_within, ev_cl2, ite2_y hx, e_within, ev_cl2, ite2_y hy', e_isMule, ev_cl2, q2, ite2_y hw, e_noRow (by rw [q1]; exact hR) hs hx (by rw [q3]; exact h.hd hs), ev_cl2, q3, ht, ite2_p (by decide), q1, hR, rg_65_1, ev_drf, gk_67, grd_t in67, ns_ixI (by omega), q4]
          have hsz := hS.2.2.2.2.2.1
          by_cases hnz : n ≤ sz
          · obtain ⟨τ1, e1, on1⟩ := e_stopsOn hW (Same.rfl σ) hj
            have s1 := on1.same scr46
            have hW1 := hW.same s1
            have hS1 := hS.same hs s1
            obtain ⟨g3, g4, hR1⟩ := hW1.1
            have m := hW.m hj
            have m1 := m.same s1 hj6
            have hAE := m.1.2.2.2.1
            have ef := e_fw6 hR1 hs hS1 hnz (th := σ.1 69) (K := gm σ 70 j) (A := gm σ 72 j) (N := gm σ 71 j) (C := gm σ 73 j) h60 (E - gm σ 72 j) 0 ns_F (jm (σ.1 69) (gm σ 70 j) (gm σ 72 j) (gm σ 71 j) (gm σ 73 j) E) (by omega) (by show n - _ < 10000; omega) (by show 0 ≤ n; omega) (fun p hp => by
              rw [gb_jm h60 hAE hp]
              unfold jp
              by_cases q : gm σ 72 j + 0 < p
              · rw [decide_eq_true q, Bool.and_true]
              · rw [decide_eq_false q, decide_eq_false (show ¬ (gm σ 72 j < p ∧ p ≤ E) by omega)]; rfl)
            obtain ⟨τ2, e2, hA2⟩ := e_begins (σ := τ1) hR1 hj6 m1.2.2.1 m1.2.2.2.1 m1.2.2.2.2.1 m1.2.2.2.2.2.1
            obtain ⟨τ3, e3, t3⟩ := e_jd79 hs hS1 hnz (m1.jc hW1) (E - gm σ 72 j) 0 ns_F τ2 (by show E - _ < 10000; omega) (by omega) hA2 (by show 0 ≤ n; omega)
            rw [s1.mi (a := 69) (by omega)] at e3
            refine ⟨_, τ1, τ3, ?_, Eq.trans ?_ e3, (h.same s1).same t3.same⟩
            · rw [hN0, ite2_p ht, hS.2.2.2.1, ite2_p (nI_le hnz (by omega)), e1, ev_cl2]
              unfold g_N_firstWrong
              rw [grd_t hks]
              have ef' : g_N_firstWrong_6 ns_F τ1 (49 + 2 * s) (nI n) (jm (σ.1 69) (gm σ 70 j) (gm σ 72 j) (gm σ 71 j) (gm σ 73 j) E) (0 : Int32) = _ := ef
              rw [ef', ev_cl2]
            · show g_M_judge τ1 65 (nI s) (nI n) (nI j) = _
              rw [hM0 τ1 (by rw [on1.1]) hW1.2.2.1 (by rw [s1.mi (by omega)]) hS1.2.2.2.2.1, ite2_p (nI_le hnz (by omega)), e2, ev_cl2]
              rfl
          · refine both.bad h hR (z := 0) (by decide) (c := -2) (by decide) (by decide) ?_ ?_
            · rw [hN0, ite2_p ht, hS.2.2.2.1, ite2_n (nI_ge (by omega) (by omega))]
            · show g_M_judge (rfN σ 0) 65 (nI s) (nI n) (nI j) = _
              rw [hM0 (rfN σ 0) rfl (e5 0) (by rw [rfN, pI_ne _ _ _ (by decide)]) (by rw [rfN, pI_ne _ _ _ (by decide)]; exact hS.2.2.2.2.1), ite2_n (nI_ge (by omega) (by omega))]
        · refine both.trb h hR hs ht (by rw [hN0, ite2_n ht]) (fun z => ?_)
          have f66 : (rfN σ z).1 66 = σ.1 66 := by rw [rfN, pI_ne _ _ _ (by decide)]
          show g_M_judge (rfN σ z) 65 (nI s) (nI n) (nI j) = _
          unfold g_M_judge
          rw [gk_65, e_within, ev_cl2, ite2_y hx, e_within, ev_cl2, ite2_y hy', e_isMule, ev_cl2, e5, ite2_y hw, e_noRow (σ := rfN σ z) hR hs hx (by rw [f66]; exact h.hd hs), ev_cl2, f66, ite2_n (trb_neg (h.hd hs) ht)]
      · have hy' : ¬ ((0 : Int32) ≤ y ∧ y ≤ (40 : Int32)) := hy
        refine both.bad h hR (z := 0) (by decide) (c := -2) (by decide) (by decide) ?_ ?_
        · unfold g_N_judge
          rw [gk_0, e_shelfAt hR hs hx, ev_cl2, ev_ons, grd_t hks, hR, rg_0_0, ev_drf, gk_1, e_muleAt hR a3 a5 hj, ev_cl2, ev_ons, grd_t hk, e_isWithin, ev_cl2, ite2_z hy']
        · show g_M_judge (rfN σ 0) 65 (nI s) y (nI j) = _
          unfold g_M_judge
          rw [gk_65, e_within, ev_cl2, ite2_y hx, e_within, ev_cl2, ite2_z hy']
    · refine both.bad h hR (z := 0) (by decide) (c := -2) (by decide) (by decide) ?_ ?_
      · unfold g_N_judge
        rw [gk_0, e_shelfAt hR hs hx, ev_cl2, ev_ons, grd_t hks, hR, rg_0_0, ev_drf, gk_1, e_muleAtN a5 hw2, ev_cl2, ev_onn]
      · show g_M_judge (rfN σ 0) 65 (nI s) y w = _
        unfold g_M_judge
        rw [gk_65, e_within, ev_cl2, ite2_y hx, e_within, ev_cl2]
        by_cases hy' : (0 : Int32) ≤ y ∧ y ≤ (40 : Int32)
        · rw [ite2_y hy', e_isMule, ev_cl2, e5, ite2_z hw]
        · rw [ite2_z hy']
  · refine both.bad h hR (z := 0) (by decide) (c := -2) (by decide) (by decide) ?_ ?_
    · unfold g_N_judge
      rw [gk_0, e_shelfAtN hx, ev_cl2, ev_onn, hR, rg_0_0, ev_drf, gk_1]
      rcases mu_cases w a3 with ⟨j, hj, rfl, hw⟩ | ⟨hw, hw2⟩
      · rw [e_muleAt hR a3 a5 hj, ev_cl2, ev_ons, grd_t (kd_m4 j (by omega))]
      · rw [e_muleAtN a5 hw2, ev_cl2, ev_onn]
    · show g_M_judge (rfN σ 0) 65 x y w = _
      unfold g_M_judge
      rw [gk_65, e_within, ev_cl2, ite2_z hx]
