/-! NUMBERS told, the plan made, its TURNS -/
theorem e_tell23 {th : Nat → Int32} {E K A N C t b : Nat} {g1 g2 : Option Nat} (hN : NN K N) (h60 : E ≤ 60) (hC : C < 2 ^ 26) (kt : ns_kd t = 2) (lb : ns_ln b = 61) (htb : t ≠ b) (h2t : t ≠ 2) (h2b : b ≠ 2) : ∀ (r k f : Nat) (τ : ns_St), r < f → A + k + r = E → τ.2.2 = ns_rg g1 g2 → GR τ 2 th E → τ.1 t 0 = nI K → τ.1 t 7 = nI (wtK K) → τ.1 t 1 = nI (nbk th K A N k) → τ.1 t 2 = nI (A + k) → τ.1 t 3 = nI (jr th K A N C k).2 → (∀ k', k' ≤ k → τ.1 b (A + k') = nI (nbk th K A N k')) →
    ∃ τ', g_N_tellNumbers_23 f τ 2 t b (nI (A + k + 1)) = some ((), τ') ∧ τ'.2 = τ.2 ∧ (∀ c, c ≠ t → c ≠ b → τ'.1 c = τ.1 c) ∧ (∀ i, ¬ (1 ≤ i ∧ i ≤ 3) → τ'.1 t i = τ.1 t i) ∧ ∀ k', A + k' ≤ E → τ'.1 b (A + k') = nI (nbk th K A N k') := by
  intro r
  induction r with
  | zero =>
    intro k f τ hf hk hR hG h0 h7 h1 h2 h3 hb
    obtain ⟨f, rfl⟩ : ∃ q, f = q + 1 := ⟨f - 1, by omega⟩
    refine ⟨τ, ?_, rfl, fun _ _ _ => rfl, fun _ _ => rfl, fun k' hk' => hb k' (by omega)⟩
    rw [g_N_tellNumbers_23, hG.1, ite2_p (nI_lt (by omega) (by omega))]
  | succ r ih =>
    intro k f τ hf hk hR hG h0 h7 h1 h2 h3 hb
    obtain ⟨f, rfl⟩ : ∃ q, f = q + 1 := ⟨f - 1, by omega⟩
    have nb := nbk_b (th := th) (K := K) (A := A) hN.1 hN.2.1 k
    have bC := jr_C (th := th) (K := K) (A := A) (N := N) (C := C) k
    obtain ⟨t1, t2, t3, t4⟩ := hG.bits (p := A + k + 1) (by omega)
    have hs := e_makeStep (σ := τ) (a := t) (g := 2) (K := K) (N := nbk th K A N k) (p := A + k) (C := (jr th K A N C k).2) (b := 0) kt kd_2 hN.2.2.2 (by omega) (by omega) (by omega) (by omega) h0 h1 h2 h3 h7
    rw [t1, t2, t3] at hs
    have ej : (jr th K A N C (k + 1)).2 = (sg th K (nbk th K A N k) (jr th K A N C k).2 (A + k + 1) 0).2.1 := by
      show (sg th K (jr th K A N C k).1 (jr th K A N C k).2 (A + k + 1) 0).2.1 = _
      rw [nbk_jr]
    have hs' : g_Mule_makeStep τ t 2 (0 : Int32) = some (yn ((sg th K (nbk th K A N k) (jr th K A N C k).2 (A + k + 1) 0).2.2 = true), s3 τ t 1 (nI (nbk th K A N (k + 1))) (nI (A + k + 1)) (nI (sg th K (nbk th K A N k) (jr th K A N C k).2 (A + k + 1) 0).2.1)) := hs
    rw [← ej] at hs'
    have ib : ns_in (nI (A + k + 1)) (ns_ln b) := by rw [lb]; exact ns_inI (show A + k + 1 < 61 by omega) (by decide)
    generalize hT : s3 τ t 1 (nI (nbk th K A N (k + 1))) (nI (A + k + 1)) (nI (jr th K A N C (k + 1)).2) = T at hs'
    have T2 : T.2 = τ.2 := by rw [← hT]; rfl
    have Ta : ∀ c, c ≠ t → T.1 c = τ.1 c := fun c hc => by rw [← hT]; exact s3_ne _ _ _ _ _ hc
    have To : ∀ i, ¬ (1 ≤ i ∧ i ≤ 3) → T.1 t i = τ.1 t i := fun i hi => by rw [← hT]; exact s3_go _ _ _ _ _ _ (by omega)
    have T1 : T.1 t 1 = nI (nbk th K A N (k + 1)) := by rw [← hT]; exact s3_g1 _ _ _ _ _ _
    have Tp : T.1 t 2 = nI (A + k + 1) := by rw [← hT]; exact s3_g2 _ _ _ _ _ _
    have T3 : T.1 t 3 = nI (jr th K A N C (k + 1)).2 := by rw [← hT]; exact s3_g3 _ _ _ _ _ _
    have kt' : (ns_pI T b (A + k + 1) (nI (nbk th K A N (k + 1)))).1 t = T.1 t := pI_ne _ _ _ htb
    obtain ⟨τ', e, q1, q2, q3, q4⟩ := ih (k + 1) f (ns_pI T b (A + k + 1) (nI (nbk th K A N (k + 1)))) (by omega) (by omega) (by show T.2.2 = _; rw [T2]; exact hR) (hG.cong (by rw [pI_ne _ _ _ (by omega), Ta 2 (by omega)]) (by show T.2.1 2 = _; rw [T2])) (by rw [kt', To 0 (by omega)]; exact h0) (by rw [kt', To 7 (by omega)]; exact h7) (by rw [kt']; exact T1) (by rw [kt']; exact Tp) (by rw [kt']; exact T3) (fun k' hk' => by
      by_cases e : k' = k + 1
      · subst e; exact pI_at _ _ _ _
      · rw [pI_st _ _ _ (by omega), Ta b (by omega)]; exact hb k' (by omega))
    refine ⟨τ', ?_, q1.trans T2, fun c h5 h6 => by rw [q2 c h5 h6, pI_ne _ _ _ h6, Ta c h5], fun i hi => by rw [q3 i hi, kt', To i hi], q4⟩
    rw [g_N_tellNumbers_23, hG.1, ite2_n (nI_nlt (by omega) (by omega)), hs', ev_cl2, grd_t ib, ns_ixI (by omega), T1, ev_bnd, ev_bnd, ← nI_succ]
    exact e
theorem e_tellNumbers {σ : ns_St} {g1 g2 : Option Nat} (hR : σ.2.2 = ns_rg g1 g2) {th : Nat → Int32} {E K A N C a t b : Nat} (hN : NN K N) (hG : GR σ 2 th E) (hA : A ≤ E) (hC : C < 2 ^ 26) (ka : ns_kd a = 2) (kt : ns_kd t = 2) (kb : ns_kd b = 10) (lb : ns_ln b = 61) (hta : a ≠ t) (htb : t ≠ b) (hab : a ≠ b) (h2t : t ≠ 2) (h2b : b ≠ 2) (h0 : σ.1 a 0 = nI K) (h1 : σ.1 a 1 = nI N) (h2 : σ.1 a 2 = nI A) (h3 : σ.1 a 3 = nI C) (h7 : σ.1 a 7 = nI (wtK K)) : ∃ τ, g_N_tellNumbers σ a 2 t b = some ((), τ) ∧ τ.2 = σ.2 ∧ (∀ c, c ≠ t → c ≠ b → τ.1 c = σ.1 c) ∧ τ.1 t 0 = nI K ∧ τ.1 t 7 = nI (wtK K) ∧ ∀ k, A + k ≤ E → τ.1 b (A + k) = nI (nbk th K A N k) := by
  have h60 := hG.2.2.1
  obtain ⟨τ1, e1, on1, c1⟩ := e_takeFrom (σ := σ) kt ka hta
  have ib : ns_in (nI A) (ns_ln b) := by rw [lb]; exact ns_inI (show A < 61 by omega) (by decide)
  have kt' : (ns_pI τ1 b A (nI N)).1 t = τ1.1 t := pI_ne _ _ _ htb
  obtain ⟨τ2, e2, q1, q2, q3, q4⟩ := e_tell23 (th := th) (E := E) (K := K) (A := A) (N := N) (C := C) (t := t) (b := b) (g1 := g1) (g2 := g2) hN h60 hC kt lb htb h2t h2b (E - A) 0 ns_F (ns_pI τ1 b A (nI N)) (by show E - A < 10000; omega) (by omega) (by show τ1.2.2 = _; rw [on1.1]; exact hR) (hG.cong (by rw [pI_ne _ _ _ (by omega), on1.2 2 (by omega)]) (by show τ1.2.1 2 = _; rw [on1.1])) (by rw [kt', c1 0 (by omega)]; exact h0) (by rw [kt', c1 7 (by omega)]; exact h7) (by rw [kt', c1 1 (by omega)]; exact h1) (by rw [kt', c1 2 (by omega)]; exact h2) (by rw [kt', c1 3 (by omega)]; exact h3) (fun k' hk' => by
    have : k' = 0 := by omega
    subst this
    exact pI_at _ _ _ _)
  refine ⟨τ2, ?_, q1.trans on1.1, fun c h5 h6 => by rw [q2 c h5 h6, pI_ne _ _ _ h6, on1.2 c h5], by rw [q3 0 (by omega), kt', c1 0 (by omega)]; exact h0, by rw [q3 7 (by omega), kt', c1 7 (by omega)]; exact h7, q4⟩
  unfold g_N_tellNumbers
  rw [grd_t ka, gk_2, grd_t kt, grd_t kb, e1, ev_cl2, on1.2 a hta, h2, h1, grd_t ib, ns_ixI (by omega), ev_bnd, pI_ne _ _ _ hab, on1.2 a hta, h2, ev_bnd, ← nI_succ]
  exact e2
theorem PM.nn {B : Nat} {σ : ns_St} {E j K N A C O : Nat} (h : PM B σ E j K N A C O) : NN K N := ⟨h.1.2.1, h.1.2.2.1, h.1.2.2.2.2.2.2.2, h.1.1⟩
theorem e_makeP {B : Nat} {σ τ : ns_St} {E H j : Nat} (hW : PW B σ E H) (s : Same σ τ) (hj : j < H) : ∃ τ' g2, g_TurnPlan_make τ 31 (4 + j) 2 = some (if Mv (σ.1 69) (gm σ 70 j) (gm σ 72 j) (gm σ 71 j) (E - gm σ 72 j) 0 (gm σ 73 j) < 1000 then nI (Mv (σ.1 69) (gm σ 70 j) (gm σ 72 j) (gm σ 71 j) (E - gm σ 72 j) 0 (gm σ 73 j)) else -1, τ') ∧ TP σ τ' (σ.1 69) g2 E (gm σ 70 j) (gm σ 72 j) (gm σ 71 j) (cap (gm σ 71 j) (gm σ 73 j)) ∧ TT τ' (σ.1 69) E (gm σ 70 j) (gm σ 72 j) (gm σ 71 j) 0 := by
  have hj6 : j < 6 := by have := hW.2.2.2.1; omega
  have h60 := hW.h60
  have hBb := hW.2.2.2.2.2.2.1
  have m := (hW.m hj).same s hj6
  have hAE := m.1.2.2.2.1
  have hCB := m.1.2.2.2.2.1
  have hnc := m.1.nc
  obtain ⟨u0, u1, u2, u3, u4, u5, u6, u7⟩ := m.2.1
  obtain ⟨g1, g2, hR⟩ := (hW.same s).1
  have hG : GR τ 2 (σ.1 69) E := by rw [← s.mi (a := 69) (by omega)]; exact (hW.same s).2.2.2.2.1
  -- the ground, the start, the COUNT
  generalize hT1 : ns_pI (ns_pR τ 31 3 (some 2)) 31 4 (nI (gm σ 72 j)) = T1
  have r1 : T1.2.2 = ns_rg (some 2) g2 := by
    rw [← hT1]
    show va_up τ.2.2 31 (va_up (τ.2.2 31) 3 (some 2)) = _
    rw [hR]; exact rg_p1 g1 g2 (some 2)
  have j1 : T1.2.1 = τ.2.1 := by rw [← hT1]; rfl
  have a1 : ∀ c, c ≠ 31 → T1.1 c = τ.1 c := fun c hc => by rw [← hT1, pI_ne _ _ _ hc]; rfl
  have s1 : Same τ T1 := by rw [← hT1]; exact Same.pR1.trans (Same.pI scr31)
  have f4 : T1.1 31 4 = nI (gm σ 72 j) := by rw [← hT1]; exact pI_at _ _ _ _
  have ec := e_capped (τ := T1) (a := 4 + j) (n := gm σ 71 j) (m := gm σ 73 j) (kd_m4 j hj6) (by have := m.1.2.2.1; omega) (by omega) (by rw [a1 (4 + j) (by omega)]; exact u1) (by rw [a1 (4 + j) (by omega)]; exact u3)
  generalize hT2 : ns_pI T1 31 5 (nI (cap (gm σ 71 j) (gm σ 73 j))) = T2
  have r2 : T2.2.2 = ns_rg (some 2) g2 := by rw [← hT2]; exact r1
  have a2 : ∀ c, c ≠ 31 → T2.1 c = τ.1 c := fun c hc => by rw [← hT2, pI_ne _ _ _ hc]; exact a1 c hc
  have s2 : Same τ T2 := s1.trans (by rw [← hT2]; exact Same.pI scr31)
  have f42 : T2.1 31 4 = nI (gm σ 72 j) := by rw [← hT2, pI_st _ _ _ (by decide)]; exact f4
  have f52 : T2.1 31 5 = nI (cap (gm σ 71 j) (gm σ 73 j)) := by rw [← hT2]; exact pI_at _ _ _ _
  have kc := a2 (4 + j) (by omega)
  obtain ⟨τ3, e3, q1, q2, q3, q4, q5⟩ := e_tellNumbers (σ := T2) r2 (th := σ.1 69) (E := E) (K := gm σ 70 j) (A := gm σ 72 j) (N := gm σ 71 j) (C := gm σ 73 j) (a := 4 + j) (t := 34) (b := 33) m.nn (hG.cong (a2 2 (by omega)) (by rw [← hT2]; show T1.2.1 2 = _; rw [j1])) hAE (by omega) (kd_m4 j hj6) kd_34 kd_33 ln_33 (by omega) (by omega) (by omega) (by omega) (by omega) (by rw [kc]; exact u0) (by rw [kc]; exact u1) (by rw [kc]; exact u2) (by rw [kc]; exact u3) (by rw [kc]; exact u7)
  have s3 : Same T2 τ3 := by
    refine ⟨fun a ha _ => q2 a (fun e => ha (e ▸ scr34)) (fun e => ha (e ▸ scr33)), fun k _ => by rw [q2 65 (by decide) (by decide)], fun a _ => by rw [q1], fun ⟨x, y, z⟩ => ⟨x, y, by rw [q1]; exact z⟩⟩
  have hP : TP σ τ3 (σ.1 69) g2 E (gm σ 70 j) (gm σ 72 j) (gm σ 71 j) (cap (gm σ 71 j) (gm σ 73 j)) := ⟨s.trans (s2.trans s3), by rw [q1]; exact r2, by rw [q2 31 (by decide) (by decide)]; exact f42, by rw [q2 31 (by decide) (by decide)]; exact f52, q3, q4, q5⟩
  have capE : Eq' (gm σ 70 j) (gm σ 71 j) (cap (gm σ 71 j) (gm σ 73 j)) (gm σ 73 j) := cap_eq m.1.2.2.1 hnc.2.2.1 (fun k3 => hnc.2.2.2 (by omega))
  obtain ⟨τ4, e4, p4, t4⟩ := e_make39 m.nn hW.2.2.2.2.1 hAE (fc := cap (gm σ 71 j) (gm σ 73 j)) (by unfold cap; omega) (by unfold cap; omega) 64 0 ns_F τ3 (by show 64 < 10000; omega) (by omega) hP (fun c' hc' => absurd hc' (by omega))
  have eM := Mv_eq (th := σ.1 69) (K := gm σ 70 j) (A := gm σ 72 j) m.nn.1 m.nn.2.1 (E - gm σ 72 j) 0 _ _ capE
  rw [eM] at e4
  refine ⟨τ4, g2, ?_, p4, t4⟩
  have u2' : (ns_pR τ 31 3 (some 2)).1 (4 + j) 2 = nI (gm σ 72 j) := u2
  unfold g_TurnPlan_make
  rw [gk_31, grd_t (kd_m4 j hj6), gk_2, ev_bnd, ev_bnd, u2', hT1, ec, ev_cl2, ev_bnd, hT2, r2, rg_31_3, ev_drf, gk_2, rg_31_2, ev_drf, gk_34, rg_31_1, ev_drf, gk_33, e3, ev_cl2]
  exact e4
/-- COUNT on the way with TURNS, and the TURNS -/
def wdh (th : Nat → Int32) (K A N R n c : Nat) : Nat := chs (fun j => nw th K A N n (Mv th K A N (R - n - 1) (n + 1)) j 0 c (seen th A n c)) (Mv th K A N (R - n) n c)
def wc (th : Nat → Int32) (K A N C R : Nat) : Nat → Nat
  | 0 => C
  | n + 1 => nct th K A N n (wdh th K A N R n (wc th K A N C R n)) (wc th K A N C R n)
theorem wdh_le (th : Nat → Int32) (K A N R n c : Nat) : wdh th K A N R n c ≤ 3 := by
  unfold wdh chs; split
  · omega
  · split
    · omega
    · split <;> omega
theorem wdh_ok {th : Nat → Int32} {K A N R n c : Nat} (hn : n < R) : nw th K A N n (Mv th K A N (R - n - 1) (n + 1)) (wdh th K A N R n c) 0 c (seen th A n c) = Mv th K A N (R - n) n c := by
  obtain ⟨r, hr⟩ : ∃ r, R - n = r + 1 := ⟨R - n - 1, by omega⟩
  unfold wdh
  rw [hr, show r + 1 - 1 = r by omega, Mv]
  exact chs_ok
theorem wdh_eq {th : Nat → Int32} {K A N R n c c' : Nat} (h1 : 2 ≤ N) (h2 : N ≤ 64) (hn : n < R) (h : Eq' K (nbk th K A N n) c c') : wdh th K A N R n c = wdh th K A N R n c' := by
  have b := (nbk_b (th := th) (K := K) (A := A) h1 h2 n).1
  unfold wdh
  rw [Mv_eq h1 h2 (R - n) n c c' h, seen_eq (th := th) (A := A) (k := n) (by omega : 1 ≤ nbk th K A N n) h]
  congr 1
  funext j
  exact nw_eq (Mv_eq h1 h2 (R - n - 1) (n + 1)) j h 0 _
theorem wc_fin {th : Nat → Int32} {K A N C R : Nat} (h : Mv th K A N R 0 C < 1000) : ∀ n, n ≤ R → Mv th K A N (R - n) n (wc th K A N C R n) < 1000
  | 0, _ => h
  | n + 1, hn => by
    have ih := wc_fin h n (by omega)
    have ok := wdh_ok (th := th) (K := K) (A := A) (N := N) (c := wc th K A N C R n) (show n < R by omega)
    have f := nw_fin (th := th) (K := K) (A := A) (N := N) (k := n) (G := Mv th K A N (R - n - 1) (n + 1)) (wdh th K A N R n (wc th K A N C R n)) 0 (wc th K A N C R n) (seen th A n (wc th K A N C R n)) (by rw [ok]; exact ih)
    rw [show R - (n + 1) = R - n - 1 by omega, wc]
    omega
theorem wc_le {th : Nat → Int32} {K A N C R : Nat} : ∀ n, wc th K A N C R n ≤ C + 5 * n
  | 0 => Nat.le_refl _
  | n + 1 => by
    have a := wc_le (th := th) (K := K) (A := A) (N := N) (C := C) (R := R) n
    have b := nct_le (th := th) (K := K) (A := A) (N := N) (k := n) (wdh th K A N R n (wc th K A N C R n)) (wc th K A N C R n)
    have c := wdh_le th K A N R n (wc th K A N C R n)
    rw [wc]; omega
theorem e_few14 {σ : ns_St} {th : Nat → Int32} {g2 : Option Nat} {E K A N fc n c need : Nat} (hN : NN K N) (hG : GR σ 2 th E) (hn : A + n < E) (hc : c ≤ 64) (hneed : need ≤ 1000) : ∀ (r j f : Nat) (τ : ns_St), r < f → j + r = 3 → TP σ τ th g2 E K A N fc → TT τ th E K A N (n + 1) → (∀ j', j' < j → nw th K A N n (Mv th K A N (E - A - n - 1) (n + 1)) j' 0 c (seen th A n c) ≠ need) →
    ∃ τ', g_TurnPlan_fewestFirst_14 f τ 31 (nI (A + n)) (nI c) (nI need) (nI j) = some (nI (chs (fun j => nw th K A N n (Mv th K A N (E - A - n - 1) (n + 1)) j 0 c (seen th A n c)) need), τ') ∧ O3 34 τ τ' := by
  intro r
  induction r with
  | zero =>
    intro j f τ hf hj hP hT hno
    obtain ⟨f, rfl⟩ : ∃ q, f = q + 1 := ⟨f - 1, by omega⟩
    have hj' : j = 3 := by omega
    subst hj'
    refine ⟨τ, ?_, O3.rfl _ _⟩
    rw [g_TurnPlan_fewestFirst_14, ite2_p (show (3 : Int32) ≤ nI 3 by decide)]
    unfold chs
    rw [if_neg (hno 0 (by omega)), if_neg (hno 1 (by omega)), if_neg (hno 2 (by omega))]
    rfl
  | succ r ih =>
    intro j f τ hf hj hP hT hno
    obtain ⟨f, rfl⟩ : ∃ q, f = q + 1 := ⟨f - 1, by omega⟩
    obtain ⟨τ1, e1, o1, _⟩ := e_needWith hN hG (k := n) (R := E - A - n - 1) (by omega) (j := j) (by omega) hc hP hT
    have nl := nw_le (th := th) (K := K) (A := A) (N := N) (k := n) (G := Mv th K A N (E - A - n - 1) (n + 1)) j 0 c (seen th A n c)
    rw [g_TurnPlan_fewestFirst_14, ite2_n (show ¬ (3 : Int32) ≤ nI j from nI_ge (b := 3) (by omega) (by decide)), e1, ev_cl2]
    by_cases q : nw th K A N n (Mv th K A N (E - A - n - 1) (n + 1)) j 0 c (seen th A n c) = need
    · refine ⟨τ1, ?_, o1⟩
      rw [ite2_p (by rw [q])]
      unfold chs
      rcases (by omega : j = 0 ∨ j = 1 ∨ j = 2) with rfl | rfl | rfl
      · rw [if_pos q]
      · rw [if_neg (hno 0 (by omega)), if_pos q]
      · rw [if_neg (hno 0 (by omega)), if_neg (hno 1 (by omega)), if_pos q]
    · obtain ⟨τ2, e2, o2⟩ := ih (j + 1) f τ1 (by omega) (by omega) (hP.o3 o1) (hT.o3 o1) (fun j' hj' => by
        by_cases e : j' = j
        · subst e; exact q
        · exact hno j' (by omega))
      refine ⟨τ2, ?_, o1.trans o2⟩
      rw [ite2_n (fun w => q ((nI_eq (by omega) (by omega)).mp w)), ev_bnd, ← nI_succ]
      exact e2
theorem e_made13 {σ : ns_St} {th : Nat → Int32} {g2 : Option Nat} {E K A N C fc q : Nat} (hN : NN K N) (hG : GR σ 2 th E) (hq : A ≤ q) (hqE : q ≤ E) (hfin : Mv th K A N (E - A) 0 C < 1000) : ∀ (r n f : Nat) (τ : ns_St) (c : Nat) (x : Int32), r < f → n + r = min (q + 1) E - A → TP σ τ th g2 E K A N fc → TT τ th E K A N 0 → Eq' K (nbk th K A N n) c (wc th K A N C (E - A) n) → c ≤ 63 → c ≤ nbk th K A N n → (r = 0 → q < E → x = nI (wdh th K A N (E - A) (q - A) (wc th K A N C (E - A) (q - A)))) →
    ∃ τ', g_TurnPlan_madeAt_13 f τ 31 (nI q) x (nI c) (nI (A + n)) = some (if q < E then nI (wdh th K A N (E - A) (q - A) (wc th K A N C (E - A) (q - A))) else 0, τ') ∧ Same σ τ' := by
  have h60 := hG.2.2.1
  intro r
  induction r with
  | zero =>
    intro n f τ c x hf hn hP hT hE hc hc2 hx
    obtain ⟨f, rfl⟩ : ∃ q, f = q + 1 := ⟨f - 1, by omega⟩
    have pE : τ.1 2 0 = nI E := by rw [hP.1.lo (by omega)]; exact hG.1
    have fin : g_TurnPlan_madeAt_62 τ 31 (nI q) x = some (if q < E then nI (wdh th K A N (E - A) (q - A) (wc th K A N C (E - A) (q - A))) else 0, τ) := by
      unfold g_TurnPlan_madeAt_62
      rw [hP.2.2.1, ite2_n (nI_nlt hq (by omega)), hP.2.1, rg_31_3, ev_drf, gk_2, pE]
      by_cases w : q < E
      · rw [ite2_p (nI_lt w (by omega)), if_pos w, hx rfl w]
      · rw [ite2_n (nI_nlt (by omega) (by omega)), if_neg w]
    refine ⟨τ, ?_, hP.1⟩
    rw [g_TurnPlan_madeAt_13]
    by_cases w : q < A + n
    · rw [ite2_p (nI_lt w (by omega))]; exact fin
    · rw [ite2_n (nI_nlt (by omega) (by omega)), hP.2.1, rg_31_3, ev_drf, gk_2, pE, ite2_p (nI_le (by omega) (by omega))]; exact fin
  | succ r ih =>
    intro n f τ c x hf hn hP hT hE hc hc2 hx
    obtain ⟨f, rfl⟩ : ∃ q, f = q + 1 := ⟨f - 1, by omega⟩
    have pE : τ.1 2 0 = nI E := by rw [hP.1.lo (by omega)]; exact hG.1
    have hnE : A + n < E := by omega
    have b := nbk_b (th := th) (K := K) (A := A) hN.1 hN.2.1 n
    have b1 := nbk_b (th := th) (K := K) (A := A) hN.1 hN.2.1 (n + 1)
    have hT1 : TT τ th E K A N (n + 1) := fun k h1 h2 c h3 h4 => hT k (by omega) h2 c h3 h4
    have i32 : ns_in (nI (64 * (A + n) + c)) (ns_ln 32) := ns_inI (show 64 * (A + n) + c < 3904 by omega) (by decide)
    have tv := hT n (by omega) (by omega) c hc (fun _ => hc2)
    have ml := Mv_le (th := th) (K := K) (A := A) (N := N) (E - A - n) n c
    obtain ⟨τ1, e1, o1⟩ := e_few14 hN hG hnE (c := c) (by omega) (need := Mv th K A N (E - A - n) n c) ml 3 0 ns_F τ (by show 3 < 10000; omega) (by omega) hP hT1 (fun j' hj' => absurd hj' (by omega))
    have e1' : g_TurnPlan_fewestFirst τ 31 (nI (A + n)) (nI c) = some (nI (wdh th K A N (E - A) n c), τ1) := by
      unfold g_TurnPlan_fewestFirst
      rw [gk_31, hP.2.1, rg_31_0, ev_drf, gk_32, e_cellOf (by omega) hc, ev_cl2, grd_t i32, ns_ixI (by omega), tv, ev_bnd]
      exact e1
    have hd := wdh_le th K A N (E - A) n c
    obtain ⟨τ2, e2, o2, f2⟩ := e_needWith hN hG (k := n) (R := E - A - n - 1) (by omega) (j := wdh th K A N (E - A) n c) hd (c := c) (by omega) (hP.o3 o1) (hT1.o3 o1)
    have ok := wdh_ok (th := th) (K := K) (A := A) (N := N) (R := E - A) (c := c) (show n < E - A by omega)
    have fin : Mv th K A N (E - A - n) n c < 1000 := by
      rw [Mv_eq hN.1 hN.2.1 (E - A - n) n _ _ hE]
      exact wc_fin hfin n (by omega)
    obtain ⟨t1, t3⟩ := f2 (by rw [ok]; exact fin)
    have ncl := nct_le (th := th) (K := K) (A := A) (N := N) (k := n) (wdh th K A N (E - A) n c) c
    have ecap := e_capped kd_34 (by omega) (by omega) t1 t3
    have hP2 := (hP.o3 o1).o3 o2
    have hT2 := (hT.o3 o1).o3 o2
    have hwd := wdh_eq hN.1 hN.2.1 (show n < E - A by omega) hE
    have hE1 : Eq' K (nbk th K A N (n + 1)) (cap (nbk th K A N (n + 1)) (nct th K A N n (wdh th K A N (E - A) n c) c)) (wc th K A N C (E - A) (n + 1)) := by
      refine (cap_eq b1.2 (fun k3 => nct_nc hN.1 hN.2.1 k3 _ _) (fun k3 => hN.t13 (n + 1) k3)).trans ?_
      rw [wc, hwd]
      exact nct_eq _ hE
    obtain ⟨τ3, e3, s3⟩ := ih (n + 1) f τ2 (cap (nbk th K A N (n + 1)) (nct th K A N n (wdh th K A N (E - A) n c) c)) (nI (wdh th K A N (E - A) n c)) (by omega) (by omega) hP2 hT2 hE1 (by unfold cap; omega) (by unfold cap; omega) (fun r0 qE => by
      rw [hwd, show q - A = n by omega])
    refine ⟨τ3, ?_, s3⟩
    rw [g_TurnPlan_madeAt_13, ite2_n (nI_nlt (by omega) (by omega)), hP.2.1, rg_31_3, ev_drf, gk_2, pE, ite2_n (nI_ge (by omega) (by omega)), e1', ev_cl2, e2, ev_cl2, hP2.2.1, rg_31_2, ev_drf, gk_34, ecap, ev_cl2, ev_bnd, ← nI_succ]
    exact e3
theorem e_madeAt {σ τ : ns_St} {th : Nat → Int32} {g2 : Option Nat} {E K A N C q : Nat} (hN : NN K N) (hG : GR σ 2 th E) (hA : A ≤ E) (hqE : q ≤ E) (hnc : K ≠ 3 → C < N) (hfin : Mv th K A N (E - A) 0 C < 1000) (hP : TP σ τ th g2 E K A N (cap N C)) (hT : TT τ th E K A N 0) :
    ∃ τ', g_TurnPlan_madeAt τ 31 (nI q) = some (if A ≤ q ∧ q < E then nI (wdh th K A N (E - A) (q - A) (wc th K A N C (E - A) (q - A))) else 0, τ') ∧ Same σ τ' := by
  have h60 := hG.2.2.1
  by_cases hq : A ≤ q
  · obtain ⟨τ1, e1, s1⟩ := e_made13 hN hG hq hqE hfin (min (q + 1) E - A) 0 ns_F τ (cap N C) 0 (by show min (q + 1) E - A < 10000; omega) (by omega) hP hT (cap_eq hN.2.1 hnc (fun k3 => hN.2.2.1 (by omega))) (by unfold cap; omega) (by show cap N C ≤ N; unfold cap; omega) (fun r0 qE => by omega)
    refine ⟨τ1, ?_, s1⟩
    unfold g_TurnPlan_madeAt
    rw [gk_31, hP.2.2.2.1, hP.2.2.1, ev_bnd, ev_bnd]
    refine Eq.trans e1 ?_
    by_cases w : q < E
    · rw [if_pos w, if_pos ⟨hq, w⟩]
    · rw [if_neg w, if_neg (fun z => w z.2)]
  · refine ⟨τ, ?_, hP.1⟩
    unfold g_TurnPlan_madeAt
    rw [gk_31, hP.2.2.2.1, hP.2.2.1, ev_bnd, ev_bnd, if_neg (fun z => hq z.1)]
    show g_TurnPlan_madeAt_13 (9999 + 1) _ _ _ _ _ _ = _
    rw [g_TurnPlan_madeAt_13, ite2_p (nI_lt (by omega) (by omega))]
    unfold g_TurnPlan_madeAt_62
    rw [hP.2.2.1, ite2_p (nI_lt (by omega) (by omega))]
