theorem chs_min {f : Nat → Nat} {m e : Nat} (h : e < chs f m) : f e ≠ m := by
  unfold chs at h
  intro q
  by_cases q0 : f 0 = m
  · rw [if_pos q0] at h; omega
  · rw [if_neg q0] at h
    by_cases q1 : f 1 = m
    · rw [if_pos q1] at h
      have : e = 0 := by omega
      subst this; exact q0 q
    · rw [if_neg q1] at h
      by_cases q2 : f 2 = m
      · rw [if_pos q2] at h
        rcases (by omega : e = 0 ∨ e = 1) with rfl | rfl
        · exact q0 q
        · exact q1 q
      · rw [if_neg q2] at h
        rcases (by omega : e = 0 ∨ e = 1 ∨ e = 2) with rfl | rfl | rfl
        · exact q0 q
        · exact q1 q
        · exact q2 q
theorem e_wk78 {th : Nat → Int32} {g1 g2 : Option Nat} {E K A N C j0 : Nat} {all : Int32} {σ : ns_St} (hN : NN K N) (hA : A ≤ E) (h60 : E ≤ 60) (hC : C < 2 ^ 26) (hj0 : j0 < 6) (hA0 : σ.1 72 j0 = nI A) (hfin : Mv th K A N (E - A) 0 C < 1000) : ∀ (r n f : Nat) (τ : ns_St) (b : Bool), r < f → A + n + r = E → (n = 0 ∨ b = decide (wc th K A N C (E - A) n = 0)) → EV th g1 g2 E τ → Wz σ τ → MM th E K A N τ → TU th K A N C (E - A) n τ → RX τ K (nbk th K A N n) (A + n) (wc th K A N C (E - A) n) → ∃ τ', g_M_turnsOf_78 f τ 65 (nI j0) all (nI (Mv th K A N (E - A - n) n (wc th K A N C (E - A) n))) (yn (b = true)) = some (all, τ') ∧ Wz σ τ' ∧ TU th K A N C (E - A) (E - A) τ' := by
  intro r
  induction r with
  | zero =>
    intro n f τ b hf hn hb hV hZ hM hT hX
    obtain ⟨f, rfl⟩ : ∃ q, f = q + 1 := ⟨f - 1, by omega⟩
    have hn' : n = E - A := by omega
    refine ⟨τ, ?_, hZ, fun p hp => by have := hT p hp; rw [show A + n = A + (E - A) by omega] at this; exact this⟩
    rw [g_M_turnsOf_78, hV.2.2.1, hX.2.2.1, ite2_p (nI_le (by omega) (by omega))]
  | succ r ih =>
    intro n f τ b hf hn hb hV hZ hM hT hX
    obtain ⟨f, rfl⟩ : ∃ q, f = q + 1 := ⟨f - 1, by omega⟩
    have hfn := wc_fin hfin n (by omega)
    have wl := wc_le (th := th) (K := K) (A := A) (N := N) (C := C) (R := E - A) n
    have wd := wdh_le th K A N (E - A) n (wc th K A N C (E - A) n)
    have hs : seen th A n (wc th K A N C (E - A) n) = (b || (decide (n = 0) || !tb (th (A + n)) 8)) := by
      unfold seen
      rcases hb with rfl | rfl
      · simp
      · cases decide (wc th K A N C (E - A) n = 0) <;> cases decide (n = 0) <;> rfl
    obtain ⟨τ1, e1, v1, z1, m1, t1, x1⟩ := e_wk108 (th := th) (g1 := g1) (g2 := g2) (E := E) (K := K) (A := A) (N := N) (C := C) (n := n) (all := all) (σ := σ) hN (by omega) h60 hj0 hA0 (yn (b = true)) (g_M_turnsOf_78 f) hfn (wdh th K A N (E - A) n (wc th K A N C (E - A) n)) 0 ns_F τ (wc th K A N C (E - A) n) b (seen th A n (wc th K A N C (E - A) n)) (by show _ < 10000; omega) (by omega) (by omega) hs (by omega) hV hZ hM hT hX (wdh_ok (by omega)) (fun e' he' => chs_min he') rfl
    have e1' : g_M_turnsOf_108 (g_M_turnsOf_78 f) ns_F τ 65 (nI j0) all (nI (Mv th K A N (E - A - n) n (wc th K A N C (E - A) n))) (yn (b = true)) (nI (A + n)) (nI (nbk th K A N n)) (yn (b = true)) (0 : Int32) = _ := e1
    obtain ⟨τ2, e2, z2, t2⟩ := ih (n + 1) f τ1 (decide (wc th K A N C (E - A) (n + 1) = 0)) (by omega) (by omega) (Or.inr rfl) v1 z1 m1 t1 x1
    refine ⟨τ2, ?_, z2, t2⟩
    rw [g_M_turnsOf_78, hV.2.2.1, hX.2.2.1, ite2_n (nI_ge (by omega) (by omega)), ev_bnd, ev_bnd, hX.2.1, e1']
    have ey : yn (wc th K A N C (E - A) (n + 1) = 0) = yn (decide (wc th K A N C (E - A) (n + 1) = 0) = true) := by
      by_cases w : wc th K A N C (E - A) (n + 1) = 0
      · rw [yn_t w, yn_t (by rw [decide_eq_true w])]
      · rw [yn_f w, yn_f (by rw [decide_eq_false w]; decide)]
    rw [ey]
    exact e2
theorem e_to26 {B : Nat} {σ : ns_St} {E H j : Nat} (hW : PW B σ E H) (hj : j < H) : ∀ (r p f : Nat) (τ : ns_St), r < f → p + r = 61 → On2 80 81 σ τ → (∀ i, i < 8000 → τ.1 80 i = 0) → (∀ i, i < p → τ.1 81 i = 0) → ∃ τ', g_M_turnsOf_26 f τ 65 (nI j) (nI p) = some (if Mv (σ.1 69) (gm σ 70 j) (gm σ 72 j) (gm σ 71 j) (E - gm σ 72 j) 0 (gm σ 73 j) < 1000 then nI (Mv (σ.1 69) (gm σ 70 j) (gm σ 72 j) (gm σ 71 j) (E - gm σ 72 j) 0 (gm σ 73 j)) else -1, τ') ∧ Same σ τ' ∧ (Mv (σ.1 69) (gm σ 70 j) (gm σ 72 j) (gm σ 71 j) (E - gm σ 72 j) 0 (gm σ 73 j) < 1000 → TU (σ.1 69) (gm σ 70 j) (gm σ 72 j) (gm σ 71 j) (gm σ 73 j) (E - gm σ 72 j) (E - gm σ 72 j) τ') := by
  have hj6 : j < 6 := by have := hW.2.2.2.1; omega
  have h60 := hW.h60
  obtain ⟨g1, g2, hR⟩ := hW.1
  have m := hW.m hj
  have hAE := m.1.2.2.2.1
  have hCB := m.1.2.2.2.2.1
  have hBb := hW.2.2.2.2.2.2.1
  intro r
  induction r with
  | zero =>
    intro p f τ hf hp h2 h80 h81
    obtain ⟨f, rfl⟩ : ∃ q, f = q + 1 := ⟨f - 1, by omega⟩
    have hRτ : τ.2.2 = ns_rg g1 g2 := by rw [h2.1]; exact hR
    have q : ∀ c, c ≤ 79 → τ.1 c = σ.1 c := fun c hc => h2.2 c (by omega) (by omega)
    obtain ⟨τ1, e1, hA1⟩ := e_begins (σ := τ) hRτ hj6 (by rw [q 70 (by omega)]; exact m.2.2.1) (by rw [q 71 (by omega)]; exact m.2.2.2.1) (by rw [q 72 (by omega)]; exact m.2.2.2.2.1) (by rw [q 73 (by omega)]; exact m.2.2.2.2.2.1)
    obtain ⟨⟨t2, ta, t65⟩, x5, x6, x7, x8⟩ := hA1
    have hi8 : ns_in (nI j) (ns_ln 72) := ns_inI (show j < 6 by omega) (by decide)
    have hV : EV (σ.1 69) g1 g2 E τ1 := ⟨by rw [t2]; exact hRτ, by rw [ta 69 (by decide), q 69 (by omega)], by rw [t65 3 (by omega), q 65 (by omega)]; exact hW.2.1, h60⟩
    have hX : RX τ1 (gm σ 70 j) (nbk (σ.1 69) (gm σ 70 j) (gm σ 72 j) (gm σ 71 j) 0) (gm σ 72 j + 0) (gm σ 73 j) := ⟨x5, x6, x7, x8⟩
    have z80 : ∀ i, i < 8000 → τ1.1 80 i = 0 := fun i hi => by rw [ta 80 (by decide)]; exact h80 i hi
    have hM : MM (σ.1 69) E (gm σ 70 j) (gm σ 72 j) (gm σ 71 j) τ1 := fun k c h1 h3 h4 => by
      left
      have nb := nbk_b (th := σ.1 69) (K := gm σ 70 j) (A := gm σ 72 j) m.nn.1 m.nn.2.1 k
      exact z80 _ (by unfold mix; split <;> omega)
    have hZ : Wz σ τ1 := ⟨t2.trans h2.1, fun b h3 h4 h5 => by rw [ta b h3]; exact h2.2 b h4 h5, fun i hi => by rw [t65 i hi, q 65 (by omega)]⟩
    obtain ⟨τ2, e2, o2, m2⟩ := e_turning (g1 := g1) (g2 := g2) m.nn h60 (E - gm σ 72 j) 0 ns_D (by show _ < 70; omega) (by omega) (gm σ 73 j) false τ1 (Or.inl rfl) (fun q => absurd q (by omega)) (by omega) hV hX hM (fun _ => by
      have nb := nbk_b (th := σ.1 69) (K := gm σ 70 j) (A := gm σ 72 j) m.nn.1 m.nn.2.1 0
      exact z80 _ (by unfold mix; split <;> omega))
    have e2' : g_M_turning ns_D τ1 65 (nI (gm σ 72 j)) (0 : Int32) = _ := e2
    have a72 : τ1.1 72 j = nI (gm σ 72 j) := by rw [ta 72 (by decide), q 72 (by omega)]; exact m.2.2.2.2.1
    have ms := Mv_sml (th := σ.1 69) (K := gm σ 70 j) (A := gm σ 72 j) (N := gm σ 71 j) (E - gm σ 72 j) 0 (gm σ 73 j)
    have zz := hZ.lz (Lz.on o2)
    rw [g_M_turnsOf_26, ite2_p (show (61 : Int32) ≤ nI p from nI_le (a := 61) (by omega) (by omega)), e1, ev_cl2, hV.1, rg_65_8, ev_drf, gk_72, grd_t hi8, ns_ixI (by omega), a72, e2', ev_cl2, ev_bnd]
    by_cases w : Mv (σ.1 69) (gm σ 70 j) (gm σ 72 j) (gm σ 71 j) (E - gm σ 72 j) 0 (gm σ 73 j) < 1000
    · have er : nI (rv (Mv (σ.1 69) (gm σ 70 j) (gm σ 72 j) (gm σ 71 j) (E - gm σ 72 j) 0 (gm σ 73 j))) - 1 = nI (Mv (σ.1 69) (gm σ 70 j) (gm σ 72 j) (gm σ 71 j) (E - gm σ 72 j) 0 (gm σ 73 j)) := by unfold rv; rw [if_pos w, nI_pred]
      have tu0 : TU (σ.1 69) (gm σ 70 j) (gm σ 72 j) (gm σ 71 j) (gm σ 73 j) (E - gm σ 72 j) 0 τ2 := fun p' hp' => by
        rw [if_neg (by omega), o2.2 81 (by decide), ta 81 (by decide)]; exact h81 p' (by omega)
      obtain ⟨τ3, e3, z3, t3⟩ := e_wk78 (th := σ.1 69) (g1 := g1) (g2 := g2) (E := E) (K := gm σ 70 j) (A := gm σ 72 j) (N := gm σ 71 j) (C := gm σ 73 j) (j0 := j) (all := nI (Mv (σ.1 69) (gm σ 70 j) (gm σ 72 j) (gm σ 71 j) (E - gm σ 72 j) 0 (gm σ 73 j))) (σ := σ) m.nn hAE h60 (by omega) hj6 m.2.2.2.2.1 w (E - gm σ 72 j) 0 ns_F τ2 false (by show _ < 10000; omega) (by omega) (Or.inl rfl) (hV.on o2) zz m2 tu0 (hX.on o2)
      refine ⟨τ3, ?_, z3.same, fun _ => t3⟩
      unfold sml at ms
      rw [er, ite2_p (show nI _ ≤ (900 : Int32) from nI_le (b := 900) (by omega) (by decide)), if_pos w]
      exact e3
    · refine ⟨τ2, ?_, zz.same, fun q => absurd q w⟩
      have er : nI (rv (Mv (σ.1 69) (gm σ 70 j) (gm σ 72 j) (gm σ 71 j) (E - gm σ 72 j) 0 (gm σ 73 j))) - 1 = nI 999 := by unfold rv; rw [if_neg w]; exact nI_pred 999
      rw [er, ite2_n (show ¬ nI 999 ≤ (900 : Int32) by decide), if_neg w]
  | succ r ih =>
    intro p f τ hf hp h2 h80 h81
    obtain ⟨f, rfl⟩ : ∃ q, f = q + 1 := ⟨f - 1, by omega⟩
    have hRτ : τ.2.2 = ns_rg g1 g2 := by rw [h2.1]; exact hR
    have i81 : ns_in (nI p) (ns_ln 81) := ns_inI (show p < 61 by omega) (by decide)
    rw [g_M_turnsOf_26, ite2_n (show ¬ (61 : Int32) ≤ nI p from nI_ge (b := 61) (by omega) (by decide)), hRτ, rg_65_30, ev_drf, gk_81, grd_t i81, ns_ixI (by omega), ev_bnd, ev_bnd, ← nI_succ]
    refine ih (p + 1) f _ (by omega) (by omega) ⟨h2.1, fun c h3 h4 => by rw [pI_ne _ _ _ h4]; exact h2.2 c h3 h4⟩ (fun i hi => by rw [pI_ne _ _ _ (by decide)]; exact h80 i hi) (fun i hi => ?_)
    by_cases e : i = p
    · subst e; exact pI_at _ _ _ _
    · rw [pI_st _ _ _ e]; exact h81 i (by omega)
theorem e_to2 {B : Nat} {σ : ns_St} {E H j : Nat} (hW : PW B σ E H) (hj : j < H) : ∀ (r p f : Nat) (τ : ns_St), r < f → p + r = 8000 → On2 80 81 σ τ → (∀ i, i < p → τ.1 80 i = 0) → ∃ τ', g_M_turnsOf_2 f τ 65 (nI j) (nI p) = some (if Mv (σ.1 69) (gm σ 70 j) (gm σ 72 j) (gm σ 71 j) (E - gm σ 72 j) 0 (gm σ 73 j) < 1000 then nI (Mv (σ.1 69) (gm σ 70 j) (gm σ 72 j) (gm σ 71 j) (E - gm σ 72 j) 0 (gm σ 73 j)) else -1, τ') ∧ Same σ τ' ∧ (Mv (σ.1 69) (gm σ 70 j) (gm σ 72 j) (gm σ 71 j) (E - gm σ 72 j) 0 (gm σ 73 j) < 1000 → TU (σ.1 69) (gm σ 70 j) (gm σ 72 j) (gm σ 71 j) (gm σ 73 j) (E - gm σ 72 j) (E - gm σ 72 j) τ') := by
  obtain ⟨g1, g2, hR⟩ := hW.1
  have e8 : Int32.ofNat (ns_ln 80) = nI 8000 := by decide
  intro r
  induction r with
  | zero =>
    intro p f τ hf hp h2 h80
    obtain ⟨f, rfl⟩ : ∃ q, f = q + 1 := ⟨f - 1, by omega⟩
    have hRτ : τ.2.2 = ns_rg g1 g2 := by rw [h2.1]; exact hR
    rw [g_M_turnsOf_2, hRτ, rg_65_29, ev_drf, gk_80, ev_bnd, e8, ite2_p (nI_le (by omega) (by omega))]
    exact e_to26 hW hj 61 0 ns_F τ (by show 61 < 10000; omega) (by omega) h2 (fun i hi => h80 i (by omega)) (fun i hi => absurd hi (by omega))
  | succ r ih =>
    intro p f τ hf hp h2 h80
    obtain ⟨f, rfl⟩ : ∃ q, f = q + 1 := ⟨f - 1, by omega⟩
    have hRτ : τ.2.2 = ns_rg g1 g2 := by rw [h2.1]; exact hR
    have i80 : ns_in (nI p) (ns_ln 80) := ns_inI (show p < 8000 by omega) (by decide)
    rw [g_M_turnsOf_2, hRτ, rg_65_29, ev_drf, gk_80, ev_bnd, e8, ite2_n (nI_ge (by omega) (by omega)), ev_drf, gk_80, grd_t i80, ns_ixI (by omega), ev_bnd, ev_bnd, ← nI_succ]
    refine ih (p + 1) f _ (by omega) (by omega) ⟨h2.1, fun c h3 h4 => by rw [pI_ne _ _ _ h3]; exact h2.2 c h3 h4⟩ (fun i hi => ?_)
    by_cases e : i = p
    · subst e; exact pI_at _ _ _ _
    · rw [pI_st _ _ _ e]; exact h80 i (by omega)
theorem e_turnsOf {B : Nat} {σ : ns_St} {E H j : Nat} (hW : PW B σ E H) (hj : j < H) : ∃ τ', g_M_turnsOf σ 65 (nI j) = some (if Mv (σ.1 69) (gm σ 70 j) (gm σ 72 j) (gm σ 71 j) (E - gm σ 72 j) 0 (gm σ 73 j) < 1000 then nI (Mv (σ.1 69) (gm σ 70 j) (gm σ 72 j) (gm σ 71 j) (E - gm σ 72 j) 0 (gm σ 73 j)) else -1, τ') ∧ Same σ τ' ∧ (Mv (σ.1 69) (gm σ 70 j) (gm σ 72 j) (gm σ 71 j) (E - gm σ 72 j) 0 (gm σ 73 j) < 1000 → TU (σ.1 69) (gm σ 70 j) (gm σ 72 j) (gm σ 71 j) (gm σ 73 j) (E - gm σ 72 j) (E - gm σ 72 j) τ') := by
  unfold g_M_turnsOf
  rw [gk_65]
  exact e_to2 hW hj 8000 0 ns_F σ (by decide) (by omega) ⟨rfl, fun _ _ _ => rfl⟩ (fun i hi => absurd hi (by omega))
/-! what is GOOD as it is needs no TURNS -/
theorem jr_s2 {th : Nat → Int32} {K A N C : Nat} (n : Nat) : (jr th K A N C (n + 1)).2 = (sg th K (nbk th K A N n) (jr th K A N C n).2 (A + n + 1) 0).2.1 := by
  show (sg th K (jr th K A N C n).1 (jr th K A N C n).2 (A + n + 1) 0).2.1 = _
  rw [nbk_jr]
theorem js_sg {th : Nat → Int32} {K A N C : Nat} (n : Nat) : js th K A N C n = (sg th K (nbk th K A N n) (jr th K A N C n).2 (A + n + 1) 0).2.2 := by
  show (sg th K (jr th K A N C n).1 (jr th K A N C n).2 (A + n + 1) 0).2.2 = _
  rw [nbk_jr]
theorem good_seen {th : Nat → Int32} {K A N C R : Nat} (h2 : ∀ n, n < R → jmi th K A N C n = false) : ∀ n, n ≤ R → seen th A n (jr th K A N C n).2 = true := by
  intro n hn
  unfold seen
  cases n with
  | zero => rfl
  | succ n =>
    have q := h2 n (by omega)
    unfold jmi at q
    rw [show A + (n + 1) = A + n + 1 from rfl]
    cases hv : tb (th (A + n + 1)) 8 with
    | false => simp
    | true =>
      rw [hv, Bool.and_true] at q
      have hj : js th K A N C n = true := by cases w : js th K A N C n with | true => rfl | false => rw [w] at q; cases q
      rw [js_sg] at hj
      have s0 : (sg th K (nbk th K A N n) (jr th K A N C n).2 (A + n + 1) 0).2.2 = decide ((sg th K (nbk th K A N n) (jr th K A N C n).2 (A + n + 1) 0).2.1 = 0) := stN_0
      rw [hj, ← jr_s2] at s0
      rw [← s0]; simp
theorem good_op {th : Nat → Int32} {K A N C R : Nat} (h1 : ∀ n, n < R → jcl th K A N C n = false) (h2 : ∀ n, n < R → jmi th K A N C n = false) {n : Nat} (hn : n < R) (G : Nat → Nat) (hG : G (jr th K A N C (n + 1)).2 = 0) : opv th K A N n G 0 (jr th K A N C n).2 (seen th A n (jr th K A N C n).2) = 0 := by
  unfold opv
  have q := h1 n hn
  unfold jcl at q
  rw [js_sg] at q
  rw [good_seen h2 n (by omega), q, if_pos (by decide), ← jr_s2, hG]
  rfl
theorem good_M {th : Nat → Int32} {K A N C R : Nat} (h1 : ∀ n, n < R → jcl th K A N C n = false) (h2 : ∀ n, n < R → jmi th K A N C n = false) : ∀ r n, n + r = R → Mv th K A N r n (jr th K A N C n).2 = 0
  | 0, n, hn => by rw [Mv, good_seen h2 n (by omega), if_pos rfl]
  | r + 1, n, hn => by
    have ih := good_M h1 h2 r (n + 1) (by omega)
    have o := good_op h1 h2 (show n < R by omega) (Mv th K A N r (n + 1)) ih
    have e3 : mn th K A N n (Mv th K A N r (n + 1)) 3 0 (jr th K A N C n).2 (seen th A n (jr th K A N C n).2) = min (opv th K A N n (Mv th K A N r (n + 1)) 0 (jr th K A N C n).2 (seen th A n (jr th K A N C n).2)) _ := mn_s th K A N n (Mv th K A N r (n + 1)) 2 0 _ _
    rw [Mv, e3, o]
    omega
theorem good_w {th : Nat → Int32} {K A N C R : Nat} (h1 : ∀ n, n < R → jcl th K A N C n = false) (h2 : ∀ n, n < R → jmi th K A N C n = false) : ∀ n, (n ≤ R → wc th K A N C R n = (jr th K A N C n).2) ∧ (n < R → wdh th K A N R n (wc th K A N C R n) = 0) := by
  intro n
  induction n with
  | zero =>
    refine ⟨fun _ => rfl, fun hn => ?_⟩
    have o := good_op h1 h2 hn (Mv th K A N (R - 0 - 1) (0 + 1)) (good_M h1 h2 (R - 0 - 1) (0 + 1) (by omega))
    have e : wc th K A N C R 0 = (jr th K A N C 0).2 := rfl
    rw [e]
    unfold wdh chs
    rw [if_pos (by rw [good_M h1 h2 (R - 0) 0 (by omega)]; exact o)]
  | succ n ih =>
    have hw : n + 1 ≤ R → wc th K A N C R (n + 1) = (jr th K A N C (n + 1)).2 := fun hn => by
      rw [wc, ih.2 (by omega), ih.1 (by omega), nct, ← jr_s2]
    refine ⟨hw, fun hn => ?_⟩
    have o := good_op h1 h2 hn (Mv th K A N (R - (n + 1) - 1) (n + 1 + 1)) (good_M h1 h2 (R - (n + 1) - 1) (n + 1 + 1) (by omega))
    rw [hw (by omega)]
    unfold wdh chs
    rw [if_pos (by rw [good_M h1 h2 (R - (n + 1)) (n + 1) (by omega)]; exact o)]
theorem k_turns {B : Nat} {σ : ns_St} (h : Inv B σ) (hB : B < 2 ^ 26) (x y : Int32) : both B (g_N_turns σ 0 x y) (fun σ => g_M_turns σ 65 x y) := by
  obtain ⟨g1, g2, hR⟩ := h.1
  obtain ⟨E, H, hW⟩ := PW.of h hB
  have a2 := hW.2.2.1
  have a3 := hW.2.2.2.1
  have a5 := hW.2.2.2.2.2.1
  have h60 := hW.h60
  have hE0 := hW.2.2.2.2.1.1
  have e5 : (rfN σ 0).1 65 5 = nI H := by rw [rfN, pI_ne _ _ _ (by decide)]; exact a2
  have e3' : (rfN σ 0).1 65 3 = nI E := by rw [rfN, pI_ne _ _ _ (by decide)]; exact hW.2.1
  rcases mu_cases x a3 with ⟨j, hj, rfl, hx⟩ | ⟨hx, hx2⟩
  · have hj6 : j < 6 := by omega
    have hk := kd_m4 j hj6
    -- the body
    have body : (y = -1 ∨ ∃ q, q ≤ E ∧ y = nI q) → ∃ r τ1 τ2, g_N_turns_33 σ 0 y (4 + j) = some (r, τ1) ∧ Same σ τ1 ∧ g_M_turns_28 τ1 65 (nI j) y = some (r, τ2) ∧ Same σ τ2 := by
      intro hy
      have m := hW.m hj
      have hAE := m.1.2.2.2.1
      have hnc := m.1.nc
      obtain ⟨u0, u1, u2, u3, u4, u5, u6, u7⟩ := m.2.1
      obtain ⟨τ1, e1, on1⟩ := e_stopsOn hW (Same.rfl σ) hj
      have s1 := on1.same scr46
      obtain ⟨g3, g4, hR1⟩ := (hW.same s1).1
      have hG1 : GR τ1 2 (σ.1 69) E := by rw [← s1.mi (a := 69) (by omega)]; exact (hW.same s1).2.2.2.2.1
      have eg := e_isGood hR1 (K := gm σ 70 j) (A := gm σ 72 j) (N := gm σ 71 j) (C := gm σ 73 j) hG1 hAE
      have egm : ∀ τ : ns_St, Same σ τ → gm τ 70 j = gm σ 70 j ∧ gm τ 71 j = gm σ 71 j ∧ gm τ 72 j = gm σ 72 j ∧ gm τ 73 j = gm σ 73 j ∧ τ.1 69 = σ.1 69 := fun τ s => by
        unfold gm
        rw [s.mi (a := 70) (by omega), s.mi (a := 71) (by omega), s.mi (a := 72) (by omega), s.mi (a := 73) (by omega), s.mi (a := 69) (by omega)]
        exact ⟨rfl, rfl, rfl, rfl, rfl⟩
      -- the reference, from any such memory
      have ref : ∀ τ : ns_St, Same σ τ → ∃ τ', g_M_turns_28 τ 65 (nI j) y = some (if Mv (σ.1 69) (gm σ 70 j) (gm σ 72 j) (gm σ 71 j) (E - gm σ 72 j) 0 (gm σ 73 j) < 1000 then (if y = -1 then nI (Mv (σ.1 69) (gm σ 70 j) (gm σ 72 j) (gm σ 71 j) (E - gm σ 72 j) 0 (gm σ 73 j)) else if gm σ 72 j ≤ y.toNatClampNeg ∧ y.toNatClampNeg < E then nI (wdh (σ.1 69) (gm σ 70 j) (gm σ 72 j) (gm σ 71 j) (E - gm σ 72 j) (y.toNatClampNeg - gm σ 72 j) (wc (σ.1 69) (gm σ 70 j) (gm σ 72 j) (gm σ 71 j) (gm σ 73 j) (E - gm σ 72 j) (y.toNatClampNeg - gm σ 72 j))) else 0) else -1, τ') ∧ Same σ τ' := by
        intro τ s
        obtain ⟨τ', e, s', tu⟩ := e_turnsOf (hW.same s) hj
        obtain ⟨q0, q1, q2, q3, q4⟩ := egm τ s
        rw [q0, q1, q2, q3, q4] at e tu
        refine ⟨τ', ?_, s.trans s'⟩
        unfold g_M_turns_28
        rw [e, ev_cl2]
        have ms := Mv_sml (th := σ.1 69) (K := gm σ 70 j) (A := gm σ 72 j) (N := gm σ 71 j) (E - gm σ 72 j) 0 (gm σ 73 j)
        unfold sml at ms
        by_cases w : Mv (σ.1 69) (gm σ 70 j) (gm σ 72 j) (gm σ 71 j) (E - gm σ 72 j) 0 (gm σ 73 j) < 1000
        · rw [if_pos w, if_pos w, ite2_n (nI_nm1 (by omega))]
          by_cases y1 : y = -1
          · rw [ite2_p y1, if_pos y1]
          · obtain ⟨q, hq, hyq⟩ := hy.resolve_left y1
            obtain ⟨g5, g6, hR5⟩ := (hW.same (s.trans s')).1
            have i81 : ns_in (nI q) (ns_ln 81) := ns_inI (show q < 61 by omega) (by decide)
            subst hyq
            rw [ite2_n y1, if_neg y1, hR5, rg_65_30, ev_drf, gk_81, grd_t i81, ns_ixI (by omega), nI_clamp (by omega), tu w q (by omega)]
            by_cases z : gm σ 72 j ≤ q ∧ q < E
            · rw [if_pos z, if_pos (by omega)]
            · rw [if_neg z, if_neg (by omega)]
        · rw [if_neg w, if_neg w, ite2_p rfl]
      have hN33 : g_N_turns_33 σ 0 y (4 + j) = ite2 (yn (fb_ct (jcl (σ.1 69) (gm σ 70 j) (gm σ 72 j) (gm σ 71 j) (gm σ 73 j)) (E - gm σ 72 j) = 0 ∧ fb_ct (jmi (σ.1 69) (gm σ 70 j) (gm σ 72 j) (gm σ 71 j) (gm σ 73 j)) (E - gm σ 72 j) = 0) = 0) (cl2 (g_TurnPlan_make τ1 31 (4 + j) 2) fun r37 σ36 => ite2 (r37 = (-1 : Int32)) (some (r37, σ36)) (ite2 (y = (-1 : Int32)) (some (r37, σ36)) (drf (σ36.2.2 0 5) fun b40 => grd (ns_kd b40 = 6) <| cl2 (g_TurnPlan_madeAt σ36 b40 y) fun r42 σ41 => some (r42, σ41)))) (some ((0 : Int32), τ1)) := by
        unfold g_N_turns_33
        rw [e1, ev_cl2, u2, eg, ev_cl2, hR1, rg_0_5, ev_drf, gk_31, rg_0_0, ev_drf, gk_1, rg_1_0, ev_drf, gk_2]
      by_cases good : fb_ct (jcl (σ.1 69) (gm σ 70 j) (gm σ 72 j) (gm σ 71 j) (gm σ 73 j)) (E - gm σ 72 j) = 0 ∧ fb_ct (jmi (σ.1 69) (gm σ 70 j) (gm σ 72 j) (gm σ 71 j) (gm σ 73 j)) (E - gm σ 72 j) = 0
      · obtain ⟨τ2, e2, s2⟩ := ref τ1 s1
        have c1 := fb_ct_zero.mp good.1
        have c2 := fb_ct_zero.mp good.2
        have M0 := good_M (th := σ.1 69) (K := gm σ 70 j) (A := gm σ 72 j) (N := gm σ 71 j) (C := gm σ 73 j) (R := E - gm σ 72 j) c1 c2 (E - gm σ 72 j) 0 (by omega)
        have M0' : Mv (σ.1 69) (gm σ 70 j) (gm σ 72 j) (gm σ 71 j) (E - gm σ 72 j) 0 (gm σ 73 j) = 0 := M0
        refine ⟨0, τ1, τ2, ?_, s1, ?_, s2⟩
        · rw [hN33, ite2_y good]
        · rw [e2, M0', if_pos (by omega)]
          by_cases y1 : y = -1
          · rw [if_pos y1]; rfl
          · rw [if_neg y1]
            by_cases z : gm σ 72 j ≤ y.toNatClampNeg ∧ y.toNatClampNeg < E
            · rw [if_pos z, (good_w (th := σ.1 69) (K := gm σ 70 j) (A := gm σ 72 j) (N := gm σ 71 j) (C := gm σ 73 j) (R := E - gm σ 72 j) c1 c2 (y.toNatClampNeg - gm σ 72 j)).2 (by omega)]; rfl
            · rw [if_neg z]
      · obtain ⟨τ2, g6, e2, p2, t2⟩ := e_makeP hW s1 hj
        have s2 := p2.1
        have ms := Mv_sml (th := σ.1 69) (K := gm σ 70 j) (A := gm σ 72 j) (N := gm σ 71 j) (E - gm σ 72 j) 0 (gm σ 73 j)
        unfold sml at ms
        by_cases w : Mv (σ.1 69) (gm σ 70 j) (gm σ 72 j) (gm σ 71 j) (E - gm σ 72 j) 0 (gm σ 73 j) < 1000
        · rw [if_pos w] at e2
          by_cases y1 : y = -1
          · obtain ⟨τ3, e3, s3⟩ := ref τ2 s2
            rw [if_pos w, if_pos y1] at e3
            exact ⟨_, τ2, τ3, by rw [hN33, ite2_z good, e2, ev_cl2, ite2_n (nI_nm1 (by omega)), ite2_p y1], s2, e3, s3⟩
          · obtain ⟨q, hq, hyq⟩ := hy.resolve_left y1
            obtain ⟨τ3, e3, s3⟩ := e_madeAt m.nn hW.2.2.2.2.1 hAE hq hnc.2.2.1 w p2 t2
            obtain ⟨τ4, e4, s4⟩ := ref τ3 s3
            subst hyq
            rw [if_pos w, if_neg y1, nI_clamp (by omega)] at e4
            exact ⟨_, τ3, τ4, by rw [hN33, ite2_z good, e2, ev_cl2, ite2_n (nI_nm1 (by omega)), ite2_n y1, p2.2.1, rg_0_5, ev_drf, gk_31, e3, ev_cl2], s3, e4, s4⟩
        · rw [if_neg w] at e2
          obtain ⟨τ3, e3, s3⟩ := ref τ2 s2
          rw [if_neg w] at e3
          exact ⟨_, τ2, τ3, by rw [hN33, ite2_z good, e2, ev_cl2, ite2_p rfl], s2, e3, s3⟩
    by_cases y1 : y = -1
    · obtain ⟨r, τ1, τ2, q1, q2, q3, q4⟩ := body (Or.inl y1)
      refine ⟨r, τ1, τ2, ?_, ?_, h.same q4⟩
      · unfold g_N_turns
        rw [gk_0, hR, rg_0_0, ev_drf, gk_1, e_muleAt hR a3 a5 hj, ev_cl2, ev_ons, grd_t hk, ite2_p y1]
        exact q1
      · show g_M_turns τ1 65 (nI j) y = _
        unfold g_M_turns
        rw [gk_65, e_isMule, ev_cl2, (hW.same q2).2.2.1, ite2_y hx, ite2_p y1]
        exact q3
    · rcases rn_cases y (n := E) (by omega) with ⟨q, hq, hyq, hy⟩ | hy
      · obtain ⟨r, τ1, τ2, q1, q2, q3, q4⟩ := body (Or.inr ⟨q, hq, hyq⟩)
        refine ⟨r, τ1, τ2, ?_, ?_, h.same q4⟩
        · unfold g_N_turns
          rw [gk_0, hR, rg_0_0, ev_drf, gk_1, e_muleAt hR a3 a5 hj, ev_cl2, ev_ons, grd_t hk, ite2_n y1, e_isPlace hR, ev_cl2, hE0, ite2_y hy]
          exact q1
        · show g_M_turns τ1 65 (nI j) y = _
          unfold g_M_turns
          rw [gk_65, e_isMule, ev_cl2, (hW.same q2).2.2.1, ite2_y hx, ite2_n y1, e_isPlaceM, ev_cl2, (hW.same q2).2.1, ite2_y hy]
          exact q3
      · refine both.bad h hR (z := 0) (by decide) (c := -2) (by decide) (by decide) ?_ ?_
        · unfold g_N_turns
          rw [gk_0, hR, rg_0_0, ev_drf, gk_1, e_muleAt hR a3 a5 hj, ev_cl2, ev_ons, grd_t hk, ite2_n y1, e_isPlace hR, ev_cl2, hE0, ite2_z hy]
        · show g_M_turns (rfN σ 0) 65 (nI j) y = _
          unfold g_M_turns
          rw [gk_65, e_isMule, ev_cl2, e5, ite2_y hx, ite2_n y1, e_isPlaceM, ev_cl2, e3', ite2_z hy]
  · refine both.bad h hR (z := 0) (by decide) (c := -2) (by decide) (by decide) ?_ ?_
    · unfold g_N_turns
      rw [gk_0, hR, rg_0_0, ev_drf, gk_1, e_muleAtN a5 hx2, ev_cl2, ev_onn]
    · show g_M_turns (rfN σ 0) 65 x y = _
      unfold g_M_turns
      rw [gk_65, e_isMule, ev_cl2, e5, ite2_z hx]
