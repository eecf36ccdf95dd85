/-! how sure it is: the reference -/
theorem scr80 : scr 80 := by unfold scr; omega
theorem slv_m {f v : Nat} (hf : f ≤ 1000) (hv : v ≤ 1000000) : (((nI v).toInt64 * (nI f).toInt64) / (1000 : Int64)).toInt32 = nI (slv f v) := by
  have := Nat.mul_le_mul hv hf
  rw [nI_l (by omega), nI_l (by omega), lN_mul, show (1000 : Int64) = lN 1000 from rfl, pk_lDiv (by omega) (by omega) (by decide), lN_i]
  rfl
theorem e_s293 {σ : ns_St} {Q : Nat → Nat} {N : Nat} (hN : N ≤ 64) (h : ∀ c, c < N → σ.1 80 c = nI (Q c)) : ∀ (r k f : Nat), r < f → k + r = N → g_M_sure_293 f σ (nI N) 80 (nI (fb_sm Q k)) (nI k) = some (nI (fb_sm Q N), σ) := by
  intro r
  induction r with
  | zero =>
    intro k f hf hk
    obtain ⟨f, rfl⟩ : ∃ q, f = q + 1 := ⟨f - 1, by omega⟩
    rw [g_M_sure_293, ite2_p (nI_le (by omega) (by omega)), show k = N by omega]
  | succ r ih =>
    intro k f hf hk
    obtain ⟨f, rfl⟩ : ∃ q, f = q + 1 := ⟨f - 1, by omega⟩
    have i4 : ns_in (nI k) (ns_ln 80) := ns_inI (show k < 8000 by omega) (by decide)
    rw [g_M_sure_293, ite2_n (nI_ge (by omega) (by omega)), grd_t i4, ns_ixI (by omega), h k (by omega), ev_bnd, ev_bnd, nI_add, ← nI_succ]
    exact ih (k + 1) f (by omega) (by omega)
theorem i100 (k : Nat) : (100 : Int32) + nI k = nI (100 + k) := by rw [show (100 : Int32) = nI 100 from rfl, nI_add]
theorem i101 (k : Nat) : (101 : Int32) + nI k = nI (101 + k) := by rw [show (101 : Int32) = nI 101 from rfl, nI_add]
theorem e_s214 {σ : ns_St} (hI : Irf σ) {T : Nat → Nat} {f N p : Nat} {cl : Bool} (hcl : tb (σ.1 69 p) 4 = cl) (hp : p ≤ 60) (hN : N ≤ 64) (h1 : 1 ≤ N) (hT0 : T 0 = 0) (kh : ns_St → Nat → Int32 → Int32 → Nat → Int32 → Option (Int32 × ns_St)) : ∀ (r k fu : Nat) (τ : ns_St), r < fu → k + r = 80 → Same σ τ → (∀ c, c < k → c < N → τ.1 80 c = nI (T c)) → (∀ d, d < 80 → τ.1 80 (100 + d) = nI (T d)) → ∃ τ', g_M_sure_214 kh fu τ 65 (nI f) (nI N) 80 (nI p) (nI (fb_sm (fun i => T (N + i)) (k - N))) (nI k) = kh τ' 65 (nI f) (nI N) 80 (nI (p + 1)) ∧ Same σ τ' ∧ ∀ c, c < N → τ'.1 80 c = nI (if c = 0 then (if cl = true then 0 else stp T N) else T c) := by
  intro r
  induction r with
  | zero =>
    intro k fu τ hfu hk s hc ht
    obtain ⟨fu, rfl⟩ : ∃ q, fu = q + 1 := ⟨fu - 1, by omega⟩
    have hk' : k = 80 := by omega
    subst hk'
    obtain ⟨g1, g2, hR⟩ := s.2.2.2 hI
    have i0 : ns_in (0 : Int32) (ns_ln 80) := ns_inI (j := 0) (show 0 < 8000 by omega) (by decide)
    have ix0 : ns_ix (0 : Int32) = 0 := by decide
    rw [g_M_sure_214, ite2_p (show (80 : Int32) ≤ nI 80 by decide), e_isThere hR hp, ev_cl2, s.mi (a := 69) (by omega), hcl]
    cases cl with
    | false =>
      refine ⟨ns_pI τ 80 0 (nI (T 0) + nI (stp T N)), ?_, s.trans (Same.pI scr80), fun c hcN => ?_⟩
      · rw [ite2_z (by decide), grd_t i0, grd_t i0, ix0, hc 0 (by omega) (by omega), ev_bnd, ev_bnd, ← nI_succ]
        rfl
      · by_cases e : c = 0
        · subst e; rw [pI_at, if_pos rfl, if_neg (by decide), hT0, nI_add, Nat.zero_add]
        · rw [pI_st _ _ _ e, if_neg e]; exact hc c (by omega) hcN
    | true =>
      refine ⟨τ, ?_, s, fun c hcN => ?_⟩
      · rw [ite2_y (Eq.refl true), ev_bnd, ← nI_succ]
      · by_cases e : c = 0
        · subst e; rw [if_pos rfl, if_pos rfl, hc 0 (by omega) hcN, hT0]
        · rw [if_neg e]; exact hc c (by omega) hcN
  | succ r ih =>
    intro k fu τ hfu hk s hc ht
    obtain ⟨fu, rfl⟩ : ∃ q, fu = q + 1 := ⟨fu - 1, by omega⟩
    have i1 : ns_in (nI (100 + k)) (ns_ln 80) := ns_inI (show 100 + k < 8000 by omega) (by decide)
    have i2 : ns_in (nI k) (ns_ln 80) := ns_inI (show k < 8000 by omega) (by decide)
    rw [g_M_sure_214, ite2_n (show ¬ (80 : Int32) ≤ nI k from nI_ge (b := 80) (by omega) (by decide)), i100]
    by_cases q : N ≤ k
    · rw [ite2_p (nI_le q (by omega)), grd_t i1, ns_ixI (by omega), ht k (by omega), ev_bnd, ev_bnd, nI_add, ← nI_succ]
      have e : fb_sm (fun i => T (N + i)) (k - N) + T k = fb_sm (fun i => T (N + i)) (k + 1 - N) := by
        rw [show k + 1 - N = (k - N) + 1 by omega, fb_sm_succ, show N + (k - N) = k by omega]
      rw [e]
      exact ih (k + 1) fu τ (by omega) (by omega) s (fun c h2 h3 => hc c (by omega) h3) ht
    · rw [ite2_n (nI_ge (by omega) (by omega)), grd_t i1, grd_t i2, ns_ixI (by omega), ns_ixI (by omega), ht k (by omega), ev_bnd, ev_bnd, ← nI_succ]
      rw [show k - N = k + 1 - N by omega]
      refine ih (k + 1) fu (ns_pI τ 80 k (nI (T k))) (by omega) (by omega) (s.trans (Same.pI scr80)) (fun c h2 h3 => ?_) (fun d hd => by rw [pI_st _ _ _ (by omega)]; exact ht d hd)
      by_cases e : c = k
      · subst e; exact pI_at _ _ _ _
      · rw [pI_st _ _ _ e]; exact hc c (by omega) h3
theorem e_s142 {σ : ns_St} {Q : Nat → Nat} {f m N p : Nat} (hf : f ≤ 1000) (hm2 : m ≤ 2) (hN : N ≤ 64) (hQ : fb_sm Q N ≤ 1000000) (kh : ns_St → Nat → Int32 → Int32 → Nat → Int32 → Option (Int32 × ns_St)) : ∀ (r k fu : Nat) (τ : ns_St), r < fu → k + r = N → Same σ τ → (∀ c, c < N → τ.1 80 c = nI (Q c)) → (∀ d, d < 80 → τ.1 80 (100 + d) = nI (tp Q f m k d)) → ∃ τ', g_M_sure_142 kh fu τ 65 (nI f) (nI N) 80 (nI p) (nI m) (nI k) = g_M_sure_214 kh ns_F τ' 65 (nI f) (nI N) 80 (nI p) 0 0 ∧ Same σ τ' ∧ (∀ c, c < N → τ'.1 80 c = nI (Q c)) ∧ ∀ d, d < 80 → τ'.1 80 (100 + d) = nI (tp Q f m N d) := by
  intro r
  induction r with
  | zero =>
    intro k fu τ hfu hk s h1 h2
    obtain ⟨fu, rfl⟩ : ∃ q, fu = q + 1 := ⟨fu - 1, by omega⟩
    have hk' : k = N := by omega
    subst hk'
    refine ⟨τ, ?_, s, h1, h2⟩
    rw [g_M_sure_142, ite2_p (nI_le (by omega) (by omega))]
  | succ r ih =>
    intro k fu τ hfu hk s h1 h2
    obtain ⟨fu, rfl⟩ : ∃ q, fu = q + 1 := ⟨fu - 1, by omega⟩
    have hQk : Q k ≤ 1000000 := by have := sm_part (P := Q) (c := k) (n := N) (by omega); omega
    have hs := slv_le (Q k) hf
    have i2 : ns_in (nI k) (ns_ln 80) := ns_inI (show k < 8000 by omega) (by decide)
    have i5 : ns_in (nI (100 + k + m)) (ns_ln 80) := ns_inI (show 100 + k + m < 8000 by omega) (by decide)
    have i6 : ns_in (nI (101 + k + m)) (ns_ln 80) := ns_inI (show 101 + k + m < 8000 by omega) (by decide)
    have a1 : τ.1 80 (100 + k + m) = nI (tp Q f m k (k + m)) := by have := h2 (k + m) (by omega); rw [← Nat.add_assoc] at this; exact this
    have b1 := bump_arr (τ := τ) (c := 80) (o := 100) (n := 80) (g := tp Q f m k) h2 (i := k + m) (by omega) (Q k - slv f (Q k)) (w := nI (tp Q f m k (k + m)) + (nI (Q k) - nI (slv f (Q k)))) (by rw [pk_sub hs])
    rw [← Nat.add_assoc] at b1
    generalize hT : ns_pI τ 80 (100 + k + m) (nI (tp Q f m k (k + m)) + (nI (Q k) - nI (slv f (Q k)))) = T at b1
    have Ts : Same σ T := by rw [← hT]; exact s.trans (Same.pI scr80)
    have Tc : ∀ c, c < N → T.1 80 c = nI (Q c) := fun c hc => by rw [← hT, pI_st _ _ _ (by omega)]; exact h1 c hc
    have a2 : T.1 80 (101 + k + m) = nI (bump (tp Q f m k) (k + m) (Q k - slv f (Q k)) (k + m + 1)) := by have := b1 (k + m + 1) (by omega); rw [show 100 + (k + m + 1) = 101 + k + m by omega] at this; exact this
    have b2 := bump_arr (τ := T) (c := 80) (o := 100) (n := 80) b1 (i := k + m + 1) (by omega) (slv f (Q k)) (w := nI (bump (tp Q f m k) (k + m) (Q k - slv f (Q k)) (k + m + 1)) + nI (slv f (Q k))) rfl
    rw [show 100 + (k + m + 1) = 101 + k + m by omega] at b2
    rw [g_M_sure_142, ite2_n (nI_ge (by omega) (by omega)), grd_t i2, ns_ixI (by omega), h1 k (by omega), slv_m hf hQk, ev_bnd, i100, nI_add, ev_bnd, grd_t i5, grd_t i2, grd_t i5, ns_ixI (by omega), a1, ev_bnd, hT, i101, nI_add, ev_bnd, grd_t i6, grd_t i6, ns_ixI (by omega), a2, ev_bnd, ev_bnd, ← nI_succ]
    exact ih (k + 1) fu _ (by omega) (by omega) (Ts.trans (Same.pI scr80)) (fun c hc => by rw [pI_st _ _ _ (by omega)]; exact Tc c hc) b2
theorem e_s117 {σ : ns_St} {Q : Nat → Nat} {f m N p : Nat} (hf : f ≤ 1000) (hm2 : m ≤ 2) (hN : N ≤ 64) (hQ : fb_sm Q N ≤ 1000000) (kh : ns_St → Nat → Int32 → Int32 → Nat → Int32 → Option (Int32 × ns_St)) : ∀ (r k fu : Nat) (τ : ns_St), r < fu → k + r = 80 → Same σ τ → (∀ c, c < N → τ.1 80 c = nI (Q c)) → (∀ d, d < k → τ.1 80 (100 + d) = 0) → ∃ τ', g_M_sure_117 kh fu τ 65 (nI f) (nI N) 80 (nI p) (nI m) (nI k) = g_M_sure_214 kh ns_F τ' 65 (nI f) (nI N) 80 (nI p) 0 0 ∧ Same σ τ' ∧ (∀ c, c < N → τ'.1 80 c = nI (Q c)) ∧ ∀ d, d < 80 → τ'.1 80 (100 + d) = nI (tp Q f m N d) := by
  intro r
  induction r with
  | zero =>
    intro k fu τ hfu hk s h1 h2
    obtain ⟨fu, rfl⟩ : ∃ q, fu = q + 1 := ⟨fu - 1, by omega⟩
    rw [g_M_sure_117, ite2_p (show (80 : Int32) ≤ nI k from nI_le (a := 80) (by omega) (by omega))]
    exact e_s142 hf hm2 hN hQ kh N 0 ns_F τ (by show N < 10000; omega) (by omega) s h1 (fun d hd => h2 d (by omega))
  | succ r ih =>
    intro k fu τ hfu hk s h1 h2
    obtain ⟨fu, rfl⟩ : ∃ q, fu = q + 1 := ⟨fu - 1, by omega⟩
    have i1 : ns_in (nI (100 + k)) (ns_ln 80) := ns_inI (show 100 + k < 8000 by omega) (by decide)
    rw [g_M_sure_117, ite2_n (show ¬ (80 : Int32) ≤ nI k from nI_ge (b := 80) (by omega) (by decide)), i100, grd_t i1, ns_ixI (by omega), ev_bnd, ev_bnd, ← nI_succ]
    refine ih (k + 1) fu (ns_pI τ 80 (100 + k) 0) (by omega) (by omega) (s.trans (Same.pI scr80)) (fun c hc => by rw [pI_st _ _ _ (by omega)]; exact h1 c hc) (fun d hd => ?_)
    by_cases e : d = k
    · subst e; exact pI_at _ _ _ _
    · rw [pI_st _ _ _ (by omega)]; exact h2 d (by omega)
def uQ (th : Nat → Int32) (f N : Nat) : Nat → Nat → (Nat → Nat) → Nat → Nat
  | 0, _, Q => Q
  | r + 1, p, Q => uQ th f N r (p + 1) (nQ Q f (frt th (p + 1)) N (tb (th (p + 1)) 4))
theorem frt_b (th : Nat → Int32) (p : Nat) : 1 ≤ frt th p ∧ frt th p ≤ 2 := by unfold frt; split <;> omega
theorem u_rel {th : Nat → Int32} {f N : Nat} (hf : f ≤ 1000) (hN : N ≤ 64) (h1 : 1 ≤ N) : ∀ r p P Q, Rel P Q N → Rel (uP th f N r p P) (uQ th f N r p Q) N
  | 0, _, _, _, h => h
  | r + 1, p, P, Q, h => u_rel hf hN h1 r (p + 1) _ _ (rel_next hf hN h1 (frt_b th (p + 1)).1 (frt_b th (p + 1)).2 h)
theorem e_s88 {B : Nat} {σ : ns_St} {E H f N : Nat} (hW : PW B σ E H) (hf : f ≤ 1000) (hN : N ≤ 64) (h1 : 1 ≤ N) : ∀ (r p fu : Nat) (τ : ns_St) (P Q : Nat → Nat), r < fu → p + r = E → Same σ τ → (∀ c, c < N → τ.1 80 c = nI (Q c)) → Rel P Q N → fb_sm P 65 ≤ 1000000 → ∃ τ', g_M_sure_88 fu τ 65 (nI f) (nI N) 80 (nI (p + 1)) = some (nI (fb_sm (uQ (σ.1 69) f N r p Q) N), τ') ∧ Same σ τ' := by
  have h60 := hW.h60
  intro r
  induction r with
  | zero =>
    intro p fu τ P Q hfu hp s hQ hrel hP
    obtain ⟨fu, rfl⟩ : ∃ q, fu = q + 1 := ⟨fu - 1, by omega⟩
    refine ⟨τ, ?_, s⟩
    rw [g_M_sure_88, (hW.same s).2.1, ite2_p (nI_lt (by omega) (by omega))]
    exact e_s293 hN hQ N 0 ns_F (by show N < 10000; omega) (by omega)
  | succ r ih =>
    intro p fu τ P Q hfu hp s hQ hrel hP
    obtain ⟨fu, rfl⟩ : ∃ q, fu = q + 1 := ⟨fu - 1, by omega⟩
    obtain ⟨g1, g2, hR⟩ := (hW.same s).1
    obtain ⟨m1, m2⟩ := frt_b (σ.1 69) (p + 1)
    have hsQ : fb_sm Q N ≤ 1000000 := by rw [← rel_sum hN h1 hrel]; exact hP
    have key : ∀ x : Int32, x = nI (frt (σ.1 69) (p + 1)) → ∃ τ', g_M_sure_112 (g_M_sure_88 fu) τ x 65 (nI f) (nI N) 80 (nI (p + 1)) = some (nI (fb_sm (uQ (σ.1 69) f N r (p + 1) (nQ Q f (frt (σ.1 69) (p + 1)) N (tb (σ.1 69 (p + 1)) 4))) N), τ') ∧ Same σ τ' := by
      intro x hx
      subst hx
      obtain ⟨τ1, e1, s1, c1, t1⟩ := e_s117 (σ := σ) (p := p + 1) hf m2 hN hsQ (g_M_sure_88 fu) 80 0 ns_F τ (by show 80 < 10000; omega) (by omega) s hQ (fun d hd => absurd hd (by omega))
      have ag := rel_step hf hN h1 m1 m2 hrel
      obtain ⟨τ2, e2, s2, c2⟩ := e_s214 hW.1 (f := f) (p := p + 1) (cl := tb (σ.1 69 (p + 1)) 4) rfl (by omega) hN h1 ag.2.1 (g_M_sure_88 fu) 80 0 ns_F τ1 (by show 80 < 10000; omega) (by omega) s1 (fun c hc => absurd hc (by omega)) t1
      rw [show 0 - N = 0 by omega] at e2
      have e2' : g_M_sure_214 (g_M_sure_88 fu) ns_F τ1 65 (nI f) (nI N) 80 (nI (p + 1)) 0 0 = _ := e2
      obtain ⟨τ3, e3, s3⟩ := ih (p + 1) fu τ2 (nP P f (frt (σ.1 69) (p + 1)) N (tb (σ.1 69 (p + 1)) 4)) (nQ Q f (frt (σ.1 69) (p + 1)) N (tb (σ.1 69 (p + 1)) 4)) (by omega) (by omega) s2 (fun c hc => c2 c hc) (rel_next hf hN h1 m1 m2 hrel) (by have := nP_sum (P := P) (m := frt (σ.1 69) (p + 1)) (N := N) (cl := tb (σ.1 69 (p + 1)) 4) hf; omega)
      refine ⟨τ3, ?_, s3⟩
      unfold g_M_sure_112
      have e1' : g_M_sure_117 (g_M_sure_88 fu) ns_F τ 65 (nI f) (nI N) 80 (nI (p + 1)) (nI (frt (σ.1 69) (p + 1))) (0 : Int32) = _ := e1
      rw [e1', e2']
      exact e3
    have it := e_isThere hR (p := p + 1) (by omega) (1 : Int32)
    rw [s.mi (a := 69) (by omega)] at it
    rw [g_M_sure_88, (hW.same s).2.1, ite2_n (nI_nlt (by omega) (by omega)), it, ev_cl2, uQ]
    cases hst : tb (σ.1 69 (p + 1)) 1 with
    | false =>
      rw [ite2_z (by decide)]
      exact key _ (by unfold frt; rw [hst]; rfl)
    | true =>
      rw [ite2_y (Eq.refl true)]
      exact key _ (by unfold frt; rw [hst]; rfl)
theorem e_s42 {B : Nat} {σ : ns_St} {E H j f : Nat} (hW : PW B σ E H) (hj : j < H) (hf : f ≤ 1000) (P : Nat → Nat) (hrel : Rel P (fun c => if c = min (gm σ 73 j) (gm σ 71 j - 1) then 1000000 else 0) (gm σ 71 j)) (hP : fb_sm P 65 ≤ 1000000) : ∀ (r k fu : Nat) (τ : ns_St), r < fu → k + r = 80 → Same σ τ → (∀ c, c < k → τ.1 80 c = 0) → ∃ τ', g_M_sure_42 fu τ 65 (nI j) (nI f) (nI (gm σ 71 j)) 80 (nI k) = some (nI (fb_sm (uQ (σ.1 69) f (gm σ 71 j) (E - gm σ 72 j) (gm σ 72 j) (fun c => if c = min (gm σ 73 j) (gm σ 71 j - 1) then 1000000 else 0)) (gm σ 71 j)), τ') ∧ Same σ τ' := by
  have h60 := hW.h60
  have hj6 : j < 6 := by have := hW.2.2.2.1; omega
  have m0 := hW.m hj
  have hN := m0.1.2.2.1
  have hN2 := m0.1.2.1
  have hAE := m0.1.2.2.2.1
  have hCB := m0.1.2.2.2.2.1
  have hBb := hW.2.2.2.2.2.2.1
  intro r
  induction r with
  | zero =>
    intro k fu τ hfu hk s h1
    obtain ⟨fu, rfl⟩ : ∃ q, fu = q + 1 := ⟨fu - 1, by omega⟩
    obtain ⟨g1, g2, hR⟩ := (hW.same s).1
    have m := m0.same s hj6
    have i9 : ns_in (nI j) (ns_ln 73) := ns_inI (show j < 6 by omega) (by decide)
    have i8 : ns_in (nI j) (ns_ln 72) := ns_inI (show j < 6 by omega) (by decide)
    have i4 : ns_in (nI (min (gm σ 73 j) (gm σ 71 j - 1))) (ns_ln 80) := ns_inI (show min (gm σ 73 j) (gm σ 71 j - 1) < 8000 by omega) (by decide)
    have epred : nI (gm σ 71 j) - 1 = nI (gm σ 71 j - 1) := by
      obtain ⟨n, hn⟩ : ∃ n, gm σ 71 j = n + 1 := ⟨gm σ 71 j - 1, by omega⟩
      rw [hn, nI_pred]; rfl
    obtain ⟨τ', e, s'⟩ := e_s88 hW hf hN (by omega) (E - gm σ 72 j) (gm σ 72 j) ns_F (ns_pI τ 80 (min (gm σ 73 j) (gm σ 71 j - 1)) (1000000 : Int32)) P (fun c => if c = min (gm σ 73 j) (gm σ 71 j - 1) then 1000000 else 0) (by show E - _ < 10000; omega) (by omega) (s.trans (Same.pI scr80)) (fun c hc => by
      by_cases e : c = min (gm σ 73 j) (gm σ 71 j - 1)
      · subst e; rw [pI_at, if_pos rfl]; rfl
      · rw [pI_st _ _ _ e, if_neg e]; exact h1 c (by omega)) hrel hP
    refine ⟨τ', ?_, s'⟩
    rw [g_M_sure_42, ite2_p (show (80 : Int32) ≤ nI k from nI_le (a := 80) (by omega) (by omega)), hR, rg_65_9, ev_drf, gk_73, grd_t i9, ns_ixI (by omega), m.2.2.2.2.2.1, epred, e_minNN (by omega) (by omega), ev_cl2, grd_t i4, ns_ixI (by omega), ev_bnd, pI_R, hR, rg_65_8, ev_drf, gk_72, grd_t i8, pI_ne _ _ _ (by decide), m.2.2.2.2.1, ev_bnd, ← nI_succ]
    exact e
  | succ r ih =>
    intro k fu τ hfu hk s h1
    obtain ⟨fu, rfl⟩ : ∃ q, fu = q + 1 := ⟨fu - 1, by omega⟩
    have i4 : ns_in (nI k) (ns_ln 80) := ns_inI (show k < 8000 by omega) (by decide)
    rw [g_M_sure_42, ite2_n (show ¬ (80 : Int32) ≤ nI k from nI_ge (b := 80) (by omega) (by decide)), grd_t i4, ns_ixI (by omega), ev_bnd, ev_bnd, ← nI_succ]
    refine ih (k + 1) fu (ns_pI τ 80 k 0) (by omega) (by omega) (s.trans (Same.pI scr80)) (fun c hc => ?_)
    by_cases e : c = k
    · subst e; exact pI_at _ _ _ _
    · rw [pI_st _ _ _ e]; exact h1 c (by omega)
theorem k_sure {B : Nat} {σ : ns_St} (h : Inv B σ) (hB : B < 2 ^ 26) (x y : Int32) : both B (g_N_sure σ 0 x y) (fun σ => g_M_sure σ 65 x y) := by
  obtain ⟨g1, g2, hR⟩ := h.1
  obtain ⟨E, H, hW⟩ := PW.of h hB
  have a2 := hW.2.2.1
  have a3 := hW.2.2.2.1
  have a5 := hW.2.2.2.2.2.1
  have h60 := hW.h60
  have e5 : (rfN σ 0).1 65 5 = nI H := by rw [rfN, pI_ne _ _ _ (by decide)]; exact a2
  rcases mu_cases x a3 with ⟨j, hj, rfl, hx⟩ | ⟨hx, hx2⟩
  · have hj6 : j < 6 := by omega
    have hk := kd_m4 j hj6
    rcases rn_cases y (n := 1000) (by omega) with ⟨f, hf, rfl, hy⟩ | hy
    · have hy' : (0 : Int32) ≤ nI f ∧ nI f ≤ (1000 : Int32) := hy
      have m := hW.m hj
      have hN := m.1.2.2.1
      have hN2 := m.1.2.1
      have rel0 : Rel (fun c => if c = min (gm σ 73 j) 64 then 1000000 else 0) (fun c => if c = min (gm σ 73 j) (gm σ 71 j - 1) then 1000000 else 0) (gm σ 71 j) := by
        by_cases q : gm σ 73 j < gm σ 71 j
        · refine Or.inl ⟨fun c hc => ?_, fun c h1 h2 => ?_⟩
          · rw [show min (gm σ 73 j) 64 = gm σ 73 j by omega, show min (gm σ 73 j) (gm σ 71 j - 1) = gm σ 73 j by omega]
          · exact if_neg (by omega)
        · refine Or.inr ⟨min (gm σ 73 j) 64, by omega, by omega, fun _ => rfl, fun c => ?_⟩
          show (if c = min (gm σ 73 j) (gm σ 71 j - 1) then 1000000 else 0) = _
          rw [show min (gm σ 73 j) (gm σ 71 j - 1) = gm σ 71 j - 1 by omega]
      have sum0 : fb_sm (fun c => if c = min (gm σ 73 j) 64 then 1000000 else 0) 65 ≤ 1000000 := by
        have u := fb_sm_upd (fun _ => 0) 1000000 (i := min (gm σ 73 j) 64) (n := 65) (by omega)
        rw [fb_sm_const] at u
        omega
      obtain ⟨τ1, e1, s1⟩ := e_un3 hW hj hf 65 0 ns_F σ (by show 65 < 10000; omega) (by omega) (Same.rfl σ) (fun c hc => absurd hc (by omega))
      have hW1 := hW.same s1
      obtain ⟨g3, g4, hR1⟩ := hW1.1
      obtain ⟨τ2, e2, s2⟩ := e_s42 hW hj hf _ rel0 sum0 80 0 ns_F τ1 (by show 80 < 10000; omega) (by omega) s1 (fun c hc => absurd hc (by omega))
      rw [← rel_sum hN (by omega) (u_rel hf hN (by omega) (E - gm σ 72 j) (gm σ 72 j) _ _ rel0)] at e2
      have i7 : ns_in (nI j) (ns_ln 71) := ns_inI (show j < 6 by omega) (by decide)
      refine ⟨_, τ1, τ2, ?_, Eq.trans ?_ e2, h.same s2⟩
      · unfold g_N_sure
        rw [gk_0, hR, rg_0_0, ev_drf, gk_1, e_muleAt hR a3 a5 hj, ev_cl2, ev_ons, grd_t hk, e_isWithin, ev_cl2, ite2_y hy', hR, rg_0_7, ev_drf, gk_43, rg_0_0, ev_drf, gk_1, rg_1_0, ev_drf, gk_2]
        unfold g_Chance_unfallen
        rw [gk_43, grd_t hk, gk_2]
        have e1' : g_Chance_unfallen_3 ns_F σ 43 (4 + j) 2 (nI f) (0 : Int32) = _ := e1
        rw [e1', ev_cl2]
      · show g_M_sure τ1 65 (nI j) (nI f) = _
        have p1 : τ1.1 71 j = nI (gm σ 71 j) := by rw [s1.mi (by omega)]; exact m.2.2.2.1
        unfold g_M_sure
        rw [gk_65, e_isMule, ev_cl2, hW1.2.2.1, ite2_y hx, e_within, ev_cl2, ite2_y hy', hR1, rg_65_7, ev_drf, gk_71, grd_t i7, ns_ixI (by omega), p1, ev_bnd, rg_65_29, ev_drf, gk_80]
        rfl
    · have hy' : ¬ ((0 : Int32) ≤ y ∧ y ≤ (1000 : Int32)) := hy
      refine both.bad h hR (z := 0) (by decide) (c := -2) (by decide) (by decide) ?_ ?_
      · unfold g_N_sure
        rw [gk_0, hR, rg_0_0, ev_drf, gk_1, e_muleAt hR a3 a5 hj, ev_cl2, ev_ons, grd_t hk, e_isWithin, ev_cl2, ite2_z hy']
      · show g_M_sure (rfN σ 0) 65 (nI j) y = _
        unfold g_M_sure
        rw [gk_65, e_isMule, ev_cl2, e5, ite2_y hx, e_within, ev_cl2, ite2_z hy']
  · refine both.bad h hR (z := 0) (by decide) (c := -2) (by decide) (by decide) ?_ ?_
    · unfold g_N_sure
      rw [gk_0, hR, rg_0_0, ev_drf, gk_1, e_muleAtN a5 hx2, ev_cl2, ev_onn]
    · show g_M_sure (rfN σ 0) 65 x y = _
      unfold g_M_sure
      rw [gk_65, e_isMule, ev_cl2, e5, ite2_z hx]
