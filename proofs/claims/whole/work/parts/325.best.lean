/-! by how many: the most first, of several the first -/
def vs (V : Nat → Nat) (v p : Nat) : Nat := fb_ct (fun q => decide (v < V q ∨ (V q = v ∧ q < p))) 61
def rk (V : Nat → Nat) (p : Nat) : Nat := vs V (V p) p
def tot (V : Nat → Nat) : Nat := fb_ct (fun q => decide (0 < V q)) 61
theorem ct_add1 {f g : Nat → Bool} {p n : Nat} (hp : p < n) (h : ∀ q, q < n → q ≠ p → g q = f q) (h1 : f p = false) (h2 : g p = true) : fb_ct g n = fb_ct f n + 1 := by
  have e : fb_ct g n = fb_ct (fun q => if q = p then true else f q) n := fb_ct_cong (fun q hq => by
    by_cases e : q = p
    · subst e; rw [if_pos rfl]; exact h2
    · rw [if_neg e]; exact h q hq e)
  have u := fb_ct_upd f true hp
  rw [h1] at u
  rw [e]
  simpa using u
theorem vs_step {V : Nat → Nat} {v p : Nat} (hp : p < 61) (h : V p = v) : vs V v (p + 1) = vs V v p + 1 := by
  refine ct_add1 hp (fun q _ hq => ?_) ?_ ?_
  · apply decide_eq_decide.mpr; omega
  · apply decide_eq_false; omega
  · apply decide_eq_true; omega
theorem vs_stay {V : Nat → Nat} {v p : Nat} (h : V p ≠ v) : vs V v (p + 1) = vs V v p := by
  refine fb_ct_cong (fun q _ => ?_)
  apply decide_eq_decide.mpr
  constructor
  · rintro (q1 | ⟨q1, q2⟩)
    · exact Or.inl q1
    · refine Or.inr ⟨q1, ?_⟩
      rcases Nat.lt_or_ge q p with g | g
      · exact g
      · exfalso; have : q = p := by omega
        subst this; exact h q1
  · rintro (q1 | ⟨q1, q2⟩)
    · exact Or.inl q1
    · exact Or.inr ⟨q1, by omega⟩
theorem vs_down {V : Nat → Nat} {v E : Nat} (h0 : V 0 = 0) (hE : ∀ p, E < p → V p = 0) (hv : 0 < v) : vs V v 1 = vs V (v + 1) (E + 1) := by
  refine fb_ct_cong (fun q _ => ?_)
  apply decide_eq_decide.mpr
  have a := hE q
  by_cases e : q = 0
  · subst e; omega
  · omega
theorem vs_end {V : Nat → Nat} {E : Nat} (hE : ∀ p, E < p → V p = 0) : vs V 1 (E + 1) = tot V := by
  refine fb_ct_cong (fun q _ => ?_)
  apply decide_eq_decide.mpr
  have a := hE q
  omega
theorem vs_top {V : Nat → Nat} {H : Nat} (h0 : V 0 = 0) (hH : ∀ p, V p ≤ H) (h : 0 < H) : vs V H 1 = 0 := by
  refine fb_ct_zero.mpr (fun q _ => ?_)
  apply decide_eq_false
  have a := hH q
  by_cases e : q = 0
  · subst e; omega
  · omega
theorem rk_tot {V : Nat → Nat} {p : Nat} (hp : p < 61) (h : 0 < V p) : rk V p < tot V := by
  have e : fb_ct (fun q => if q = p then true else decide (V p < V q ∨ (V q = V p ∧ q < p))) 61 = rk V p + 1 := by
    refine ct_add1 (f := fun q => decide (V p < V q ∨ (V q = V p ∧ q < p))) hp (fun q _ hq => if_neg hq) ?_ (if_pos rfl)
    apply decide_eq_false; omega
  have l : fb_ct (fun q => if q = p then true else decide (V p < V q ∨ (V q = V p ∧ q < p))) 61 ≤ tot V := by
    refine fb_ct_sub (fun q _ hq => ?_)
    apply decide_eq_true
    by_cases e : q = p
    · subst e; exact h
    · have hq' : (if q = p then true else decide (V p < V q ∨ (V q = V p ∧ q < p))) = true := hq
      rw [if_neg e] at hq'
      have := of_decide_eq_true hq'
      omega
  omega
theorem rk_lt {V : Nat → Nat} {p p' : Nat} (hp : p < 61) (h : V p' < V p ∨ (V p = V p' ∧ p < p')) : rk V p < rk V p' := by
  have e : fb_ct (fun q => if q = p then true else decide (V p < V q ∨ (V q = V p ∧ q < p))) 61 = rk V p + 1 := by
    refine ct_add1 (f := fun q => decide (V p < V q ∨ (V q = V p ∧ q < p))) hp (fun q _ hq => if_neg hq) ?_ (if_pos rfl)
    apply decide_eq_false; omega
  have l : fb_ct (fun q => if q = p then true else decide (V p < V q ∨ (V q = V p ∧ q < p))) 61 ≤ rk V p' := by
    refine fb_ct_sub (fun q _ hq => ?_)
    apply decide_eq_true
    by_cases e : q = p
    · subst e; exact h
    · have hq' : (if q = p then true else decide (V p < V q ∨ (V q = V p ∧ q < p))) = true := hq
      rw [if_neg e] at hq'
      have := of_decide_eq_true hq'
      omega
  omega
theorem rk_inj {V : Nat → Nat} {p p' : Nat} (hp : p < 61) (hp' : p' < 61) (h : rk V p = rk V p') : p = p' := by
  rcases Nat.lt_trichotomy (V p) (V p') with q | q | q
  · have := rk_lt (V := V) (p := p') (p' := p) hp' (Or.inl q); omega
  · rcases Nat.lt_trichotomy p p' with u | u | u
    · have := rk_lt (V := V) (p := p) (p' := p') hp (Or.inr ⟨q, u⟩); omega
    · exact u
    · have := rk_lt (V := V) (p := p') (p' := p) hp' (Or.inr ⟨q.symm, u⟩); omega
  · have := rk_lt (V := V) (p := p) (p' := p') hp (Or.inl q); omega
/-- those taken already -/
def Rs (V : Nat → Nat) (R : Nat → Bool) (k : Nat) : Prop := fb_ct R 61 = k ∧ (∀ p, R p = true → p < 61 ∧ 0 < V p) ∧ ∀ p q, R p = true → q < 61 → 0 < V q → (V p < V q ∨ (V q = V p ∧ q < p)) → R q = true
def wo (V : Nat → Nat) (R : Nat → Bool) (p : Nat) : Nat := if R p = true then 0 else V p
theorem Rs.next {V : Nat → Nat} {R : Nat → Bool} {k p : Nat} (h : Rs V R k) (hp : p < 61) (h0 : 0 < wo V R p) (h1 : ∀ q, q < 61 → wo V R q ≤ wo V R p) (h2 : ∀ q, q < p → wo V R q < wo V R p) : 0 < V p ∧ rk V p = k ∧ Rs V (fun q => if q = p then true else R q) (k + 1) ∧ (∀ q, wo V (fun q => if q = p then true else R q) q = if q = p then 0 else wo V R q) := by
  obtain ⟨a1, a2, a3⟩ := h
  have hRp : R p = false := by
    cases hq : R p with
    | false => rfl
    | true => unfold wo at h0; rw [if_pos hq] at h0; omega
  have hWp : wo V R p = V p := by unfold wo; rw [hRp]; rfl
  have hW : ∀ q, R q = false → wo V R q = V q := fun q hq => by unfold wo; rw [hq]; rfl
  rw [hWp] at h0 h1 h2
  have iff : ∀ q, q < 61 → R q = decide (V p < V q ∨ (V q = V p ∧ q < p)) := by
    intro q hq
    cases hRq : R q with
    | false =>
      symm
      apply decide_eq_false
      have b1 := h1 q hq
      rw [hW q hRq] at b1
      rintro (c | ⟨c1, c2⟩)
      · omega
      · have b2 := h2 q c2
        rw [hW q hRq] at b2
        omega
    | true =>
      symm
      apply decide_eq_true
      rcases Nat.lt_trichotomy (V p) (V q) with c | c | c
      · exact Or.inl c
      · rcases Nat.lt_trichotomy q p with d | d | d
        · exact Or.inr ⟨c.symm, d⟩
        · subst d; rw [hRp] at hRq; cases hRq
        · have := a3 q p hRq hp h0 (Or.inr ⟨c, d⟩)
          rw [hRp] at this; cases this
      · have := a3 q p hRq hp h0 (Or.inl c)
        rw [hRp] at this; cases this
  refine ⟨h0, ?_, ⟨?_, ?_, ?_⟩, ?_⟩
  · rw [← a1]; exact (fb_ct_cong iff).symm
  · rw [ct_add1 (f := R) hp (fun q _ hq => if_neg hq) hRp (if_pos rfl), a1]
  · intro q hq
    by_cases e : q = p
    · subst e; exact ⟨hp, h0⟩
    · have hq' : (if q = p then true else R q) = true := hq
      rw [if_neg e] at hq'
      exact a2 q hq'
  · intro x q hx hq h0q hb
    show (if q = p then true else R q) = true
    by_cases e : q = p
    · rw [if_pos e]
    · rw [if_neg e]
      by_cases ex : x = p
      · subst ex; rw [iff q hq]; exact decide_eq_true hb
      · have hx' : (if x = p then true else R x) = true := hx
        rw [if_neg ex] at hx'
        exact a3 x q hx' hq h0q hb
  · intro q
    unfold wo
    by_cases e : q = p
    · rw [if_pos e, if_pos (show (if q = p then true else R q) = true by rw [if_pos e])]
    · rw [if_neg e]
      show (if (if q = p then true else R q) = true then 0 else V q) = _
      rw [if_neg e]
theorem Rs.none {V : Nat → Nat} {R : Nat → Bool} {k : Nat} (h : Rs V R k) (h0 : ∀ q, q < 61 → wo V R q = 0) : tot V ≤ k := by
  rw [← h.1]
  refine fb_ct_sub (fun q hq c => ?_)
  have c' := of_decide_eq_true c
  have := h0 q hq
  unfold wo at this
  cases hR : R q with
  | true => rfl
  | false => rw [hR, if_neg (by decide)] at this; omega
/-- the first greatest above 0 -/
def fm (W : Nat → Nat) : Nat → Nat
  | 0 => 0
  | k + 1 => if fm W k < W k then W k else fm W k
def fq (W : Nat → Nat) : Nat → Int32
  | 0 => -1
  | k + 1 => if fm W k < W k then nI k else fq W k
theorem fq_spec (W : Nat → Nat) : ∀ n, (fm W n = 0 ∧ fq W n = -1 ∧ ∀ p, p < n → W p = 0) ∨ ∃ q, q < n ∧ fq W n = nI q ∧ fm W n = W q ∧ 0 < W q ∧ (∀ p, p < n → W p ≤ W q) ∧ ∀ p, p < q → W p < W q
  | 0 => Or.inl ⟨rfl, rfl, fun p hp => absurd hp (by omega)⟩
  | n + 1 => by
    by_cases h : fm W n < W n
    · refine Or.inr ⟨n, by omega, ?_, ?_, by omega, ?_, ?_⟩
      · rw [fq, if_pos h]
      · rw [fm, if_pos h]
      · intro p hp
        rcases fq_spec W n with ⟨a, b, c⟩ | ⟨q, a, b, c, d, e, g⟩
        · by_cases e : p = n
          · subst e; omega
          · have := c p (by omega); omega
        · by_cases e1 : p = n
          · subst e1; omega
          · have := e p (by omega); omega
      · intro p hp
        rcases fq_spec W n with ⟨a, b, c⟩ | ⟨q, a, b, c, d, e, g⟩
        · have := c p (by omega); omega
        · have := e p (by omega); omega
    · rcases fq_spec W n with ⟨a, b, c⟩ | ⟨q, a, b, c, d, e, g⟩
      · refine Or.inl ⟨by rw [fm, if_neg h]; exact a, by rw [fq, if_neg h]; exact b, fun p hp => ?_⟩
        by_cases e : p = n
        · subst e; omega
        · exact c p (by omega)
      · refine Or.inr ⟨q, by omega, by rw [fq, if_neg h]; exact b, by rw [fm, if_neg h]; exact c, d, fun p hp => ?_, g⟩
        by_cases e1 : p = n
        · subst e1; omega
        · exact e p (by omega)
theorem fm_lt {W : Nat → Nat} (hW : ∀ p, W p < 100) : ∀ n, fm W n < 100
  | 0 => by show 0 < 100; omega
  | n + 1 => by
    rw [fm]
    split
    · exact hW n
    · exact fm_lt hW n
theorem e_full6 {τ : ns_St} {g1 g2 : Option Nat} (hR : τ.2.2 = ns_rg g1 g2) {W : Nat → Nat} (hW : ∀ p, W p < 100) (hc : ∀ p, p < 61 → τ.1 47 p = nI (W p)) : ∀ (r k f : Nat), r < f → k + r = 61 → g_N_fullestPlace_6 f τ 0 (fq W k) (nI (fm W k)) (nI k) = some (fq W 61, τ) := by
  intro r
  induction r with
  | zero =>
    intro k f hf hk
    obtain ⟨f, rfl⟩ : ∃ q, f = q + 1 := ⟨f - 1, by omega⟩
    rw [g_N_fullestPlace_6, ite2_p (show (61 : Int32) ≤ nI k from nI_le (a := 61) (by omega) (by omega)), show k = 61 by omega]
  | succ r ih =>
    intro k f hf hk
    obtain ⟨f, rfl⟩ : ∃ q, f = q + 1 := ⟨f - 1, by omega⟩
    have hin : ns_in (nI k) (ns_ln 47) := ns_inI (show k < 61 by omega) (by decide)
    have b1 := fm_lt hW k
    have b2 := hW k
    have e2 := ih (k + 1) f (by omega) (by omega)
    rw [fq, fm] at e2
    rw [g_N_fullestPlace_6, ite2_n (show ¬ (61 : Int32) ≤ nI k from nI_ge (b := 61) (by omega) (by decide)), hR, rg_0_9, ev_drf, gk_47, grd_t hin, ns_ixI (by omega), hc k (by omega)]
    by_cases q : fm W k < W k
    · rw [if_pos q, if_pos q] at e2
      rw [ite2_n (nI_ge q (by omega)), ev_drf, gk_47, grd_t hin, hc k (by omega), ev_bnd, ev_bnd, ← nI_succ]
      exact e2
    · rw [if_neg q, if_neg q] at e2
      rw [ite2_p (nI_le (by omega) (by omega)), ev_bnd, ← nI_succ]
      exact e2
theorem e_fullest {τ : ns_St} {g1 g2 : Option Nat} (hR : τ.2.2 = ns_rg g1 g2) {W : Nat → Nat} (hW : ∀ p, W p < 100) (hc : ∀ p, p < 61 → τ.1 47 p = nI (W p)) : g_N_fullestPlace τ 0 = some (fq W 61, τ) := by
  unfold g_N_fullestPlace
  rw [gk_0]
  exact e_full6 hR hW hc 61 0 ns_F (by show 61 < 10000; omega) (by omega)
theorem wo_lt {V : Nat → Nat} {R : Nat → Bool} (h : ∀ p, V p < 100) (p : Nat) : wo V R p < 100 := by
  unfold wo; split
  · omega
  · exact h p
theorem e_best25 {σ : ns_St} (hI : Irf σ) {V : Nat → Nat} (hV : ∀ p, V p < 100) {i : Nat} (hi : i ≤ 9) : ∀ (r k f : Nat) (τ : ns_St) (R : Nat → Bool) (x : Int32), r + 1 < f → k + r = i → Same σ τ → (∀ p, p < 61 → τ.1 47 p = nI (wo V R p)) → Rs V R k →
    (∃ p τ', p < 61 ∧ 0 < V p ∧ rk V p = i ∧ g_N_best_25 f τ 0 (nI i) x (nI k) = some (nI p, τ') ∧ Same σ τ') ∨ (tot V ≤ i ∧ ∃ τ', g_N_best_25 f τ 0 (nI i) x (nI k) = (cl2 (g_N_refuse τ' 0 (-5)) fun r σ' => some (r, σ')) ∧ Same σ τ') := by
  intro r
  induction r with
  | zero =>
    intro k f τ R x hf hk s hc hRs
    obtain ⟨f, rfl⟩ : ∃ q, f = q + 1 + 1 := ⟨f - 2, by omega⟩
    have hk' : k = i := by omega
    subst hk'
    obtain ⟨g1, g2, hR⟩ := s.2.2.2 hI
    have ef := e_fullest hR (wo_lt hV) hc
    rw [g_N_best_25, ite2_n (nI_nlt (by omega) (by omega)), ef, ev_cl2]
    rcases fq_spec (wo V R) 61 with ⟨a, b, c⟩ | ⟨p, a, b, c, d, e, g⟩
    · refine Or.inr ⟨hRs.none c, τ, ?_, s⟩
      rw [b, ite2_p rfl]
    · obtain ⟨n1, n2, n3, n4⟩ := hRs.next a d e g
      have hin : ns_in (nI p) (ns_ln 47) := ns_inI (show p < 61 by omega) (by decide)
      refine Or.inl ⟨p, ns_pI τ 47 p 0, a, n1, n2, ?_, s.trans (Same.pI scr47)⟩
      rw [b, ite2_n (nI_nm1 (by omega)), hR, rg_0_9, ev_drf, gk_47, grd_t hin, ns_ixI (by omega), ev_bnd, ev_bnd, ← nI_succ, g_N_best_25, ite2_p (nI_lt (by omega) (by omega))]
  | succ r ih =>
    intro k f τ R x hf hk s hc hRs
    obtain ⟨f, rfl⟩ : ∃ q, f = q + 1 := ⟨f - 1, by omega⟩
    obtain ⟨g1, g2, hR⟩ := s.2.2.2 hI
    have ef := e_fullest hR (wo_lt hV) hc
    rw [g_N_best_25, ite2_n (nI_nlt (by omega) (by omega)), ef, ev_cl2]
    rcases fq_spec (wo V R) 61 with ⟨a, b, c⟩ | ⟨p, a, b, c, d, e, g⟩
    · have := hRs.none c
      refine Or.inr ⟨by omega, τ, ?_, s⟩
      rw [b, ite2_p rfl]
    · obtain ⟨n1, n2, n3, n4⟩ := hRs.next a d e g
      have hin : ns_in (nI p) (ns_ln 47) := ns_inI (show p < 61 by omega) (by decide)
      rw [b, ite2_n (nI_nm1 (by omega)), hR, rg_0_9, ev_drf, gk_47, grd_t hin, ns_ixI (by omega), ev_bnd, ev_bnd, ← nI_succ]
      refine ih (k + 1) f (ns_pI τ 47 p 0) (fun q => if q = p then true else R q) (nI p) (by omega) (by omega) (s.trans (Same.pI scr47)) ?_ n3
      intro q hq
      rw [n4 q]
      by_cases e1 : q = p
      · subst e1; rw [pI_at, if_pos rfl]; rfl
      · rw [pI_st _ _ _ e1, if_neg e1]; exact hc q hq
theorem e_best31 {B : Nat} {σ : ns_St} {E H : Nat} (hW : PW B σ E H) {i v : Nat} (hi : i ≤ 9) (hv0 : 0 < v) (hv : v ≤ 6) (kh : ns_St → Nat → Int32 → Int32 → Option (Int32 × ns_St)) : ∀ (r p f : Nat) (τ : ns_St), r < f → p + r = E + 1 → 0 < p → Same σ τ → vs (Cw σ E H) v p ≤ i →
    (∃ p' τ', p' < 61 ∧ 0 < Cw σ E H p' ∧ rk (Cw σ E H) p' = i ∧ g_M_best_31 kh f τ 65 (nI (i - vs (Cw σ E H) v p)) (nI v) (nI p) = some (nI p', τ') ∧ Same σ τ') ∨ (∃ τ', vs (Cw σ E H) v (E + 1) ≤ i ∧ g_M_best_31 kh f τ 65 (nI (i - vs (Cw σ E H) v p)) (nI v) (nI p) = kh τ' 65 (nI (i - vs (Cw σ E H) v (E + 1))) (nI v + (-1)) ∧ Same σ τ') := by
  have h60 := hW.h60
  have hH := hW.2.2.2.1
  intro r
  induction r with
  | zero =>
    intro p f τ hf hp hp0 s hvs
    obtain ⟨f, rfl⟩ : ∃ q, f = q + 1 := ⟨f - 1, by omega⟩
    have hp' : p = E + 1 := by omega
    subst hp'
    refine Or.inr ⟨τ, hvs, ?_, s⟩
    rw [g_M_best_31, (hW.same s).2.1, ite2_p (nI_lt (by omega) (by omega)), ev_bnd]
  | succ r ih =>
    intro p f τ hf hp hp0 s hvs
    obtain ⟨f, rfl⟩ : ∃ q, f = q + 1 := ⟨f - 1, by omega⟩
    obtain ⟨τ1, e1, s1⟩ := e_crowdAt hW s (p := p) (by omega)
    have cl := Cw_le (σ := σ) (E := E) (H := H) (p := p)
    rw [g_M_best_31, (hW.same s).2.1, ite2_n (nI_nlt (by omega) (by omega)), e1, ev_cl2]
    by_cases hq : Cw σ E H p = v
    · have st := vs_step (V := Cw σ E H) (p := p) (by omega) hq
      rw [ite2_p (by rw [hq])]
      by_cases hz : i - vs (Cw σ E H) v p = 0
      · refine Or.inl ⟨p, τ1, by omega, by omega, ?_, ?_, s1⟩
        · show vs (Cw σ E H) (Cw σ E H p) p = i
          rw [hq]; omega
        · rw [ev_bnd, hz, ite2_p (show nI 0 = (0 : Int32) from rfl)]
      · have := ih (p + 1) f τ1 (by omega) (by omega) (by omega) s1 (by omega)
        rw [ev_bnd, ite2_n (nI_ne0 (by omega) (by omega)), ev_bnd, ← nI_succ, show i - vs (Cw σ E H) v p = (i - vs (Cw σ E H) v (p + 1)) + 1 by omega, pk_m1]
        exact this
    · have st := vs_stay (V := Cw σ E H) (p := p) hq
      have := ih (p + 1) f τ1 (by omega) (by omega) (by omega) s1 (by omega)
      rw [st] at this
      rw [ite2_n (fun e => hq ((nI_eq (by omega) (by omega)).mp e)), ev_bnd, ← nI_succ]
      exact this
theorem e_best24 {B : Nat} {σ : ns_St} {E H : Nat} (hW : PW B σ E H) {i : Nat} (hi : i ≤ 9) : ∀ (v f : Nat) (τ : ns_St), v < f → v < 6 → Same σ τ → vs (Cw σ E H) (v + 1) 1 ≤ i →
    (∃ p' τ', p' < 61 ∧ 0 < Cw σ E H p' ∧ rk (Cw σ E H) p' = i ∧ g_M_best_24 (f + 1) τ 65 (nI (i - vs (Cw σ E H) (v + 1) 1)) (nI (v + 1)) = some (nI p', τ') ∧ Same σ τ') ∨ (tot (Cw σ E H) ≤ i ∧ ∃ τ', g_M_best_24 (f + 1) τ 65 (nI (i - vs (Cw σ E H) (v + 1) 1)) (nI (v + 1)) = (cl2 (g_M_no τ' 65 (-5)) fun r σ' => some (r, σ')) ∧ Same σ τ') := by
  have h60 := hW.h60
  have hH := hW.2.2.2.1
  intro v
  induction v with
  | zero =>
    intro f τ hf hv s hvs
    rcases e_best31 hW hi (v := 0 + 1) (by omega) (by omega) (g_M_best_24 f) E 1 ns_F τ (by show E < 10000; omega) (by omega) (by omega) s hvs with ⟨p', τ', q1, q2, q3, q4, q5⟩ | ⟨τ', q1, q2, q3⟩
    · refine Or.inl ⟨p', τ', q1, q2, q3, ?_, q5⟩
      rw [g_M_best_24, ite2_n (nI_nle (by omega) (by omega))]
      exact q4
    · rw [vs_end (fun p hp => Cw_hi hp)] at q1
      refine Or.inr ⟨q1, τ', ?_, q3⟩
      rw [g_M_best_24, ite2_n (nI_nle (by omega) (by omega))]
      obtain ⟨f, rfl⟩ : ∃ q, f = q + 1 := ⟨f - 1, by omega⟩
      refine Eq.trans q2 ?_
      rw [pk_m1, g_M_best_24, ite2_p (by decide)]
  | succ v ih =>
    intro f τ hf hv s hvs
    rcases e_best31 hW hi (v := v + 1 + 1) (by omega) (by omega) (g_M_best_24 f) E 1 ns_F τ (by show E < 10000; omega) (by omega) (by omega) s hvs with ⟨p', τ', q1, q2, q3, q4, q5⟩ | ⟨τ', q1, q2, q3⟩
    · refine Or.inl ⟨p', τ', q1, q2, q3, ?_, q5⟩
      rw [g_M_best_24, ite2_n (nI_nle (by omega) (by omega))]
      exact q4
    · obtain ⟨f, rfl⟩ : ∃ q, f = q + 1 := ⟨f - 1, by omega⟩
      rw [← vs_down (v := v + 1) (E := E) Cw_0 (fun p hp => Cw_hi hp) (by omega)] at q1 q2
      have := ih f τ' (by omega) (by omega) q3 q1
      have q2' : g_M_best_31 (g_M_best_24 (f + 1)) ns_F τ 65 (nI (i - vs (Cw σ E H) (v + 1 + 1) 1)) (nI (v + 1 + 1)) (1 : Int32) = _ := q2
      rw [g_M_best_24, ite2_n (nI_nle (by omega) (by omega)), q2', pk_m1]
      exact this
theorem k_best {B : Nat} {σ : ns_St} (h : Inv B σ) (hB : B < 2 ^ 26) (x : Int32) : both B (g_N_best σ 0 x) (fun σ => g_M_best σ 65 x) := by
  obtain ⟨g1, g2, hR⟩ := h.1
  obtain ⟨E, H, hW⟩ := PW.of h hB
  have h60 := hW.h60
  have hH := hW.2.2.2.1
  rcases rn_cases x (n := 9) (by omega) with ⟨i, hi, rfl, hx⟩ | hx
  · have hx' : (0 : Int32) ≤ nI i ∧ nI i ≤ (9 : Int32) := hx
    obtain ⟨τ1, e1, s1, c1⟩ := e_countCrowds hW
    have hV : ∀ p, Cw σ E H p < 100 := fun p => by have := Cw_le (σ := σ) (E := E) (H := H) (p := p); omega
    have hN : g_N_best σ 0 (nI i) = g_N_best_25 ns_F τ1 0 (nI i) (-1) (nI 0) := by
      unfold g_N_best
      rw [gk_0, e_isWithin, ev_cl2, ite2_y hx', e1, ev_cl2]
      rfl
    have hMr : ∀ τ : ns_St, Same σ τ → (∃ p' τ', p' < 61 ∧ 0 < Cw σ E H p' ∧ rk (Cw σ E H) p' = i ∧ g_M_best τ 65 (nI i) = some (nI p', τ') ∧ Same σ τ') ∨ (tot (Cw σ E H) ≤ i) := by
      intro τ s
      have hM : g_M_best τ 65 (nI i) = g_M_best_24 ns_F τ 65 (nI i) (nI H) := by
        unfold g_M_best
        rw [gk_65, e_within, ev_cl2, ite2_y hx', ev_bnd, (hW.same s).2.2.1]
      by_cases h0 : H = 0
      · right
        have : tot (Cw σ E H) = 0 := fb_ct_zero.mpr (fun p _ => by
          apply decide_eq_false
          have := Cw_le (σ := σ) (E := E) (H := H) (p := p)
          omega)
        omega
      · have t0 := vs_top (V := Cw σ E H) (H := H) Cw_0 (fun p => Cw_le) (by omega)
        obtain ⟨v, hv⟩ : ∃ v, H = v + 1 := ⟨H - 1, by omega⟩
        rcases e_best24 hW hi v 9999 τ (by omega) (by omega) s (by rw [← hv, t0]; omega) with ⟨p', τ', q1, q2, q3, q4, q5⟩ | ⟨q1, τ', q2, q3⟩
        · left
          refine ⟨p', τ', q1, q2, q3, ?_, q5⟩
          rw [← hv, t0] at q4
          rw [hM]
          exact q4
        · exact Or.inr q1
    rcases e_best25 h.1 hV hi i 0 ns_F τ1 (fun _ => false) (-1) (by show i + 1 < 10000; omega) (by omega) s1 (fun p hp => c1 p hp) ⟨fb_ct_zero.mpr (fun _ _ => rfl), fun p hp => by simp at hp, fun p q hp => by simp at hp⟩ with ⟨p, τ2, q1, q2, q3, q4, q5⟩ | ⟨q1, τ2, q4, q5⟩
    · rcases hMr τ2 q5 with ⟨p', τ3, r1, r2, r3, r4, r5⟩ | r1
      · have : p = p' := rk_inj (V := Cw σ E H) q1 r1 (by omega)
        subst this
        exact ⟨nI p, τ2, τ3, by rw [hN]; exact q4, r4, h.same r5⟩
      · have := rk_tot q1 q2
        omega
    · -- nobody finds one
      have hWr : PW B (rfN τ2 3) E H := (hW.same q5).torfN
      have e69 : Cw (rfN τ2 3) E H = Cw σ E H := by
        funext p
        refine fb_ct_cong (fun j _ => ?_)
        unfold jq gm
        rw [rfN, pI_ne _ _ _ (by decide), pI_ne _ _ _ (by decide), pI_ne _ _ _ (by decide), pI_ne _ _ _ (by decide), pI_ne _ _ _ (by decide), q5.mi (by omega), q5.mi (by omega), q5.mi (by omega), q5.mi (by omega), q5.mi (by omega)]
      have hM : ∃ τ', g_M_best (rfN τ2 3) 65 (nI i) = (cl2 (g_M_no τ' 65 (-5)) fun r σ' => some (r, σ')) ∧ Same (rfN τ2 3) τ' := by
        have hM : g_M_best (rfN τ2 3) 65 (nI i) = g_M_best_24 ns_F (rfN τ2 3) 65 (nI i) (nI H) := by
          unfold g_M_best
          rw [gk_65, e_within, ev_cl2, ite2_y hx', ev_bnd, hWr.2.2.1]
        by_cases h0 : H = 0
        · refine ⟨rfN τ2 3, ?_, Same.rfl _⟩
          rw [hM, h0]
          show g_M_best_24 (9999 + 1) _ _ _ _ = _
          rw [g_M_best_24, ite2_p (by decide)]
        · have t0 := vs_top (V := Cw (rfN τ2 3) E H) (H := H) Cw_0 (fun p => Cw_le) (by omega)
          obtain ⟨v, hv⟩ : ∃ v, H = v + 1 := ⟨H - 1, by omega⟩
          rcases e_best24 hWr hi v 9999 (rfN τ2 3) (by omega) (by omega) (Same.rfl _) (by rw [← hv, t0]; omega) with ⟨p', τ', u1, u2, u3, u4, u5⟩ | ⟨u1, τ', u2, u3⟩
          · rw [e69] at u2 u3
            have := rk_tot u1 u2
            omega
          · refine ⟨τ', ?_, u3⟩
            rw [← hv, t0] at u2
            rw [hM]
            exact u2
      obtain ⟨τ3, e3, s3⟩ := hM
      exact both.late h q5 (z := 3) (by decide) (c := -5) (by decide) (by decide) (by rw [hN]; exact q4) e3 s3
  · have hx' : ¬ ((0 : Int32) ≤ x ∧ x ≤ (9 : Int32)) := hx
    refine both.bad h hR (z := 0) (by decide) (c := -2) (by decide) (by decide) ?_ ?_
    · unfold g_N_best
      rw [gk_0, e_isWithin, ev_cl2, ite2_z hx']
    · show g_M_best (rfN σ 0) 65 x = _
      unfold g_M_best
      rw [gk_65, e_within, ev_cl2, ite2_z hx']
