/-! STONES, by numbers -/
def fl (th : Nat → Int32) (K A N k c b : Nat) : Bool := (sg th K (nbk th K A N k) c (A + k + 1) b).2.2 && tb (th (A + k + 1)) 4
def n1 (th : Nat → Int32) (K A N k c b : Nat) : Nat := (sg th K (nbk th K A N k) c (A + k + 1) b).2.1
def bx (K : Nat) (X : Nat → Bool) (p : Nat) : Nat := if X p = true then wtK K else 0
def sf (th : Nat → Int32) (K A N : Nat) (X : Nat → Bool) : Nat → Nat → Nat → Bool
  | 0, _, _ => true
  | r + 1, k, c => !fl th K A N k c (bx K X (A + k + 1)) && sf th K A N X r (k + 1) (n1 th K A N k c (bx K X (A + k + 1)))
theorem sf_cong {th : Nat → Int32} {K A N : Nat} {X Y : Nat → Bool} : ∀ r k c, (∀ p, A + k < p → p ≤ A + k + r → X p = Y p) → sf th K A N X r k c = sf th K A N Y r k c
  | 0, _, _, _ => rfl
  | r + 1, k, c, h => by
    have e : bx K X (A + k + 1) = bx K Y (A + k + 1) := by unfold bx; rw [h (A + k + 1) (by omega) (by omega)]
    rw [sf, sf, e, sf_cong r (k + 1) _ (fun p h1 h2 => h p (by omega) (by omega))]
theorem eq_sgb {th : Nat → Int32} {K n c c' p b : Nat} (h : Eq' K n c c') : (sg th K n c p b).2.2 = (sg th K n c' p b).2.2 ∧ Eq' K (sg th K n c p b).1 (sg th K n c p b).2.1 (sg th K n c' p b).2.1 := by
  rcases h with rfl | ⟨k3, h1, h2⟩
  · exact ⟨Eq.refl _, Eq'.rfl⟩
  · have c1 : n ≤ cnN K c (tb (th p) 1) b := by unfold cnN; omega
    have c2 : n ≤ cnN K c' (tb (th p) 1) b := by unfold cnN; omega
    have s1 : (sg th K n c p b).2.2 = !tb (th p) 4 := by
      show stopN K n (cnN K c (tb (th p) 1) b) (tb (th p) 2) (tb (th p) 4) = _
      unfold stopN; rw [decide_eq_true c1, decide_eq_true k3, decide_eq_false (show ¬ K = 5 by omega)]; simp
    have s2 : (sg th K n c' p b).2.2 = !tb (th p) 4 := by
      show stopN K n (cnN K c' (tb (th p) 1) b) (tb (th p) 2) (tb (th p) 4) = _
      unfold stopN; rw [decide_eq_true c2, decide_eq_true k3, decide_eq_false (show ¬ K = 5 by omega)]; simp
    refine ⟨s1.trans s2.symm, ?_⟩
    have n1 : (sg th K n c p b).1 = n := by
      show (if (tb (th p) 2 && decide (K = 4)) = true then (if 2 * n < 64 then 2 * n else 64) else n) = n
      rw [if_neg (by simp [k3])]
    have v1 : (sg th K n c p b).2.1 = if (sg th K n c p b).2.2 = true then 0 else cnN K c (tb (th p) 1) b := Eq.refl _
    have v2 : (sg th K n c' p b).2.1 = if (sg th K n c' p b).2.2 = true then 0 else cnN K c' (tb (th p) 1) b := Eq.refl _
    rw [v1, v2, s1, s2, n1]
    by_cases q : (!tb (th p) 4) = true
    · rw [if_pos q, if_pos q]; exact Eq'.rfl
    · rw [if_neg q, if_neg q]; exact Or.inr ⟨k3, c1, c2⟩
theorem sf_eq {th : Nat → Int32} {K A N : Nat} {X : Nat → Bool} : ∀ r k {c c' : Nat}, Eq' K (nbk th K A N k) c c' → sf th K A N X r k c = sf th K A N X r k c'
  | 0, _, _, _, _ => rfl
  | r + 1, k, c, c', h => by
    obtain ⟨s, e⟩ := eq_sgb (th := th) (p := A + k + 1) (b := bx K X (A + k + 1)) h
    rw [sf, sf]
    have e1 : fl th K A N k c (bx K X (A + k + 1)) = fl th K A N k c' (bx K X (A + k + 1)) := by unfold fl; rw [s]
    have e2 : sf th K A N X r (k + 1) (n1 th K A N k c (bx K X (A + k + 1))) = sf th K A N X r (k + 1) (n1 th K A N k c' (bx K X (A + k + 1))) := sf_eq r (k + 1) e
    rw [e1, e2]
theorem n1_le {th : Nat → Int32} {K A N k c b : Nat} : n1 th K A N k c b ≤ c + 2 + b := stN_C
theorem n1_nc {th : Nat → Int32} {K A N k c b : Nat} (h1 : 2 ≤ N) (h2 : N ≤ 64) (k3 : K ≠ 3) : n1 th K A N k c b < nbk th K A N (k + 1) := stN_nc (nbk_b h1 h2 k).1 (nbk_b h1 h2 k).2 k3
/-- with new STONES in the reference's row -/
theorem sg_x {th th' : Nat → Int32} {K n c p : Nat} {X : Nat → Bool} (h1 : tb (th' p) 1 = (tb (th p) 1 || X p)) (h2 : tb (th' p) 2 = tb (th p) 2) (h4 : tb (th' p) 4 = tb (th p) 4) (hf : X p = true → tb (th p) 1 = false) : sg th' K n c p 0 = sg th K n c p (bx K X p) := by
  have e : cnN K c (tb (th' p) 1) 0 = cnN K c (tb (th p) 1) (bx K X p) := by
    unfold cnN bx
    rw [h1]
    cases hx : X p with
    | false => simp
    | true => rw [hf hx]; simp; omega
  unfold sg stN
  rw [e, h2, h4]
theorem sf_jcl {th th' : Nat → Int32} {K A N C E : Nat} {X : Nat → Bool} (hx : ∀ p, p ≤ E → tb (th' p) 1 = (tb (th p) 1 || X p) ∧ tb (th' p) 2 = tb (th p) 2 ∧ tb (th' p) 4 = tb (th p) 4 ∧ (X p = true → tb (th p) 1 = false)) : ∀ r k, A + k + r = E → (jr th' K A N C k).1 = nbk th K A N k → ((sf th K A N X r k (jr th' K A N C k).2 = true) ↔ ∀ n, k ≤ n → n < k + r → jcl th' K A N C n = false)
  | 0, k, _, _ => ⟨fun _ n h1 h2 => absurd h2 (by omega), fun _ => rfl⟩
  | r + 1, k, hk, hn => by
    obtain ⟨q1, q2, q4, qf⟩ := hx (A + k + 1) (by omega)
    have es : sg th' K (jr th' K A N C k).1 (jr th' K A N C k).2 (A + k + 1) 0 = sg th K (nbk th K A N k) (jr th' K A N C k).2 (A + k + 1) (bx K X (A + k + 1)) := by rw [hn]; exact sg_x q1 q2 q4 qf
    have e1 : (jr th' K A N C (k + 1)).1 = nbk th K A N (k + 1) := by
      show (sg th' K (jr th' K A N C k).1 (jr th' K A N C k).2 (A + k + 1) 0).1 = _
      rw [es]; rfl
    have e2 : (jr th' K A N C (k + 1)).2 = n1 th K A N k (jr th' K A N C k).2 (bx K X (A + k + 1)) := by
      show (sg th' K (jr th' K A N C k).1 (jr th' K A N C k).2 (A + k + 1) 0).2.1 = _
      rw [es]; rfl
    have e3 : jcl th' K A N C k = fl th K A N k (jr th' K A N C k).2 (bx K X (A + k + 1)) := by
      unfold jcl fl
      rw [q4]
      show ((sg th' K (jr th' K A N C k).1 (jr th' K A N C k).2 (A + k + 1) 0).2.2 && _) = _
      rw [es]
    have ih := sf_jcl (K := K) (A := A) (N := N) (C := C) hx r (k + 1) (by omega) e1
    rw [sf, Bool.and_eq_true, ← e2, ih, ← e3]
    constructor
    · rintro ⟨a, b⟩ n h1 h2
      by_cases e : n = k
      · subst e; simpa using a
      · exact b n (by omega) (by omega)
    · intro a
      refine ⟨by rw [a k (by omega) (by omega)]; rfl, fun n h1 h2 => a n (by omega) (by omega)⟩
/-- whether none of the first k falls -/
def sfm (σ : ns_St) (E : Nat) (X : Nat → Bool) (j : Nat) : Bool := sf (σ.1 69) (gm σ 70 j) (gm σ 72 j) (gm σ 71 j) X (E - gm σ 72 j) 0 (gm σ 73 j)
def aF (σ : ns_St) (E : Nat) (X : Nat → Bool) : Nat → Bool
  | 0 => true
  | k + 1 => aF σ E X k && sfm σ E X k
theorem aF_t {σ : ns_St} {E : Nat} {X : Nat → Bool} : ∀ {k : Nat}, aF σ E X k = true ↔ ∀ j, j < k → sfm σ E X j = true
  | 0 => ⟨fun _ j h => absurd h (by omega), fun _ => rfl⟩
  | k + 1 => by
    rw [aF, Bool.and_eq_true, aF_t]
    constructor
    · rintro ⟨a, b⟩ j hj
      by_cases e : j = k
      · subst e; exact b
      · exact a j (by omega)
    · intro a
      exact ⟨fun j hj => a j (by omega), a k (by omega)⟩
/-- the reference's memory with new STONES -/
def NX (σ T : ns_St) (X : Nat → Bool) : Prop := T.2 = σ.2 ∧ (∀ b, b ≠ 65 → b ≠ 69 → T.1 b = σ.1 b) ∧ (∀ k, ¬ (25 ≤ k ∧ k ≤ 28) → T.1 65 k = σ.1 65 k) ∧ ∀ p, p ≤ 60 → T.1 69 p = if X p = true then σ.1 69 p ||| 1 else σ.1 69 p
theorem NX.th {σ T T' : ns_St} {X : Nat → Bool} (h : NX σ T X) (t : Th T T') : NX σ T' X := ⟨t.1.trans h.1, fun b h1 h2 => (t.2.1 b h1).trans (h.2.1 b h1 h2), fun k hk => (t.2.2 k hk).trans (h.2.2.1 k hk), fun p hp => by rw [t.2.1 69 (by decide)]; exact h.2.2.2 p hp⟩
theorem NX.bits {B : Nat} {σ T : ns_St} {E H : Nat} (hW : PW B σ E H) {X : Nat → Bool} (h : NX σ T X) (hf : ∀ p, X p = true → tb (σ.1 69 p) 1 = false) : ∀ p, p ≤ E → tb (T.1 69 p) 1 = (tb (σ.1 69 p) 1 || X p) ∧ tb (T.1 69 p) 2 = tb (σ.1 69 p) 2 ∧ tb (T.1 69 p) 4 = tb (σ.1 69 p) 4 ∧ (X p = true → tb (σ.1 69 p) 1 = false) := by
  intro p hp
  have h60 := hW.h60
  obtain ⟨v, hv, ev⟩ := (hW.2.2.2.2.1.2.2.2.2 p (by omega)).1
  rw [h.2.2.2 p (by omega)]
  cases hx : X p with
  | false => rw [if_neg (by decide)]; simp
  | true =>
    rw [if_pos rfl, ev]
    have o1 := tb16o v hv 0 (by decide) 0 (by decide)
    have o2 := tb16o v hv 0 (by decide) 1 (by decide)
    have o4 := tb16o v hv 0 (by decide) 2 (by decide)
    refine ⟨?_, ?_, ?_, fun _ => by rw [← ev]; exact hf p hx⟩
    · rw [Bool.or_true]; exact o1.trans (by simp)
    · exact o2.trans (by simp; rfl)
    · exact o4.trans (by simp; rfl)
theorem e_nf2 {B : Nat} {σ T : ns_St} {E H : Nat} (hW : PW B σ E H) {X : Nat → Bool} (hN : NX σ T X) (hf : ∀ p, X p = true → tb (σ.1 69 p) 1 = false) : ∀ (r k f : Nat) (τ : ns_St), r < f → k + r = H → Th T τ → aF σ E X k = true → ∃ τ', g_M_noneFalls_2 f τ 65 (nI k) = some (yn (aF σ E X H = true), τ') ∧ Th T τ' := by
  have hH := hW.2.2.2.1
  have h60 := hW.h60
  obtain ⟨g1, g2, hR⟩ := hW.1
  intro r
  induction r with
  | zero =>
    intro k f τ hfu hk t ha
    obtain ⟨f, rfl⟩ : ∃ q, f = q + 1 := ⟨f - 1, by omega⟩
    have hk' : k = H := by omega
    subst hk'
    have z := hN.th t
    refine ⟨τ, ?_, t⟩
    rw [g_M_noneFalls_2, z.2.2.1 5 (by omega), hW.2.2.1, ite2_p (nI_le (by omega) (by omega)), yn_t ha]
  | succ r ih =>
    intro k f τ hfu hk t ha
    obtain ⟨f, rfl⟩ : ∃ q, f = q + 1 := ⟨f - 1, by omega⟩
    have z := hN.th t
    have m := hW.m (j := k) (by omega)
    have hJ0 := m.jc hW
    have hJ : JC τ E (gm σ 70 k) (gm σ 72 k) (gm σ 71 k) (gm σ 73 k) := ⟨⟨g1, g2, by rw [z.1]; exact hR⟩, by rw [z.2.2.1 3 (by omega)]; exact hW.2.1, hJ0.2.2⟩
    obtain ⟨τ1, e1, t1⟩ := e_journey hJ (j := k) (by omega) (by rw [z.2.1 70 (by decide) (by decide)]; exact m.2.2.1) (by rw [z.2.1 71 (by decide) (by decide)]; exact m.2.2.2.1) (by rw [z.2.1 72 (by decide) (by decide)]; exact m.2.2.2.2.1) (by rw [z.2.1 73 (by decide) (by decide)]; exact m.2.2.2.2.2.1) 0
    rw [jout0] at e1
    have hAE := m.1.2.2.2.1
    have iff := sf_jcl (K := gm σ 70 k) (A := gm σ 72 k) (N := gm σ 71 k) (C := gm σ 73 k) (z.bits hW hf) (E - gm σ 72 k) 0 (by omega) rfl
    have bl := fb_ct_le (jcl (τ.1 69) (gm σ 70 k) (gm σ 72 k) (gm σ 71 k) (gm σ 73 k)) (E - gm σ 72 k)
    have iff2 : sfm σ E X k = true ↔ fb_ct (jcl (τ.1 69) (gm σ 70 k) (gm σ 72 k) (gm σ 71 k) (gm σ 73 k)) (E - gm σ 72 k) = 0 := by
      rw [fb_ct_zero]
      refine iff.trans ⟨fun q n hn => q n (by omega) (by omega), fun q n _ hn => q n (by omega)⟩
    rw [g_M_noneFalls_2, z.2.2.1 5 (by omega), hW.2.2.1, ite2_n (nI_ge (by omega) (by omega)), e1, ev_cl2]
    by_cases q : fb_ct (jcl (τ.1 69) (gm σ 70 k) (gm σ 72 k) (gm σ 71 k) (gm σ 73 k)) (E - gm σ 72 k) = 0
    · obtain ⟨τ2, e2, t2⟩ := ih (k + 1) f τ1 (by omega) (by omega) (t.trans t1) (by rw [aF, ha, iff2.mpr q]; rfl)
      refine ⟨τ2, ?_, t2⟩
      rw [q, ite2_p (by decide), ev_bnd, ← nI_succ]
      exact e2
    · refine ⟨τ1, ?_, t.trans t1⟩
      rw [ite2_n (nI_nle (by omega) (by omega)), yn_f (fun w => q (iff2.mp (aF_t.mp w k (by omega))))]
theorem e_noneFalls {B : Nat} {σ T : ns_St} {E H : Nat} (hW : PW B σ E H) {X : Nat → Bool} (hN : NX σ T X) (hf : ∀ p, X p = true → tb (σ.1 69 p) 1 = false) : ∃ τ', g_M_noneFalls T 65 = some (yn (aF σ E X H = true), τ') ∧ Th T τ' := by
  have hH := hW.2.2.2.1
  obtain ⟨τ', e, t⟩ := e_nf2 hW hN hf H 0 ns_F T (by show H < 10000; omega) (by omega) (Th.rfl T) rfl
  refine ⟨τ', ?_, t⟩
  unfold g_M_noneFalls
  rw [gk_65]
  exact e
def X0 (_ : Nat) : Bool := false
def X1 (p : Nat) (x : Nat) : Bool := decide (x = p)
def X2 (p q : Nat) (x : Nat) : Bool := decide (x = p) || decide (x = q)
theorem NX.no {σ T : ns_St} (h : Th σ T) : NX σ T X0 := ⟨h.1, fun b h1 _ => h.2.1 b h1, h.2.2, fun p _ => by rw [h.2.1 69 (by decide)]; rfl⟩
theorem NX.to {σ T : ns_St} {X : Nat → Bool} (h : NX σ T X) (hX : ∀ p, p ≤ 60 → X p = false) (h69 : ∀ p, 60 < p → T.1 69 p = σ.1 69 p) : Th σ T := by
  refine ⟨h.1, fun b hb => ?_, h.2.2.1⟩
  by_cases e : b = 69
  · subst e
    funext p
    by_cases q : p ≤ 60
    · rw [h.2.2.2 p q, hX p q]; rfl
    · exact h69 p (by omega)
  · exact h.2.1 b hb e
/-- free -/
def fr1 (σ : ns_St) (E p : Nat) : Bool := decide (1 ≤ p ∧ p ≤ E) && !tb (σ.1 69 p) 1
def P1 (σ : ns_St) (E H p : Nat) : Bool := fr1 σ E p && aF σ E (X1 p) H
def P2 (σ : ns_St) (E H p q : Nat) : Bool := fr1 σ E p && fr1 σ E q && decide (p < q) && aF σ E (X2 p q) H
theorem and2 : ∀ v, v < 16 → tb (nI v) 1 = false → (nI v ||| 1) &&& (-2) = nI v := by decide +kernel
/-- a new STONE put and taken away -/
theorem st_back {B : Nat} {σ : ns_St} {E H : Nat} (hW : PW B σ E H) {p : Nat} (hp : p ≤ 60) (hfr : tb (σ.1 69 p) 1 = false) : (σ.1 69 p ||| 1) &&& (-2) = σ.1 69 p := by
  obtain ⟨v, hv, ev⟩ := (hW.2.2.2.2.1.2.2.2.2 p hp).1
  rw [ev] at hfr ⊢
  exact and2 v hv hfr
theorem th_pI {τ : ns_St} {p : Nat} {v w : Int32} (hw : τ.1 69 p = w) {T : ns_St} (t : Th (ns_pI τ 69 p v) T) : Th τ (ns_pI T 69 p w) := by
  refine ⟨t.1, fun b hb => ?_, fun k hk => by rw [pI_ne _ _ _ (by decide), t.2.2 k hk, pI_ne _ _ _ (by decide)]⟩
  by_cases e : b = 69
  · subst e
    funext x
    by_cases q : x = p
    · subst q; rw [pI_at]; exact hw.symm
    · rw [pI_st _ _ _ q, t.2.1 69 (by decide), pI_st _ _ _ q]
  · rw [pI_ne _ _ _ e, t.2.1 b hb, pI_ne _ _ _ e]
theorem e_one11 {B : Nat} {σ : ns_St} {E H : Nat} (hW : PW B σ E H) : ∀ (r p f : Nat) (τ : ns_St), r < f → p + r = E + 1 → 1 ≤ p → Th σ τ → (∃ q τ', p ≤ q ∧ q ≤ E ∧ P1 σ E H q = true ∧ (∀ x, p ≤ x → x < q → P1 σ E H x = false) ∧ g_M_newStones_11 f τ 65 (nI p) = some (nI (10000 + 100 * q), τ') ∧ Th σ τ') ∨ ((∀ x, p ≤ x → x ≤ E → P1 σ E H x = false) ∧ ∃ τ', g_M_newStones_11 f τ 65 (nI p) = g_M_newStones_78 ns_F τ' 65 1 ∧ Th σ τ') := by
  have h60 := hW.h60
  obtain ⟨g1, g2, hR⟩ := hW.1
  intro r
  induction r with
  | zero =>
    intro p f τ hf hp hp1 t
    obtain ⟨f, rfl⟩ : ∃ q, f = q + 1 := ⟨f - 1, by omega⟩
    refine Or.inr ⟨fun x h1 h2 => absurd h1 (by omega), τ, ?_, t⟩
    rw [g_M_newStones_11, t.2.2 3 (by omega), hW.2.1, ite2_p (nI_lt (by omega) (by omega))]
  | succ r ih =>
    intro p f τ hf hp hp1 t
    obtain ⟨f, rfl⟩ : ∃ q, f = q + 1 := ⟨f - 1, by omega⟩
    have hRτ : τ.2.2 = ns_rg g1 g2 := by rw [t.1]; exact hR
    have i69 : ns_in (nI p) (ns_ln 69) := ns_inI (show p < 61 by omega) (by decide)
    have skip : ∀ τ', P1 σ E H p = false → Th σ τ' → ((∃ q τ'', p ≤ q ∧ q ≤ E ∧ P1 σ E H q = true ∧ (∀ x, p ≤ x → x < q → P1 σ E H x = false) ∧ g_M_newStones_11 f τ' 65 (nI (p + 1)) = some (nI (10000 + 100 * q), τ'') ∧ Th σ τ'') ∨ ((∀ x, p ≤ x → x ≤ E → P1 σ E H x = false) ∧ ∃ τ'', g_M_newStones_11 f τ' 65 (nI (p + 1)) = g_M_newStones_78 ns_F τ'' 65 1 ∧ Th σ τ'')) := by
      intro τ' hP t'
      rcases ih (p + 1) f τ' (by omega) (by omega) (by omega) t' with ⟨q, τ'', a1, a2, a3, a4, a5, a6⟩ | ⟨a1, a2⟩
      · refine Or.inl ⟨q, τ'', by omega, a2, a3, fun x h1 h2 => ?_, a5, a6⟩
        by_cases e : x = p
        · subst e; exact hP
        · exact a4 x (by omega) h2
      · refine Or.inr ⟨fun x h1 h2 => ?_, a2⟩
        by_cases e : x = p
        · subst e; exact hP
        · exact a1 x (by omega) h2
    rw [g_M_newStones_11, t.2.2 3 (by omega), hW.2.1, ite2_n (nI_nlt (by omega) (by omega)), e_isThere hRτ (by omega), ev_cl2, t.2.1 69 (by decide)]
    cases hst : tb (σ.1 69 p) 1 with
    | true =>
      rw [ite2_y (Eq.refl true), ev_bnd, ← nI_succ]
      exact skip τ (by unfold P1 fr1; rw [hst]; simp) t
    | false =>
      have p69 : τ.1 69 p = σ.1 69 p := by rw [t.2.1 69 (by decide)]
      have nX : NX σ (ns_pI τ 69 p (σ.1 69 p ||| 1)) (X1 p) := by
        refine ⟨t.1, fun b h1 h2 => by rw [pI_ne _ _ _ h2]; exact t.2.1 b h1, fun k hk => by rw [pI_ne _ _ _ (by decide)]; exact t.2.2 k hk, fun x hx => ?_⟩
        unfold X1
        by_cases e : x = p
        · subst e; rw [pI_at, if_pos (by rw [decide_eq_true rfl])]
        · rw [pI_st _ _ _ e, decide_eq_false e, if_neg (by decide), t.2.1 69 (by decide)]
      obtain ⟨T, eT, tT⟩ := e_noneFalls hW nX (fun x hx => by unfold X1 at hx; rw [of_decide_eq_true hx]; exact hst)
      have hRT : T.2.2 = ns_rg g1 g2 := by rw [tT.1]; exact hRτ
      have T69 : T.1 69 p = σ.1 69 p ||| 1 := by rw [tT.2.1 69 (by decide), pI_at]
      have tB : Th σ (ns_pI T 69 p (σ.1 69 p)) := t.trans (th_pI p69 tT)
      have pv : P1 σ E H p = aF σ E (X1 p) H := by unfold P1 fr1; rw [decide_eq_true (show 1 ≤ p ∧ p ≤ E by omega), hst]; rfl
      rw [ite2_z (by decide), hRτ, rg_65_4, ev_drf, gk_69, grd_t i69, grd_t i69, ns_ixI (by omega), p69, ev_bnd, eT, ev_cl2, hRT, rg_65_4, ev_drf, gk_69, grd_t i69, grd_t i69, T69, st_back hW (by omega) hst, ev_bnd]
      cases ha : aF σ E (X1 p) H with
      | false =>
        rw [ite2_z (by decide), ev_bnd, ← nI_succ]
        exact skip _ (by rw [pv, ha]) tB
      | true =>
        rw [ite2_y (Eq.refl true)]
        refine Or.inl ⟨p, _, Nat.le_refl _, by omega, by rw [pv, ha], fun x h1 h2 => absurd h1 (by omega), ?_, tB⟩
        rw [show (10000 : Int32) = nI 10000 from rfl, show (100 : Int32) = nI 100 from rfl, pk_mul, nI_add]
theorem e_two90 {B : Nat} {σ : ns_St} {E H p : Nat} (hW : PW B σ E H) (hp1 : 1 ≤ p) (hpE : p ≤ E) (kh : ns_St → Nat → Int32 → Option (Int32 × ns_St)) : ∀ (r q f : Nat) (τ : ns_St), r < f → q + r = E + 1 → p < q → Th σ τ → (∃ q' τ', q ≤ q' ∧ q' ≤ E ∧ P2 σ E H p q' = true ∧ (∀ x, q ≤ x → x < q' → P2 σ E H p x = false) ∧ g_M_newStones_90 kh f τ 65 (nI p) (nI q) = some (nI (20000 + 100 * p + q'), τ') ∧ Th σ τ') ∨ ((∀ x, q ≤ x → x ≤ E → P2 σ E H p x = false) ∧ ∃ τ', g_M_newStones_90 kh f τ 65 (nI p) (nI q) = kh τ' 65 (nI (p + 1)) ∧ Th σ τ') := by
  have h60 := hW.h60
  obtain ⟨g1, g2, hR⟩ := hW.1
  intro r
  induction r with
  | zero =>
    intro q f τ hf hq hpq t
    obtain ⟨f, rfl⟩ : ∃ q, f = q + 1 := ⟨f - 1, by omega⟩
    refine Or.inr ⟨fun x h1 h2 => absurd h1 (by omega), τ, ?_, t⟩
    rw [g_M_newStones_90, t.2.2 3 (by omega), hW.2.1, ite2_p (nI_lt (by omega) (by omega)), ev_bnd, ← nI_succ]
  | succ r ih =>
    intro q f τ hf hq hpq t
    obtain ⟨f, rfl⟩ : ∃ q, f = q + 1 := ⟨f - 1, by omega⟩
    have hRτ : τ.2.2 = ns_rg g1 g2 := by rw [t.1]; exact hR
    have ip : ns_in (nI p) (ns_ln 69) := ns_inI (show p < 61 by omega) (by decide)
    have iq : ns_in (nI q) (ns_ln 69) := ns_inI (show q < 61 by omega) (by decide)
    have skip : ∀ τ', P2 σ E H p q = false → Th σ τ' → ((∃ q' τ'', q ≤ q' ∧ q' ≤ E ∧ P2 σ E H p q' = true ∧ (∀ x, q ≤ x → x < q' → P2 σ E H p x = false) ∧ g_M_newStones_90 kh f τ' 65 (nI p) (nI (q + 1)) = some (nI (20000 + 100 * p + q'), τ'') ∧ Th σ τ'') ∨ ((∀ x, q ≤ x → x ≤ E → P2 σ E H p x = false) ∧ ∃ τ'', g_M_newStones_90 kh f τ' 65 (nI p) (nI (q + 1)) = kh τ'' 65 (nI (p + 1)) ∧ Th σ τ'')) := by
      intro τ' hP t'
      rcases ih (q + 1) f τ' (by omega) (by omega) (by omega) t' with ⟨q', τ'', a1, a2, a3, a4, a5, a6⟩ | ⟨a1, a2⟩
      · refine Or.inl ⟨q', τ'', by omega, a2, a3, fun x h1 h2 => ?_, a5, a6⟩
        by_cases e : x = q
        · subst e; exact hP
        · exact a4 x (by omega) h2
      · refine Or.inr ⟨fun x h1 h2 => ?_, a2⟩
        by_cases e : x = q
        · subst e; exact hP
        · exact a1 x (by omega) h2
    rw [g_M_newStones_90, t.2.2 3 (by omega), hW.2.1, ite2_n (nI_nlt (by omega) (by omega)), e_isThere hRτ (by omega), ev_cl2, t.2.1 69 (by decide)]
    cases hsp : tb (σ.1 69 p) 1 with
    | true =>
      rw [ite2_y (Eq.refl true), ev_bnd, ← nI_succ]
      exact skip τ (by unfold P2 fr1; rw [hsp]; simp) t
    | false =>
      rw [ite2_z (by decide), e_isThere hRτ (by omega), ev_cl2, t.2.1 69 (by decide)]
      cases hsq : tb (σ.1 69 q) 1 with
      | true =>
        rw [ite2_y (Eq.refl true), ev_bnd, ← nI_succ]
        exact skip τ (by unfold P2 fr1; rw [hsq]; simp) t
      | false =>
        have p69 : τ.1 69 p = σ.1 69 p := by rw [t.2.1 69 (by decide)]
        have q69 : (ns_pI τ 69 p (σ.1 69 p ||| 1)).1 69 q = σ.1 69 q := by rw [pI_st _ _ _ (by omega), t.2.1 69 (by decide)]
        have nX : NX σ (ns_pI (ns_pI τ 69 p (σ.1 69 p ||| 1)) 69 q (σ.1 69 q ||| 1)) (X2 p q) := by
          refine ⟨t.1, fun b h1 h2 => by rw [pI_ne _ _ _ h2, pI_ne _ _ _ h2]; exact t.2.1 b h1, fun k hk => by rw [pI_ne _ _ _ (by decide), pI_ne _ _ _ (by decide)]; exact t.2.2 k hk, fun x hx => ?_⟩
          unfold X2
          by_cases e : x = q
          · subst e; rw [pI_at, if_pos (by rw [decide_eq_true rfl, Bool.or_true])]
          · rw [pI_st _ _ _ e]
            by_cases e' : x = p
            · subst e'; rw [pI_at, if_pos (by rw [decide_eq_true rfl]; rfl)]
            · rw [pI_st _ _ _ e', decide_eq_false e, decide_eq_false e', if_neg (by decide), t.2.1 69 (by decide)]
        obtain ⟨T, eT, tT⟩ := e_noneFalls hW nX (fun x hx => by
          unfold X2 at hx
          rw [Bool.or_eq_true] at hx
          rcases hx with hx | hx
          · rw [of_decide_eq_true hx]; exact hsp
          · rw [of_decide_eq_true hx]; exact hsq)
        have hRT : T.2.2 = ns_rg g1 g2 := by rw [tT.1]; exact hRτ
        have Tp : T.1 69 p = σ.1 69 p ||| 1 := by rw [tT.2.1 69 (by decide), pI_st _ _ _ (by omega), pI_at]
        have Tq : (ns_pI T 69 p (σ.1 69 p)).1 69 q = σ.1 69 q ||| 1 := by rw [pI_st _ _ _ (by omega), tT.2.1 69 (by decide), pI_at]
        have tB : Th σ (ns_pI (ns_pI T 69 p (σ.1 69 p)) 69 q (σ.1 69 q)) := by
          refine ⟨tT.1.trans t.1, fun b hb => ?_, fun k hk => by rw [pI_ne _ _ _ (by decide), pI_ne _ _ _ (by decide), tT.2.2 k hk, pI_ne _ _ _ (by decide), pI_ne _ _ _ (by decide)]; exact t.2.2 k hk⟩
          by_cases e : b = 69
          · subst e
            funext x
            by_cases e1 : x = q
            · subst e1; rw [pI_at]
            · rw [pI_st _ _ _ e1]
              by_cases e2 : x = p
              · subst e2; rw [pI_at]
              · rw [pI_st _ _ _ e2, tT.2.1 69 (by decide), pI_st _ _ _ e1, pI_st _ _ _ e2, t.2.1 69 (by decide)]
          · rw [pI_ne _ _ _ e, pI_ne _ _ _ e, tT.2.1 b hb, pI_ne _ _ _ e, pI_ne _ _ _ e]; exact t.2.1 b hb
        have pv : P2 σ E H p q = aF σ E (X2 p q) H := by unfold P2 fr1; rw [decide_eq_true (show 1 ≤ p ∧ p ≤ E by omega), decide_eq_true (show 1 ≤ q ∧ q ≤ E by omega), decide_eq_true hpq, hsp, hsq]; rfl
        rw [ite2_z (by decide), hRτ, rg_65_4, ev_drf, gk_69, grd_t ip, grd_t ip, ns_ixI (show p < 2 ^ 31 by omega), p69, ev_bnd, pI_R, hRτ, rg_65_4, ev_drf, gk_69, grd_t iq, grd_t iq, ns_ixI (show q < 2 ^ 31 by omega), q69, ev_bnd, eT, ev_cl2, hRT, rg_65_4, ev_drf, gk_69, grd_t ip, grd_t ip, Tp, st_back hW (by omega) hsp, ev_bnd, pI_R, hRT, rg_65_4, ev_drf, gk_69, grd_t iq, grd_t iq, Tq, st_back hW (by omega) hsq, ev_bnd]
        cases ha : aF σ E (X2 p q) H with
        | false =>
          rw [ite2_z (by decide), ev_bnd, ← nI_succ]
          exact skip _ (by rw [pv, ha]) tB
        | true =>
          rw [ite2_y (Eq.refl true)]
          refine Or.inl ⟨q, _, Nat.le_refl _, by omega, by rw [pv, ha], fun x h1 h2 => absurd h1 (by omega), ?_, tB⟩
          rw [show (20000 : Int32) = nI 20000 from rfl, show (100 : Int32) = nI 100 from rfl, pk_mul, nI_add, nI_add]
theorem e_two78 {B : Nat} {σ : ns_St} {E H : Nat} (hW : PW B σ E H) : ∀ (r p f : Nat) (τ : ns_St), r < f → p + r = E + 1 → 1 ≤ p → Th σ τ → (∃ p' q' τ', p ≤ p' ∧ p' ≤ E ∧ q' ≤ E ∧ P2 σ E H p' q' = true ∧ (∀ x, x < q' → P2 σ E H p' x = false) ∧ (∀ x y, p ≤ x → x < p' → P2 σ E H x y = false) ∧ g_M_newStones_78 f τ 65 (nI p) = some (nI (20000 + 100 * p' + q'), τ') ∧ Th σ τ') ∨ ((∀ x y, p ≤ x → P2 σ E H x y = false) ∧ ∃ τ', g_M_newStones_78 f τ 65 (nI p) = some (-1, τ') ∧ Th σ τ') := by
  have h60 := hW.h60
  have lo : ∀ p x, x ≤ p → P2 σ E H p x = false := fun p x hx => by unfold P2; rw [decide_eq_false (show ¬ p < x by omega)]; simp
  have hi : ∀ p x, E < x → P2 σ E H p x = false := fun p x hx => by unfold P2 fr1; rw [decide_eq_false (show ¬ (1 ≤ x ∧ x ≤ E) by omega)]; simp
  have hi2 : ∀ p x, E < p → P2 σ E H p x = false := fun p x hx => by unfold P2 fr1; rw [decide_eq_false (show ¬ (1 ≤ p ∧ p ≤ E) by omega)]; simp
  intro r
  induction r with
  | zero =>
    intro p f τ hf hp hp1 t
    obtain ⟨f, rfl⟩ : ∃ q, f = q + 1 := ⟨f - 1, by omega⟩
    refine Or.inr ⟨fun x y h1 => hi2 x y (by omega), τ, ?_, t⟩
    rw [g_M_newStones_78, t.2.2 3 (by omega), hW.2.1, ite2_p (nI_lt (by omega) (by omega))]
  | succ r ih =>
    intro p f τ hf hp hp1 t
    obtain ⟨f, rfl⟩ : ∃ q, f = q + 1 := ⟨f - 1, by omega⟩
    rw [g_M_newStones_78, t.2.2 3 (by omega), hW.2.1, ite2_n (nI_nlt (by omega) (by omega)), ev_bnd, ← nI_succ]
    rcases e_two90 hW hp1 (show p ≤ E by omega) (g_M_newStones_78 f) (E - p) (p + 1) ns_F τ (by show E - p < 10000; omega) (by omega) (by omega) t with ⟨q', τ', a1, a2, a3, a4, a5, a6⟩ | ⟨a1, τ', a2, a3⟩
    · refine Or.inl ⟨p, q', τ', Nat.le_refl _, by omega, a2, a3, fun x hx => ?_, fun x y h1 h2 => absurd h1 (by omega), a5, a6⟩
      by_cases e : x ≤ p
      · exact lo p x e
      · exact a4 x (by omega) hx
    · have none : ∀ y, P2 σ E H p y = false := fun y => by
        by_cases e : y ≤ p
        · exact lo p y e
        · by_cases e2 : y ≤ E
          · exact a1 y (by omega) e2
          · exact hi p y (by omega)
      rcases ih (p + 1) f τ' (by omega) (by omega) (by omega) a3 with ⟨p', q', τ'', b1, b2, b3, b4, b5, b6, b7, b8⟩ | ⟨b1, τ'', b2, b3⟩
      · refine Or.inl ⟨p', q', τ'', by omega, b2, b3, b4, b5, fun x y h1 h2 => ?_, by rw [a2]; exact b7, b8⟩
        by_cases e : x = p
        · subst e; exact none y
        · exact b6 x y (by omega) h2
      · refine Or.inr ⟨fun x y h1 => ?_, τ'', by rw [a2]; exact b2, b3⟩
        by_cases e : x = p
        · subst e; exact none y
        · exact b1 x y (by omega)
