/-! PASS: TOKENS, by numbers and by both readers -/
theorem nsub {a b : Nat} (h : a ≤ b) : nI b - nI a = nI (b - a) := by
  rw [show nI b = nI (b - a) + nI a by rw [nI_add, show b - a + a = b by omega], Int32.add_sub_cancel]
def cs (v : Nat) : Nat := if 97 ≤ v ∧ v ≤ 122 then 1 else if 48 ≤ v ∧ v ≤ 57 then 2 else if v = 59 then 3 else 4
theorem cs4 (v : Nat) : 1 ≤ cs v ∧ cs v ≤ 4 := by unfold cs; (repeat' split) <;> omega
theorem e_isLetter {σ : ns_St} {v : Nat} (hv : v < 256) : g_M_isLetter σ (nI v) = some (yn (cs v = 1), σ) := by
  unfold g_M_isLetter cs
  by_cases h1 : 97 ≤ v
  · rw [ite2_n (show ¬ nI v < (97 : Int32) from nI_nlt (b := 97) h1 (by omega))]
    by_cases h2 : v ≤ 122
    · rw [ite2_n (show ¬ (122 : Int32) < nI v from nI_nlt (a := 122) h2 (by decide)), if_pos ⟨h1, h2⟩, yn_t (Eq.refl _)]
    · rw [ite2_p (show (122 : Int32) < nI v from nI_lt (a := 122) (by omega) (by omega)), if_neg (by omega), yn_f (by (repeat' split) <;> omega)]
  · rw [ite2_p (show nI v < (97 : Int32) from nI_lt (b := 97) (by omega) (by decide)), if_neg (by omega), yn_f (by (repeat' split) <;> omega)]
theorem e_isDigit {σ : ns_St} {v : Nat} (hv : v < 256) : g_M_isDigit σ (nI v) = some (yn (cs v = 2), σ) := by
  unfold g_M_isDigit cs
  by_cases h1 : 48 ≤ v
  · rw [ite2_n (show ¬ nI v < (48 : Int32) from nI_nlt (b := 48) h1 (by omega))]
    by_cases h2 : v ≤ 57
    · rw [ite2_n (show ¬ (57 : Int32) < nI v from nI_nlt (a := 57) h2 (by decide)), if_neg (by omega), if_pos ⟨h1, h2⟩, yn_t (Eq.refl _)]
    · rw [ite2_p (show (57 : Int32) < nI v from nI_lt (a := 57) (by omega) (by omega)), yn_f (by (repeat' split) <;> omega)]
  · rw [ite2_p (show nI v < (48 : Int32) from nI_lt (b := 48) (by omega) (by decide)), yn_f (by (repeat' split) <;> omega)]
theorem e_sortOf {σ : ns_St} {v : Nat} (hv : v < 256) : g_Tape_sortOf σ (nI v) = some (nI (cs v), σ) := by
  have e28 : ¬ (97 ≤ v ∧ v ≤ 122) → ¬ (48 ≤ v ∧ v ≤ 57) → g_Tape_sortOf_28 σ (nI v) = some (nI (cs v), σ) := fun h1 h2 => by
    unfold g_Tape_sortOf_28 cs
    rw [if_neg h1, if_neg h2]
    by_cases h : v = 59
    · subst h; rw [ite2_p (by decide)]; rfl
    · rw [ite2_n (show ¬ nI v = (59 : Int32) from fun e => h ((nI_eq (b := 59) (by omega) (by decide)).mp e)), if_neg h]; rfl
  have e14 : ¬ (97 ≤ v ∧ v ≤ 122) → g_Tape_sortOf_14 σ (nI v) = some (nI (cs v), σ) := fun h0 => by
    unfold g_Tape_sortOf_14
    by_cases h1 : 48 ≤ v
    · rw [ite2_n (show ¬ nI v < (48 : Int32) from nI_nlt (b := 48) h1 (by omega))]
      by_cases h2 : v ≤ 57
      · rw [ite2_n (show ¬ (57 : Int32) < nI v from nI_nlt (a := 57) h2 (by decide))]
        unfold cs
        rw [if_neg h0, if_pos ⟨h1, h2⟩]; rfl
      · rw [ite2_p (show (57 : Int32) < nI v from nI_lt (a := 57) (by omega) (by omega))]; exact e28 h0 (by omega)
    · rw [ite2_p (show nI v < (48 : Int32) from nI_lt (b := 48) (by omega) (by decide))]; exact e28 h0 (by omega)
  unfold g_Tape_sortOf
  by_cases h1 : 97 ≤ v
  · rw [ite2_n (show ¬ nI v < (97 : Int32) from nI_nlt (b := 97) h1 (by omega))]
    by_cases h2 : v ≤ 122
    · rw [ite2_n (show ¬ (122 : Int32) < nI v from nI_nlt (a := 122) h2 (by decide))]
      unfold cs
      rw [if_pos ⟨h1, h2⟩]; rfl
    · rw [ite2_p (show (122 : Int32) < nI v from nI_lt (a := 122) (by omega) (by omega))]; exact e14 (by omega)
  · rw [ite2_p (show nI v < (97 : Int32) from nI_lt (b := 97) (by omega) (by decide))]; exact e14 (by omega)
def sk (t : Nat → Nat) : Nat → Nat → Nat
  | 0, a => a
  | r + 1, a => if t a = 32 then sk t r (a + 1) else a
theorem sk_b (t : Nat → Nat) : ∀ r a, a ≤ sk t r a ∧ sk t r a ≤ a + r
  | 0, a => ⟨Nat.le_refl _, Nat.le_refl _⟩
  | r + 1, a => by
    rw [sk]
    have := sk_b t r (a + 1)
    split <;> omega
def rn (t : Nat → Nat) (s : Nat) : Nat → Nat → Nat
  | 0, a => a
  | r + 1, a => if cs (t a) = s then rn t s r (a + 1) else a
theorem rn_b (t : Nat → Nat) (s : Nat) : ∀ r a, a ≤ rn t s r a ∧ rn t s r a ≤ a + r
  | 0, a => ⟨Nat.le_refl _, Nat.le_refl _⟩
  | r + 1, a => by
    rw [rn]
    have := rn_b t s r (a + 1)
    split <;> omega
def kF (t : Nat → Nat) (z a : Nat) : Nat := sk t (z - a) a
def kS (t : Nat → Nat) (z f : Nat) : Nat := if f < z then cs (t f) else 0
def kB (t : Nat → Nat) (z f : Nat) : Nat := if kS t z f = 1 ∨ kS t z f = 2 then rn t (kS t z f) (z - f) f else if kS t z f = 0 then f else f + 1
theorem kF_b {t : Nat → Nat} {z a : Nat} (h : a ≤ z) : a ≤ kF t z a ∧ kF t z a ≤ z := by have := sk_b t (z - a) a; unfold kF; omega
theorem kS_b {t : Nat → Nat} {z f : Nat} : kS t z f ≤ 4 := by unfold kS; have := cs4 (t f); split <;> omega
theorem kS_0 {t : Nat → Nat} {z f : Nat} : kS t z f = 0 ↔ z ≤ f := by unfold kS; have := cs4 (t f); split <;> omega
theorem kB_b {t : Nat → Nat} {z f : Nat} (h : f ≤ z) : f ≤ kB t z f ∧ kB t z f ≤ z ∧ (kS t z f ≠ 0 → f < kB t z f) := by
  have h0 := kS_0 (t := t) (z := z) (f := f)
  unfold kB
  by_cases c : kS t z f = 1 ∨ kS t z f = 2
  · rw [if_pos c]
    have hf : f < z := by omega
    have e : cs (t f) = kS t z f := by unfold kS; rw [if_pos hf]
    obtain ⟨r, hr⟩ : ∃ r, z - f = r + 1 := ⟨z - f - 1, by omega⟩
    rw [hr, rn, if_pos e]
    have := rn_b t (kS t z f) r (f + 1)
    omega
  · rw [if_neg c]
    split <;> omega
/-- the class's TAPE, the reference's -/
def tpC (g1 g2 : Option Nat) (t : Nat → Nat) (z : Nat) (τ : ns_St) : Prop := τ.2.2 = ns_rg g1 g2 ∧ z ≤ 250 ∧ τ.1 29 1 = nI z ∧ ∀ i, i < z → t i < 256 ∧ τ.1 30 i = nI (t i)
def tpR (g1 g2 : Option Nat) (t : Nat → Nat) (z : Nat) (ρ : ns_St) : Prop := ρ.2.2 = ns_rg g1 g2 ∧ z ≤ 250 ∧ ρ.1 65 15 = nI z ∧ ∀ i, i < z → t i < 256 ∧ ρ.1 76 i = nI (t i)
/-- memories that differ in TOKENS alone -/
def T3 (τ τ' : ns_St) : Prop := τ'.2 = τ.2 ∧ (∀ b, b ≠ 29 → τ'.1 b = τ.1 b) ∧ ∀ k, ¬ (3 ≤ k ∧ k ≤ 5) → τ'.1 29 k = τ.1 29 k
def R3 (ρ ρ' : ns_St) : Prop := ρ'.2 = ρ.2 ∧ (∀ b, b ≠ 65 → ρ'.1 b = ρ.1 b) ∧ ∀ k, ¬ (17 ≤ k ∧ k ≤ 20) → ρ'.1 65 k = ρ.1 65 k
theorem T3.rfl (τ : ns_St) : T3 τ τ := ⟨Eq.refl _, fun _ _ => Eq.refl _, fun _ _ => Eq.refl _⟩
theorem R3.rfl (τ : ns_St) : R3 τ τ := ⟨Eq.refl _, fun _ _ => Eq.refl _, fun _ _ => Eq.refl _⟩
theorem T3.trans {a b c : ns_St} (h1 : T3 a b) (h2 : T3 b c) : T3 a c := ⟨h2.1.trans h1.1, fun x hx => (h2.2.1 x hx).trans (h1.2.1 x hx), fun k hk => (h2.2.2 k hk).trans (h1.2.2 k hk)⟩
theorem R3.trans {a b c : ns_St} (h1 : R3 a b) (h2 : R3 b c) : R3 a c := ⟨h2.1.trans h1.1, fun x hx => (h2.2.1 x hx).trans (h1.2.1 x hx), fun k hk => (h2.2.2 k hk).trans (h1.2.2 k hk)⟩
theorem T3.pI {a : ns_St} {k : Nat} {v : Int32} (h : 3 ≤ k ∧ k ≤ 5) : T3 a (ns_pI a 29 k v) := ⟨Eq.refl _, fun b hb => pI_ne _ _ _ hb, fun j hj => pI_st _ _ _ (fun e => hj (e ▸ h))⟩
theorem R3.pI {a : ns_St} {k : Nat} {v : Int32} (h : 17 ≤ k ∧ k ≤ 20) : R3 a (ns_pI a 65 k v) := ⟨Eq.refl _, fun b hb => pI_ne _ _ _ hb, fun j hj => pI_st _ _ _ (fun e => hj (e ▸ h))⟩
theorem tpC.t3 {g1 g2 : Option Nat} {t : Nat → Nat} {z : Nat} {τ τ' : ns_St} (h : tpC g1 g2 t z τ) (s : T3 τ τ') : tpC g1 g2 t z τ' := ⟨by rw [s.1]; exact h.1, h.2.1, by rw [s.2.2 1 (by omega)]; exact h.2.2.1, fun i hi => by rw [s.2.1 30 (by decide)]; exact h.2.2.2 i hi⟩
theorem tpR.r3 {g1 g2 : Option Nat} {t : Nat → Nat} {z : Nat} {ρ ρ' : ns_St} (h : tpR g1 g2 t z ρ) (s : R3 ρ ρ') : tpR g1 g2 t z ρ' := ⟨by rw [s.1]; exact h.1, h.2.1, by rw [s.2.2 15 (by omega)]; exact h.2.2.1, fun i hi => by rw [s.2.1 76 (by decide)]; exact h.2.2.2 i hi⟩
def tcC (τ : ns_St) (f s b : Nat) : Prop := τ.1 29 4 = nI f ∧ τ.1 29 3 = nI s ∧ τ.1 29 5 = nI b
theorem e_nt8 {g1 g2 : Option Nat} {t : Nat → Nat} {z : Nat} : ∀ (r a f : Nat) (τ : ns_St), r < f → a + r = z → tpC g1 g2 t z τ → τ.1 29 4 = nI a → ∃ τ', g_Tape_nextToken_8 f τ 29 = g_Tape_nextToken_46 τ' 29 ∧ T3 τ τ' ∧ τ'.1 29 4 = nI (sk t r a) := by
  intro r
  induction r with
  | zero =>
    intro a f τ hf ha hT h4
    obtain ⟨f, rfl⟩ : ∃ q, f = q + 1 := ⟨f - 1, by omega⟩
    have z250 := hT.2.1
    refine ⟨τ, ?_, T3.rfl τ, h4⟩
    rw [g_Tape_nextToken_8, hT.2.2.1, h4, ite2_p (nI_le (by omega) (by omega))]
  | succ r ih =>
    intro a f τ hf ha hT h4
    obtain ⟨f, rfl⟩ : ∃ q, f = q + 1 := ⟨f - 1, by omega⟩
    have z250 := hT.2.1
    have i30 : ns_in (nI a) (ns_ln 30) := ns_inI (show a < 250 by omega) (by decide)
    obtain ⟨t1, t2⟩ := hT.2.2.2 a (by omega)
    rw [g_Tape_nextToken_8, hT.2.2.1, h4, ite2_n (nI_ge (by omega) (by omega)), hT.1, rg_29_0, ev_drf, gk_30, grd_t i30, ns_ixI (by omega), t2, sk]
    by_cases c : t a = 32
    · rw [ite2_p (by rw [c]; rfl), ev_bnd, ← nI_succ, if_pos c]
      obtain ⟨τ', e', s', p'⟩ := ih (a + 1) f (ns_pI τ 29 4 (nI (a + 1))) (by omega) (by omega) (hT.t3 (T3.pI (by decide))) (pI_at _ _ _ _)
      exact ⟨τ', e', (T3.pI (by decide)).trans s', p'⟩
    · rw [ite2_n (show ¬ nI (t a) = (32 : Int32) from fun e => c ((nI_eq (b := 32) (by omega) (by decide)).mp e)), if_neg c]
      exact ⟨τ, Eq.refl _, T3.rfl τ, h4⟩
theorem e_nt101 {g1 g2 : Option Nat} {t : Nat → Nat} {z s : Nat} (hs : s ≤ 4) : ∀ (r a f : Nat) (τ : ns_St), r < f → a + r = z → tpC g1 g2 t z τ → τ.1 29 3 = nI s → τ.1 29 5 = nI a → ∃ τ', g_Tape_nextToken_101 f τ 29 = some ((), τ') ∧ T3 τ τ' ∧ τ'.1 29 4 = τ.1 29 4 ∧ τ'.1 29 3 = nI s ∧ τ'.1 29 5 = nI (rn t s r a) := by
  intro r
  induction r with
  | zero =>
    intro a f τ hf ha hT h3 h5
    obtain ⟨f, rfl⟩ : ∃ q, f = q + 1 := ⟨f - 1, by omega⟩
    have z250 := hT.2.1
    refine ⟨τ, ?_, T3.rfl τ, Eq.refl _, h3, h5⟩
    rw [g_Tape_nextToken_101, hT.2.2.1, h5, ite2_p (nI_le (by omega) (by omega))]
  | succ r ih =>
    intro a f τ hf ha hT h3 h5
    obtain ⟨f, rfl⟩ : ∃ q, f = q + 1 := ⟨f - 1, by omega⟩
    have z250 := hT.2.1
    have i30 : ns_in (nI a) (ns_ln 30) := ns_inI (show a < 250 by omega) (by decide)
    obtain ⟨t1, t2⟩ := hT.2.2.2 a (by omega)
    have c4 := cs4 (t a)
    rw [g_Tape_nextToken_101, hT.2.2.1, h5, ite2_n (nI_ge (by omega) (by omega)), hT.1, rg_29_0, ev_drf, gk_30, grd_t i30, ns_ixI (by omega), t2, e_sortOf t1, ev_cl2, h3, rn]
    by_cases c : cs (t a) = s
    · rw [ite2_p (by rw [c]), h5, ev_bnd, ← nI_succ, if_pos c]
      obtain ⟨τ', e', s', p1, p2, p3⟩ := ih (a + 1) f (ns_pI τ 29 5 (nI (a + 1))) (by omega) (by omega) (hT.t3 (T3.pI (by decide))) (by rw [pI_st _ _ _ (by decide)]; exact h3) (pI_at _ _ _ _)
      exact ⟨τ', e', (T3.pI (by decide)).trans s', by rw [p1, pI_st _ _ _ (by decide)], p2, p3⟩
    · rw [ite2_n (fun e => c ((nI_eq (by omega) (by omega)).mp e)), if_neg c]
      exact ⟨τ, Eq.refl _, T3.rfl τ, Eq.refl _, h3, h5⟩
theorem e_nextToken {g1 g2 : Option Nat} {t : Nat → Nat} {z a : Nat} {τ : ns_St} (hT : tpC g1 g2 t z τ) (ha : a ≤ z) (h5 : τ.1 29 5 = nI a) : ∃ τ', g_Tape_nextToken τ 29 = some ((), τ') ∧ T3 τ τ' ∧ tcC τ' (kF t z a) (kS t z (kF t z a)) (kB t z (kF t z a)) := by
  have z250 := hT.2.1
  obtain ⟨S, eS, sS, pS⟩ := e_nt8 (t := t) (z - a) a ns_F (ns_pI τ 29 4 (nI a)) (by show _ < 10000; omega) (by omega) (hT.t3 (T3.pI (by decide))) (pI_at _ _ _ _)
  have kb := kF_b (t := t) ha
  have e0 : g_Tape_nextToken τ 29 = g_Tape_nextToken_46 S 29 := by
    unfold g_Tape_nextToken
    rw [gk_29, h5, ev_bnd, eS]
  rw [e0]
  have hS := (hT.t3 (T3.pI (k := 4) (v := nI a) (by decide))).t3 sS
  have fS : T3 τ S := (T3.pI (by decide)).trans sS
  have pS' : S.1 29 4 = nI (kF t z a) := pS
  generalize kF t z a = F at *
  -- 74
  have go74 : ∀ s : Nat, s = kS t z F → ∃ τ', g_Tape_nextToken_74 S 29 (nI s) 29 = some ((), τ') ∧ T3 τ τ' ∧ tcC τ' F (kS t z F) (kB t z F) := by
    intro s es
    have s4 : s ≤ 4 := by rw [es]; exact kS_b
    have U4 : (ns_pI S 29 3 (nI s)).1 29 4 = nI F := by rw [pI_st _ _ _ (by decide)]; exact pS'
    have V3 : (ns_pI (ns_pI S 29 3 (nI s)) 29 5 (nI F)).1 29 3 = nI s := by rw [pI_st _ _ _ (by decide), pI_at]
    have V4 : (ns_pI (ns_pI S 29 3 (nI s)) 29 5 (nI F)).1 29 4 = nI F := by rw [pI_st _ _ _ (by decide)]; exact U4
    have V5 : (ns_pI (ns_pI S 29 3 (nI s)) 29 5 (nI F)).1 29 5 = nI F := pI_at _ _ _ _
    have fV : T3 S (ns_pI (ns_pI S 29 3 (nI s)) 29 5 (nI F)) := (T3.pI (by decide)).trans (T3.pI (by decide))
    unfold g_Tape_nextToken_74
    rw [ev_bnd, U4, ev_bnd, V3]
    have hV := hS.t3 fV
    have fV' := fS.trans fV
    generalize ns_pI (ns_pI S 29 3 (nI s)) 29 5 (nI F) = V at *
    unfold kB
    rw [← es]
    by_cases c1 : s = 1 ∨ s = 2
    · obtain ⟨W, eW, fW, w4, w3, w5⟩ := e_nt101 (t := t) s4 (z - F) F ns_F V (by show _ < 10000; omega) (by omega) hV V3 V5
      refine ⟨W, ?_, fV'.trans fW, by rw [w4]; exact V4, w3, by rw [w5, if_pos c1]⟩
      rcases c1 with rfl | rfl
      · rw [ite2_p (by decide)]; exact eW
      · rw [ite2_n (by decide), ite2_p (by decide)]; exact eW
    · rw [if_neg c1, ite2_n (show ¬ nI s = (1 : Int32) from fun e => c1 (Or.inl ((nI_eq (b := 1) (by omega) (by decide)).mp e))), ite2_n (show ¬ nI s = (2 : Int32) from fun e => c1 (Or.inr ((nI_eq (b := 2) (by omega) (by decide)).mp e)))]
      by_cases c0 : s = 0
      · rw [ite2_p (by rw [c0]; rfl), if_pos c0]
        exact ⟨V, Eq.refl _, fV', V4, V3, V5⟩
      · rw [ite2_n (nI_ne0 (by omega) (by omega)), V5, ev_bnd, ← nI_succ, if_neg c0]
        exact ⟨_, Eq.refl _, fV'.trans (T3.pI (by decide)), by rw [pI_st _ _ _ (by decide)]; exact V4, by rw [pI_st _ _ _ (by decide)]; exact V3, pI_at _ _ _ _⟩
  unfold g_Tape_nextToken_46
  rw [hS.2.2.1, pS']
  by_cases c : F < z
  · have i30 : ns_in (nI F) (ns_ln 30) := ns_inI (show F < 250 by omega) (by decide)
    obtain ⟨t1, t2⟩ := hS.2.2.2 F c
    rw [ite2_n (nI_ge c (by omega)), hS.1, rg_29_0, ev_drf, gk_30, grd_t i30, ns_ixI (by omega), t2, e_sortOf t1, ev_cl2]
    exact go74 _ (by unfold kS; rw [if_pos c])
  · rw [ite2_p (nI_le (by omega) (by omega))]
    exact go74 0 (by unfold kS; rw [if_neg c])
/-! the reference's -/
def rs (s : Nat) : Int32 := if s = 4 then -1 else nI s
def dgt (t : Nat → Nat) (f : Nat) : Nat → Int32
  | 0 => 0
  | n + 1 => dgt t f n * 10 + nI (t (f + n)) - 48
def VAL (t : Nat → Nat) (f b : Nat) : Int32 := if b - f ≤ 2 then dgt t f (b - f) else 1000
def tcR (t : Nat → Nat) (ρ : ns_St) (f s b : Nat) : Prop := ρ.1 65 18 = nI f ∧ ρ.1 65 19 = rs s ∧ ρ.1 65 17 = nI b ∧ (s = 2 → ρ.1 65 20 = VAL t f b)
theorem e_nx0 {g1 g2 : Option Nat} {t : Nat → Nat} {z : Nat} : ∀ (r a f : Nat) (τ : ns_St), r < f → a + r = z → tpR g1 g2 t z τ → τ.1 65 17 = nI a → ∃ τ', g_M_next_0 f τ 65 = g_M_next_38 τ' 65 ∧ R3 τ τ' ∧ τ'.1 65 17 = nI (sk t r a) := by
  intro r
  induction r with
  | zero =>
    intro a f τ hf ha hT h4
    obtain ⟨f, rfl⟩ : ∃ q, f = q + 1 := ⟨f - 1, by omega⟩
    have z250 := hT.2.1
    refine ⟨τ, ?_, R3.rfl τ, h4⟩
    rw [g_M_next_0, hT.2.2.1, h4, ite2_p (nI_le (by omega) (by omega))]
  | succ r ih =>
    intro a f τ hf ha hT h4
    obtain ⟨f, rfl⟩ : ∃ q, f = q + 1 := ⟨f - 1, by omega⟩
    have z250 := hT.2.1
    have i76 : ns_in (nI a) (ns_ln 76) := ns_inI (show a < 250 by omega) (by decide)
    obtain ⟨t1, t2⟩ := hT.2.2.2 a (by omega)
    rw [g_M_next_0, hT.2.2.1, h4, ite2_n (nI_ge (by omega) (by omega)), hT.1, rg_65_16, ev_drf, gk_76, grd_t i76, ns_ixI (by omega), t2, sk]
    by_cases c : t a = 32
    · rw [ite2_p (by rw [c]; rfl), ev_bnd, ← nI_succ, if_pos c]
      obtain ⟨τ', e', s', p'⟩ := ih (a + 1) f (ns_pI τ 65 17 (nI (a + 1))) (by omega) (by omega) (hT.r3 (R3.pI (by decide))) (pI_at _ _ _ _)
      exact ⟨τ', e', (R3.pI (by decide)).trans s', p'⟩
    · rw [ite2_n (show ¬ nI (t a) = (32 : Int32) from fun e => c ((nI_eq (b := 32) (by omega) (by decide)).mp e)), if_neg c]
      exact ⟨τ, Eq.refl _, R3.rfl τ, h4⟩
theorem e_nx85 {g1 g2 : Option Nat} {t : Nat → Nat} {z : Nat} : ∀ (r a f : Nat) (τ : ns_St), r < f → a + r = z → tpR g1 g2 t z τ → τ.1 65 17 = nI a → ∃ τ', g_M_next_85 f τ 65 = some ((), τ') ∧ R3 τ τ' ∧ τ'.1 65 18 = τ.1 65 18 ∧ τ'.1 65 19 = τ.1 65 19 ∧ τ'.1 65 17 = nI (rn t 1 r a) := by
  intro r
  induction r with
  | zero =>
    intro a f τ hf ha hT h5
    obtain ⟨f, rfl⟩ : ∃ q, f = q + 1 := ⟨f - 1, by omega⟩
    have z250 := hT.2.1
    refine ⟨τ, ?_, R3.rfl τ, Eq.refl _, Eq.refl _, h5⟩
    rw [g_M_next_85, hT.2.2.1, h5, ite2_p (nI_le (by omega) (by omega))]
  | succ r ih =>
    intro a f τ hf ha hT h5
    obtain ⟨f, rfl⟩ : ∃ q, f = q + 1 := ⟨f - 1, by omega⟩
    have z250 := hT.2.1
    have i76 : ns_in (nI a) (ns_ln 76) := ns_inI (show a < 250 by omega) (by decide)
    obtain ⟨t1, t2⟩ := hT.2.2.2 a (by omega)
    rw [g_M_next_85, hT.2.2.1, h5, ite2_n (nI_ge (by omega) (by omega)), hT.1, rg_65_16, ev_drf, gk_76, grd_t i76, ns_ixI (by omega), t2, e_isLetter t1, ev_cl2, rn]
    by_cases c : cs (t a) = 1
    · rw [ite2_y c, h5, ev_bnd, ← nI_succ, if_pos c]
      obtain ⟨τ', e', s', p1, p2, p3⟩ := ih (a + 1) f (ns_pI τ 65 17 (nI (a + 1))) (by omega) (by omega) (hT.r3 (R3.pI (by decide))) (pI_at _ _ _ _)
      exact ⟨τ', e', (R3.pI (by decide)).trans s', by rw [p1, pI_st _ _ _ (by decide)], by rw [p2, pI_st _ _ _ (by decide)], p3⟩
    · rw [ite2_z c, if_neg c]
      exact ⟨τ, Eq.refl _, R3.rfl τ, Eq.refl _, Eq.refl _, h5⟩
theorem e_nx141 {g1 g2 : Option Nat} {t : Nat → Nat} {z F : Nat} : ∀ (r a f : Nat) (τ : ns_St), r < f → a + r = z → F ≤ a → tpR g1 g2 t z τ → τ.1 65 17 = nI a → τ.1 65 18 = nI F → (a - F ≤ 3 → τ.1 65 20 = dgt t F (a - F)) → ∃ τ', g_M_next_141 f τ 65 = some ((), τ') ∧ R3 τ τ' ∧ τ'.1 65 18 = nI F ∧ τ'.1 65 19 = τ.1 65 19 ∧ τ'.1 65 17 = nI (rn t 2 r a) ∧ τ'.1 65 20 = VAL t F (rn t 2 r a) := by
  have fin : ∀ (a : Nat) (τ : ns_St), a ≤ 250 → F ≤ a → τ.1 65 17 = nI a → τ.1 65 18 = nI F → (a - F ≤ 3 → τ.1 65 20 = dgt t F (a - F)) → ∃ τ', g_M_next_217 τ 65 = some ((), τ') ∧ R3 τ τ' ∧ τ'.1 65 18 = nI F ∧ τ'.1 65 19 = τ.1 65 19 ∧ τ'.1 65 17 = nI a ∧ τ'.1 65 20 = VAL t F a := by
    intro a τ h1 h2 h3 h4 h5
    unfold g_M_next_217 VAL
    rw [h3, h4, nsub h2]
    by_cases c : a - F ≤ 2
    · rw [ite2_p (show nI (a - F) ≤ (2 : Int32) from nI_le (b := 2) c (by decide)), if_pos c]
      exact ⟨τ, Eq.refl _, R3.rfl τ, h4, Eq.refl _, h3, h5 (by omega)⟩
    · rw [ite2_n (show ¬ nI (a - F) ≤ (2 : Int32) from nI_ge (a := 2) (by omega) (by omega)), ev_bnd, if_neg c]
      exact ⟨_, Eq.refl _, R3.pI (by decide), by rw [pI_st _ _ _ (by decide)]; exact h4, pI_st _ _ _ (by decide), by rw [pI_st _ _ _ (by decide)]; exact h3, pI_at _ _ _ _⟩
  intro r
  induction r with
  | zero =>
    intro a f τ hf ha hF hT h17 h18 h20
    obtain ⟨f, rfl⟩ : ∃ q, f = q + 1 := ⟨f - 1, by omega⟩
    have z250 := hT.2.1
    rw [g_M_next_141, hT.2.2.1, h17, ite2_p (nI_le (by omega) (by omega))]
    exact fin a τ (by omega) hF h17 h18 h20
  | succ r ih =>
    intro a f τ hf ha hF hT h17 h18 h20
    obtain ⟨f, rfl⟩ : ∃ q, f = q + 1 := ⟨f - 1, by omega⟩
    have z250 := hT.2.1
    have i76 : ns_in (nI a) (ns_ln 76) := ns_inI (show a < 250 by omega) (by decide)
    obtain ⟨t1, t2⟩ := hT.2.2.2 a (by omega)
    rw [g_M_next_141, hT.2.2.1, h17, ite2_n (nI_ge (by omega) (by omega)), hT.1, rg_65_16, ev_drf, gk_76, grd_t i76, ns_ixI (by omega), t2, e_isDigit t1, ev_cl2, rn]
    by_cases c : cs (t a) = 2
    · rw [ite2_y c, h17, h18, nsub hF, if_pos c]
      by_cases c3 : 3 ≤ a - F
      · rw [ite2_p (show (3 : Int32) ≤ nI (a - F) from nI_le (a := 3) c3 (by omega))]
        unfold g_M_next_204
        rw [h17, ev_bnd, ← nI_succ]
        obtain ⟨τ', e', s', p1, p2, p3, p4⟩ := ih (a + 1) f (ns_pI τ 65 17 (nI (a + 1))) (by omega) (by omega) (by omega) (hT.r3 (R3.pI (by decide))) (pI_at _ _ _ _) (by rw [pI_st _ _ _ (by decide)]; exact h18) (fun q => absurd q (by omega))
        exact ⟨τ', e', (R3.pI (by decide)).trans s', p1, by rw [p2, pI_st _ _ _ (by decide)], p3, p4⟩
      · rw [ite2_n (show ¬ (3 : Int32) ≤ nI (a - F) from nI_ge (b := 3) (by omega) (by decide)), hT.1, rg_65_16, ev_drf, gk_76, grd_t i76, ns_ixI (show a < 2 ^ 31 by omega), t2, ev_bnd]
        unfold g_M_next_204
        rw [show (ns_pI τ 65 20 ((10 : Int32) * τ.1 65 20 + nI (t a) - 48)).1 65 17 = nI a by rw [pI_st _ _ _ (by decide)]; exact h17, ev_bnd, ← nI_succ]
        have fr : R3 τ (ns_pI (ns_pI τ 65 20 ((10 : Int32) * τ.1 65 20 + nI (t a) - 48)) 65 17 (nI (a + 1))) := (R3.pI (by decide)).trans (R3.pI (by decide))
        obtain ⟨τ', e', s', p1, p2, p3, p4⟩ := ih (a + 1) f _ (by omega) (by omega) (by omega) (hT.r3 fr) (pI_at _ _ _ _) (by rw [pI_st _ _ _ (by decide), pI_st _ _ _ (by decide)]; exact h18) (fun q => by
          rw [pI_st _ _ _ (by decide), pI_at, h20 (by omega), show a + 1 - F = a - F + 1 by omega, dgt, show F + (a - F) = a by omega, Int32.mul_comm])
        exact ⟨τ', e', fr.trans s', p1, by rw [p2, pI_st _ _ _ (by decide), pI_st _ _ _ (by decide)], p3, p4⟩
    · rw [ite2_z c, if_neg c]
      exact fin a τ (by omega) hF h17 h18 h20
theorem e_next {g1 g2 : Option Nat} {t : Nat → Nat} {z a : Nat} {ρ : ns_St} (hT : tpR g1 g2 t z ρ) (ha : a ≤ z) (h17 : ρ.1 65 17 = nI a) : ∃ ρ', g_M_next ρ 65 = some ((), ρ') ∧ R3 ρ ρ' ∧ tcR t ρ' (kF t z a) (kS t z (kF t z a)) (kB t z (kF t z a)) := by
  have z250 := hT.2.1
  obtain ⟨S, eS, sS, pS⟩ := e_nx0 (t := t) (z - a) a ns_F ρ (by show _ < 10000; omega) (by omega) hT h17
  have kb := kF_b (t := t) ha
  have e0 : g_M_next ρ 65 = g_M_next_38 S 65 := by
    unfold g_M_next
    rw [gk_65, eS]
  rw [e0]
  have hS := hT.r3 sS
  have pS' : S.1 65 17 = nI (kF t z a) := pS
  generalize kF t z a = F at *
  have fU : R3 ρ (ns_pI S 65 18 (nI F)) := sS.trans (R3.pI (by decide))
  have hU := hT.r3 fU
  have U18 : (ns_pI S 65 18 (nI F)).1 65 18 = nI F := pI_at _ _ _ _
  have U17 : (ns_pI S 65 18 (nI F)).1 65 17 = nI F := by rw [pI_st _ _ _ (by decide)]; exact pS'
  unfold g_M_next_38
  rw [pS', ev_bnd]
  generalize ns_pI S 65 18 (nI F) = U at *
  rw [U17, hU.2.2.1]
  by_cases c : F < z
  · have i76 : ns_in (nI F) (ns_ln 76) := ns_inI (show F < 250 by omega) (by decide)
    obtain ⟨t1, t2⟩ := hU.2.2.2 F c
    have ek : kS t z F = cs (t F) := by unfold kS; rw [if_pos c]
    rw [ite2_n (fun e => by have := (nI_eq (by omega) (by omega)).mp e; omega), hU.1, rg_65_16, ev_drf, gk_76, grd_t i76, ns_ixI (by omega), ev_bnd, t2, e_isLetter t1, ev_cl2]
    unfold kB
    rw [ek]
    by_cases c1 : cs (t F) = 1
    · obtain ⟨W, eW, fW, w18, w19, w17⟩ := e_nx85 (t := t) (z - F) F ns_F (ns_pI U 65 19 1) (by show _ < 10000; omega) (by omega) (hU.r3 (R3.pI (by decide))) (by rw [pI_st _ _ _ (by decide)]; exact U17)
      refine ⟨W, ?_, (fU.trans (R3.pI (by decide))).trans fW, by rw [w18, pI_st _ _ _ (by decide)]; exact U18, by rw [w19, pI_at, c1]; rfl, by rw [w17, c1]; rfl, fun q => by omega⟩
      rw [ite2_y c1, ev_bnd]
      exact eW
    · rw [ite2_z c1, e_isDigit t1, ev_cl2]
      by_cases c2 : cs (t F) = 2
      · obtain ⟨W, eW, fW, w18, w19, w17, w20⟩ := e_nx141 (t := t) (F := F) (z - F) F ns_F (ns_pI (ns_pI U 65 19 2) 65 20 0) (by show _ < 10000; omega) (by omega) (Nat.le_refl _) (hU.r3 ((R3.pI (by decide)).trans (R3.pI (by decide)))) (by rw [pI_st _ _ _ (by decide), pI_st _ _ _ (by decide)]; exact U17) (by rw [pI_st _ _ _ (by decide), pI_st _ _ _ (by decide)]; exact U18) (fun _ => by rw [pI_at, Nat.sub_self]; rfl)
        refine ⟨W, ?_, (fU.trans ((R3.pI (by decide)).trans (R3.pI (by decide)))).trans fW, w18, by rw [w19, pI_st _ _ _ (by decide), pI_at, c2]; rfl, by rw [w17, c2]; rfl, fun _ => by rw [w20, c2]; rfl⟩
        rw [ite2_y c2, ev_bnd, ev_bnd]
        exact eW
      · rw [ite2_z c2, if_neg (by omega)]
        have c4 := cs4 (t F)
        rw [if_neg (by omega)]
        have fin : ∀ x : Int32, x = rs (cs (t F)) → ∃ ρ', g_M_next_252 U 65 x 65 = some ((), ρ') ∧ R3 ρ ρ' ∧ tcR t ρ' F (cs (t F)) (F + 1) := by
          intro x ex
          unfold g_M_next_252
          rw [ev_bnd, show (ns_pI U 65 19 x).1 65 17 = nI F by rw [pI_st _ _ _ (by decide)]; exact U17, ev_bnd, ← nI_succ]
          exact ⟨_, Eq.refl _, fU.trans ((R3.pI (by decide)).trans (R3.pI (by decide))), by rw [pI_st _ _ _ (by decide), pI_st _ _ _ (by decide)]; exact U18, by rw [pI_st _ _ _ (by decide), pI_at, ex], pI_at _ _ _ _, fun q => absurd q c2⟩
        by_cases c3 : t F = 59
        · rw [ite2_p (by rw [c3]; rfl)]
          exact fin 3 (by rw [c3]; rfl)
        · rw [ite2_n (show ¬ nI (t F) = (59 : Int32) from fun e => c3 ((nI_eq (b := 59) (by omega) (by decide)).mp e))]
          refine fin (-1) ?_
          have : cs (t F) = 4 := by
            unfold cs at c1 c2 ⊢
            split at c1
            · omega
            · rename_i q; rw [if_neg q] at c2 ⊢
              split at c2
              · omega
              · rename_i q2; rw [if_neg q2, if_neg c3]
          rw [this]; rfl
  · have hF : F = z := by omega
    have ek : kS t z F = 0 := by unfold kS; rw [if_neg c]
    rw [ite2_p (by rw [hF]), ev_bnd]
    unfold kB
    rw [ek, if_neg (by omega), if_pos rfl]
    exact ⟨_, Eq.refl _, fU.trans (R3.pI (by decide)), by rw [pI_st _ _ _ (by decide)]; exact U18, by rw [pI_at]; rfl, by rw [pI_st _ _ _ (by decide)]; exact U17, fun q => by omega⟩
