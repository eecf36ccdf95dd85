/-! PASS: words and numbers -/
def wL (w : Nat) : Nat := ns_sL.getD w 0
def wC (w i : Nat) : Int32 := (ns_sB.getD w []).getD i 0
theorem wL_b : ∀ w, w < 8 → 0 < wL w ∧ wL w ≤ 6 := by decide +kernel
theorem wC_b : ∀ w, w < 8 → ∀ i, i < 6 → (((wC w i &&& (255 : Int32)).toUInt32 % 65536).toInt32 = wC w i ∧ ((wC w i).toUInt32 % 65536).toInt32 = wC w i) := by decide +kernel
theorem wL_sh : ∀ w, w < 8 → (Int32.ofNat (ns_sL.getD w 0)) >>> ((0 : Int32) &&& 31) = nI (wL w) := by decide +kernel
theorem e_strlen {σ : ns_St} {w : Nat} (hw : w < 8) : g_String_length σ w = some (nI (wL w), σ) := by
  unfold g_String_length g_String_coder
  rw [grd_t hw, ev_bnd, grd_t hw, ite2_n (by decide), ev_cl2, wL_sh w hw]
theorem e_charAt {σ : ns_St} {w i : Nat} (hw : w < 8) (hi : i < wL w) : g_String_charAt σ w (nI i) = some (wC w i, σ) := by
  have b := wL_b w hw
  have c := wC_b w hw i (by omega)
  have hin : ns_in (nI i) (ns_sL.getD w 0) := ns_inI (show i < wL w from hi) (by show wL w < _; omega)
  have ixe : (ns_sB.getD w []).getD (ns_ix (nI i)) 0 = wC w i := by rw [ns_ixI (by omega)]; rfl
  unfold g_String_charAt g_String_isLatin1
  rw [grd_t hw, grd_t hw, ite2_n (by decide), ite2_p (Eq.refl _), ev_cl2, ite2_n (by decide)]
  unfold g_StringLatin1_charAt g_String_checkIndex g_Preconditions_checkIndex
  rw [grd_t hw, ev_bnd, ite2_n (nI_pos (by omega)), ite2_p (show nI i < Int32.ofNat (ns_sL.getD w 0) from nI_lt (b := wL w) hi (by omega)), ev_cl2, ev_cl2, grd_t hin, ixe, c.1, ev_bnd, grd_t c.2, ev_cl2, grd_t c.2]
def wch (t : Nat → Nat) (f w : Nat) : Nat → Nat → Bool
  | 0, _ => true
  | r + 1, i => decide (nI (t (f + i)) = wC w i) && wch t f w r (i + 1)
def wd (t : Nat → Nat) (f s b w : Nat) : Bool := decide (s = 1) && (decide (b - f = wL w) && wch t f w (wL w) 0)
theorem e_iw28 {g1 g2 : Option Nat} {t : Nat → Nat} {z f w : Nat} {τ : ns_St} (hT : tpC g1 g2 t z τ) (hw : w < 8) (h4 : τ.1 29 4 = nI f) (hb : f + wL w ≤ z) : ∀ (r i u : Nat), r < u → i + r = wL w → g_Tape_isWord_28 u τ 29 w (nI i) = some (yn (wch t f w r i = true), τ) := by
  have z250 := hT.2.1
  have wb := wL_b w hw
  intro r
  induction r with
  | zero =>
    intro i u hu hi
    obtain ⟨u, rfl⟩ : ∃ q, u = q + 1 := ⟨u - 1, by omega⟩
    rw [g_Tape_isWord_28, e_strlen hw, ev_cl2, ite2_p (nI_le (by omega) (by omega)), yn_t (by rfl)]
  | succ r ih =>
    intro i u hu hi
    obtain ⟨u, rfl⟩ : ∃ q, u = q + 1 := ⟨u - 1, by omega⟩
    have i30 : ns_in (nI (f + i)) (ns_ln 30) := ns_inI (show f + i < 250 by omega) (by decide)
    obtain ⟨t1, t2⟩ := hT.2.2.2 (f + i) (by omega)
    rw [g_Tape_isWord_28, e_strlen hw, ev_cl2, ite2_n (nI_ge (by omega) (by omega)), h4, nI_add, ite2_n (show ¬ (250 : Int32) ≤ nI (f + i) from nI_ge (b := 250) (by omega) (by decide)), hT.1, rg_29_0, ev_drf, gk_30, grd_t i30, ns_ixI (by omega), e_charAt hw (by omega), ev_cl2, t2, wch]
    by_cases c : nI (t (f + i)) = wC w i
    · rw [ite2_p c, ev_bnd, ← nI_succ, ih (i + 1) u (by omega) (by omega), decide_eq_true c, Bool.true_and]
    · rw [ite2_n c, decide_eq_false c, Bool.false_and, yn_f (by decide)]
theorem e_isWordC {g1 g2 : Option Nat} {t : Nat → Nat} {z f s b w : Nat} {τ : ns_St} (hT : tpC g1 g2 t z τ) (hw : w < 8) (hC : tcC τ f s b) (hfb : f ≤ b) (hb : b ≤ z) (hs : s ≤ 4) : g_Tape_isWord τ 29 w = some (yn (wd t f s b w = true), τ) := by
  have z250 := hT.2.1
  have wb := wL_b w hw
  unfold g_Tape_isWord wd
  rw [gk_29, grd_t hw, hC.1, hC.2.1, hC.2.2, nsub hfb]
  by_cases c : s = 1
  · rw [ite2_p (by rw [c]; rfl), e_strlen hw, ev_cl2, decide_eq_true c, Bool.true_and]
    by_cases d : b - f = wL w
    · have := e_iw28 hT hw hC.1 (by omega) (wL w) 0 ns_F (by show _ < 10000; omega) (by omega)
      rw [ite2_p (by rw [d]), decide_eq_true d, Bool.true_and]
      exact this
    · rw [ite2_n (fun e => d ((nI_eq (by omega) (by omega)).mp e)), decide_eq_false d, Bool.false_and, yn_f (by decide)]
  · rw [ite2_n (show ¬ nI s = (1 : Int32) from fun e => c ((nI_eq (b := 1) (by omega) (by decide)).mp e)), decide_eq_false c, Bool.false_and, yn_f (by decide)]
theorem e_iwM28 {g1 g2 : Option Nat} {t : Nat → Nat} {z f w : Nat} {τ : ns_St} (hT : tpR g1 g2 t z τ) (hw : w < 8) (h4 : τ.1 65 18 = nI f) (hb : f + wL w ≤ z) : ∀ (r i u : Nat), r < u → i + r = wL w → g_M_isWord_28 u τ 65 w (nI i) = some (yn (wch t f w r i = true), τ) := by
  have z250 := hT.2.1
  have wb := wL_b w hw
  intro r
  induction r with
  | zero =>
    intro i u hu hi
    obtain ⟨u, rfl⟩ : ∃ q, u = q + 1 := ⟨u - 1, by omega⟩
    rw [g_M_isWord_28, e_strlen hw, ev_cl2, ite2_p (nI_le (by omega) (by omega)), yn_t (by rfl)]
  | succ r ih =>
    intro i u hu hi
    obtain ⟨u, rfl⟩ : ∃ q, u = q + 1 := ⟨u - 1, by omega⟩
    have i76 : ns_in (nI (f + i)) (ns_ln 76) := ns_inI (show f + i < 250 by omega) (by decide)
    obtain ⟨t1, t2⟩ := hT.2.2.2 (f + i) (by omega)
    rw [g_M_isWord_28, e_strlen hw, ev_cl2, ite2_n (nI_ge (by omega) (by omega)), hT.1, rg_65_16, ev_drf, gk_76, h4, nI_add, grd_t i76, ns_ixI (by omega), e_charAt hw (by omega), ev_cl2, t2, wch]
    by_cases c : nI (t (f + i)) = wC w i
    · rw [ite2_p c, ev_bnd, ← nI_succ, ih (i + 1) u (by omega) (by omega), decide_eq_true c, Bool.true_and]
    · rw [ite2_n c, decide_eq_false c, Bool.false_and, yn_f (by decide)]
theorem rs_1 {s : Nat} (hs : s ≤ 4) : (rs s = 1 ↔ s = 1) ∧ (rs s = 2 ↔ s = 2) ∧ (rs s = 0 ↔ s = 0) ∧ (rs s = 3 ↔ s = 3) := by
  rcases (by omega : s = 0 ∨ s = 1 ∨ s = 2 ∨ s = 3 ∨ s = 4) with rfl | rfl | rfl | rfl | rfl <;> decide
theorem e_isWordM {g1 g2 : Option Nat} {t : Nat → Nat} {z f s b w : Nat} {τ : ns_St} (hT : tpR g1 g2 t z τ) (hw : w < 8) (hC : tcR t τ f s b) (hfb : f ≤ b) (hb : b ≤ z) (hs : s ≤ 4) : g_M_isWord τ 65 w = some (yn (wd t f s b w = true), τ) := by
  have z250 := hT.2.1
  have wb := wL_b w hw
  unfold g_M_isWord wd
  rw [gk_65, grd_t hw, hC.1, hC.2.1, hC.2.2.1, nsub hfb]
  by_cases c : s = 1
  · rw [ite2_p ((rs_1 hs).1.mpr c), e_strlen hw, ev_cl2, decide_eq_true c, Bool.true_and]
    by_cases d : b - f = wL w
    · have := e_iwM28 hT hw hC.1 (by omega) (wL w) 0 ns_F (by show _ < 10000; omega) (by omega)
      rw [ite2_p (by rw [d]), decide_eq_true d, Bool.true_and]
      exact this
    · rw [ite2_n (fun e => d ((nI_eq (by omega) (by omega)).mp e)), decide_eq_false d, Bool.false_and, yn_f (by decide)]
  · rw [ite2_n (fun e => c ((rs_1 hs).1.mp e)), decide_eq_false c, Bool.false_and, yn_f (by decide)]
/-! numbers -/
def okN (t : Nat → Nat) (f s b lo hi : Nat) : Prop := s = 2 ∧ nI lo ≤ VAL t f b ∧ VAL t f b ≤ nI hi
theorem okN.n {t : Nat → Nat} {f s b lo hi : Nat} (h : okN t f s b lo hi) (hh : hi < 1000) (hl : lo < 1000) : ∃ n, lo ≤ n ∧ n ≤ hi ∧ VAL t f b = nI n := by
  obtain ⟨j, h1, h2⟩ := ns_rng (x := VAL t f b) (n := hi) (by omega) ⟨Int32.le_trans (nI_pos' (by omega)) h.2.1, h.2.2⟩
  exact ⟨j, (nI_leI (by omega) (by omega)).mp (by rw [← h2]; exact h.2.1), h1, h2⟩
theorem e_nr7 {g1 g2 : Option Nat} {t : Nat → Nat} {z f s b : Nat} {τ : ns_St} (hT : tpC g1 g2 t z τ) (hC : tcC τ f s b) (hb : b ≤ z) : ∀ (r i u : Nat), r < u → f + i + r = b → g_Tape_numberRead_7 u τ 29 (dgt t f i) (nI (f + i)) = some (dgt t f (i + r), τ) := by
  have z250 := hT.2.1
  intro r
  induction r with
  | zero =>
    intro i u hu hi
    obtain ⟨u, rfl⟩ : ∃ q, u = q + 1 := ⟨u - 1, by omega⟩
    rw [g_Tape_numberRead_7, hC.2.2, ite2_p (nI_le (by omega) (by omega))]; rfl
  | succ r ih =>
    intro i u hu hi
    obtain ⟨u, rfl⟩ : ∃ q, u = q + 1 := ⟨u - 1, by omega⟩
    have i30 : ns_in (nI (f + i)) (ns_ln 30) := ns_inI (show f + i < 250 by omega) (by decide)
    obtain ⟨t1, t2⟩ := hT.2.2.2 (f + i) (by omega)
    rw [g_Tape_numberRead_7, hC.2.2, ite2_n (nI_ge (by omega) (by omega)), ite2_n (show ¬ (250 : Int32) ≤ nI (f + i) from nI_ge (b := 250) (by omega) (by decide)), hT.1, rg_29_0, ev_drf, gk_30, grd_t i30, ns_ixI (by omega), t2, ev_bnd, ev_bnd, ← nI_succ]
    have := ih (i + 1) u (by omega) (by omega)
    rw [show i + 1 + r = i + (r + 1) by omega] at this
    exact this
theorem e_take {g1 g2 : Option Nat} {t : Nat → Nat} {z f s b lo hi : Nat} {τ : ns_St} (hT : tpC g1 g2 t z τ) (hC : tcC τ f s b) (hfb : f ≤ b) (hb : b ≤ z) (hs : s ≤ 4) (h2 : τ.1 29 2 = -1) (hl : lo < 1000) (hh : hi < 1000) : (okN t f s b lo hi ∧ ∃ τ', g_Tape_takeNumber τ 29 (nI lo) (nI hi) = some (VAL t f b, τ') ∧ T3 τ τ' ∧ tcC τ' (kF t z b) (kS t z (kF t z b)) (kB t z (kF t z b))) ∨ (¬ okN t f s b lo hi ∧ g_Tape_takeNumber τ 29 (nI lo) (nI hi) = some (nI lo, ns_pI τ 29 2 (nI f))) := by
  have z250 := hT.2.1
  have e39 : ∀ v : Int32, ((nI lo ≤ v ∧ v ≤ nI hi) ∧ ∃ τ', g_Tape_takeNumber_39 τ v 29 (nI lo) (nI hi) = some (v, τ') ∧ T3 τ τ' ∧ tcC τ' (kF t z b) (kS t z (kF t z b)) (kB t z (kF t z b))) ∨ (¬ (nI lo ≤ v ∧ v ≤ nI hi) ∧ g_Tape_takeNumber_39 τ v 29 (nI lo) (nI hi) = some (nI lo, ns_pI τ 29 2 (nI f))) := fun v => by
    unfold g_Tape_takeNumber_39
    by_cases c : nI lo ≤ v ∧ v ≤ nI hi
    · left
      obtain ⟨τ', e', s', c'⟩ := e_nextToken hT hb hC.2.2
      refine ⟨c, τ', ?_, s', c'⟩
      rw [e_isWithin, ev_cl2, ite2_y c, e', ev_cl2]
    · right
      refine ⟨c, ?_⟩
      rw [e_isWithin, ev_cl2, ite2_z c, hC.1, ev_bnd]
  have m1 : ¬ (nI lo ≤ (-1 : Int32) ∧ (-1 : Int32) ≤ nI hi) := fun q => absurd (Int32.le_trans (nI_pos' (show lo < 2 ^ 31 by omega)) q.1) (by decide)
  have e38 : g_Tape_takeNumber_38 τ 29 (nI lo) (nI hi) = some (nI lo, ns_pI τ 29 2 (nI f)) := by
    unfold g_Tape_takeNumber_38
    rcases e39 (-1) with ⟨q, _⟩ | ⟨_, q⟩
    · exact absurd q m1
    · exact q
  unfold g_Tape_takeNumber
  rw [gk_29, h2, ite2_p (Eq.refl _), hC.2.1, hC.2.2, hC.1, nsub hfb]
  by_cases c : s = 2
  · rw [ite2_p (show nI s = (2 : Int32) by rw [c]; rfl)]
    by_cases d : b - f ≤ 2
    · have nr : g_Tape_numberRead τ 29 = some (VAL t f b, τ) := by
        unfold g_Tape_numberRead VAL
        have := e_nr7 hT hC hb (b - f) 0 ns_F (by show _ < 10000; omega) (by omega)
        rw [Nat.zero_add] at this
        rw [gk_29, hC.1, ev_bnd, if_pos d]
        exact this
      rw [ite2_n (show ¬ (2 : Int32) < nI (b - f) from nI_nlt (a := 2) d (by decide)), nr, ev_cl2]
      rcases e39 (VAL t f b) with ⟨q1, q2⟩ | ⟨q1, q2⟩
      · exact Or.inl ⟨⟨c, q1⟩, q2⟩
      · exact Or.inr ⟨fun q => q1 q.2, q2⟩
    · rw [ite2_p (show (2 : Int32) < nI (b - f) from nI_lt (a := 2) (by omega) (by omega)), e38]
      refine Or.inr ⟨fun q => ?_, Eq.refl _⟩
      have := q.2.2
      unfold VAL at this
      rw [if_neg d] at this
      exact absurd this (show ¬ (1000 : Int32) ≤ nI hi from nI_ge (b := 1000) (by omega) (by decide))
  · rw [ite2_n (show ¬ nI s = (2 : Int32) from fun e => c ((nI_eq (b := 2) (by omega) (by decide)).mp e)), e38]
    exact Or.inr ⟨fun q => c q.1, Eq.refl _⟩
theorem e_takeF {lo hi : Int32} {τ : ns_St} (h2 : ¬ τ.1 29 2 = -1) : g_Tape_takeNumber τ 29 lo hi = some (lo, τ) := by
  unfold g_Tape_takeNumber
  rw [gk_29, ite2_n h2]
theorem e_number {g1 g2 : Option Nat} {t : Nat → Nat} {z a lo hi : Nat} {ρ : ns_St} (hT : tpR g1 g2 t z ρ) (ha : a ≤ z) (h17 : ρ.1 65 17 = nI a) : ∃ ρ', g_M_number ρ 65 (nI lo) (nI hi) = some (yn (kS t z (kF t z a) = 2 ∧ nI lo ≤ VAL t (kF t z a) (kB t z (kF t z a)) ∧ VAL t (kF t z a) (kB t z (kF t z a)) ≤ nI hi), ρ') ∧ R3 ρ ρ' ∧ tcR t ρ' (kF t z a) (kS t z (kF t z a)) (kB t z (kF t z a)) := by
  obtain ⟨ρ', e, s, c⟩ := e_next hT ha h17
  refine ⟨ρ', ?_, s, c⟩
  have hs := kS_b (t := t) (z := z) (f := kF t z a)
  unfold g_M_number
  rw [gk_65, e, ev_cl2, c.2.1]
  by_cases d : kS t z (kF t z a) = 2
  · rw [ite2_p ((rs_1 hs).2.1.mpr d), c.2.2.2 d, e_within, ev_cl2]
    by_cases q : nI lo ≤ VAL t (kF t z a) (kB t z (kF t z a)) ∧ VAL t (kF t z a) (kB t z (kF t z a)) ≤ nI hi
    · rw [ite2_y q, yn_t ⟨d, q⟩]
    · rw [ite2_z q, yn_f (fun w => q w.2)]
  · rw [ite2_n (fun e => d ((rs_1 hs).2.1.mp e)), yn_f (fun w => d w.1)]
