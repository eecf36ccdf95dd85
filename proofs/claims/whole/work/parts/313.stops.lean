theorem m1_cases (x : Int32) : ¬ (-1 : Int32) ≤ x ∨ ((-1 : Int32) ≤ x ∧ x = -1) ∨ ((-1 : Int32) ≤ x ∧ ¬ x = -1 ∧ ∃ i, i < 2 ^ 31 ∧ x = nI i) := by
  by_cases h : (-1 : Int32) ≤ x
  · by_cases h1 : x = -1
    · exact Or.inr (Or.inl ⟨h, h1⟩)
    · refine Or.inr (Or.inr ⟨h, h1, nI_of (fun h0 => h1 ?_)⟩)
      have a := Int32.le_iff_toInt_le.mp h
      have b := Int32.lt_iff_toInt_lt.mp h0
      apply Int32.toInt_inj.mp
      rw [show (-1 : Int32).toInt = -1 from rfl] at *
      rw [show (0 : Int32).toInt = 0 from rfl] at b
      omega
  · exact Or.inl h
theorem nI_nm1 {n : Nat} (h : n < 2 ^ 31) : ¬ nI n = -1 := fun e => absurd (nI_pos' h) (by rw [e]; decide)
theorem Same.torfM {a b : ns_St} (h : Same a b) {z : Nat} : Same (rfM a z) (rfM b z) := by
  have e : b.1 77 = a.1 77 := h.mi (by omega)
  refine ⟨fun x hx h65 => ?_, fun k hk => ?_, h.2.2.1, h.2.2.2⟩
  · by_cases q : x = 77
    · subst q
      show va_up b.1 77 (va_up (b.1 77) (z + 2) (b.1 77 (z + 2) + 1)) 77 = va_up a.1 77 (va_up (a.1 77) (z + 2) (a.1 77 (z + 2) + 1)) 77
      rw [va_up_self, va_up_self, e]
    · rw [rfM, rfM, pI_ne _ _ _ q, pI_ne _ _ _ q]; exact h.1 x hx h65
  · rw [rfM, rfM, pI_ne _ _ _ (by decide), pI_ne _ _ _ (by decide)]; exact h.2.1 k hk
/-- a refusal that comes late -/
theorem both.late {B : Nat} {σ : ns_St} (h : Inv B σ) {τ τ2 : ns_St} (s1 : Same σ τ) {z : Nat} (hz : z < 5) {c : Int32} (h1 : (-2 : Int32) - c = nI z) (h2 : -c = nI (z + 2)) {x : Option (Int32 × ns_St)} {y : ns_St → Option (Int32 × ns_St)} (hx : x = cl2 (g_N_refuse τ 0 c) fun r σ' => some (r, σ')) (hy : y (rfN τ z) = cl2 (g_M_no τ2 65 c) fun r σ' => some (r, σ')) (s2 : Same (rfN τ z) τ2) : both B x y := by
  have hi := h.same s1
  obtain ⟨g1, g2, hR⟩ := hi.1
  obtain ⟨g3, g4, hR2⟩ := s2.2.2.2 ⟨g1, g2, hR⟩
  refine ⟨c, rfN τ z, rfM τ2 z, ?_, ?_, (hi.refuse hz).same s2.torfM⟩
  · rw [hx, e_refuse hR z c h1 hz, ev_cl2]
  · rw [hy, e_no (σ := τ2) hR2 z c h2 hz, ev_cl2]
/-- the class's state with a refusal counted -/
theorem PW.torfN {B : Nat} {σ : ns_St} {E H : Nat} {z : Nat} (h : PW B σ E H) : PW B (rfN σ z) E H := by
  have k : ∀ c, c ≠ 48 → (rfN σ z).1 c = σ.1 c := fun c hc => pI_ne _ _ _ hc
  obtain ⟨h1, h2, h3, h4, h5, h6, h7, h8⟩ := h
  refine ⟨h1, by rw [k 65 (by omega)]; exact h2, by rw [k 65 (by omega)]; exact h3, h4, ?_, by rw [k 1 (by omega)]; exact h6, h7, fun j hj => ?_⟩
  · rw [k 69 (by omega)]; exact h5.cong (k 2 (by omega)) rfl
  · obtain ⟨K, N, A, C, O, m1, m2, m3, m4, m5, m6, m7⟩ := h8 j hj
    exact ⟨K, N, A, C, O, m1, by rw [k 74 (by omega)]; exact m2.cong (k _ (by omega)), by rw [k 70 (by omega)]; exact m3, by rw [k 71 (by omega)]; exact m4, by rw [k 72 (by omega)]; exact m5, by rw [k 73 (by omega)]; exact m6, by rw [k 75 (by omega)]; exact m7⟩
theorem PM.torfN {B : Nat} {σ : ns_St} {E j K N A C O : Nat} {z : Nat} (hj : j < 6) (h : PM B σ E j K N A C O) : PM B (rfN σ z) E j K N A C O := by
  have k : ∀ c, c ≠ 48 → (rfN σ z).1 c = σ.1 c := fun c hc => pI_ne _ _ _ hc
  obtain ⟨m1, m2, m3, m4, m5, m6, m7⟩ := h
  exact ⟨m1, by rw [k 74 (by omega)]; exact m2.cong (k _ (by omega)), by rw [k 70 (by omega)]; exact m3, by rw [k 71 (by omega)]; exact m4, by rw [k 72 (by omega)]; exact m5, by rw [k 73 (by omega)]; exact m6, by rw [k 75 (by omega)]; exact m7⟩
/-! bits away, one after another -/
theorem ct_lt {g : Nat → Bool} {p i : Nat} (hp : p < i) (hg : g p = true) : fb_ct g p < fb_ct g i := by
  have h1 := fb_ct_mono g (show p + 1 ≤ i from hp)
  rw [ct_t hg] at h1
  omega
theorem drop_k {g : Nat → Bool} {x : Int64} {k : Nat} (hx : ∀ p, p < 64 → gb x p = (g p && decide (k ≤ fb_ct g p))) (hk : k < fb_ct g 64) : ∃ i, i < 64 ∧ g i = true ∧ fb_ct g i = k ∧ gb x i = true ∧ (∀ q, q < i → gb x q = false) ∧ ∀ p, p < 64 → gb (x &&& (x - 1)) p = (g p && decide (k + 1 ≤ fb_ct g p)) := by
  obtain ⟨i, i1, i2, i3⟩ := fb_ct_kth hk
  have b1 : gb x i = true := by rw [hx i i1, i2, i3]; simp
  have b2 : ∀ q, q < i → gb x q = false := fun q hq => by
    rw [hx q (by omega)]
    cases hg : g q with
    | false => rfl
    | true =>
      have := ct_lt hq hg
      rw [decide_eq_false (by omega)]; rfl
  refine ⟨i, i1, i2, i3, b1, b2, fun p hp => ?_⟩
  rw [gb_drop i1 b1 b2 hp, hx p hp]
  cases hg : g p with
  | false => rfl
  | true =>
    by_cases e : p = i
    · subst e
      rw [i3, decide_eq_false (show ¬ p ≠ p by simp), decide_eq_false (show ¬ k + 1 ≤ k by omega)]; simp
    · rw [decide_eq_true e, Bool.and_true, Bool.true_and, Bool.true_and]
      apply decide_eq_decide.mpr
      rcases Nat.lt_or_ge p i with q | q
      · have := ct_lt q hg; omega
      · have := ct_lt (show i < p by omega) i2; omega
theorem drop_0 {g : Nat → Bool} {x : Int64} {k : Nat} (hx : ∀ p, p < 64 → gb x p = (g p && decide (k ≤ fb_ct g p))) (hk : fb_ct g 64 ≤ k) : ∀ p, p < 64 → gb x p = false := fun p hp => by
  rw [hx p hp]
  cases hg : g p with
  | false => rfl
  | true => have := ct_lt hp hg; rw [decide_eq_false (by omega)]; rfl
theorem e_st62 {g : Nat → Bool} {i : Nat} (hi : i < fb_ct g 64) (σ : ns_St) : ∀ (r k f : Nat) (x : Int64), r < f → k + r = i → (∀ p, p < 64 → gb x p = (g p && decide (k ≤ fb_ct g p))) → ∃ p, p < 64 ∧ g p = true ∧ fb_ct g p = i ∧ g_N_stops_62 f σ (nI i) x (nI k) = some (nI p, σ) := by
  have b := fb_ct_le g 64
  intro r
  induction r with
  | zero =>
    intro k f x hf hk hx
    obtain ⟨f, rfl⟩ : ∃ q, f = q + 1 := ⟨f - 1, by omega⟩
    obtain ⟨p, p1, p2, p3, p4, p5, _⟩ := drop_k hx (by omega)
    refine ⟨p, p1, p2, by omega, ?_⟩
    rw [g_N_stops_62, ite2_p (nI_le (by omega) (by omega)), e_ntz p1 p4 p5, ev_cl2]
  | succ r ih =>
    intro k f x hf hk hx
    obtain ⟨f, rfl⟩ : ∃ q, f = q + 1 := ⟨f - 1, by omega⟩
    obtain ⟨p, p1, p2, p3, p4, p5, p6⟩ := drop_k hx (by omega)
    rw [g_N_stops_62, ite2_n (nI_ge (by omega) (by omega)), ev_bnd, ev_bnd, ← nI_succ]
    exact ih (k + 1) f _ (by omega) (by omega) p6
theorem ct_win2 {g f : Nat → Bool} {A E n : Nat} (hn : A + n ≤ E) (hE : E ≤ 60) (h : ∀ p, p < 64 → g p = (decide (A < p ∧ p ≤ E) && f (p - A - 1))) : fb_ct g (A + 1 + n) = fb_ct f n := by
  have z1 : fb_ct g (A + 1) = 0 := fb_ct_zero.mpr (fun k hk => by rw [h k (by omega), decide_eq_false (by omega)]; rfl)
  rw [fb_ct_split, z1, Nat.zero_add]
  exact fb_ct_cong (fun k hk => by
    show g (A + 1 + k) = f k
    rw [h _ (by omega), decide_eq_true (by omega), Bool.true_and, show A + 1 + k - A - 1 = k by omega])
theorem sct_le (th : Nat → Int32) (K A N C k : Nat) : sct th K A N C k ≤ k := fb_ct_le _ _
theorem sct_mono (th : Nat → Int32) (K A N C : Nat) {k n : Nat} (h : k ≤ n) : sct th K A N C k ≤ sct th K A N C n := fb_ct_mono _ h
theorem e_sp27a {σ : ns_St} {E K A N C n : Nat} (hJ : JC σ E K A N C) (hn : A + n < E) (hjs : js (σ.1 69) K A N C n = true) : ∀ (r k f : Nat) (τ : ns_St), r < f → k + r = n → At σ τ K A N C k →
    ∃ τ', g_M_stops_27 f τ 65 (nI (sct (σ.1 69) K A N C n)) (nI (sct (σ.1 69) K A N C k)) = some (nI (A + n + 1), τ') ∧ Th σ τ' := by
  intro r
  have h60 := hJ.2.2.1
  have bn := sct_le (σ.1 69) K A N C n
  induction r with
  | zero =>
    intro k f τ hf hk hA
    obtain ⟨f, rfl⟩ : ∃ q, f = q + 1 := ⟨f - 1, by omega⟩
    have hk' : k = n := by omega
    subst hk'
    obtain ⟨τ1, e1, hA1⟩ := hA.go hJ (by omega)
    refine ⟨τ1, ?_, hA1.1⟩
    rw [g_M_stops_27, ite2_n (hA.on hJ (by omega)), e1, ev_cl2, ite2_y hjs, ite2_p rfl, hA1.2.2.2.1]
    rfl
  | succ r ih =>
    intro k f τ hf hk hA
    obtain ⟨f, rfl⟩ : ∃ q, f = q + 1 := ⟨f - 1, by omega⟩
    obtain ⟨τ1, e1, hA1⟩ := hA.go hJ (by omega)
    obtain ⟨τ2, e2, t2⟩ := ih (k + 1) f τ1 (by omega) (by omega) hA1
    refine ⟨τ2, ?_, t2⟩
    rw [g_M_stops_27, ite2_n (hA.on hJ (by omega)), e1, ev_cl2]
    have hm := sct_mono (σ.1 69) K A N C (show k + 1 ≤ n by omega)
    rw [sct_s] at e2 hm
    cases hs : js (σ.1 69) K A N C k with
    | false =>
      rw [hs] at e2
      rw [ite2_z (by decide)]
      exact e2
    | true =>
      rw [hs] at e2 hm
      have hm' : sct (σ.1 69) K A N C k + 1 ≤ sct (σ.1 69) K A N C n := hm
      rw [ite2_y (Eq.refl true), ite2_n (fun q => by have := (nI_eq (by omega) (by omega)).mp q; omega), ev_bnd, ← nI_succ]
      exact e2
theorem e_sp27b {σ : ns_St} {E K A N C : Nat} (hJ : JC σ E K A N C) {x : Int32} (hx : ∀ m, m < sct (σ.1 69) K A N C (E - A) → ¬ nI m = x) : ∀ (r k f : Nat) (τ : ns_St), r < f → A + k + r = E → At σ τ K A N C k →
    ∃ τ', g_M_stops_27 f τ 65 x (nI (sct (σ.1 69) K A N C k)) = ite2 (x = -1) (some (nI (sct (σ.1 69) K A N C (E - A)), τ')) (cl2 (g_M_no τ' 65 (-5)) fun r σ' => some (r, σ')) ∧ Th σ τ' := by
  intro r
  have h60 := hJ.2.2.1
  induction r with
  | zero =>
    intro k f τ hf hk hA
    obtain ⟨f, rfl⟩ : ∃ q, f = q + 1 := ⟨f - 1, by omega⟩
    refine ⟨τ, ?_, hA.1⟩
    rw [g_M_stops_27, ite2_p (hA.fin hJ (by omega) (by omega)), show E - A = k by omega]
  | succ r ih =>
    intro k f τ hf hk hA
    obtain ⟨f, rfl⟩ : ∃ q, f = q + 1 := ⟨f - 1, by omega⟩
    obtain ⟨τ1, e1, hA1⟩ := hA.go hJ (by omega)
    obtain ⟨τ2, e2, t2⟩ := ih (k + 1) f τ1 (by omega) (by omega) hA1
    refine ⟨τ2, ?_, t2⟩
    rw [g_M_stops_27, ite2_n (hA.on hJ (by omega)), e1, ev_cl2]
    have hm := sct_mono (σ.1 69) K A N C (show k + 1 ≤ E - A by omega)
    rw [sct_s] at e2 hm
    cases hs : js (σ.1 69) K A N C k with
    | false =>
      rw [hs] at e2
      rw [ite2_z (by decide)]
      exact e2
    | true =>
      rw [hs] at e2 hm
      have hm' : sct (σ.1 69) K A N C k + 1 ≤ sct (σ.1 69) K A N C (E - A) := hm
      rw [ite2_y (Eq.refl true), ite2_n (hx _ (by omega)), ev_bnd, ← nI_succ]
      exact e2
theorem k_stops {B : Nat} {σ : ns_St} (h : Inv B σ) (hB : B < 2 ^ 26) (x y : Int32) : both B (g_N_stops σ 0 x y) (fun σ => g_M_stops σ 65 x y) := by
  obtain ⟨g1, g2, hR⟩ := h.1
  obtain ⟨E, H, hW⟩ := PW.of h hB
  have a2 := hW.2.2.1
  have a3 := hW.2.2.2.1
  have a5 := hW.2.2.2.2.2.1
  rcases mu_cases x a3 with ⟨j, hj, rfl, hx⟩ | ⟨hx, hx2⟩
  · have hj6 : j < 6 := by omega
    have hk := kd_m4 j hj6
    have hN : g_N_stops σ 0 (nI j) y = ite2 ((-1 : Int32) ≤ y) (cl2 (g_N_stopsOf σ 0 (4 + j)) fun r38 σ37 => ite2 (y = (-1 : Int32)) (cl2 (g_Long_bitCount σ37 r38) fun r46 σ45 => some (r46, σ45)) (cl2 (g_Long_bitCount σ37 r38) fun r41 σ40 => ite2 (y < r41) (g_N_stops_62 ns_F σ40 y r38 (0 : Int32)) (cl2 (g_N_refuse σ40 0 (-5 : Int32)) fun r44 σ43 => some (r44, σ43)))) (cl2 (g_N_refuse σ 0 (-2 : Int32)) fun r48 σ47 => some (r48, σ47)) := by
      unfold g_N_stops
      simp only [gk_0, hR, rg_0_0, ev_drf, gk_1, e_muleAt hR a3 a5 hj, ev_cl2, ev_ons, grd_t hk]
    have hMo : ∀ τ : ns_St, τ.1 65 5 = nI H → g_M_stops τ 65 (nI j) y = ite2 ((-1 : Int32) ≤ y) (cl2 (g_M_begins τ 65 (nI j)) fun r36 σ35 => g_M_stops_27 ns_F σ35 65 y (0 : Int32)) (cl2 (g_M_no τ 65 (-2 : Int32)) fun r38 σ37 => some (r38, σ37)) := by
      intro τ hτ
      unfold g_M_stops
      rw [gk_65, e_isMule, ev_cl2, hτ, ite2_y hx]
    rcases m1_cases y with y1 | ⟨y1, y2⟩ | ⟨y1, y2, i, hi, hy⟩
    · refine both.bad h hR (z := 0) (by decide) (c := -2) (by decide) (by decide) ?_ ?_
      · rw [hN, ite2_n y1]
      · show g_M_stops (rfN σ 0) 65 (nI j) y = _
        rw [hMo _ (by rw [rfN, pI_ne _ _ _ (by decide)]; exact a2), ite2_n y1]
    · obtain ⟨K, N, A, C, O, hM⟩ := hW.2.2.2.2.2.2.2 j hj
      have hJ := hM.jc hW
      obtain ⟨τ, e, s⟩ := e_stopsOf hW hM hj6
      have hW1 := hW.same s
      have hM1 := hM.same s hj6
      have hJ1 := hM1.jc hW1
      have th1 : τ.1 69 = σ.1 69 := s.mi (by omega)
      have hG1 : GR τ 2 (σ.1 69) E := by rw [← th1]; exact hW1.2.2.2.2.1
      obtain ⟨g3, g4, hR1⟩ := hW1.1
      obtain ⟨u0, u1, u2, u3, u4, u5, u6, u7⟩ := hM.2.1
      have h60 := hJ.2.2.1
      have hAE := hJ.2.2.2.1
      obtain ⟨τ1, eb, hA1⟩ := e_begins hR1 hj6 hM1.2.2.1 hM1.2.2.2.1 hM1.2.2.2.2.1 hM1.2.2.2.2.2.1
      obtain ⟨τ2, e2, t2⟩ := e_sp27b hJ1 (x := y) (fun m hm q => by rw [y2] at q; exact nI_nm1 (by have := sct_le (τ.1 69) K A N C (E - A); omega) q) (E - A) 0 ns_F τ1 (by show E - A < 10000; omega) (by omega) hA1
      rw [th1] at e2
      refine both.same h (r := nI (sct (σ.1 69) K A N C (E - A))) ?_ s ?_ t2.same
      · rw [hN, ite2_p y1, e, ev_cl2, ite2_p y2, e_bitCount, ev_cl2, jm_ct h60 hAE]
      · show g_M_stops τ 65 (nI j) y = _
        rw [hMo τ hW1.2.2.1, ite2_p y1, eb, ev_cl2]
        refine Eq.trans e2 ?_
        rw [ite2_p y2]
    · obtain ⟨K, N, A, C, O, hM⟩ := hW.2.2.2.2.2.2.2 j hj
      have hJ := hM.jc hW
      obtain ⟨τ, e, s⟩ := e_stopsOf hW hM hj6
      have hW1 := hW.same s
      have hM1 := hM.same s hj6
      have hJ1 := hM1.jc hW1
      have th1 : τ.1 69 = σ.1 69 := s.mi (by omega)
      have hG1 : GR τ 2 (σ.1 69) E := by rw [← th1]; exact hW1.2.2.2.2.1
      obtain ⟨g3, g4, hR1⟩ := hW1.1
      obtain ⟨u0, u1, u2, u3, u4, u5, u6, u7⟩ := hM.2.1
      have h60 := hJ.2.2.1
      have hAE := hJ.2.2.2.1
      have bct := sct_le (σ.1 69) K A N C (E - A)
      by_cases hlt : i < sct (σ.1 69) K A N C (E - A)
      · have hlt' : i < fb_ct (gb (jm (σ.1 69) K A N C E)) 64 := by rw [jm_ct h60 hAE]; exact hlt
        obtain ⟨p, p1, p2, p3, p4⟩ := e_st62 hlt' τ i 0 ns_F (jm (σ.1 69) K A N C E) (by show i < 10000; omega) (by omega) (fun p _ => by simp)
        have gp := gb_jm (th := σ.1 69) (K := K) (N := N) (C := C) h60 hAE p1
        rw [p2, jp] at gp
        have hAp : A < p ∧ p ≤ E := by
          by_cases q : A < p ∧ p ≤ E
          · exact q
          · rw [decide_eq_false q] at gp; cases gp
        rw [decide_eq_true hAp, Bool.true_and] at gp
        have hr : sct (σ.1 69) K A N C (p - A - 1) = i := by
          rw [← p3]
          have := ct_win2 (A := A) (E := E) (n := p - A - 1) (f := js (σ.1 69) K A N C) (by omega) h60 (fun q hq => gb_jm (th := σ.1 69) (K := K) (N := N) (C := C) h60 hAE hq)
          rw [show A + 1 + (p - A - 1) = p by omega] at this
          exact this.symm
        obtain ⟨τ1, eb, hA1⟩ := e_begins hR1 hj6 hM1.2.2.1 hM1.2.2.2.1 hM1.2.2.2.2.1 hM1.2.2.2.2.2.1
        obtain ⟨τ2, e2, t2⟩ := e_sp27a hJ1 (n := p - A - 1) (by omega) (by rw [th1]; exact gp.symm) (p - A - 1) 0 ns_F τ1 (by show _ < 10000; omega) (by omega) hA1
        rw [th1, hr, show A + (p - A - 1) + 1 = p by omega] at e2
        refine both.same h (r := nI p) ?_ s ?_ t2.same
        · rw [hN, ite2_p y1, e, ev_cl2, ite2_n y2, e_bitCount, ev_cl2, hy, jm_ct h60 hAE, ite2_p (nI_lt hlt (by omega))]
          exact p4
        · show g_M_stops τ 65 (nI j) y = _
          rw [hMo τ hW1.2.2.1, ite2_p y1, eb, ev_cl2, hy]
          exact e2
      · have hM2 := hM1.torfN (z := 3) hj6
        have hW2 := hW1.torfN (z := 3)
        have hJ2 := hM2.jc hW2
        have th2 : (rfN τ 3).1 69 = σ.1 69 := by rw [rfN, pI_ne _ _ _ (by decide)]; exact th1
        obtain ⟨τ1, eb, hA1⟩ := e_begins (σ := rfN τ 3) hR1 hj6 hM2.2.2.1 hM2.2.2.2.1 hM2.2.2.2.2.1 hM2.2.2.2.2.2.1
        obtain ⟨τ2, e2, t2⟩ := e_sp27b hJ2 (x := y) (fun m hm q => by rw [th2] at hm; rw [hy, nI_eq (by omega) hi] at q; omega) (E - A) 0 ns_F τ1 (by show E - A < 10000; omega) (by omega) hA1
        rw [ite2_n y2] at e2
        refine both.late h s (z := 3) (by decide) (c := -5) (by decide) (by decide) ?_ ?_ t2.same
        · rw [hN, ite2_p y1, e, ev_cl2, ite2_n y2, e_bitCount, ev_cl2, hy, jm_ct h60 hAE, ite2_n (nI_nlt (by omega) hi)]
        · show g_M_stops (rfN τ 3) 65 (nI j) y = _
          rw [hMo _ hW2.2.2.1, ite2_p y1, eb, ev_cl2]
          exact e2
  · refine both.bad h hR (z := 0) (by decide) (c := -2) (by decide) (by decide) ?_ ?_
    · unfold g_N_stops
      simp only [gk_0, hR, rg_0_0, ev_drf, gk_1, e_muleAtN a5 hx2, ev_cl2, ev_onn]
    · show g_M_stops (rfN σ 0) 65 x y = _
      have e5 : (rfN σ 0).1 65 5 = nI H := by rw [rfN, pI_ne _ _ _ (by decide)]; exact a2
      unfold g_M_stops
      rw [gk_65, e_isMule, ev_cl2, e5, ite2_z hx]
