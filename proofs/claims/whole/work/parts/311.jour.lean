/-! A JOURNEY of the reference, in thought -/
/-- memories that differ only in the reference's four fields of the one that goes -/
def Th (σ σ' : ns_St) : Prop := σ'.2 = σ.2 ∧ (∀ b, b ≠ 65 → σ'.1 b = σ.1 b) ∧ ∀ k, ¬ (25 ≤ k ∧ k ≤ 28) → σ'.1 65 k = σ.1 65 k
theorem Th.rfl (σ : ns_St) : Th σ σ := ⟨Eq.refl _, fun _ _ => Eq.refl _, fun _ _ => Eq.refl _⟩
theorem Th.trans {a b c : ns_St} (h1 : Th a b) (h2 : Th b c) : Th a c := ⟨h2.1.trans h1.1, fun x hx => (h2.2.1 x hx).trans (h1.2.1 x hx), fun k hk => (h2.2.2 k hk).trans (h1.2.2 k hk)⟩
theorem Th.same {σ σ' : ns_St} (h : Th σ σ') : Same σ σ' :=
  ⟨fun a _ ha => h.2.1 a ha, fun k hk => h.2.2 k (fun q => hk (Or.inr q)), fun a _ => by rw [h.1], fun ⟨g1, g2, q⟩ => ⟨g1, g2, by rw [h.1]; exact q⟩⟩
theorem Th.s3 {σ : ns_St} {v1 v2 v3 : Int32} : Th σ (s3 σ 65 26 v1 v2 v3) := ⟨Eq.refl _, fun b hb => s3_ne σ 26 v1 v2 v3 hb, fun k hk => s3_go _ _ _ _ _ _ (by omega)⟩
theorem Th.pI {σ : ns_St} {k : Nat} {v : Int32} (hk : 25 ≤ k ∧ k ≤ 28) : Th σ (ns_pI σ 65 k v) := ⟨Eq.refl _, fun b hb => pI_ne σ k v hb, fun j hj => pI_st _ _ _ (fun e => hj (e ▸ hk))⟩
theorem Th.R {σ σ' : ns_St} (h : Th σ σ') {g1 g2 : Option Nat} (q : σ.2.2 = ns_rg g1 g2) : σ'.2.2 = ns_rg g1 g2 := by rw [h.1]; exact q
/-- what a JOURNEY in thought needs -/
def JC (σ : ns_St) (E K A N C : Nat) : Prop := Irf σ ∧ σ.1 65 3 = nI E ∧ E ≤ 60 ∧ A ≤ E ∧ K ≤ 5 ∧ N ≤ 64 ∧ C < 2 ^ 27
/-- behind k STEPS of it -/
def At (σ τ : ns_St) (K A N C k : Nat) : Prop := Th σ τ ∧ τ.1 65 25 = nI K ∧ τ.1 65 26 = nI (jr (σ.1 69) K A N C k).1 ∧ τ.1 65 27 = nI (A + k) ∧ τ.1 65 28 = nI (jr (σ.1 69) K A N C k).2
theorem At.go {σ τ : ns_St} {E K A N C k : Nat} (hJ : JC σ E K A N C) (h : At σ τ K A N C k) (hk : A + k < E) : ∃ τ', g_M_stepped τ 65 0 = some (yn (js (σ.1 69) K A N C k = true), τ') ∧ At σ τ' K A N C (k + 1) := by
  obtain ⟨⟨g1, g2, hR⟩, j1, j2, j3, j4, j5, j6⟩ := hJ
  obtain ⟨t, a0, a1, a2, a3⟩ := h
  have bN := jr_N (th := σ.1 69) (K := K) (A := A) (C := C) j5 k
  have bC := jr_C (th := σ.1 69) (K := K) (A := A) (N := N) (C := C) k
  have e := e_stepped (σ := τ) (g1 := g1) (g2 := g2) (t.R hR) (K := K) (N := (jr (σ.1 69) K A N C k).1) (p := A + k) (C := (jr (σ.1 69) K A N C k).2) (b := 0) j4 (by omega) (by omega) (by omega) (Or.inl rfl) a0 a1 a2 a3
  rw [t.2.1 69 (by decide)] at e
  refine ⟨_, e, t.trans Th.s3, ?_, ?_, ?_, ?_⟩
  · rw [s3_go _ _ _ _ _ _ (by omega)]; exact a0
  · exact s3_g1 _ _ _ _ _ _
  · exact s3_g2 _ _ _ _ _ _
  · exact s3_g3 _ _ _ _ _ _
theorem At.fin {σ τ : ns_St} {E K A N C k : Nat} (hJ : JC σ E K A N C) (h : At σ τ K A N C k) (hk : E ≤ A + k) (hk2 : A + k < 1000) : τ.1 65 3 ≤ τ.1 65 27 := by
  rw [h.1.2.2 3 (by omega), hJ.2.1, h.2.2.2.1]
  exact nI_le hk (by omega)
theorem At.on {σ τ : ns_St} {E K A N C k : Nat} (hJ : JC σ E K A N C) (h : At σ τ K A N C k) (hk : A + k < E) : ¬ τ.1 65 3 ≤ τ.1 65 27 := by
  rw [h.1.2.2 3 (by omega), hJ.2.1, h.2.2.2.1]
  exact nI_ge hk (by have := hJ.2.2.1; omega)
theorem e_begins {σ : ns_St} {g1 g2 : Option Nat} (hR : σ.2.2 = ns_rg g1 g2) {j K N A C : Nat} (hj : j < 6) (m0 : σ.1 70 j = nI K) (m1 : σ.1 71 j = nI N) (m2 : σ.1 72 j = nI A) (m3 : σ.1 73 j = nI C) : ∃ τ, g_M_begins σ 65 (nI j) = some ((), τ) ∧ At σ τ K A N C 0 := by
  have i0 : ns_in (nI j) (ns_ln 70) := ns_inI (show j < 6 by omega) (by decide)
  have i1 : ns_in (nI j) (ns_ln 71) := ns_inI (show j < 6 by omega) (by decide)
  have i2 : ns_in (nI j) (ns_ln 72) := ns_inI (show j < 6 by omega) (by decide)
  have i3 : ns_in (nI j) (ns_ln 73) := ns_inI (show j < 6 by omega) (by decide)
  unfold g_M_begins
  simp only [gk_65, pI_R, hR, rg_65_6, rg_65_7, rg_65_8, rg_65_9, ev_drf, gk_70, gk_71, gk_72, gk_73, grd_t i0, grd_t i1, grd_t i2, grd_t i3, ev_bnd]
  rw [ns_ixI (by omega), m0, pI_ne _ _ _ (by decide), m1, pI_ne _ _ _ (by decide), pI_ne _ _ _ (by decide), m2, pI_ne _ _ _ (by decide), pI_ne _ _ _ (by decide), pI_ne _ _ _ (by decide), m3]
  refine ⟨_, rfl, (((Th.pI (by omega)).trans (Th.pI (by omega))).trans (Th.pI (by omega))).trans (Th.pI (by omega)), ?_, ?_, ?_, ?_⟩
  · rw [pI_st _ _ _ (by decide), pI_st _ _ _ (by decide), pI_st _ _ _ (by decide), pI_at]
  · rw [pI_st _ _ _ (by decide), pI_st _ _ _ (by decide), pI_at]; rfl
  · rw [pI_st _ _ _ (by decide), pI_at]; rfl
  · rw [pI_at]; rfl
/-- minutes of a STOP -/
def rt (K O : Nat) : Nat := if K = 1 ∨ K = 3 then 1 + O else 1
theorem e_rest {σ : ns_St} {g1 g2 : Option Nat} (hR : σ.2.2 = ns_rg g1 g2) {j K O : Nat} (hj : j < 6) (hK : K ≤ 5) (m0 : σ.1 70 j = nI K) (m5 : σ.1 75 j = nI O) : g_M_rest σ 65 (nI j) = some (nI (rt K O), σ) := by
  have i0 : ns_in (nI j) (ns_ln 70) := ns_inI (show j < 6 by omega) (by decide)
  have i5 : ns_in (nI j) (ns_ln 75) := ns_inI (show j < 6 by omega) (by decide)
  have h20 : g_M_rest_20 σ 65 (nI j) = some (nI (1 + O), σ) := by
    unfold g_M_rest_20
    simp only [hR, rg_65_11, ev_drf, gk_75, grd_t i5]
    rw [ns_ixI (by omega), m5, show (1 : Int32) = nI 1 from rfl, nI_add]
  unfold g_M_rest
  simp only [gk_65, hR, rg_65_6, ev_drf, gk_70, grd_t i0, h20]
  rw [ns_ixI (by omega), m0]
  unfold rt
  by_cases h1 : K = 1
  · rw [ite2_p ((nI_k K hK).1.mpr h1), if_pos (Or.inl h1)]
  · rw [ite2_n (fun e => h1 ((nI_k K hK).1.mp e))]
    by_cases h3 : K = 3
    · rw [ite2_p ((nI_k K hK).2.2.1.mpr h3), if_pos (Or.inr h3)]
    · rw [ite2_n (fun e => h3 ((nI_k K hK).2.2.1.mp e)), if_neg (fun h => h.elim h1 h3)]; rfl
/-- how many STOPS in the first k STEPS -/
def sct (th : Nat → Int32) (K A N C k : Nat) : Nat := fb_ct (js th K A N C) k
theorem sct_s (th : Nat → Int32) (K A N C k : Nat) : sct th K A N C (k + 1) = sct th K A N C k + (if js th K A N C k then 1 else 0) := rfl
theorem e_min7 {σ : ns_St} {E K A N C O j : Nat} (hJ : JC σ E K A N C) (hj : j < 6) (m0 : σ.1 70 j = nI K) (m5 : σ.1 75 j = nI O) : ∀ (r k f : Nat) (τ : ns_St), r < f → A + k + r = E → At σ τ K A N C k →
    ∃ τ', g_M_minutesOf_7 f τ 65 (nI j) (nI (k + rt K O * sct (σ.1 69) K A N C k)) = some (nI (E - A + rt K O * sct (σ.1 69) K A N C (E - A)), τ') ∧ Th σ τ' := by
  intro r
  induction r with
  | zero =>
    intro k f τ hf hE hA
    obtain ⟨f, rfl⟩ : ∃ q, f = q + 1 := ⟨f - 1, by omega⟩
    have := hJ.2.2.1
    refine ⟨τ, ?_, hA.1⟩
    rw [g_M_minutesOf_7, ite2_p (hA.fin hJ (by omega) (by omega)), show E - A = k by omega]
  | succ r ih =>
    intro k f τ hf hE hA
    obtain ⟨f, rfl⟩ : ∃ q, f = q + 1 := ⟨f - 1, by omega⟩
    obtain ⟨τ1, e1, hA1⟩ := hA.go hJ (by omega)
    obtain ⟨g1, g2, hR⟩ := hJ.1
    rw [g_M_minutesOf_7, ite2_n (hA.on hJ (by omega)), e1, ev_cl2]
    have er := e_rest (σ := τ1) (hA1.1.R hR) hj hJ.2.2.2.2.1 (by rw [hA1.1.2.1 70 (by decide)]; exact m0) (by rw [hA1.1.2.1 75 (by decide)]; exact m5)
    obtain ⟨τ2, e2, t2⟩ := ih (k + 1) f τ1 (by omega) (by omega) hA1
    cases hs : js (σ.1 69) K A N C k with
    | false =>
      rw [ite2_z (by decide), ev_bnd]
      rw [sct_s, hs] at e2
      refine ⟨τ2, ?_, t2⟩
      rw [← e2, ← nI_succ]
      congr 2
      show _ = k + 1 + rt K O * (sct (σ.1 69) K A N C k + 0)
      rw [Nat.add_zero (sct (σ.1 69) K A N C k)]; omega
    | true =>
      rw [ite2_y (Eq.refl true), er, ev_cl2, ev_bnd]
      rw [sct_s, hs] at e2
      refine ⟨τ2, ?_, t2⟩
      rw [← e2, show (1 : Int32) = nI 1 from rfl, nI_add, nI_add]
      congr 2
      show _ = k + 1 + rt K O * (sct (σ.1 69) K A N C k + 1)
      rw [Nat.mul_add]; omega
/-- the first of them -/
def fst (f : Nat → Bool) (v : Nat → Int32) : Nat → Int32
  | 0 => -1
  | n + 1 => if fst f v n = -1 then (if f n = true then v n else -1) else fst f v n
theorem fst_no {f : Nat → Bool} {v : Nat → Int32} : ∀ {n : Nat}, (∀ i, i < n → f i = false) → fst f v n = -1
  | 0, _ => rfl
  | n + 1, h => by rw [fst, fst_no (fun i hi => h i (by omega)), if_pos rfl, h n (by omega)]; rfl
theorem fst_is {f : Nat → Bool} {v : Nat → Int32} {i : Nat} (h1 : f i = true) (h2 : ∀ k, k < i → f k = false) (hv : v i ≠ -1) : ∀ {n : Nat}, i < n → fst f v n = v i
  | 0, h => absurd h (by omega)
  | n + 1, h => by
    by_cases e : i = n
    · subst e; rw [fst, fst_no h2, if_pos rfl, if_pos h1]
    · rw [fst, fst_is h1 h2 hv (show i < n by omega), if_neg hv]
/-- STOPS at CLIFFS, VIEWS missed, by STEPS -/
def jcl (th : Nat → Int32) (K A N C n : Nat) : Bool := js th K A N C n && tb (th (A + n + 1)) 4
def jmi (th : Nat → Int32) (K A N C n : Nat) : Bool := !js th K A N C n && tb (th (A + n + 1)) 8
def jout (th : Nat → Int32) (K A N C : Nat) (w : Int32) (n : Nat) : Int32 := if w = 0 then nI (fb_ct (jcl th K A N C) n) else if w = 1 then fst (jcl th K A N C) (fun i => nI (A + i + 1)) n else nI (fb_ct (jmi th K A N C) n)
theorem ct_t {p : Nat → Bool} {n : Nat} (h : p n = true) : fb_ct p (n + 1) = fb_ct p n + 1 := by rw [fb_ct_succ, h]; rfl
theorem ct_f {p : Nat → Bool} {n : Nat} (h : p n = false) : fb_ct p (n + 1) = fb_ct p n := by rw [fb_ct_succ, h]; rfl
theorem fst_f {f : Nat → Bool} {v : Nat → Int32} {n : Nat} (h : f n = false) : fst f v (n + 1) = fst f v n := by
  rw [fst, h]
  by_cases e : fst f v n = -1
  · rw [if_pos e, e]; rfl
  · rw [if_neg e]
theorem e_jo13 {σ : ns_St} {E K A N C : Nat} (hJ : JC σ E K A N C) (w : Int32) : ∀ (r k f : Nat) (τ : ns_St), r < f → A + k + r = E → At σ τ K A N C k →
    ∃ τ', g_M_journey_13 f τ 65 w (nI (fb_ct (jcl (σ.1 69) K A N C) k)) (fst (jcl (σ.1 69) K A N C) (fun i => nI (A + i + 1)) k) (nI (fb_ct (jmi (σ.1 69) K A N C) k)) = some (jout (σ.1 69) K A N C w (E - A), τ') ∧ Th σ τ' := by
  intro r
  induction r with
  | zero =>
    intro k f τ hf hE hA
    obtain ⟨f, rfl⟩ : ∃ q, f = q + 1 := ⟨f - 1, by omega⟩
    have := hJ.2.2.1
    refine ⟨τ, ?_, hA.1⟩
    rw [g_M_journey_13, ite2_p (hA.fin hJ (by omega) (by omega)), show E - A = k by omega, jout]
    by_cases w0 : w = 0
    · rw [ite2_p w0, if_pos w0]
    · rw [ite2_n w0, if_neg w0]
      by_cases w1 : w = 1
      · rw [ite2_p w1, if_pos w1]
      · rw [ite2_n w1, if_neg w1]
  | succ r ih =>
    intro k f τ hf hE hA
    obtain ⟨f, rfl⟩ : ∃ q, f = q + 1 := ⟨f - 1, by omega⟩
    obtain ⟨τ1, e1, hA1⟩ := hA.go hJ (by omega)
    obtain ⟨g1, g2, hR⟩ := hJ.1
    have h60 := hJ.2.2.1
    rw [g_M_journey_13, ite2_n (hA.on hJ (by omega)), e1, ev_cl2]
    have p1 : τ1.1 65 27 = nI (A + k + 1) := hA1.2.2.2.1
    have th1 : τ1.1 69 = σ.1 69 := hA1.1.2.1 69 (by decide)
    obtain ⟨τ2, e2, t2⟩ := ih (k + 1) f τ1 (by omega) (by omega) hA1
    have i8 := e_isThere (σ := τ1) (g1 := g1) (g2 := g2) (hA1.1.R hR) (p := A + k + 1) (by omega) 8
    have i4 := e_isThere (σ := τ1) (g1 := g1) (g2 := g2) (hA1.1.R hR) (p := A + k + 1) (by omega) 4
    rw [th1] at i8 i4
    refine ⟨τ2, ?_, t2⟩
    rw [p1]
    cases hs : js (σ.1 69) K A N C k with
    | false =>
      have c1 : jcl (σ.1 69) K A N C k = false := by unfold jcl; rw [hs]; rfl
      rw [ct_f c1, fst_f c1] at e2
      rw [ite2_z (by decide), i8, ev_cl2]
      cases hv : tb (σ.1 69 (A + k + 1)) 8 with
      | false =>
        have c2 : jmi (σ.1 69) K A N C k = false := by unfold jmi; rw [hv]; simp
        rw [ct_f c2] at e2
        rw [ite2_z (by decide)]
        unfold g_M_journey_52
        rw [ite2_z (by decide)]
        exact e2
      | true =>
        have c2 : jmi (σ.1 69) K A N C k = true := by unfold jmi; rw [hv, hs]; rfl
        rw [ct_t c2] at e2
        rw [ite2_y (Eq.refl true), ev_bnd, ← nI_succ]
        unfold g_M_journey_52
        rw [ite2_z (by decide)]
        exact e2
    | true =>
      have c2 : jmi (σ.1 69) K A N C k = false := by unfold jmi; rw [hs]; rfl
      rw [ct_f c2] at e2
      rw [ite2_y (Eq.refl true)]
      unfold g_M_journey_52
      rw [ite2_y (Eq.refl true), p1, i4, ev_cl2]
      cases hv : tb (σ.1 69 (A + k + 1)) 4 with
      | false =>
        have c1 : jcl (σ.1 69) K A N C k = false := by unfold jcl; rw [hv]; simp
        rw [ct_f c1, fst_f c1] at e2
        rw [ite2_z (by decide)]
        exact e2
      | true =>
        have c1 : jcl (σ.1 69) K A N C k = true := by unfold jcl; rw [hv, hs]; rfl
        rw [ct_t c1, fst, c1] at e2
        rw [ite2_y (Eq.refl true)]
        by_cases hf1 : fst (jcl (σ.1 69) K A N C) (fun i => nI (A + i + 1)) k = -1
        · rw [if_pos hf1, if_pos rfl] at e2
          rw [ite2_p hf1, ev_bnd, ev_bnd, ← nI_succ, p1]
          exact e2
        · rw [if_neg hf1] at e2
          rw [ite2_n hf1, ev_bnd, ← nI_succ]
          exact e2
/-- what a JOURNEY needs, of a MULE between calls -/
theorem Inv.toJC {B : Nat} {σ : ns_St} (h : Inv B σ) (hB : B < 2 ^ 26) {E K N A C O : Nat} (hE : σ.1 65 3 = nI E) (hE2 : E ≤ 60) (hm : MV E B K N A C O) : JC σ E K A N C :=
  ⟨h.1, hE, hE2, hm.2.2.2.1, hm.1, hm.2.2.1, by have := hm.2.2.2.2.1; omega⟩
theorem e_journey {σ : ns_St} {E K A N C j : Nat} (hJ : JC σ E K A N C) (hj : j < 6) (m0 : σ.1 70 j = nI K) (m1 : σ.1 71 j = nI N) (m2 : σ.1 72 j = nI A) (m3 : σ.1 73 j = nI C) (w : Int32) : ∃ τ, g_M_journey σ 65 (nI j) w = some (jout (σ.1 69) K A N C w (E - A), τ) ∧ Th σ τ := by
  obtain ⟨g1, g2, hR⟩ := hJ.1
  obtain ⟨τ1, e1, hA1⟩ := e_begins hR hj m0 m1 m2 m3
  have h60 := hJ.2.2.1
  have hA := hJ.2.2.2.1
  obtain ⟨τ2, e2, t2⟩ := e_jo13 hJ w (E - A) 0 ns_F τ1 (by show E - A < 10000; omega) (by omega) hA1
  refine ⟨τ2, ?_, t2⟩
  unfold g_M_journey
  rw [gk_65, e1, ev_cl2]
  exact e2
theorem e_minutesOfM {σ : ns_St} {E K A N C O j : Nat} (hJ : JC σ E K A N C) (hj : j < 6) (m0 : σ.1 70 j = nI K) (m1 : σ.1 71 j = nI N) (m2 : σ.1 72 j = nI A) (m3 : σ.1 73 j = nI C) (m5 : σ.1 75 j = nI O) : ∃ τ, g_M_minutesOf σ 65 (nI j) = some (nI (E - A + rt K O * sct (σ.1 69) K A N C (E - A)), τ) ∧ Th σ τ := by
  obtain ⟨g1, g2, hR⟩ := hJ.1
  obtain ⟨τ1, e1, hA1⟩ := e_begins hR hj m0 m1 m2 m3
  have h60 := hJ.2.2.1
  have hA := hJ.2.2.2.1
  obtain ⟨τ2, e2, t2⟩ := e_min7 hJ hj m0 m5 (E - A) 0 ns_F τ1 (by show E - A < 10000; omega) (by omega) hA1
  refine ⟨τ2, ?_, t2⟩
  unfold g_M_minutesOf
  rw [gk_65, e1, ev_cl2]
  exact e2
/-! the class's mask of STOPS -/
theorem gb_mka {th : Nat → Int32} {K A N C p : Nat} (hp : p < 64) : ∀ (r k : Nat) (x : Int64), A + k + r < 64 → gb (mka th K A N C r k x) p = (gb x p || (decide (A + k < p ∧ p ≤ A + k + r) && js th K A N C (p - A - 1)))
  | 0, k, x, _ => by
    have : ¬ (A + k < p ∧ p ≤ A + k + 0) := by omega
    rw [mka, decide_eq_false this]; simp
  | r + 1, k, x, h => by
    rw [mka, gb_mka hp r (k + 1) _ (by omega)]
    by_cases e : p = A + k + 1
    · have n1 : ¬ (A + (k + 1) < p ∧ p ≤ A + (k + 1) + r) := by omega
      have n2 : A + k < p ∧ p ≤ A + k + (r + 1) := by omega
      rw [decide_eq_false n1, decide_eq_true n2, show p - A - 1 = k by omega]
      cases hs : js th K A N C k with
      | false => rw [if_neg (by decide)]; rfl
      | true => rw [if_pos rfl, gb_or, gb_bit (by omega), decide_eq_true e]; simp
    · have n3 : decide (A + (k + 1) < p ∧ p ≤ A + (k + 1) + r) = decide (A + k < p ∧ p ≤ A + k + (r + 1)) := by
        apply decide_eq_decide.mpr; omega
      rw [n3]
      cases hs : js th K A N C k with
      | false => rw [if_neg (by decide)]
      | true => rw [if_pos rfl, gb_or, gb_bit (by omega), decide_eq_false e]; simp
/-- the STOPS from A to E, as bits -/
def jm (th : Nat → Int32) (K A N C E : Nat) : Int64 := mka th K A N C (E - A) 0 0
def jp (th : Nat → Int32) (K A N C E p : Nat) : Bool := decide (A < p ∧ p ≤ E) && js th K A N C (p - A - 1)
theorem gb_jm {th : Nat → Int32} {K A N C E p : Nat} (hE : E ≤ 60) (hA : A ≤ E) (hp : p < 64) : gb (jm th K A N C E) p = jp th K A N C E p := by
  unfold jm jp
  rw [gb_mka hp _ _ _ (by omega), gb_0, Bool.false_or]
  congr 1
  apply decide_eq_decide.mpr; omega
theorem ct_win {g f : Nat → Bool} {A E : Nat} (hA : A ≤ E) (hE : E ≤ 60) (h : ∀ p, p < 64 → g p = (decide (A < p ∧ p ≤ E) && f (p - A - 1))) : fb_ct g 64 = fb_ct f (E - A) := by
  have e1 : fb_ct g 64 = fb_ct g (A + 1) + (fb_ct (fun k => g (A + 1 + k)) (E - A) + fb_ct (fun k => g (A + 1 + (E - A + k))) (63 - E)) := by
    rw [← fb_ct_split (fun k => g (A + 1 + k)), ← fb_ct_split, show A + 1 + (E - A + (63 - E)) = 64 by omega]
  have z1 : fb_ct g (A + 1) = 0 := fb_ct_zero.mpr (fun k hk => by rw [h k (by omega), decide_eq_false (by omega)]; rfl)
  have z2 : fb_ct (fun k => g (A + 1 + (E - A + k))) (63 - E) = 0 := fb_ct_zero.mpr (fun k hk => by
    show g (A + 1 + (E - A + k)) = false
    rw [h _ (by omega), decide_eq_false (by omega)]; rfl)
  have z3 : fb_ct (fun k => g (A + 1 + k)) (E - A) = fb_ct f (E - A) := fb_ct_cong (fun k hk => by
    show g (A + 1 + k) = f k
    rw [h _ (by omega), decide_eq_true (by omega), Bool.true_and, show A + 1 + k - A - 1 = k by omega])
  rw [e1, z1, z2, z3]; omega
/-- the first of a mask, as the reference counts it -/
theorem e_fst {σ : ns_St} {x : Int64} {f : Nat → Bool} {A E : Nat} (hE : E ≤ 60) (h : ∀ p, p < 64 → gb x p = (decide (A < p ∧ p ≤ E) && f (p - A - 1))) : g_N_firstOf σ x = some (fst f (fun i => nI (A + i + 1)) (E - A), σ) := by
  by_cases q : ∃ i, i < E - A ∧ f i = true
  · obtain ⟨i, i1, i2, i3⟩ := fb_first (p := fun i => f i = true) q
    have i3' : ∀ k, k < i → f k = false := fun k hk => by have := i3 k hk; cases hf : f k; rfl; exact absurd hf this
    rw [fst_is i2 i3' (fun e => absurd ((nI_pos' (n := A + i + 1) (by omega))) (by show ¬ (0 : Int32) ≤ nI (A + i + 1); rw [e]; decide)) i1]
    refine e_firstOf (by omega) ?_ ?_
    · rw [h _ (by omega), decide_eq_true (by omega), show A + i + 1 - A - 1 = i by omega, i2]; rfl
    · intro p hp
      rw [h p (by omega)]
      by_cases hAp : A < p ∧ p ≤ E
      · rw [i3' _ (by omega)]; simp
      · rw [decide_eq_false hAp]; rfl
  · have q2 : ∀ i, i < E - A → f i = false := fun i hi => by
      cases hf : f i with
      | false => rfl
      | true => exact absurd ⟨i, hi, hf⟩ q
    rw [fst_no q2]
    refine e_firstOf0 (fun p hp => ?_)
    rw [h p hp]
    by_cases hAp : A < p ∧ p ≤ E
    · rw [q2 _ (by omega)]; simp
    · rw [decide_eq_false hAp]; rfl
