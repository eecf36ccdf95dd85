/-! the state of all that calls in thought need, and that they keep -/
def PM (B : Nat) (σ : ns_St) (E j K N A C O : Nat) : Prop := MV E B K N A C O ∧ MU σ (4 + j) K N A C O (σ.1 74 j) ∧ σ.1 70 j = nI K ∧ σ.1 71 j = nI N ∧ σ.1 72 j = nI A ∧ σ.1 73 j = nI C ∧ σ.1 75 j = nI O
def PW (B : Nat) (σ : ns_St) (E H : Nat) : Prop := Irf σ ∧ σ.1 65 3 = nI E ∧ σ.1 65 5 = nI H ∧ H ≤ 6 ∧ GR σ 2 (σ.1 69) E ∧ σ.1 1 2 = nI H ∧ B < 2 ^ 26 ∧ ∀ j, j < H → ∃ K N A C O : Nat, PM B σ E j K N A C O
theorem PW.of {B : Nat} {σ : ns_St} (h : Inv B σ) (hB : B < 2 ^ 26) : ∃ E H, PW B σ E H := by
  obtain ⟨E, H, a1, a2, a3, a4, a5, a6⟩ := h.2.1.get
  exact ⟨E, H, h.1, a1, a2, a3, a4, a5, hB, a6⟩
theorem Same.i {σ σ' : ns_St} (h : Same σ σ') {a : Nat} (ha : ¬ scr a) (h65 : a ≠ 65) : σ'.1 a = σ.1 a := h.1 a ha h65
theorem Same.mi {σ σ' : ns_St} (h : Same σ σ') {a : Nat} (ha : 66 ≤ a ∧ a ≤ 78) : σ'.1 a = σ.1 a := h.1 a (nscr_r (by omega)) (by omega)
theorem Same.lo {σ σ' : ns_St} (h : Same σ σ') {a : Nat} (ha : a < 19) : σ'.1 a = σ.1 a := h.1 a (nscr_w1 ha) (by omega)
theorem Same.f {σ σ' : ns_St} (h : Same σ σ') {k : Nat} (hk : k < 17 ∨ 21 ≤ k ∧ k < 25) : σ'.1 65 k = σ.1 65 k := h.2.1 k (by unfold scf; omega)
theorem PM.same {B : Nat} {σ σ' : ns_St} {E j K N A C O : Nat} (hs : Same σ σ') (hj : j < 6) (h : PM B σ E j K N A C O) : PM B σ' E j K N A C O := by
  obtain ⟨h1, h2, h3, h4, h5, h6, h7⟩ := h
  refine ⟨h1, ?_, ?_, ?_, ?_, ?_, ?_⟩
  · rw [hs.mi (a := 74) (by omega)]; exact h2.cong (hs.lo (by omega))
  · rw [hs.mi (by omega)]; exact h3
  · rw [hs.mi (by omega)]; exact h4
  · rw [hs.mi (by omega)]; exact h5
  · rw [hs.mi (by omega)]; exact h6
  · rw [hs.mi (by omega)]; exact h7
theorem PW.same {B : Nat} {σ σ' : ns_St} {E H : Nat} (hs : Same σ σ') (h : PW B σ E H) : PW B σ' E H := by
  obtain ⟨h1, h2, h3, h4, h5, h6, h7, h8⟩ := h
  refine ⟨hs.2.2.2 h1, by rw [hs.f (by omega)]; exact h2, by rw [hs.f (by omega)]; exact h3, h4, ?_, by rw [hs.lo (by omega)]; exact h6, h7, fun j hj => ?_⟩
  · rw [hs.mi (by omega)]; exact h5.cong (hs.lo (by omega)) (hs.2.2.1 2 (nscr_w1 (by omega)))
  · obtain ⟨K, N, A, C, O, hm⟩ := h8 j hj
    exact ⟨K, N, A, C, O, hm.same hs (by omega)⟩
theorem PM.jc {B : Nat} {σ : ns_St} {E H j K N A C O : Nat} (h : PM B σ E j K N A C O) (hw : PW B σ E H) : JC σ E K A N C :=
  ⟨hw.1, hw.2.1, hw.2.2.2.2.1.2.2.1, h.1.2.2.2.1, h.1.1, h.1.2.2.1, by have := h.1.2.2.2.2.1; have := hw.2.2.2.2.2.2.1; omega⟩
theorem both.same {α : Type} {B : Nat} {σ : ns_St} (h : Inv B σ) {x : Option (α × ns_St)} {y : ns_St → Option (α × ns_St)} {r : α} {τ τ' : ns_St} (hx : x = some (r, τ)) (s1 : Same σ τ) (hy : y τ = some (r, τ')) (s2 : Same τ τ') : both B x y := ⟨r, τ, τ', hx, hy, (h.same s1).same s2⟩
theorem scr46 : scr 46 := by unfold scr; omega
theorem e_stopsBy2 {B : Nat} {σ : ns_St} {E H j K N A C O : Nat} (hW : PW B σ E H) (hM : PM B σ E j K N A C O) (hj : j < 6) {A' N' C' : Nat} (hA : A' ≤ E) (hN : N' ≤ 64) (hC : C' < 2 ^ 27) : ∃ τ, g_N_stopsBy σ 0 (4 + j) (nI A') (nI N') (nI C') = some (jm (σ.1 69) K A' N' C' E, τ) ∧ Same σ τ := by
  obtain ⟨g1, g2, hR⟩ := hW.1
  obtain ⟨u0, u1, u2, u3, u4, u5, u6, u7⟩ := hM.2.1
  obtain ⟨τ, e, on⟩ := e_stopsBy hR hW.2.2.2.2.1 (c := 4 + j) (K := K) (A := A') (N := N') (C := C') (kd_m4 j hj) (by omega) hM.1.1 hN hC hA u0 u7
  exact ⟨τ, e, on.same scr46⟩
theorem e_stopsOf {B : Nat} {σ : ns_St} {E H j K N A C O : Nat} (hW : PW B σ E H) (hM : PM B σ E j K N A C O) (hj : j < 6) : ∃ τ, g_N_stopsOf σ 0 (4 + j) = some (jm (σ.1 69) K A N C E, τ) ∧ Same σ τ := by
  have hJ := hM.jc hW
  obtain ⟨τ, e, s⟩ := e_stopsBy2 hW hM hj hJ.2.2.2.1 hJ.2.2.2.2.2.1 hJ.2.2.2.2.2.2
  obtain ⟨u0, u1, u2, u3, u4, u5, u6, u7⟩ := hM.2.1
  refine ⟨τ, ?_, s⟩
  unfold g_N_stopsOf
  rw [gk_0, grd_t (kd_m4 j hj), u2, u1, u3, e, ev_cl2]
theorem jm_ct {th : Nat → Int32} {K A N C E : Nat} (hE : E ≤ 60) (hA : A ≤ E) : fb_ct (gb (jm th K A N C E)) 64 = sct th K A N C (E - A) :=
  ct_win hA hE (fun p hp => gb_jm hE hA hp)
/-- minutesOf, of the class -/
theorem e_minutesOf {B : Nat} {σ : ns_St} {E H j K N A C O : Nat} (hW : PW B σ E H) (hM : PM B σ E j K N A C O) (hj : j < 6) : ∃ τ, g_N_minutesOf σ 0 (4 + j) = some (nI (E - A + rt K O * sct (σ.1 69) K A N C (E - A)), τ) ∧ Same σ τ := by
  obtain ⟨g1, g2, hR⟩ := hW.1
  obtain ⟨τ, e, s⟩ := e_stopsOf hW hM hj
  have hJ := hM.jc hW
  obtain ⟨u0, u1, u2, u3, u4, u5, u6, u7⟩ := hM.2.1
  refine ⟨τ, ?_, s⟩
  unfold g_N_minutesOf
  simp only [gk_0, grd_t (kd_m4 j hj), hR, rg_0_0, rg_1_0, ev_drf, gk_1, gk_2, e, ev_cl2, e_bitCount]
  rw [jm_ct hJ.2.2.1 hJ.2.2.2.1, hW.2.2.2.2.1.1, u2, u6, pk_sub hJ.2.2.2.1]
  show some (nI (E - A) + nI (rt K O) * nI _, τ) = _
  rw [pk_mul, nI_add]
theorem k_minutes {B : Nat} {σ : ns_St} (h : Inv B σ) (hB : B < 2 ^ 26) (x : Int32) : both B (g_N_minutes σ 0 x) (fun σ => g_M_minutes σ 65 x) := by
  obtain ⟨g1, g2, hR⟩ := h.1
  obtain ⟨E, H, hW⟩ := PW.of h hB
  have a2 := hW.2.2.1
  have a3 := hW.2.2.2.1
  have a5 := hW.2.2.2.2.2.1
  rcases mu_cases x a3 with ⟨j, hj, rfl, hx⟩ | ⟨hx, hx2⟩
  · have hj6 : j < 6 := by omega
    obtain ⟨K, N, A, C, O, hM⟩ := hW.2.2.2.2.2.2.2 j hj
    obtain ⟨τ, e, s⟩ := e_minutesOf hW hM hj6
    have hW1 := hW.same s
    have hM1 := hM.same s hj6
    obtain ⟨τ2, e2, s2⟩ := e_minutesOfM (hM1.jc hW1) hj6 hM1.2.2.1 hM1.2.2.2.1 hM1.2.2.2.2.1 hM1.2.2.2.2.2.1 hM1.2.2.2.2.2.2
    rw [s.mi (a := 69) (by omega)] at e2
    refine both.same h (r := nI (E - A + rt K O * sct (σ.1 69) K A N C (E - A))) ?_ s ?_ s2.same
    · unfold g_N_minutes
      simp only [gk_0, hR, rg_0_0, ev_drf, gk_1, e_muleAt hR a3 a5 hj, ev_cl2, ev_ons, grd_t (kd_m4 j hj6), e]
    · show g_M_minutes τ 65 (nI j) = _
      unfold g_M_minutes
      rw [gk_65, e_isMule, ev_cl2, hW1.2.2.1, ite2_y hx, e2, ev_cl2]
  · refine both.bad h hR (z := 0) (by decide) (c := -2) (by decide) (by decide) ?_ ?_
    · unfold g_N_minutes
      simp only [gk_0, hR, rg_0_0, ev_drf, gk_1, e_muleAtN a5 hx2, ev_cl2, ev_onn]
    · show g_M_minutes (rfN σ 0) 65 x = _
      have e5 : (rfN σ 0).1 65 5 = nI H := by rw [rfN, pI_ne _ _ _ (by decide)]; exact a2
      unfold g_M_minutes
      rw [gk_65, e_isMule, ev_cl2, e5, ite2_z hx]
theorem gb_cl {σ : ns_St} {th : Nat → Int32} {K A N C E : Nat} (hG : GR σ 2 th E) (hA : A ≤ E) : ∀ p, p < 64 → gb (jm th K A N C E &&& σ.2.1 2 3) p = (decide (A < p ∧ p ≤ E) && jcl th K A N C (p - A - 1)) := by
  intro p hp
  rw [gb_and, gb_jm hG.2.2.1 hA hp, jp, (hG.2.2.2.1 p hp).2.2.1]
  by_cases h : A < p ∧ p ≤ E
  · rw [decide_eq_true h, decide_eq_true h.2, Bool.true_and, Bool.true_and, Bool.true_and, jcl, show A + (p - A - 1) + 1 = p by omega]
  · rw [decide_eq_false h]; rfl
theorem gb_vm {σ : ns_St} {th : Nat → Int32} {K A N C E : Nat} (hG : GR σ 2 th E) (hA : A ≤ E) : ∀ p, p < 64 → gb ((σ.2.1 2 4 &&& ((-2 : Int64) <<< ((nI A).toInt64 &&& 63))) &&& (jm th K A N C E ^^^ (-1))) p = (decide (A < p ∧ p ≤ E) && jmi th K A N C (p - A - 1)) := by
  intro p hp
  have h60 := hG.2.2.1
  rw [gb_and, gb_and, gb_not _ hp, gb_jm h60 hA hp, gb_above A (by omega) p hp, jp, (hG.2.2.2.1 p hp).2.2.2]
  by_cases h : A < p ∧ p ≤ E
  · rw [decide_eq_true h, decide_eq_true h.2, decide_eq_true h.1, Bool.true_and, Bool.true_and, Bool.true_and, jmi, show A + (p - A - 1) + 1 = p by omega, Bool.and_true, Bool.and_comm]
  · rw [decide_eq_false h]
    by_cases h1 : A < p
    · have h2 : ¬ p ≤ E := fun q => h ⟨h1, q⟩
      rw [decide_eq_false h2]; rfl
    · rw [decide_eq_false h1]; simp
theorem e_viewsMissed {σ : ns_St} {g1 g2 : Option Nat} (hR : σ.2.2 = ns_rg g1 g2) (a : Int32) (x : Int64) : g_N_viewsMissed σ 0 a x = some ((σ.2.1 2 4 &&& ((-2 : Int64) <<< (a.toInt64 &&& 63))) &&& (x ^^^ (-1)), σ) := by
  unfold g_N_viewsMissed g_N_above
  simp only [gk_0, hR, rg_0_0, rg_1_0, ev_drf, gk_1, gk_2, ev_cl2]
theorem ct_wz {g f : Nat → Bool} {A E : Nat} (hA : A ≤ E) (hE : E ≤ 60) (h : ∀ p, p < 64 → g p = (decide (A < p ∧ p ≤ E) && f (p - A - 1))) : (∀ p, p < 64 → g p = false) ↔ fb_ct f (E - A) = 0 := by
  rw [← ct_win hA hE h]; exact fb_ct_zero.symm
theorem e_isGood {σ : ns_St} {g1 g2 : Option Nat} (hR : σ.2.2 = ns_rg g1 g2) {th : Nat → Int32} {K A N C E : Nat} (hG : GR σ 2 th E) (hA : A ≤ E) : g_N_isGood σ 0 (nI A) (jm th K A N C E) = some (yn (fb_ct (jcl th K A N C) (E - A) = 0 ∧ fb_ct (jmi th K A N C) (E - A) = 0), σ) := by
  have h60 := hG.2.2.1
  have c1 := ct_wz hA h60 (gb_cl (K := K) (N := N) (C := C) hG hA)
  have c2 := ct_wz hA h60 (gb_vm (K := K) (N := N) (C := C) hG hA)
  unfold g_N_isGood
  simp only [gk_0, hR, rg_0_0, rg_1_0, ev_drf, gk_1, gk_2, e_viewsMissed hR, ev_cl2]
  by_cases q1 : fb_ct (jcl th K A N C) (E - A) = 0
  · rw [ite2_p (gb_zc.mpr (c1.mpr q1))]
    by_cases q2 : fb_ct (jmi th K A N C) (E - A) = 0
    · rw [ite2_p (gb_zc.mpr (c2.mpr q2)), yn_t ⟨q1, q2⟩]
    · rw [ite2_n (fun e => q2 (c2.mp (gb_zc.mp e))), yn_f (fun q => q2 q.2)]
  · rw [ite2_n (fun e => q1 (c1.mp (gb_zc.mp e))), yn_f (fun q => q1 q.1)]
theorem jout0 (th : Nat → Int32) (K A N C n : Nat) : jout th K A N C 0 n = nI (fb_ct (jcl th K A N C) n) := if_pos rfl
theorem jout1 (th : Nat → Int32) (K A N C n : Nat) : jout th K A N C 1 n = fst (jcl th K A N C) (fun i => nI (A + i + 1)) n := by unfold jout; rw [if_neg (by decide), if_pos rfl]
theorem jout2 (th : Nat → Int32) (K A N C n : Nat) : jout th K A N C 2 n = nI (fb_ct (jmi th K A N C) n) := by unfold jout; rw [if_neg (by decide), if_neg (by decide)]
theorem nIz {n : Nat} (h : n < 1000) : nI n = 0 ↔ n = 0 := nI_eq (b := 0) (by omega) (by decide)
theorem e_isGoodM {σ : ns_St} {E K A N C j : Nat} (hJ : JC σ E K A N C) (hj : j < 6) (m0 : σ.1 70 j = nI K) (m1 : σ.1 71 j = nI N) (m2 : σ.1 72 j = nI A) (m3 : σ.1 73 j = nI C) : ∃ τ, g_M_isGood σ 65 (nI j) = some (yn (fb_ct (jcl (σ.1 69) K A N C) (E - A) = 0 ∧ fb_ct (jmi (σ.1 69) K A N C) (E - A) = 0), τ) ∧ Th σ τ := by
  obtain ⟨τ1, e1, t1⟩ := e_journey hJ hj m0 m1 m2 m3 0
  have h60 := hJ.2.2.1
  have b1 := fb_ct_le (jcl (σ.1 69) K A N C) (E - A)
  have b2 := fb_ct_le (jmi (σ.1 69) K A N C) (E - A)
  have hJ1 : JC τ1 E K A N C := ⟨t1.same.2.2.2 hJ.1, by rw [t1.2.2 3 (by omega)]; exact hJ.2.1, hJ.2.2⟩
  obtain ⟨τ2, e2, t2⟩ := e_journey hJ1 hj (by rw [t1.2.1 70 (by decide)]; exact m0) (by rw [t1.2.1 71 (by decide)]; exact m1) (by rw [t1.2.1 72 (by decide)]; exact m2) (by rw [t1.2.1 73 (by decide)]; exact m3) 2
  rw [t1.2.1 69 (by decide)] at e2
  unfold g_M_isGood
  rw [gk_65, e1, ev_cl2, jout0]
  by_cases q1 : fb_ct (jcl (σ.1 69) K A N C) (E - A) = 0
  · rw [ite2_p ((nIz (by omega)).mpr q1), e2, ev_cl2, jout2]
    by_cases q2 : fb_ct (jmi (σ.1 69) K A N C) (E - A) = 0
    · exact ⟨τ2, by rw [ite2_p ((nIz (by omega)).mpr q2), yn_t ⟨q1, q2⟩], t1.trans t2⟩
    · exact ⟨τ2, by rw [ite2_n (fun e => q2 ((nIz (by omega)).mp e)), yn_f (fun q => q2 q.2)], t1.trans t2⟩
  · exact ⟨τ1, by rw [ite2_n (fun e => q1 ((nIz (by omega)).mp e)), yn_f (fun q => q1 q.1)], t1⟩
theorem k_falls {B : Nat} {σ : ns_St} (h : Inv B σ) (hB : B < 2 ^ 26) (x : Int32) : both B (g_N_falls σ 0 x) (fun σ => g_M_falls σ 65 x) := by
  obtain ⟨g1, g2, hR⟩ := h.1
  obtain ⟨E, H, hW⟩ := PW.of h hB
  have a2 := hW.2.2.1
  have a3 := hW.2.2.2.1
  have a5 := hW.2.2.2.2.2.1
  rcases mu_cases x a3 with ⟨j, hj, rfl, hx⟩ | ⟨hx, hx2⟩
  · have hj6 : j < 6 := by omega
    obtain ⟨K, N, A, C, O, hM⟩ := hW.2.2.2.2.2.2.2 j hj
    have hk := kd_m4 j hj6
    have hJ := hM.jc hW
    obtain ⟨τ, e, s⟩ := e_stopsOf hW hM hj6
    have hW1 := hW.same s
    have hM1 := hM.same s hj6
    have hJ1 := hM1.jc hW1
    have th1 : τ.1 69 = σ.1 69 := s.mi (by omega)
    have hG1 : GR τ 2 (σ.1 69) E := by rw [← th1]; exact hW1.2.2.2.2.1
    obtain ⟨g3, g4, hR1⟩ := hW1.1
    obtain ⟨u0, u1, u2, u3, u4, u5, u6, u7⟩ := hM.2.1
    obtain ⟨τ2, e2, s2⟩ := e_journey hJ1 hj6 hM1.2.2.1 hM1.2.2.2.1 hM1.2.2.2.2.1 hM1.2.2.2.2.2.1 1
    rw [th1, jout1] at e2
    refine both.same h (r := fst (jcl (σ.1 69) K A N C) (fun i => nI (A + i + 1)) (E - A)) ?_ s ?_ s2.same
    · unfold g_N_falls
      simp only [gk_0, hR, rg_0_0, ev_drf, gk_1, e_muleAt hR a3 a5 hj, ev_cl2, ev_ons, grd_t hk, e, hR1, rg_1_0, gk_2]
      rw [e_fst hJ.2.2.1 (gb_cl hG1 hJ.2.2.2.1), ev_cl2]
    · show g_M_falls τ 65 (nI j) = _
      unfold g_M_falls
      rw [gk_65, e_isMule, ev_cl2, hW1.2.2.1, ite2_y hx, e2, ev_cl2]
  · refine both.bad h hR (z := 0) (by decide) (c := -2) (by decide) (by decide) ?_ ?_
    · unfold g_N_falls
      simp only [gk_0, hR, rg_0_0, ev_drf, gk_1, e_muleAtN a5 hx2, ev_cl2, ev_onn]
    · show g_M_falls (rfN σ 0) 65 x = _
      have e5 : (rfN σ 0).1 65 5 = nI H := by rw [rfN, pI_ne _ _ _ (by decide)]; exact a2
      unfold g_M_falls
      rw [gk_65, e_isMule, ev_cl2, e5, ite2_z hx]
theorem k_missed {B : Nat} {σ : ns_St} (h : Inv B σ) (hB : B < 2 ^ 26) (x : Int32) : both B (g_N_missed σ 0 x) (fun σ => g_M_missed σ 65 x) := by
  obtain ⟨g1, g2, hR⟩ := h.1
  obtain ⟨E, H, hW⟩ := PW.of h hB
  have a2 := hW.2.2.1
  have a3 := hW.2.2.2.1
  have a5 := hW.2.2.2.2.2.1
  rcases mu_cases x a3 with ⟨j, hj, rfl, hx⟩ | ⟨hx, hx2⟩
  · have hj6 : j < 6 := by omega
    obtain ⟨K, N, A, C, O, hM⟩ := hW.2.2.2.2.2.2.2 j hj
    have hk := kd_m4 j hj6
    have hJ := hM.jc hW
    obtain ⟨τ, e, s⟩ := e_stopsOf hW hM hj6
    have hW1 := hW.same s
    have hM1 := hM.same s hj6
    have hJ1 := hM1.jc hW1
    have th1 : τ.1 69 = σ.1 69 := s.mi (by omega)
    have hG1 : GR τ 2 (σ.1 69) E := by rw [← th1]; exact hW1.2.2.2.2.1
    obtain ⟨g3, g4, hR1⟩ := hW1.1
    obtain ⟨u0, u1, u2, u3, u4, u5, u6, u7⟩ := hM.2.1
    obtain ⟨τ2, e2, s2⟩ := e_journey hJ1 hj6 hM1.2.2.1 hM1.2.2.2.1 hM1.2.2.2.2.1 hM1.2.2.2.2.2.1 2
    rw [th1, jout2] at e2
    refine both.same h (r := nI (fb_ct (jmi (σ.1 69) K A N C) (E - A))) ?_ s ?_ s2.same
    · unfold g_N_missed
      simp only [gk_0, hR, rg_0_0, ev_drf, gk_1, e_muleAt hR a3 a5 hj, ev_cl2, ev_ons, grd_t hk, e, u2, e_viewsMissed hR1, e_bitCount]
      rw [ct_win hJ.2.2.2.1 hJ.2.2.1 (gb_vm hG1 hJ.2.2.2.1)]
    · show g_M_missed τ 65 (nI j) = _
      unfold g_M_missed
      rw [gk_65, e_isMule, ev_cl2, hW1.2.2.1, ite2_y hx, e2, ev_cl2]
  · refine both.bad h hR (z := 0) (by decide) (c := -2) (by decide) (by decide) ?_ ?_
    · unfold g_N_missed
      simp only [gk_0, hR, rg_0_0, ev_drf, gk_1, e_muleAtN a5 hx2, ev_cl2, ev_onn]
    · show g_M_missed (rfN σ 0) 65 x = _
      have e5 : (rfN σ 0).1 65 5 = nI H := by rw [rfN, pI_ne _ _ _ (by decide)]; exact a2
      unfold g_M_missed
      rw [gk_65, e_isMule, ev_cl2, e5, ite2_z hx]
theorem k_good {B : Nat} {σ : ns_St} (h : Inv B σ) (hB : B < 2 ^ 26) (x : Int32) : both B (g_N_good σ 0 x) (fun σ => g_M_good σ 65 x) := by
  obtain ⟨g1, g2, hR⟩ := h.1
  obtain ⟨E, H, hW⟩ := PW.of h hB
  have a2 := hW.2.2.1
  have a3 := hW.2.2.2.1
  have a5 := hW.2.2.2.2.2.1
  rcases mu_cases x a3 with ⟨j, hj, rfl, hx⟩ | ⟨hx, hx2⟩
  · have hj6 : j < 6 := by omega
    obtain ⟨K, N, A, C, O, hM⟩ := hW.2.2.2.2.2.2.2 j hj
    have hk := kd_m4 j hj6
    have hJ := hM.jc hW
    obtain ⟨τ, e, s⟩ := e_stopsOf hW hM hj6
    have hW1 := hW.same s
    have hM1 := hM.same s hj6
    have hJ1 := hM1.jc hW1
    have th1 : τ.1 69 = σ.1 69 := s.mi (by omega)
    have hG1 : GR τ 2 (σ.1 69) E := by rw [← th1]; exact hW1.2.2.2.2.1
    obtain ⟨g3, g4, hR1⟩ := hW1.1
    obtain ⟨u0, u1, u2, u3, u4, u5, u6, u7⟩ := hM.2.1
    obtain ⟨τ2, e2, s2⟩ := e_isGoodM hJ1 hj6 hM1.2.2.1 hM1.2.2.2.1 hM1.2.2.2.2.1 hM1.2.2.2.2.2.1
    rw [th1] at e2
    have e1 : g_N_isGood τ 0 (nI A) (jm (σ.1 69) K A N C E) = _ := e_isGood hR1 hG1 hJ.2.2.2.1
    by_cases q : fb_ct (jcl (σ.1 69) K A N C) (E - A) = 0 ∧ fb_ct (jmi (σ.1 69) K A N C) (E - A) = 0
    · refine both.same h (r := 1) ?_ s ?_ s2.same
      · unfold g_N_good
        simp only [gk_0, hR, rg_0_0, ev_drf, gk_1, e_muleAt hR a3 a5 hj, ev_cl2, ev_ons, grd_t hk, e, u2, e1, ite2_y q]
      · show g_M_good τ 65 (nI j) = _
        unfold g_M_good
        rw [gk_65, e_isMule, ev_cl2, hW1.2.2.1, ite2_y hx, e2, ev_cl2, ite2_y q]
    · refine both.same h (r := 0) ?_ s ?_ s2.same
      · unfold g_N_good
        simp only [gk_0, hR, rg_0_0, ev_drf, gk_1, e_muleAt hR a3 a5 hj, ev_cl2, ev_ons, grd_t hk, e, u2, e1, ite2_z q]
      · show g_M_good τ 65 (nI j) = _
        unfold g_M_good
        rw [gk_65, e_isMule, ev_cl2, hW1.2.2.1, ite2_y hx, e2, ev_cl2, ite2_z q]
  · refine both.bad h hR (z := 0) (by decide) (c := -2) (by decide) (by decide) ?_ ?_
    · unfold g_N_good
      simp only [gk_0, hR, rg_0_0, ev_drf, gk_1, e_muleAtN a5 hx2, ev_cl2, ev_onn]
    · show g_M_good (rfN σ 0) 65 x = _
      have e5 : (rfN σ 0).1 65 5 = nI H := by rw [rfN, pI_ne _ _ _ (by decide)]; exact a2
      unfold g_M_good
      rw [gk_65, e_isMule, ev_cl2, e5, ite2_z hx]
