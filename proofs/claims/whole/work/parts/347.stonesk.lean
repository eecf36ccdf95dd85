/-! STONES: both -/
theorem sfm_same {σ τ : ns_St} (h : ∀ c, 69 ≤ c ∧ c ≤ 73 → τ.1 c = σ.1 c) {E : Nat} {X : Nat → Bool} {j : Nat} : sfm τ E X j = sfm σ E X j := by
  unfold sfm gm
  rw [h 69 (by omega), h 70 (by omega), h 71 (by omega), h 72 (by omega), h 73 (by omega)]
theorem aF_same {σ τ : ns_St} (h : ∀ c, 69 ≤ c ∧ c ≤ 73 → τ.1 c = σ.1 c) {E : Nat} {X : Nat → Bool} : ∀ k, aF τ E X k = aF σ E X k
  | 0 => rfl
  | k + 1 => by rw [aF, aF, aF_same h k, sfm_same h]
theorem P1_same {σ τ : ns_St} (h : ∀ c, 69 ≤ c ∧ c ≤ 73 → τ.1 c = σ.1 c) {E H p : Nat} : P1 τ E H p = P1 σ E H p := by unfold P1 fr1; rw [aF_same h, h 69 (by omega)]
theorem P2_same {σ τ : ns_St} (h : ∀ c, 69 ≤ c ∧ c ≤ 73 → τ.1 c = σ.1 c) {E H p q : Nat} : P2 τ E H p q = P2 σ E H p q := by unfold P2 fr1; rw [aF_same h, h 69 (by omega)]
/-- the least number of new STONES: how many, first, second -/
def Fnd (σ : ns_St) (E H : Nat) (n : Int32) (p q : Nat) : Prop := (n = 0 ∧ p = 0 ∧ q = 0 ∧ aF σ E X0 H = true) ∨ (n = 1 ∧ q = 0 ∧ p ≤ E ∧ aF σ E X0 H = false ∧ P1 σ E H p = true ∧ ∀ y, y < p → P1 σ E H y = false) ∨ (n = 2 ∧ p ≤ E ∧ q ≤ E ∧ aF σ E X0 H = false ∧ (∀ y, P1 σ E H y = false) ∧ P2 σ E H p q = true ∧ (∀ y, y < q → P2 σ E H p y = false) ∧ ∀ z y, z < p → P2 σ E H z y = false) ∨ (n = -1 ∧ p = 0 ∧ q = 0 ∧ aF σ E X0 H = false ∧ (∀ y, P1 σ E H y = false) ∧ ∀ z y, P2 σ E H z y = false)
theorem e_newStones {B : Nat} {σ : ns_St} {E H : Nat} (hW : PW B σ E H) {n : Int32} {p q : Nat} (hF : Fnd σ E H n p q) : ∃ τ', g_M_newStones σ 65 = some (if n = -1 then -1 else nI (10000 * n.toNatClampNeg + 100 * p + q), τ') ∧ Th σ τ' := by
  have h60 := hW.h60
  obtain ⟨T, eT, tT⟩ := e_noneFalls hW (NX.no (Th.rfl σ)) (fun p hp => by unfold X0 at hp; cases hp)
  have one : (hz : aF σ E X0 H = false) → g_M_newStones σ 65 = g_M_newStones_11 ns_F T 65 1 := fun hz => by
    unfold g_M_newStones
    rw [gk_65, eT, ev_cl2, hz, ite2_z (by decide)]
  rcases hF with ⟨rfl, rfl, rfl, h⟩ | ⟨rfl, rfl, hpE, hz, h1, h2⟩ | ⟨rfl, hpE, hqE, hz, h1, h2, h3, h4⟩ | ⟨rfl, rfl, rfl, hz, h1, h2⟩
  · refine ⟨T, ?_, tT⟩
    unfold g_M_newStones
    rw [gk_65, eT, ev_cl2, h, ite2_y (Eq.refl true)]
    rfl
  · have p1 : 1 ≤ p := by
      unfold P1 fr1 at h1
      rw [Bool.and_eq_true, Bool.and_eq_true] at h1
      exact (of_decide_eq_true h1.1.1).1
    rcases e_one11 hW E 1 ns_F T (by show E < 10000; omega) (by omega) (by omega) tT with ⟨q, τ', a1, a2, a3, a4, a5, a6⟩ | ⟨a1, _⟩
    · have e : q = p := by
        rcases Nat.lt_trichotomy q p with c | c | c
        · rw [h2 q c] at a3; cases a3
        · exact c
        · rw [a4 p p1 c] at h1; cases h1
      subst e
      refine ⟨τ', ?_, a6⟩
      have a5' : g_M_newStones_11 ns_F T 65 1 = some (nI (10000 + 100 * q), τ') := a5
      rw [one hz, a5']
      rfl
    · rw [a1 p p1 hpE] at h1; cases h1
  · have p1 : 1 ≤ p := by
      unfold P2 fr1 at h2
      rw [Bool.and_eq_true, Bool.and_eq_true, Bool.and_eq_true, Bool.and_eq_true] at h2
      exact (of_decide_eq_true h2.1.1.1.1).1
    rcases e_one11 hW E 1 ns_F T (by show E < 10000; omega) (by omega) (by omega) tT with ⟨y, τ', a1, a2, a3, a4, a5, a6⟩ | ⟨a1, τ1, a2, a3⟩
    · rw [h1 y] at a3; cases a3
    · have a2' : g_M_newStones_11 ns_F T 65 1 = g_M_newStones_78 ns_F τ1 65 1 := a2
      rcases e_two78 hW E 1 ns_F τ1 (by show E < 10000; omega) (by omega) (by omega) a3 with ⟨p', q', τ', b1, b2, b3, b4, b5, b6, b7, b8⟩ | ⟨b1, _⟩
      · have e : p' = p := by
          rcases Nat.lt_trichotomy p' p with c | c | c
          · rw [h4 p' q' c] at b4; cases b4
          · exact c
          · rw [b6 p q p1 c] at h2; cases h2
        subst e
        have e : q' = q := by
          rcases Nat.lt_trichotomy q' q with c | c | c
          · rw [h3 q' c] at b4; cases b4
          · exact c
          · rw [b5 q c] at h2; cases h2
        subst e
        refine ⟨τ', ?_, b8⟩
        have b7' : g_M_newStones_78 ns_F τ1 65 1 = some (nI (20000 + 100 * p' + q'), τ') := b7
        rw [one hz, a2', b7']
        rfl
      · rw [b1 p q p1] at h2; cases h2
  · rcases e_one11 hW E 1 ns_F T (by show E < 10000; omega) (by omega) (by omega) tT with ⟨y, τ', a1, a2, a3, a4, a5, a6⟩ | ⟨a1, τ1, a2, a3⟩
    · rw [h1 y] at a3; cases a3
    · have a2' : g_M_newStones_11 ns_F T 65 1 = g_M_newStones_78 ns_F τ1 65 1 := a2
      rcases e_two78 hW E 1 ns_F τ1 (by show E < 10000; omega) (by omega) (by omega) a3 with ⟨p', q', τ', b1, b2, b3, b4, b5, b6, b7, b8⟩ | ⟨b1, τ', b2, b3⟩
      · rw [h2 p' q'] at b4; cases b4
      · have b2' : g_M_newStones_78 ns_F τ1 65 1 = some (-1, τ') := b2
        exact ⟨τ', by rw [one hz, a2', b2']; rfl, b3⟩
theorem Fnd.same {σ τ : ns_St} {E H : Nat} (h : ∀ c, 69 ≤ c ∧ c ≤ 73 → τ.1 c = σ.1 c) {n : Int32} {p q : Nat} (hF : Fnd σ E H n p q) : Fnd τ E H n p q := by
  unfold Fnd at hF ⊢
  simp only [aF_same h, P1_same h, P2_same h]
  exact hF
theorem e_stonesN {B : Nat} {σ : ns_St} {E H : Nat} (hW : PW B σ E H) {x : Int32} (hx : (-1 : Int32) ≤ x ∧ x ≤ (1 : Int32)) : ∃ n p q τ', Fnd σ E H n p q ∧ g_N_stones σ 0 x = g_N_stones_72 τ' 0 x n ∧ Same σ τ' ∧ (0 < n → τ'.1 35 8 = nI p) ∧ (1 < n → τ'.1 35 9 = nI q) := by
  have hH := hW.2.2.2.1
  have h60 := hW.h60
  obtain ⟨g1, g2, hR⟩ := hW.1
  have sR : Same σ (ns_pR σ 35 7 (some 2)) := Same.pR2
  have hP : PS B (ns_pR σ 35 7 (some 2)) E H g1 := ⟨hW.same sR, by show va_up σ.2.2 35 (va_up (σ.2.2 35) 7 (some 2)) = _; rw [hR]; exact rg_p2 g1 g2 (some 2)⟩
  have st : ∀ T : ns_St, Sc (ns_pR σ 35 7 (some 2)) T → Sc (ns_pR σ 35 7 (some 2)) (ns_pR T 35 7 (some 2)) := fun T s => ⟨by
      have hRT : T.2.2 = ns_rg g1 (some 2) := by rw [s.1]; exact hP.2
      show va_up T.2.2 35 (va_up (T.2.2 35) 7 (some 2)) = _
      rw [hRT, hP.2]; exact rg_p2 g1 (some 2) (some 2), s.2.1, s.2.2⟩
  have head : g_N_stones σ 0 x = cl2 (g_StonePlan_isAnyNeeded_10 ns_F (ns_pR σ 35 7 (some 2)) 35 1 (0 : Int32)) fun r43 σ42 => ite2 (r43 = 0) (g_N_stones_72 σ42 0 x (0 : Int32)) (drf (σ42.2.2 0 6) fun b45 => grd (ns_kd b45 = 4) <| drf (σ42.2.2 0 0) fun b46 => grd (ns_kd b46 = 7) <| cl2 (g_StonePlan_isOneEnough σ42 b45 b46) fun r48 σ47 => ite2 (r48 = 0) (drf (σ47.2.2 0 6) fun b50 => grd (ns_kd b50 = 4) <| drf (σ47.2.2 0 0) fun b51 => grd (ns_kd b51 = 7) <| cl2 (g_StonePlan_isPairEnough σ47 b50 b51) fun r53 σ52 => ite2 (r53 = 0) (g_N_stones_72 σ52 0 x (-1 : Int32)) (g_N_stones_72 σ52 0 x (2 : Int32))) (g_N_stones_72 σ47 0 x (1 : Int32))) := by
    unfold g_N_stones
    rw [gk_0, e_isWithin, ev_cl2, ite2_y hx, hR, rg_0_6, ev_drf, gk_35, rg_0_0, ev_drf, gk_1]
    unfold g_StonePlan_isAnyNeeded
    rw [gk_35, gk_1, hR, rg_1_0, ev_drf, gk_2, ev_bnd]
  obtain ⟨τ1, e1, s1⟩ := e_any10 hP H 0 ns_F _ (by show H < 10000; omega) (by omega) (Sc.rfl _) rfl
  have e1' : g_StonePlan_isAnyNeeded_10 ns_F (ns_pR σ 35 7 (some 2)) 35 1 (0 : Int32) = _ := e1
  rw [head, e1', ev_cl2]
  cases hz : aF (ns_pR σ 35 7 (some 2)) E X0 H with
  | true =>
    refine ⟨0, 0, 0, τ1, Fnd.same (σ := (ns_pR σ 35 7 (some 2))) (τ := σ) (fun _ _ => rfl) (Or.inl ⟨rfl, rfl, rfl, hz⟩), ?_, sR.trans s1.same, fun h => absurd h (by decide), fun h => absurd h (by decide)⟩
    rw [ite2_z (show ¬ true = false by decide)]
  | false =>
    have hR1 : τ1.2.2 = ns_rg g1 (some 2) := by rw [s1.1]; exact hP.2
    have sq1 := st τ1 s1
    obtain ⟨m, em, bm⟩ := e_freePlaces hP sq1
    obtain ⟨τ2, o2, s2⟩ := e_one16 hP H 0 ns_F _ m (by show H < 10000; omega) (by omega) sq1 (fun p hp => by rw [bm p hp, aF, Bool.and_true])
    have hR2 : τ2.2.2 = ns_rg g1 (some 2) := by rw [s2.1]; exact hP.2
    have e2 : g_StonePlan_isOneEnough τ1 35 1 = g_StonePlan_isOneEnough_16 ns_F (ns_pR τ1 35 7 (some 2)) 35 1 m (nI 0) := by
      unfold g_StonePlan_isOneEnough
      rw [gk_35, gk_1, hR1, rg_1_0, ev_drf, gk_2, ev_bnd, em, ev_cl2]
      rfl
    rw [ite2_y (Eq.refl false), hR1, rg_0_6, ev_drf, gk_35, rg_0_0, ev_drf, gk_1, e2]
    rcases o2 with ⟨q, a1, a2, a3, a4, a5⟩ | ⟨a1, a2⟩
    · refine ⟨1, q, 0, τ2, Fnd.same (σ := (ns_pR σ 35 7 (some 2))) (τ := σ) (fun _ _ => rfl) (Or.inr (Or.inl ⟨rfl, rfl, a1, hz, a2, a3⟩)), ?_, sR.trans s2.same, fun _ => a5, fun h => absurd h (by decide)⟩
      rw [a4, ev_cl2, ite2_n (by decide)]
    · have sq2 := st τ2 s2
      obtain ⟨m3, em3, bm3⟩ := e_freePlaces hP sq2
      obtain ⟨τ3, o3, s3⟩ := e_pr16 hP bm3 61 0 ns_F _ (by decide) (by omega) sq2 (fun p hp => absurd hp (by omega))
      have e3 : g_StonePlan_isPairEnough τ2 35 1 = g_StonePlan_isPairEnough_16 ns_F (ns_pR τ2 35 7 (some 2)) 35 1 m3 (nI 0) := by
        unfold g_StonePlan_isPairEnough
        rw [gk_35, gk_1, hR2, rg_1_0, ev_drf, gk_2, ev_bnd, em3, ev_cl2]
        rfl
      rw [a2, ev_cl2, ite2_p (Eq.refl (0 : Int32)), hR2, rg_0_6, ev_drf, gk_35, rg_0_0, ev_drf, gk_1, e3]
      rcases o3 with ⟨p, q, b1, b2, b3, b4, b5, b6, b7, b8⟩ | ⟨b1, b2⟩
      · refine ⟨2, p, q, τ3, Fnd.same (σ := (ns_pR σ 35 7 (some 2))) (τ := σ) (fun _ _ => rfl) (Or.inr (Or.inr (Or.inl ⟨rfl, b1, b2, hz, a1, b3, b4, b5⟩))), ?_, sR.trans s3.same, fun _ => b7, fun _ => b8⟩
        rw [b6, ev_cl2, ite2_n (by decide)]
      · refine ⟨-1, 0, 0, τ3, Fnd.same (σ := (ns_pR σ 35 7 (some 2))) (τ := σ) (fun _ _ => rfl) (Or.inr (Or.inr (Or.inr ⟨rfl, rfl, rfl, hz, a1, b1⟩))), ?_, sR.trans s3.same, fun h => absurd h (by decide), fun h => absurd h (by decide)⟩
        rw [b2, ev_cl2, ite2_p (Eq.refl (0 : Int32))]
theorem i3c {x : Int32} (h : (-1 : Int32) ≤ x ∧ x ≤ (1 : Int32)) : x = -1 ∨ x = 0 ∨ x = 1 := by
  have h1 := Int32.le_iff_toInt_le.mp h.1
  have h2 := Int32.le_iff_toInt_le.mp h.2
  have a : (-1 : Int32).toInt = -1 := by decide
  have b : (1 : Int32).toInt = 1 := by decide
  rw [a] at h1
  rw [b] at h2
  rcases (by omega : x.toInt = -1 ∨ x.toInt = 0 ∨ x.toInt = 1) with e | e | e
  · exact Or.inl (Int32.toInt_inj.mp (e.trans a.symm))
  · exact Or.inr (Or.inl (Int32.toInt_inj.mp (e.trans (by decide))))
  · exact Or.inr (Or.inr (Int32.toInt_inj.mp (e.trans b.symm)))
theorem k_stones {B : Nat} {σ : ns_St} (h : Inv B σ) (hB : B < 2 ^ 26) (x : Int32) : both B (g_N_stones σ 0 x) (fun σ => g_M_stones σ 65 x) := by
  obtain ⟨E, H, hW⟩ := PW.of h hB
  obtain ⟨g1, g2, hR⟩ := hW.1
  have h60 := hW.h60
  by_cases hx : (-1 : Int32) ≤ x ∧ x ≤ (1 : Int32)
  · obtain ⟨n, p, q, τ, hF, eN, sN, f8, f9⟩ := e_stonesN hW hx
    have hRf : ∃ a b, τ.2.2 = ns_rg a b := (hW.same sN).1
    obtain ⟨a, b, hRτ⟩ := hRf
    have c69 : ∀ c, 69 ≤ c ∧ c ≤ 73 → τ.1 c = σ.1 c := fun c hc => sN.mi (by omega)
    have c69' : ∀ c, 69 ≤ c ∧ c ≤ 73 → (rfN τ 3).1 c = σ.1 c := fun c hc => by rw [rfN, pI_ne _ _ _ (by omega)]; exact c69 c hc
    obtain ⟨T, eT, tT⟩ := e_newStones (hW.same sN) (hF.same c69)
    obtain ⟨U, eU, tU⟩ := e_newStones (PW.torfN (z := 3) (hW.same sN)) (hF.same c69')
    have hM : ∀ (S S' : ns_St), g_M_newStones S 65 = some (if n = -1 then -1 else nI (10000 * n.toNatClampNeg + 100 * p + q), S') → g_M_stones S 65 x = ite2 ((if n = -1 then -1 else nI (10000 * n.toNatClampNeg + 100 * p + q)) = (-1 : Int32)) (some ((-1 : Int32), S')) (bnd ((if n = -1 then -1 else nI (10000 * n.toNatClampNeg + 100 * p + q)) / (10000 : Int32)) fun z21 => ite2 (x = (-1 : Int32)) (some (z21, S')) (ite2 (x < z21) (ite2 (x = 0) (some ((((if n = -1 then -1 else nI (10000 * n.toNatClampNeg + 100 * p + q)) / (100 : Int32)) - ((if n = -1 then -1 else nI (10000 * n.toNatClampNeg + 100 * p + q)) / (100 : Int32)) / (100 : Int32) * (100 : Int32)), S')) (some (((if n = -1 then -1 else nI (10000 * n.toNatClampNeg + 100 * p + q)) - (if n = -1 then -1 else nI (10000 * n.toNatClampNeg + 100 * p + q)) / (100 : Int32) * (100 : Int32)), S'))) (cl2 (g_M_no S' 65 (-5 : Int32)) fun r26 σ25 => some (r26, σ25)))) := fun S S' e => by
      unfold g_M_stones
      rw [gk_65, e_within, ev_cl2, ite2_y hx, e, ev_cl2]
    have mT := hM τ T eT
    have mU := hM (rfN τ 3) U eU
    have num : ∀ v, v < 2 ^ 31 → ¬ nI v = (-1 : Int32) := fun v hv e => by
      have := congrArg Int32.toInt e
      rw [nI_toInt hv] at this
      have e2 : (-1 : Int32).toInt = -1 := by decide
      rw [e2] at this
      omega
    have late : (g_N_stones_72 τ 0 x n = cl2 (g_N_refuse τ 0 (-5)) fun r σ' => some (r, σ')) → (g_M_stones (rfN τ 3) 65 x = cl2 (g_M_no U 65 (-5)) fun r σ' => some (r, σ')) → both B (g_N_stones σ 0 x) (fun σ => g_M_stones σ 65 x) := fun e1 e2 => both.late h sN (z := 3) (by decide) (c := -5) (by decide) (by decide) (by rw [eN]; exact e1) e2 tU.same
    have good : ∀ r, g_N_stones_72 τ 0 x n = some (r, τ) → g_M_stones τ 65 x = some (r, T) → both B (g_N_stones σ 0 x) (fun σ => g_M_stones σ 65 x) := fun r e1 e2 => both.same h (by rw [eN]; exact e1) sN e2 tT.same
    have f8' : 0 < n → ite2 ((0 : Int32) = 0) (drf (τ.2.2 0 6) fun b34 => grd (ns_kd b34 = 4) <| some ((τ.1 b34 8), τ)) (drf (τ.2.2 0 6) fun b33 => grd (ns_kd b33 = 4) <| some ((τ.1 b33 9), τ)) = some (nI p, τ) := fun hn => by rw [ite2_p (Eq.refl (0 : Int32)), hRτ, rg_0_6, ev_drf, gk_35, f8 hn]
    have f9' : 1 < n → ite2 ((1 : Int32) = 0) (drf (τ.2.2 0 6) fun b34 => grd (ns_kd b34 = 4) <| some ((τ.1 b34 8), τ)) (drf (τ.2.2 0 6) fun b33 => grd (ns_kd b33 = 4) <| some ((τ.1 b33 9), τ)) = some (nI q, τ) := fun hn => by rw [ite2_n (by decide), hRτ, rg_0_6, ev_drf, gk_35, f9 hn]
    have dv : ∀ v d, v < 2 ^ 31 → 0 < d → d < 2 ^ 31 → nI v / nI d = nI (v / d) := fun v d h1 h2 h3 => pk_div h1 h2 h3
    have rm : ∀ v d, v < 2 ^ 31 → 0 < d → d < 2 ^ 31 → nI v - nI v / nI d * nI d = nI (v % d) := fun v d h1 h2 h3 => pk_rem h1 h2 h3
    rcases hF with ⟨rfl, rfl, rfl, h1⟩ | ⟨rfl, rfl, h0, h1, h2, h3⟩ | ⟨rfl, h0, h0', h1, h2, h3, h4, h5⟩ | ⟨rfl, rfl, rfl, h1, h2, h3⟩
    · have e0 : (if (0 : Int32) = -1 then (-1 : Int32) else nI (10000 * (0 : Int32).toNatClampNeg + 100 * 0 + 0)) = 0 := by decide
      rw [e0] at mT mU
      rcases i3c hx with rfl | rfl | rfl
      · refine good 0 ?_ ?_
        · unfold g_N_stones_72; rw [ite2_n (by decide), ite2_p (Eq.refl _)]
        · rw [mT, ite2_n (by decide), ev_bnd, ite2_p (Eq.refl _)]; rfl
      · refine late ?_ ?_
        · unfold g_N_stones_72; rw [ite2_n (by decide), ite2_n (by decide), ite2_n (by decide)]
        · rw [mU, ite2_n (by decide), ev_bnd, ite2_n (by decide), ite2_n (by decide)]
      · refine late ?_ ?_
        · unfold g_N_stones_72; rw [ite2_n (by decide), ite2_n (by decide), ite2_n (by decide)]
        · rw [mU, ite2_n (by decide), ev_bnd, ite2_n (by decide), ite2_n (by decide)]
    · have e0 : (if (1 : Int32) = -1 then (-1 : Int32) else nI (10000 * (1 : Int32).toNatClampNeg + 100 * p + 0)) = nI (10000 + 100 * p) := by rw [if_neg (by decide)]; rfl
      have d1 : nI (10000 + 100 * p) / (10000 : Int32) = 1 := (dv (10000 + 100 * p) 10000 (by omega) (by omega) (by omega)).trans (by rw [show (10000 + 100 * p) / 10000 = 1 by omega]; rfl)
      have d2 : nI (10000 + 100 * p) / (100 : Int32) = nI (100 + p) := (dv (10000 + 100 * p) 100 (by omega) (by omega) (by omega)).trans (by rw [show (10000 + 100 * p) / 100 = 100 + p by omega])
      have d3 : nI (100 + p) - nI (100 + p) / (100 : Int32) * (100 : Int32) = nI p := (rm (100 + p) 100 (by omega) (by omega) (by omega)).trans (by rw [show (100 + p) % 100 = p by omega])
      rw [e0] at mT mU
      rcases i3c hx with rfl | rfl | rfl
      · refine good 1 ?_ ?_
        · unfold g_N_stones_72; rw [ite2_n (by decide), ite2_p (Eq.refl _)]
        · rw [mT, ite2_n (num _ (by omega)), ev_bnd, ite2_p (Eq.refl _), d1]
      · refine good (nI p) ?_ ?_
        · unfold g_N_stones_72; rw [ite2_n (by decide), ite2_n (by decide), ite2_p (by decide)]; exact f8' (by decide)
        · rw [mT, ite2_n (num _ (by omega)), ev_bnd, ite2_n (by decide), d1, ite2_p (by decide), ite2_p (Eq.refl (0 : Int32)), d2, d3]
      · refine late ?_ ?_
        · unfold g_N_stones_72; rw [ite2_n (by decide), ite2_n (by decide), ite2_n (by decide)]
        · rw [mU, ite2_n (num _ (by omega)), ev_bnd, ite2_n (by decide), d1, ite2_n (by decide)]
    · have e0 : (if (2 : Int32) = -1 then (-1 : Int32) else nI (10000 * (2 : Int32).toNatClampNeg + 100 * p + q)) = nI (20000 + 100 * p + q) := by rw [if_neg (by decide)]; rfl
      have d1 : nI (20000 + 100 * p + q) / (10000 : Int32) = 2 := (dv (20000 + 100 * p + q) 10000 (by omega) (by omega) (by omega)).trans (by rw [show (20000 + 100 * p + q) / 10000 = 2 by omega]; rfl)
      have d2 : nI (20000 + 100 * p + q) / (100 : Int32) = nI (200 + p) := (dv (20000 + 100 * p + q) 100 (by omega) (by omega) (by omega)).trans (by rw [show (20000 + 100 * p + q) / 100 = 200 + p by omega])
      have d3 : nI (200 + p) - nI (200 + p) / (100 : Int32) * (100 : Int32) = nI p := (rm (200 + p) 100 (by omega) (by omega) (by omega)).trans (by rw [show (200 + p) % 100 = p by omega])
      have d4 : nI (20000 + 100 * p + q) - nI (20000 + 100 * p + q) / (100 : Int32) * (100 : Int32) = nI q := (rm (20000 + 100 * p + q) 100 (by omega) (by omega) (by omega)).trans (by rw [show (20000 + 100 * p + q) % 100 = q by omega])
      rw [e0] at mT mU
      rcases i3c hx with rfl | rfl | rfl
      · refine good 2 ?_ ?_
        · unfold g_N_stones_72; rw [ite2_n (by decide), ite2_p (Eq.refl _)]
        · rw [mT, ite2_n (num _ (by omega)), ev_bnd, ite2_p (Eq.refl _), d1]
      · refine good (nI p) ?_ ?_
        · unfold g_N_stones_72; rw [ite2_n (by decide), ite2_n (by decide), ite2_p (by decide)]; exact f8' (by decide)
        · rw [mT, ite2_n (num _ (by omega)), ev_bnd, ite2_n (by decide), d1, ite2_p (by decide), ite2_p (Eq.refl (0 : Int32)), d2, d3]
      · refine good (nI q) ?_ ?_
        · unfold g_N_stones_72; rw [ite2_n (by decide), ite2_n (by decide), ite2_p (by decide)]; exact f9' (by decide)
        · rw [mT, ite2_n (num _ (by omega)), ev_bnd, ite2_n (by decide), d1, ite2_p (by decide), ite2_n (by decide), d4]
    · have e0 : (if (-1 : Int32) = -1 then (-1 : Int32) else nI (10000 * (-1 : Int32).toNatClampNeg + 100 * 0 + 0)) = -1 := by decide
      rw [e0] at mT
      refine good (-1) ?_ ?_
      · unfold g_N_stones_72; rw [ite2_p (Eq.refl _)]
      · rw [mT, ite2_p (Eq.refl _)]
  · refine both.bad h hR (z := 0) (by decide) (c := -2) (by decide) (by decide) ?_ ?_
    · unfold g_N_stones
      rw [gk_0, e_isWithin, ev_cl2, ite2_z hx]
    · show g_M_stones (rfN σ 0) 65 x = _
      unfold g_M_stones
      rw [gk_65, e_within, ev_cl2, ite2_z hx]
