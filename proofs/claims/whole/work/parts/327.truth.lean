/-! IN TRUTH -/
def rr (st : Bool) (R : Nat) (re : Int32) : Int32 := cond st (re + nI R) re
def ff (b : Bool) (fe : Int32) : Int32 := cond b (fe + 1) fe
/-- the class, one MULE of it under way -/
def TN (σ τ : ns_St) (j K R N p C : Nat) (re fe se : Int32) : Prop := τ.2 = σ.2 ∧ (∀ a, a ≠ 4 + j → a ≠ 1 → τ.1 a = σ.1 a) ∧ (∀ k, k ≠ 4 → k ≠ 5 → τ.1 1 k = σ.1 1 k) ∧ τ.1 1 4 = fe ∧ τ.1 1 5 = se ∧ τ.1 (4 + j) 0 = nI K ∧ τ.1 (4 + j) 1 = nI N ∧ τ.1 (4 + j) 2 = nI p ∧ τ.1 (4 + j) 3 = nI C ∧ τ.1 (4 + j) 4 = re ∧ τ.1 (4 + j) 5 = σ.1 (4 + j) 5 ∧ τ.1 (4 + j) 6 = nI R ∧ τ.1 (4 + j) 7 = nI (wtK K)
/-- the reference, one of them under way -/
def TM (σ τ : ns_St) (j K N p C : Nat) (re fe se : Int32) : Prop := τ.2 = σ.2 ∧ (∀ a, a ≠ 74 → a ≠ 65 → τ.1 a = σ.1 a) ∧ (∀ i, i ≠ j → τ.1 74 i = σ.1 74 i) ∧ τ.1 74 j = re ∧ (∀ k, ¬ (25 ≤ k ∧ k ≤ 28) → k ≠ 13 → k ≠ 14 → τ.1 65 k = σ.1 65 k) ∧ τ.1 65 13 = fe ∧ τ.1 65 14 = se ∧ τ.1 65 25 = nI K ∧ τ.1 65 26 = nI N ∧ τ.1 65 27 = nI p ∧ τ.1 65 28 = nI C
theorem e_restN {σ : ns_St} {g1 g2 : Option Nat} (hR : σ.2.2 = ns_rg g1 g2) {j p : Nat} (hj : j < 6) (hp : p < 64) (h2 : σ.1 (4 + j) 2 = nI p) : ∃ τ, g_World_restInTruth σ 1 (4 + j) = some ((), τ) ∧ τ.2 = σ.2 ∧ (∀ a, a ≠ 4 + j → a ≠ 1 → τ.1 a = σ.1 a) ∧ (∀ k, k ≠ 4 → τ.1 1 k = σ.1 1 k) ∧ τ.1 1 4 = ff (gb (σ.2.1 2 3) p) (σ.1 1 4) ∧ (∀ k, k ≠ 4 → τ.1 (4 + j) k = σ.1 (4 + j) k) ∧ τ.1 (4 + j) 4 = σ.1 (4 + j) 4 + σ.1 (4 + j) 6 := by
  have hk := kd_m4 j hj
  unfold g_World_restInTruth
  rw [gk_1, grd_t hk, ev_bnd]
  generalize hU : ns_pI σ (4 + j) 4 (σ.1 (4 + j) 4 + σ.1 (4 + j) 6) = U
  have U2 : U.2 = σ.2 := by rw [← hU]; rfl
  have Ua : ∀ a, a ≠ 4 + j → U.1 a = σ.1 a := fun a ha => by rw [← hU]; exact pI_ne _ _ _ ha
  have U4 : U.1 (4 + j) 4 = σ.1 (4 + j) 4 + σ.1 (4 + j) 6 := by rw [← hU]; exact pI_at _ _ _ _
  have Uo : ∀ k, k ≠ 4 → U.1 (4 + j) k = σ.1 (4 + j) k := fun k hk => by rw [← hU]; exact pI_st _ _ _ hk
  have UR : U.2.2 = ns_rg g1 g2 := by rw [U2]; exact hR
  rw [UR, rg_1_0, ev_drf, gk_2, Uo 2 (by decide), h2, e_isIn hp, ev_cl2, U2]
  cases hb : gb (σ.2.1 2 3) p with
  | false =>
    rw [ite2_z (by decide)]
    exact ⟨U, rfl, U2, fun a h1 _ => Ua a h1, fun k _ => by rw [Ua 1 (by omega)], by rw [Ua 1 (by omega)]; rfl, Uo, U4⟩
  | true =>
    rw [ite2_y (Eq.refl true), ev_bnd]
    refine ⟨_, rfl, U2, fun a h1 h3 => by rw [pI_ne _ _ _ h3]; exact Ua a h1, fun k h3 => by rw [pI_st _ _ _ h3, Ua 1 (by omega)], ?_, fun k h3 => by rw [pI_ne _ _ _ (by omega)]; exact Uo k h3, by rw [pI_ne _ _ _ (by omega)]; exact U4⟩
    rw [pI_at, Ua 1 (by omega)]
    rfl
theorem TN.step {σ τ : ns_St} {g1 g2 : Option Nat} (hR : σ.2.2 = ns_rg g1 g2) {E : Nat} {th : Nat → Int32} (hG : GR σ 2 th E) {j K R N p C b : Nat} {re fe se : Int32} (hj : j < 6) (hK : K ≤ 5) (hN : N ≤ 64) (hC : C < 2 ^ 28) (hb : b ≤ 1) (hp : p < E) (h : TN σ τ j K R N p C re fe se) :
    ∃ τ', g_World_stepInTruth τ 1 (4 + j) (nI b) = some ((), τ') ∧ TN σ τ' j K R (sg th K N C (p + 1) b).1 (p + 1) (sg th K N C (p + 1) b).2.1 (rr (sg th K N C (p + 1) b).2.2 R re) (ff ((sg th K N C (p + 1) b).2.2 && tb (th (p + 1)) 4) fe) se := by
  obtain ⟨t2, ta, tw, tfe, tse, c0, c1, c2, c3, c4, c5, c6, c7⟩ := h
  have h60 := hG.2.2.1
  have hk := kd_m4 j hj
  obtain ⟨b1, b2, b3, b4⟩ := hG.bits (p := p + 1) (by omega)
  have e := e_makeStep (σ := τ) (a := 4 + j) (g := 2) (K := K) (N := N) (p := p) (C := C) (b := b) hk kd_2 hK (by omega) (by omega) hC (by omega) c0 c1 c2 c3 c7
  rw [t2, b1, b2, b3] at e
  have e' : g_Mule_makeStep τ (4 + j) 2 (nI b) = some (yn ((sg th K N C (p + 1) b).2.2 = true), s3 τ (4 + j) 1 (nI (sg th K N C (p + 1) b).1) (nI (p + 1)) (nI (sg th K N C (p + 1) b).2.1)) := e
  clear e
  generalize sg th K N C (p + 1) b = g at *
  have hRτ : τ.2.2 = ns_rg g1 g2 := by rw [t2]; exact hR
  generalize hT : s3 τ (4 + j) 1 (nI g.1) (nI (p + 1)) (nI g.2.1) = T at e'
  have T2 : T.2 = σ.2 := by rw [← hT]; exact t2
  have Ta : ∀ a, a ≠ 4 + j → T.1 a = τ.1 a := fun a ha => by rw [← hT]; exact s3_ne _ _ _ _ _ ha
  have T0 : T.1 (4 + j) 0 = nI K := by rw [← hT, s3_go _ _ _ _ _ _ (by omega)]; exact c0
  have T1 : T.1 (4 + j) 1 = nI g.1 := by rw [← hT]; exact s3_g1 _ _ _ _ _ _
  have Tp : T.1 (4 + j) 2 = nI (p + 1) := by rw [← hT]; exact s3_g2 _ _ _ _ _ _
  have T3 : T.1 (4 + j) 3 = nI g.2.1 := by rw [← hT]; exact s3_g3 _ _ _ _ _ _
  have T4 : T.1 (4 + j) 4 = re := by rw [← hT, s3_go _ _ _ _ _ _ (by omega)]; exact c4
  have T5 : T.1 (4 + j) 5 = σ.1 (4 + j) 5 := by rw [← hT, s3_go _ _ _ _ _ _ (by omega)]; exact c5
  have T6 : T.1 (4 + j) 6 = nI R := by rw [← hT, s3_go _ _ _ _ _ _ (by omega)]; exact c6
  have T7 : T.1 (4 + j) 7 = nI (wtK K) := by rw [← hT, s3_go _ _ _ _ _ _ (by omega)]; exact c7
  unfold g_World_stepInTruth
  rw [gk_1, grd_t hk, hRτ, rg_1_0, ev_drf, gk_2, e', ev_cl2]
  cases hst : g.2.2 with
  | false =>
    rw [ite2_z (by decide)]
    exact ⟨T, rfl, T2, fun a h1 h2 => (Ta a h1).trans (ta a h1 h2), fun k h1 h2 => by rw [Ta 1 (by omega)]; exact tw k h1 h2, by rw [Ta 1 (by omega)]; exact tfe, by rw [Ta 1 (by omega)]; exact tse, T0, T1, Tp, T3, T4, T5, T6, T7⟩
  | true =>
    obtain ⟨U, u1, u2, u3, u4, u5, u6, u7⟩ := e_restN (σ := T) (g1 := g1) (g2 := g2) (by rw [T2]; exact hR) hj (p := p + 1) (by omega) Tp
    rw [ite2_y (Eq.refl true), u1, ev_cl2]
    refine ⟨U, rfl, u2.trans T2, fun a h1 h2 => by rw [u3 a h1 h2, Ta a h1]; exact ta a h1 h2, fun k h1 h2 => by rw [u4 k h1, Ta 1 (by omega)]; exact tw k h1 h2, ?_, by rw [u4 5 (by decide), Ta 1 (by omega)]; exact tse, by rw [u6 0 (by decide)]; exact T0, by rw [u6 1 (by decide)]; exact T1, by rw [u6 2 (by decide)]; exact Tp, by rw [u6 3 (by decide)]; exact T3, ?_, by rw [u6 5 (by decide)]; exact T5, by rw [u6 6 (by decide)]; exact T6, by rw [u6 7 (by decide)]; exact T7⟩
    · rw [u5, T2, b3, Ta 1 (by omega), tfe, Bool.true_and]
    · rw [u7, T4, T6]; rfl
theorem e_restsM {σ : ns_St} {g1 g2 : Option Nat} (hR : σ.2.2 = ns_rg g1 g2) {j p K O : Nat} (hj : j < 6) (hK : K ≤ 5) (hp : p ≤ 60) (h2 : σ.1 65 27 = nI p) (m0 : σ.1 70 j = nI K) (m5 : σ.1 75 j = nI O) : ∃ τ, g_M_rests σ 65 (nI j) = some ((), τ) ∧ τ.2 = σ.2 ∧ (∀ a, a ≠ 74 → a ≠ 65 → τ.1 a = σ.1 a) ∧ (∀ i, i ≠ j → τ.1 74 i = σ.1 74 i) ∧ τ.1 74 j = σ.1 74 j + nI (rt K O) ∧ (∀ k, k ≠ 13 → τ.1 65 k = σ.1 65 k) ∧ τ.1 65 13 = ff (tb (σ.1 69 p) 4) (σ.1 65 13) := by
  have hin : ns_in (nI j) (ns_ln 74) := ns_inI (show j < 6 by omega) (by decide)
  unfold g_M_rests
  rw [gk_65, hR, rg_65_10, ev_drf, gk_74, grd_t hin, e_rest hR hj hK m0 m5, ev_cl2, grd_t hin, ev_bnd, ns_ixI (by omega)]
  generalize hU : ns_pI σ 74 j (σ.1 74 j + nI (rt K O)) = U
  have U2 : U.2 = σ.2 := by rw [← hU]; rfl
  have Ua : ∀ a, a ≠ 74 → U.1 a = σ.1 a := fun a ha => by rw [← hU]; exact pI_ne _ _ _ ha
  have U4 : U.1 74 j = σ.1 74 j + nI (rt K O) := by rw [← hU]; exact pI_at _ _ _ _
  have Uo : ∀ k, k ≠ j → U.1 74 k = σ.1 74 k := fun k hk => by rw [← hU]; exact pI_st _ _ _ hk
  have UR : U.2.2 = ns_rg g1 g2 := by rw [U2]; exact hR
  rw [Ua 65 (by decide), h2, e_isThere UR hp, ev_cl2, Ua 69 (by decide)]
  cases hb : tb (σ.1 69 p) 4 with
  | false =>
    rw [ite2_z (by decide)]
    exact ⟨U, rfl, U2, fun a h1 _ => Ua a h1, Uo, U4, fun k _ => by rw [Ua 65 (by decide)], by rw [Ua 65 (by decide)]; rfl⟩
  | true =>
    rw [ite2_y (Eq.refl true), ev_bnd]
    refine ⟨_, rfl, U2, fun a h1 h3 => by rw [pI_ne _ _ _ h3]; exact Ua a h1, fun i hi => by rw [pI_ne _ _ _ (by decide)]; exact Uo i hi, by rw [pI_ne _ _ _ (by decide)]; exact U4, fun k h3 => by rw [pI_st _ _ _ h3, Ua 65 (by decide)], ?_⟩
    rw [pI_at, Ua 65 (by decide)]
    rfl
theorem TM.step {σ τ : ns_St} {g1 g2 : Option Nat} (hR : σ.2.2 = ns_rg g1 g2) {E j K O N p C b : Nat} {re fe se : Int32} (hE : E ≤ 60) (hj : j < 6) (hK : K ≤ 5) (hN : N ≤ 64) (hC : C < 2 ^ 28) (hb : b = 0 ∨ b = 1) (hp : p < E) (m0 : σ.1 70 j = nI K) (m5 : σ.1 75 j = nI O) (h : TM σ τ j K N p C re fe se) :
    ∃ τ1, g_M_stepped τ 65 (nI b) = some (yn ((sg (σ.1 69) K N C (p + 1) b).2.2 = true), τ1) ∧ ((sg (σ.1 69) K N C (p + 1) b).2.2 = false → TM σ τ1 j K (sg (σ.1 69) K N C (p + 1) b).1 (p + 1) (sg (σ.1 69) K N C (p + 1) b).2.1 re fe se) ∧
    ((sg (σ.1 69) K N C (p + 1) b).2.2 = true → ∃ τ', g_M_rests τ1 65 (nI j) = some ((), τ') ∧ TM σ τ' j K (sg (σ.1 69) K N C (p + 1) b).1 (p + 1) (sg (σ.1 69) K N C (p + 1) b).2.1 (re + nI (rt K O)) (ff (tb (σ.1 69 (p + 1)) 4) fe) se) := by
  obtain ⟨t2, ta, t74, tre, t65, tfe, tse, c5, c6, c7, c8⟩ := h
  have hRτ : τ.2.2 = ns_rg g1 g2 := by rw [t2]; exact hR
  have e := e_stepped (σ := τ) hRτ (K := K) (N := N) (p := p) (C := C) (b := b) hK (by omega) (by omega) hC hb c5 c6 c7 c8
  rw [ta 69 (by decide) (by decide)] at e
  have e' : g_M_stepped τ 65 (nI b) = some (yn ((sg (σ.1 69) K N C (p + 1) b).2.2 = true), s3 τ 65 26 (nI (sg (σ.1 69) K N C (p + 1) b).1) (nI (p + 1)) (nI (sg (σ.1 69) K N C (p + 1) b).2.1)) := e
  clear e
  generalize sg (σ.1 69) K N C (p + 1) b = g at *
  generalize hT : s3 τ 65 26 (nI g.1) (nI (p + 1)) (nI g.2.1) = T at e'
  have T2 : T.2 = σ.2 := by rw [← hT]; exact t2
  have Ta : ∀ a, a ≠ 65 → T.1 a = τ.1 a := fun a ha => by rw [← hT]; exact s3_ne _ _ _ _ _ ha
  have To : ∀ k, (k < 26 ∨ 28 < k) → T.1 65 k = τ.1 65 k := fun k hk => by rw [← hT]; exact s3_go _ _ _ _ _ _ (by omega)
  have T6 : T.1 65 26 = nI g.1 := by rw [← hT]; exact s3_g1 _ _ _ _ _ _
  have T7 : T.1 65 27 = nI (p + 1) := by rw [← hT]; exact s3_g2 _ _ _ _ _ _
  have T8 : T.1 65 28 = nI g.2.1 := by rw [← hT]; exact s3_g3 _ _ _ _ _ _
  refine ⟨T, e', fun _ => ⟨T2, fun a h1 h3 => by rw [Ta a h3]; exact ta a h1 h3, fun i hi => by rw [Ta 74 (by decide)]; exact t74 i hi, by rw [Ta 74 (by decide)]; exact tre, fun k h1 h3 h4 => by rw [To k (by omega)]; exact t65 k h1 h3 h4, by rw [To 13 (by omega)]; exact tfe, by rw [To 14 (by omega)]; exact tse, by rw [To 25 (by omega)]; exact c5, T6, T7, T8⟩, fun _ => ?_⟩
  obtain ⟨U, u1, u2, u3, u4, u5, u6, u7⟩ := e_restsM (σ := T) (g1 := g1) (g2 := g2) (by rw [T2]; exact hR) hj hK (p := p + 1) (O := O) (by omega) T7 (by rw [Ta 70 (by decide), ta 70 (by decide) (by decide)]; exact m0) (by rw [Ta 75 (by decide), ta 75 (by decide) (by decide)]; exact m5)
  refine ⟨U, u1, u2.trans T2, fun a h1 h3 => by rw [u3 a h1 h3, Ta a h3]; exact ta a h1 h3, fun i hi => by rw [u4 i hi, Ta 74 (by decide)]; exact t74 i hi, by rw [u5, Ta 74 (by decide), tre], fun k h1 h3 h4 => by rw [u6 k h3, To k (by omega)]; exact t65 k h1 h3 h4, ?_, by rw [u6 14 (by decide), To 14 (by omega)]; exact tse, by rw [u6 25 (by decide), To 25 (by omega)]; exact c5, by rw [u6 26 (by decide)]; exact T6, by rw [u6 27 (by decide)]; exact T7, by rw [u6 28 (by decide)]; exact T8⟩
  rw [u7, Ta 69 (by decide), ta 69 (by decide) (by decide), To 13 (by omega), tfe]
/-- STEPS in truth, each with what comes besides -/
def tr (th : Nat → Int32) (K A R : Nat) (b : Nat → Nat) (N C : Nat) (re fe : Int32) : Nat → Nat × Nat × Int32 × Int32
  | 0 => (N, C, re, fe)
  | n + 1 => ((sg th K (tr th K A R b N C re fe n).1 (tr th K A R b N C re fe n).2.1 (A + n + 1) (b n)).1, (sg th K (tr th K A R b N C re fe n).1 (tr th K A R b N C re fe n).2.1 (A + n + 1) (b n)).2.1, rr (sg th K (tr th K A R b N C re fe n).1 (tr th K A R b N C re fe n).2.1 (A + n + 1) (b n)).2.2 R (tr th K A R b N C re fe n).2.2.1, ff ((sg th K (tr th K A R b N C re fe n).1 (tr th K A R b N C re fe n).2.1 (A + n + 1) (b n)).2.2 && tb (th (A + n + 1)) 4) (tr th K A R b N C re fe n).2.2.2)
/-- what holds of NUMBER and COUNT -/
def NC (K N C : Nat) : Prop := 2 ≤ N ∧ N ≤ 64 ∧ (K ≠ 3 → C < N) ∧ (K ≠ 4 → N ≤ 13)
theorem NC.st {K N C b : Nat} {s i c : Bool} (h : NC K N C) : NC K (stN K N C s i c b).1 (stN K N C s i c b).2.1 := by
  obtain ⟨h1, h2, h3, h4⟩ := h
  refine ⟨stN_N2 h1, stN_N h2, fun k3 => ?_, fun k4 => ?_⟩
  · have hge : N ≤ (stN K N C s i c b).1 := by
      unfold stN; dsimp only; split
      · split <;> omega
      · omega
    have h2' := stN_N2 (K := K) (C := C) (b := b) (s := s) (i := i) (c := c) h1
    by_cases q : stopN K N (cnN K C s b) i c = true
    · have : (stN K N C s i c b).2.1 = 0 := by unfold stN; dsimp only; rw [if_pos q]
      omega
    · have e : (stN K N C s i c b).2.1 = cnN K C s b := by unfold stN; dsimp only; rw [if_neg q]
      have : ¬ N ≤ cnN K C s b := fun hn => q (by unfold stopN; simp [hn, k3])
      omega
  · have : (stN K N C s i c b).1 = N := by unfold stN; dsimp only; rw [if_neg (by simp [k4])]
    rw [this]; exact h4 k4
theorem tr_ok {th : Nat → Int32} {K A R : Nat} {b : Nat → Nat} (hb : ∀ n, b n ≤ 1) {N C : Nat} {re fe : Int32} (h : NC K N C) : ∀ n, NC K (tr th K A R b N C re fe n).1 (tr th K A R b N C re fe n).2.1 ∧ (tr th K A R b N C re fe n).2.1 ≤ C + 3 * n
  | 0 => ⟨h, Nat.le_refl _⟩
  | n + 1 => by
    obtain ⟨h1, h2⟩ := tr_ok hb h n
    refine ⟨NC.st h1, ?_⟩
    have := stN_C (K := K) (N := (tr th K A R b N C re fe n).1) (C := (tr th K A R b N C re fe n).2.1) (b := b n) (s := tb (th (A + n + 1)) 1) (i := tb (th (A + n + 1)) 2) (c := tb (th (A + n + 1)) 4)
    have hbn := hb n
    show (stN K _ _ _ _ _ (b n)).2.1 ≤ _
    omega
/-- stays -/
theorem e_stays {σ : ns_St} {g1 g2 : Option Nat} (hR : σ.2.2 = ns_rg g1 g2) {j : Nat} (hj : j < 6) : ∃ τ, g_M_stays σ 65 (nI j) = some ((), τ) ∧ τ.2 = σ.2 ∧ (∀ a, ¬ (71 ≤ a ∧ a ≤ 73) → τ.1 a = σ.1 a) ∧ (∀ a i, 71 ≤ a → a ≤ 73 → i ≠ j → τ.1 a i = σ.1 a i) ∧ τ.1 71 j = σ.1 65 26 ∧ τ.1 72 j = σ.1 65 27 ∧ τ.1 73 j = σ.1 65 28 := by
  have i1 : ns_in (nI j) (ns_ln 71) := ns_inI (show j < 6 by omega) (by decide)
  have i2 : ns_in (nI j) (ns_ln 72) := ns_inI (show j < 6 by omega) (by decide)
  have i3 : ns_in (nI j) (ns_ln 73) := ns_inI (show j < 6 by omega) (by decide)
  unfold g_M_stays
  simp only [gk_65, pI_R, hR, rg_65_7, rg_65_8, rg_65_9, ev_drf, gk_71, gk_72, gk_73, grd_t i1, grd_t i2, grd_t i3, ev_bnd]
  rw [ns_ixI (by omega)]
  refine ⟨_, rfl, rfl, fun a ha => ?_, fun a i h1 h2 h3 => ?_, ?_, ?_, ?_⟩
  · rw [pI_ne _ _ _ (by omega), pI_ne _ _ _ (by omega), pI_ne _ _ _ (by omega)]
  · rcases (by omega : a = 71 ∨ a = 72 ∨ a = 73) with rfl | rfl | rfl
    · rw [pI_ne _ _ _ (by decide), pI_ne _ _ _ (by decide), pI_st _ _ _ h3]
    · rw [pI_ne _ _ _ (by decide), pI_st _ _ _ h3, pI_ne _ _ _ (by decide)]
    · rw [pI_st _ _ _ h3, pI_ne _ _ _ (by decide), pI_ne _ _ _ (by decide)]
  · rw [pI_ne _ _ _ (by decide), pI_ne _ _ _ (by decide), pI_at]
  · rw [pI_ne _ _ _ (by decide), pI_at, pI_ne _ _ _ (by decide)]
  · rw [pI_at, pI_ne _ _ _ (by decide), pI_ne _ _ _ (by decide)]
/-- what holds between calls, behind a call in truth -/
theorem Inv.truth {B B' : Nat} {σ σ' : ns_St} {E H : Nat} (h : Inv B σ) (hBB : B ≤ B') (hW : PW B σ E H) (h2 : σ'.2 = σ.2) (hc : ∀ c, c ≠ 1 → ¬ (4 ≤ c ∧ c < 10) → c ≠ 65 → ¬ (71 ≤ c ∧ c ≤ 74) → σ'.1 c = σ.1 c) (h65 : ∀ k, ¬ (25 ≤ k ∧ k ≤ 28) → k ≠ 13 → k ≠ 14 → σ'.1 65 k = σ.1 65 k) (h1 : ∀ k, k ≠ 4 → k ≠ 5 → σ'.1 1 k = σ.1 1 k) (hfe : σ'.1 1 4 = σ'.1 65 13) (hse : σ'.1 1 5 = σ'.1 65 14) (hm : ∀ j, j < H → ∃ K N A C O, MV E B' K N A C O ∧ MU σ' (4 + j) K N A C O (σ'.1 74 j) ∧ σ'.1 70 j = nI K ∧ σ'.1 71 j = nI N ∧ σ'.1 72 j = nI A ∧ σ'.1 73 j = nI C ∧ σ'.1 75 j = nI O) : Inv B' σ' := by
  obtain ⟨g1, g2, hR⟩ := h.1
  obtain ⟨f1, f2, f3, f4⟩ := h.2.1.fs
  refine h.wld hBB ⟨g1, g2, by rw [h2]; exact hR⟩ ⟨E, H, by rw [h65 3 (by omega) (by omega) (by omega)]; exact hW.2.1, by rw [h65 5 (by omega) (by omega) (by omega)]; exact hW.2.2.1, hW.2.2.2.1, ?_, by rw [h1 2 (by omega) (by omega)]; exact hW.2.2.2.2.2.1, by rw [h1 3 (by omega) (by omega), h65 12 (by omega) (by omega) (by omega)]; exact f1, by rw [h65 12 (by omega) (by omega) (by omega)]; exact f2, hfe, hse, hm⟩ ⟨fun c q => hc c (by omega) (by omega) (by omega) (by omega), fun c _ => by rw [h2], h65 15 (by omega) (by omega) (by omega), h65 22 (by omega) (by omega) (by omega)⟩ (by rw [h65 5 (by omega) (by omega) (by omega)]; exact Nat.le_refl _)
  rw [hc 69 (by omega) (by omega) (by omega) (by omega)]
  exact hW.2.2.2.2.1.cong (hc 2 (by omega) (by omega) (by omega) (by omega)) (by rw [h2])
/-- one MULE is under way no longer -/
theorem Inv.way {B B' : Nat} {σ τ τ1 σ' : ns_St} {E H j : Nat} (h : Inv B σ) (hBB : B ≤ B') (hW : PW B σ E H) (hj : j < H) {N p C : Nat} {re fe : Int32} (hT : TN σ τ j (gm σ 70 j) (rt (gm σ 70 j) (gm σ 75 j)) N p C re fe (σ.1 1 5)) (hM : TM τ τ1 j (gm σ 70 j) N p C re fe (σ.1 65 14)) (s2 : σ'.2 = τ1.2) (sa : ∀ a, ¬ (71 ≤ a ∧ a ≤ 73) → σ'.1 a = τ1.1 a) (si : ∀ a i, 71 ≤ a → a ≤ 73 → i ≠ j → σ'.1 a i = τ1.1 a i) (s71 : σ'.1 71 j = nI N) (s72 : σ'.1 72 j = nI p) (s73 : σ'.1 73 j = nI C) (hnc : NC (gm σ 70 j) N C) (hp : p ≤ E) (hC : C ≤ B') : Inv B' σ' := by
  have hH := hW.2.2.2.1
  have m := hW.m hj
  obtain ⟨t2, ta, tw, tfe, tse, c0, c1, c2, c3, c4, c5, c6, c7⟩ := hT
  obtain ⟨r2, ra, r74, rre, r65, rfe, rse, d5, d6, d7, d8⟩ := hM
  obtain ⟨f1, f2, f3, f4⟩ := h.2.1.fs
  have key : ∀ c, c ≠ 65 → ¬ (71 ≤ c ∧ c ≤ 74) → σ'.1 c = τ.1 c := fun c h1 h2 => by rw [sa c (by omega)]; exact ra c (by omega) h1
  refine h.truth hBB hW ((s2.trans r2).trans t2) (fun c h1 h3 h4 h5 => by rw [key c h4 h5]; exact ta c (by omega) h1) (fun k h1 h3 h4 => by rw [sa 65 (by omega), r65 k h1 h3 h4, ta 65 (by omega) (by omega)]) (fun k h1 h3 => by rw [key 1 (by omega) (by omega)]; exact tw k h1 h3) (by rw [key 1 (by omega) (by omega), sa 65 (by omega), rfe, tfe]) (by rw [key 1 (by omega) (by omega), sa 65 (by omega), rse, tse]; exact f4) (fun i hi => ?_)
  have mi := hW.m hi
  by_cases hij : i = j
  · subst hij
    refine ⟨gm σ 70 i, N, p, C, gm σ 75 i, ⟨m.1.1, hnc.1, hnc.2.1, hp, hC, m.1.2.2.2.2.2.1, hnc.2.2.1, hnc.2.2.2⟩, ?_, by rw [key 70 (by omega) (by omega), ta 70 (by omega) (by omega)]; exact m.2.2.1, s71, s72, s73, by rw [key 75 (by omega) (by omega), ta 75 (by omega) (by omega)]; exact m.2.2.2.2.2.2⟩
    rw [sa 74 (by omega), rre]
    unfold MU
    rw [key (4 + i) (by omega) (by omega)]
    exact ⟨c0, c1, c2, c3, c4, by rw [c5]; exact m.2.1.2.2.2.2.2.1, c6, c7⟩
  · refine ⟨gm σ 70 i, gm σ 71 i, gm σ 72 i, gm σ 73 i, gm σ 75 i, mi.1.mono hBB, ?_, by rw [key 70 (by omega) (by omega), ta 70 (by omega) (by omega)]; exact mi.2.2.1, by rw [si 71 i (by omega) (by omega) hij, ra 71 (by omega) (by omega), ta 71 (by omega) (by omega)]; exact mi.2.2.2.1, by rw [si 72 i (by omega) (by omega) hij, ra 72 (by omega) (by omega), ta 72 (by omega) (by omega)]; exact mi.2.2.2.2.1, by rw [si 73 i (by omega) (by omega) hij, ra 73 (by omega) (by omega), ta 73 (by omega) (by omega)]; exact mi.2.2.2.2.2.1, by rw [key 75 (by omega) (by omega), ta 75 (by omega) (by omega)]; exact mi.2.2.2.2.2.2⟩
    rw [sa 74 (by omega), r74 i hij, ta 74 (by omega) (by omega)]
    exact mi.2.1.cong (by rw [key (4 + i) (by omega) (by omega), ta (4 + i) (by omega) (by omega)])
theorem PM.tn {B : Nat} {σ : ns_St} {E j K N A C O : Nat} (h : PM B σ E j K N A C O) : TN σ σ j K (rt K O) N A C (σ.1 74 j) (σ.1 1 4) (σ.1 1 5) := by
  obtain ⟨u0, u1, u2, u3, u4, u5, u6, u7⟩ := h.2.1
  exact ⟨rfl, fun _ _ _ => rfl, fun _ _ _ => rfl, rfl, rfl, u0, u1, u2, u3, u4, rfl, u6, u7⟩
