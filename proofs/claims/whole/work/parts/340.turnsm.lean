/-! TURNS: the reference -/
def rv (v : Nat) : Nat := if v < 1000 then v + 1 else 1000
theorem rv_le {v : Nat} : rv v ≤ 1000 := by unfold rv; split <;> omega
theorem rv_pos {v : Nat} : 0 < rv v := by unfold rv; split <;> omega
theorem rv_min {b G i : Nat} (hG : sml G 180) (hi : i ≤ 3) : min (rv b) (i + rv G) = rv (min b (min 1000 (i + G))) := by
  unfold sml at hG
  unfold rv
  split <;> split <;> split <;> omega
/-- what does not change -/
def EV (th : Nat → Int32) (g1 g2 : Option Nat) (E : Nat) (τ : ns_St) : Prop := τ.2.2 = ns_rg g1 g2 ∧ τ.1 69 = th ∧ τ.1 65 3 = nI E ∧ E ≤ 60
def RX (τ : ns_St) (K n p c : Nat) : Prop := τ.1 65 25 = nI K ∧ τ.1 65 26 = nI n ∧ τ.1 65 27 = nI p ∧ τ.1 65 28 = nI c
/-- where it is kept -/
def mix (A n k c : Nat) (b : Bool) : Nat := 130 * (A + k) + 2 * min c n + (if b = true then 1 else 0)
def MM (th : Nat → Int32) (E K A N : Nat) (τ : ns_St) : Prop := ∀ k c, 1 ≤ k → A + k < E → (K ≠ 3 → c < nbk th K A N k) → (τ.1 80 (mix A (nbk th K A N k) k c (decide (c = 0))) = 0 ∨ τ.1 80 (mix A (nbk th K A N k) k c (decide (c = 0))) = nI (rv (Mv th K A N (E - A - k) k c)))
theorem MM.cong {th : Nat → Int32} {E K A N : Nat} {τ τ' : ns_St} (h : MM th E K A N τ) (e : τ'.1 80 = τ.1 80) : MM th E K A N τ' := by
  intro k c h1 h2 h3
  rw [e]; exact h k c h1 h2 h3
theorem EV.on {th : Nat → Int32} {g1 g2 : Option Nat} {E : Nat} {τ τ' : ns_St} (h : EV th g1 g2 E τ) (o : On 80 τ τ') : EV th g1 g2 E τ' := ⟨by rw [o.1]; exact h.1, by rw [o.2 69 (by decide)]; exact h.2.1, by rw [o.2 65 (by decide)]; exact h.2.2.1, h.2.2.2⟩
theorem RX.on {τ τ' : ns_St} {K n p c : Nat} (h : RX τ K n p c) (o : On 80 τ τ') : RX τ' K n p c := by unfold RX; rw [o.2 65 (by decide)]; exact h
/-- the loop's memory against that at its start -/
def Lz (τ0 τ : ns_St) : Prop := τ.2 = τ0.2 ∧ (∀ b, b ≠ 65 → b ≠ 80 → τ.1 b = τ0.1 b) ∧ ∀ i, ¬ (26 ≤ i ∧ i ≤ 28) → τ.1 65 i = τ0.1 65 i
theorem Lz.rfl (τ : ns_St) : Lz τ τ := ⟨Eq.refl _, fun _ _ _ => Eq.refl _, fun _ _ => Eq.refl _⟩
theorem Lz.trans {a b c : ns_St} (h1 : Lz a b) (h2 : Lz b c) : Lz a c := ⟨h2.1.trans h1.1, fun x hx hy => (h2.2.1 x hx hy).trans (h1.2.1 x hx hy), fun i hi => (h2.2.2 i hi).trans (h1.2.2 i hi)⟩
theorem Lz.on {a b : ns_St} (h : On 80 a b) : Lz a b := ⟨h.1, fun x _ hy => h.2 x hy, fun i _ => by rw [h.2 65 (by decide)]⟩
theorem Lz.s3 {τ : ns_St} {v1 v2 v3 : Int32} : Lz τ (s3 τ 65 26 v1 v2 v3) := ⟨Eq.refl _, fun b hb _ => s3_ne τ 26 v1 v2 v3 hb, fun i hi => s3_go _ _ _ _ _ _ (by omega)⟩
theorem Lz.pI {τ : ns_St} {k : Nat} {v : Int32} (hk : 26 ≤ k ∧ k ≤ 28) : Lz τ (ns_pI τ 65 k v) := ⟨Eq.refl _, fun b hb _ => pI_ne τ k v hb, fun i hi => pI_st _ _ _ (fun e => hi (e ▸ hk))⟩
theorem Lz.ev {th : Nat → Int32} {g1 g2 : Option Nat} {E : Nat} {τ τ' : ns_St} (h : EV th g1 g2 E τ) (o : Lz τ τ') : EV th g1 g2 E τ' := ⟨by rw [o.1]; exact h.1, by rw [o.2.1 69 (by decide) (by decide)]; exact h.2.1, by rw [o.2.2 3 (by omega)]; exact h.2.2.1, h.2.2.2⟩
/-- what a call of it does -/
def TC (th : Nat → Int32) (g1 g2 : Option Nat) (E K A N k r : Nat) (kr : ns_St → Nat → Int32 → Int32 → Option (Int32 × ns_St)) : Prop := ∀ (c : Nat) (b : Bool) (τ : ns_St), (k = 0 ∨ b = decide (c = 0)) → (1 ≤ k → K ≠ 3 → c < nbk th K A N k) → c + 5 * r < 2 ^ 27 → EV th g1 g2 E τ → RX τ K (nbk th K A N k) (A + k) c → MM th E K A N τ → (k = 0 → τ.1 80 (mix A (nbk th K A N k) k c b) = 0) → ∃ τ', kr τ 65 (nI A) (yn (b = true)) = some (nI (rv (Mv th K A N r k c)), τ') ∧ On 80 τ τ' ∧ MM th E K A N τ'
theorem e_tu231 {th : Nat → Int32} {g1 g2 : Option Nat} {E K A N k r c0 : Nat} {b : Bool} (hN : NN K N) (hk : A + k + r = E) (hr : 1 ≤ r) (hb : k = 0 ∨ b = decide (c0 = 0)) (hc0 : 1 ≤ k → K ≠ 3 → c0 < nbk th K A N k) {τ0 τ : ns_St} (hX : RX τ0 K (nbk th K A N k) (A + k) c0) (hV : EV th g1 g2 E τ) (hL : Lz τ0 τ) (hM : MM th E K A N τ) (kr : ns_St → Nat → Int32 → Int32 → Option (Int32 × ns_St)) : ∃ τ', g_M_turning_231 kr τ 65 (nI (A + k)) (nI c0) (nI (nbk th K A N k)) (nI (mix A (nbk th K A N k) k c0 b)) (nI (rv (Mv th K A N r k c0))) = some (nI (rv (Mv th K A N r k c0)), τ') ∧ On 80 τ0 τ' ∧ MM th E K A N τ' := by
  have h60 := hV.2.2.2
  have nb := nbk_b (th := th) (K := K) (A := A) hN.1 hN.2.1 k
  have i80 : ns_in (nI (mix A (nbk th K A N k) k c0 b)) (ns_ln 80) := ns_inI (show mix A (nbk th K A N k) k c0 b < 8000 by unfold mix; split <;> omega) (by decide)
  have mlt : mix A (nbk th K A N k) k c0 b < 2 ^ 31 := by unfold mix; split <;> omega
  unfold g_M_turning_231
  rw [ev_bnd, ev_bnd, ev_bnd]
  generalize hT : ns_pI (ns_pI (ns_pI τ 65 27 (nI (A + k))) 65 26 (nI (nbk th K A N k))) 65 28 (nI c0) = T
  have T2 : T.2 = τ.2 := by rw [← hT]; rfl
  have Ta : ∀ x, x ≠ 65 → T.1 x = τ.1 x := fun x hx => by rw [← hT, pI_ne _ _ _ hx, pI_ne _ _ _ hx, pI_ne _ _ _ hx]
  have T65 : T.1 65 = τ0.1 65 := by
    funext i
    rw [← hT]
    by_cases e8 : i = 28
    · subst e8; rw [pI_at]; exact hX.2.2.2.symm
    · rw [pI_st _ _ _ e8]
      by_cases e6 : i = 26
      · subst e6; rw [pI_at]; exact hX.2.1.symm
      · rw [pI_st _ _ _ e6]
        by_cases e7 : i = 27
        · subst e7; rw [pI_at]; exact hX.2.2.1.symm
        · rw [pI_st _ _ _ e7]; exact hL.2.2 i (by omega)
  rw [show T.2.2 = ns_rg g1 g2 by rw [T2]; exact hV.1, rg_65_29, ev_drf, gk_80, grd_t i80, ns_ixI mlt, ev_bnd]
  refine ⟨_, rfl, ⟨T2.trans hL.1, fun x hx => ?_⟩, ?_⟩
  · rw [pI_ne _ _ _ hx]
    by_cases e : x = 65
    · subst e; exact T65
    · rw [Ta x e]; exact hL.2.1 x e hx
  · intro k' c' h1 h2 h3
    by_cases e : mix A (nbk th K A N k') k' c' (decide (c' = 0)) = mix A (nbk th K A N k) k c0 b
    · right
      rw [e, pI_at]
      have nb' := nbk_b (th := th) (K := K) (A := A) hN.1 hN.2.1 k'
      have ek : k' = k := by
        unfold mix at e
        have : (if decide (c' = 0) = true then 1 else 0) ≤ 1 := by split <;> omega
        have : (if b = true then 1 else 0) ≤ 1 := by split <;> omega
        omega
      subst ek
      have em : min c' (nbk th K A N k') = min c0 (nbk th K A N k') := by
        unfold mix at e
        have : (if decide (c' = 0) = true then 1 else 0) ≤ 1 := by split <;> omega
        have : (if b = true then 1 else 0) ≤ 1 := by split <;> omega
        omega
      have eq : Eq' K (nbk th K A N k') c' c0 := by
        by_cases k3 : K = 3
        · by_cases w : nbk th K A N k' ≤ c'
          · exact Or.inr ⟨k3, w, by omega⟩
          · left; omega
        · have := h3 k3
          have := hc0 h1 k3
          left; omega
      rw [show E - A - k' = r by omega, Mv_eq hN.1 hN.2.1 r k' _ _ eq]
    · rw [pI_st _ _ _ e, Ta 80 (by decide)]
      exact hM k' c' h1 h2 h3
theorem e_tu181 {th : Nat → Int32} {g1 g2 : Option Nat} {E K A N k r c0 i c b : Nat} {sb hr : Bool} (hN : NN K N) (hk : A + k + r = E) (hr1 : 1 ≤ r) (hb : k = 0 ∨ sb = decide (c0 = 0)) (hc0 : 1 ≤ k → K ≠ 3 → c0 < nbk th K A N k) {τ0 τ : ns_St} (hX : RX τ0 K (nbk th K A N k) (A + k) c0) (hc : c < 2 ^ 28) (hV : EV th g1 g2 E τ) (hL : Lz τ0 τ) (hM : MM th E K A N τ) (kr : ns_St → Nat → Int32 → Int32 → Option (Int32 × ns_St)) (kh : ns_St → Nat → Int32 → Int32 → Int32 → Int32 → Int32 → Int32 → Int32 → Int32 → Option (Int32 × ns_St))
    (h1 : tst K (nbk th K A N k) c (tb (th (A + k)) 4) = false → ∀ T, EV th g1 g2 E T → Lz τ0 T → MM th E K A N T → RX T K (nbk th K A N k) (A + k) (c + 1) → ∃ τ', kh T 65 (nI A) (nI (A + k)) (nI c0) (nI (nbk th K A N k)) (nI (mix A (nbk th K A N k) k c0 sb)) (nI (rv b)) (yn (hr = true)) (nI (i + 1)) = some (nI (rv (Mv th K A N r k c0)), τ') ∧ On 80 τ0 τ' ∧ MM th E K A N τ')
    (h2 : tst K (nbk th K A N k) c (tb (th (A + k)) 4) = true → tb (th (A + k)) 4 = false → ∀ T, EV th g1 g2 E T → Lz τ0 T → MM th E K A N T → RX T K (nbk th K A N k) (A + k) 0 → ∃ τ', kh T 65 (nI A) (nI (A + k)) (nI c0) (nI (nbk th K A N k)) (nI (mix A (nbk th K A N k) k c0 sb)) (nI (rv b)) 1 (nI (i + 1)) = some (nI (rv (Mv th K A N r k c0)), τ') ∧ On 80 τ0 τ' ∧ MM th E K A N τ')
    (h3 : tst K (nbk th K A N k) c (tb (th (A + k)) 4) = true → tb (th (A + k)) 4 = true → b = Mv th K A N r k c0) :
    ∃ τ', g_M_turning_181 kr kh τ 65 (nI A) (nI (A + k)) (nI c0) (nI (nbk th K A N k)) (nI (mix A (nbk th K A N k) k c0 sb)) (nI (rv b)) (yn (hr = true)) (nI i) (nI c) = some (nI (rv (Mv th K A N r k c0)), τ') ∧ On 80 τ0 τ' ∧ MM th E K A N τ' := by
  have h60 := hV.2.2.2
  have nb := nbk_b (th := th) (K := K) (A := A) hN.1 hN.2.1 k
  unfold g_M_turning_181
  rw [ev_bnd, ev_bnd, ev_bnd, ← nI_succ]
  generalize hT : ns_pI (ns_pI (ns_pI τ 65 27 (nI (A + k))) 65 26 (nI (nbk th K A N k))) 65 28 (nI (c + 1)) = T
  have lT : Lz τ T := by rw [← hT]; exact ((Lz.pI (by omega)).trans (Lz.pI (by omega))).trans (Lz.pI (by omega))
  have e80 : T.1 80 = τ.1 80 := by rw [← hT, pI_ne _ _ _ (by decide), pI_ne _ _ _ (by decide), pI_ne _ _ _ (by decide)]
  have k5 : T.1 65 25 = nI K := by rw [lT.2.2 25 (by omega), hL.2.2 25 (by omega)]; exact hX.1
  have k6 : T.1 65 26 = nI (nbk th K A N k) := by rw [← hT, pI_st _ _ _ (by decide), pI_at]
  have k7 : T.1 65 27 = nI (A + k) := by rw [← hT, pI_st _ _ _ (by decide), pI_st _ _ _ (by decide), pI_at]
  have k8 : T.1 65 28 = nI (c + 1) := by rw [← hT, pI_at]
  have hVT := Lz.ev hV lT
  have es := e_stopsHere (σ := T) hVT.1 (K := K) (N := nbk th K A N k) (p := A + k) (C := c + 1) hN.2.2.2 (by omega) (by omega) (by omega) k5 k6 k7 k8
  rw [hVT.2.1] at es
  have es' : g_M_stopsHere T 65 = some (yn (tst K (nbk th K A N k) c (tb (th (A + k)) 4) = true), s3 T 65 26 (nI (nbk th K A N k)) (nI (A + k)) (nI (tct K (nbk th K A N k) c (tb (th (A + k)) 4)))) := es
  generalize hU : s3 T 65 26 (nI (nbk th K A N k)) (nI (A + k)) (nI (tct K (nbk th K A N k) c (tb (th (A + k)) 4))) = U at es'
  have lU : Lz τ0 U := (hL.trans lT).trans (by rw [← hU]; exact Lz.s3)
  have hVU : EV th g1 g2 E U := Lz.ev hVT (by rw [← hU]; exact Lz.s3)
  have mU : MM th E K A N U := hM.cong (by rw [← hU, s3_ne _ _ _ _ _ (by decide)]; exact e80)
  have rU : RX U K (nbk th K A N k) (A + k) (tct K (nbk th K A N k) c (tb (th (A + k)) 4)) := ⟨by rw [← hU, s3_go _ _ _ _ _ _ (by omega)]; exact k5, by rw [← hU]; exact s3_g1 _ _ _ _ _ _, by rw [← hU]; exact s3_g2 _ _ _ _ _ _, by rw [← hU]; exact s3_g3 _ _ _ _ _ _⟩
  rw [es', ev_cl2]
  unfold tct at rU
  cases hst : tst K (nbk th K A N k) c (tb (th (A + k)) 4) with
  | false =>
    rw [hst, if_neg (by decide)] at rU
    rw [ite2_z (by decide), ev_bnd, ← nI_succ]
    exact h1 hst U hVU lU mU rU
  | true =>
    rw [hst, if_pos rfl] at rU
    rw [ite2_y (Eq.refl true), e_isThere hVU.1 (by omega), ev_cl2, hVU.2.1]
    cases hcl : tb (th (A + k)) 4 with
    | false =>
      rw [ite2_z (by decide), ev_bnd, ← nI_succ]
      exact h2 hst hcl U hVU lU mU rU
    | true =>
      rw [ite2_y (Eq.refl true), h3 hst hcl]
      exact e_tu231 hN hk hr1 hb hc0 hX hVU lU mU kr
theorem e_tuop {th : Nat → Int32} {g1 g2 : Option Nat} {E K A N k R c i b f : Nat} {hr h : Bool} (hN : NN K N) (hk : A + k + (R + 1) = E) {τ0 τ : ns_St} (x4 x5 x6 : Int32) (kr : ns_St → Nat → Int32 → Int32 → Option (Int32 × ns_St)) (hkr : TC th g1 g2 E K A N (k + 1) R kr) (hR : R ≤ 59) (hi : i ≤ 3) (hh : h = (hr || (decide (k = 0) || !tb (th (A + k)) 8))) (hb : b ≤ 1000) (hc : c + 2 + 5 * R < 2 ^ 27) (hV : EV th g1 g2 E τ) (hL : Lz τ0 τ) (hM : MM th E K A N τ) (hX : RX τ K (nbk th K A N k) (A + k) c) (Q : Option (Int32 × ns_St) → Prop)
    (hcont : ∀ T, EV th g1 g2 E T → Lz τ0 T → MM th E K A N T → Q (g_M_turning_181 kr (g_M_turning_108 kr f) T 65 (nI A) (nI (A + k)) x4 x5 x6 (nI (rv (min b (opv th K A N k (Mv th K A N R (k + 1)) i c h)))) (yn (hr = true)) (nI i) (nI c))) :
    Q (g_M_turning_108 kr (f + 1) τ 65 (nI A) (nI (A + k)) x4 x5 x6 (nI (rv b)) (yn (hr = true)) (nI i)) := by
  have h60 := hV.2.2.2
  have nb := nbk_b (th := th) (K := K) (A := A) hN.1 hN.2.1 k
  have nb1 := nbk_b (th := th) (K := K) (A := A) hN.1 hN.2.1 (k + 1)
  rw [g_M_turning_108, ite2_n (show ¬ (4 : Int32) ≤ nI i from nI_ge (b := 4) (by omega) (by decide)), ev_bnd, hX.2.2.2]
  have run : h = true → Q (g_M_turning_140 kr (g_M_turning_108 kr f) τ 65 (nI A) (nI (A + k)) x4 x5 x6 (nI (rv b)) (yn (hr = true)) (nI i) (nI c)) := by
    intro ht
    subst ht
    have e := e_stepped (σ := τ) hV.1 (K := K) (N := nbk th K A N k) (p := A + k) (C := c) (b := 0) hN.2.2.2 (by omega) (by omega) (by omega) (Or.inl rfl) hX.1 hX.2.1 hX.2.2.1 hX.2.2.2
    rw [hV.2.1] at e
    have e' : g_M_stepped τ 65 (0 : Int32) = some (yn ((sg th K (nbk th K A N k) c (A + k + 1) 0).2.2 = true), s3 τ 65 26 (nI (nbk th K A N (k + 1))) (nI (A + k + 1)) (nI (sg th K (nbk th K A N k) c (A + k + 1) 0).2.1)) := e
    have hcb : (sg th K (nbk th K A N k) c (A + k + 1) 0).2.1 ≤ c + 2 := stN_C
    have s0 : (sg th K (nbk th K A N k) c (A + k + 1) 0).2.2 = decide ((sg th K (nbk th K A N k) c (A + k + 1) 0).2.1 = 0) := stN_0
    generalize hU : s3 τ 65 26 (nI (nbk th K A N (k + 1))) (nI (A + k + 1)) (nI (sg th K (nbk th K A N k) c (A + k + 1) 0).2.1) = U at e'
    have lU : Lz τ U := by rw [← hU]; exact Lz.s3
    have hVU := Lz.ev hV lU
    have mU : MM th E K A N U := hM.cong (by rw [← hU]; exact s3_ne _ _ _ _ _ (by decide))
    have rU : RX U K (nbk th K A N (k + 1)) (A + (k + 1)) (sg th K (nbk th K A N k) c (A + k + 1) 0).2.1 := ⟨by rw [← hU, s3_go _ _ _ _ _ _ (by omega)]; exact hX.1, by rw [← hU]; exact s3_g1 _ _ _ _ _ _, by rw [← hU]; exact s3_g2 _ _ _ _ _ _, by rw [← hU]; exact s3_g3 _ _ _ _ _ _⟩
    have go164 : ((sg th K (nbk th K A N k) c (A + k + 1) 0).2.2 && tb (th (A + k + 1)) 4) = false → Q (g_M_turning_164 kr (g_M_turning_108 kr f) U 65 (nI A) (nI (A + k)) x4 x5 x6 (nI (rv b)) (yn (hr = true)) (nI i) (nI c) (yn ((sg th K (nbk th K A N k) c (A + k + 1) 0).2.2 = true))) := by
      intro hno
      obtain ⟨U', eU, oU, mU'⟩ := hkr _ _ U (Or.inr s0) (fun _ k3 => stN_nc nb.1 nb.2 k3) (by omega) hVU rU mU (fun q => absurd q (by omega))
      have sm := Mv_sml (th := th) (K := K) (A := A) (N := N) R (k + 1) (sg th K (nbk th K A N k) c (A + k + 1) 0).2.1
      have sm' : sml (Mv th K A N R (k + 1) (sg th K (nbk th K A N k) c (A + k + 1) 0).2.1) 180 := by unfold sml at *; omega
      have r1 := rv_le (v := b)
      have r2 := rv_le (v := Mv th K A N R (k + 1) (sg th K (nbk th K A N k) c (A + k + 1) 0).2.1)
      have ov : opv th K A N k (Mv th K A N R (k + 1)) i c true = min 1000 (i + Mv th K A N R (k + 1) (sg th K (nbk th K A N k) c (A + k + 1) 0).2.1) := by unfold opv; rw [hno, if_pos (by decide)]
      unfold g_M_turning_164
      rw [eU, ev_cl2, nI_add, e_minNN (by omega) (by omega), ev_cl2, rv_min sm' hi, ← ov]
      exact hcont U' (hVU.on oU) ((hL.trans lU).trans (Lz.on oU)) mU'
    unfold g_M_turning_140
    rw [e', ev_cl2]
    cases hst : (sg th K (nbk th K A N k) c (A + k + 1) 0).2.2 with
    | false =>
      rw [hst] at go164
      rw [ite2_z (by decide)]
      exact go164 rfl
    | true =>
      have p7 : U.1 65 27 = nI (A + k + 1) := rU.2.2.1
      rw [hst] at go164
      rw [ite2_y (Eq.refl true), p7, e_isThere hVU.1 (by omega), ev_cl2, hVU.2.1]
      cases hcl : tb (th (A + k + 1)) 4 with
      | false =>
        rw [hcl] at go164
        rw [ite2_z (by decide)]
        exact go164 rfl
      | true =>
        have ov : opv th K A N k (Mv th K A N R (k + 1)) i c true = 1000 := by unfold opv; rw [hst, hcl, if_neg (by decide)]
        rw [ov, Nat.min_eq_left hb] at hcont
        rw [ite2_y (Eq.refl true)]
        exact hcont U hVU (hL.trans lU) mU
  cases hhr : hr with
  | true =>
    rw [hhr] at run hh
    rw [ite2_y (Eq.refl true)]
    exact run (by rw [hh]; rfl)
  | false =>
    rw [hhr] at run hh hcont
    rw [ite2_z (by decide)]
    by_cases k0 : k = 0
    · rw [ite2_p (by rw [k0]; rfl)]
      exact run (by rw [hh, decide_eq_true k0]; rfl)
    · rw [ite2_n (fun w => by have := (nI_eq (by omega) (by omega)).mp w; omega), e_isThere hV.1 (by omega), ev_cl2, hV.2.1]
      cases hv : tb (th (A + k)) 8 with
      | false =>
        rw [ite2_z (by decide)]
        exact run (by rw [hh, hv]; simp)
      | true =>
        have hf : h = false := by rw [hh, hv, decide_eq_false k0]; rfl
        have ov : opv th K A N k (Mv th K A N R (k + 1)) i c h = 1000 := by unfold opv; rw [hf, if_neg (by simp)]
        rw [ov, Nat.min_eq_left hb] at hcont
        rw [ite2_y (Eq.refl true)]
        exact hcont τ hV hL hM
theorem e_tu108 {th : Nat → Int32} {g1 g2 : Option Nat} {E K A N k R c0 : Nat} {sb : Bool} (hN : NN K N) (hk : A + k + (R + 1) = E) (h60 : E ≤ 60) (hb : k = 0 ∨ sb = decide (c0 = 0)) (hc0 : 1 ≤ k → K ≠ 3 → c0 < nbk th K A N k) {τ0 : ns_St} (hX : RX τ0 K (nbk th K A N k) (A + k) c0) (kr : ns_St → Nat → Int32 → Int32 → Option (Int32 × ns_St)) (hkr : TC th g1 g2 E K A N (k + 1) R kr) : ∀ (j i f : Nat) (τ : ns_St) (c b : Nat) (hr h : Bool), j + 1 < f → i + j = 3 → h = (hr || (decide (k = 0) || !tb (th (A + k)) 8)) → b ≤ 1000 → c + j + 2 + 5 * R < 2 ^ 27 → EV th g1 g2 E τ → Lz τ0 τ → MM th E K A N τ → RX τ K (nbk th K A N k) (A + k) c → min b (mn th K A N k (Mv th K A N R (k + 1)) j i c h) = Mv th K A N (R + 1) k c0 →
    ∃ τ', g_M_turning_108 kr f τ 65 (nI A) (nI (A + k)) (nI c0) (nI (nbk th K A N k)) (nI (mix A (nbk th K A N k) k c0 sb)) (nI (rv b)) (yn (hr = true)) (nI i) = some (nI (rv (Mv th K A N (R + 1) k c0)), τ') ∧ On 80 τ0 τ' ∧ MM th E K A N τ' := by
  intro j
  induction j with
  | zero =>
    intro i f τ c b hr h hf hij hh hb1 hc hV hL hM hXc hmin
    obtain ⟨f, rfl⟩ : ∃ q, f = q + 1 + 1 := ⟨f - 2, by omega⟩
    have hmin' : min b (opv th K A N k (Mv th K A N R (k + 1)) i c h) = Mv th K A N (R + 1) k c0 := hmin
    have last : ∀ (x : Int32) (T : ns_St), EV th g1 g2 E T → Lz τ0 T → MM th E K A N T → ∃ τ', g_M_turning_108 kr (f + 1) T 65 (nI A) (nI (A + k)) (nI c0) (nI (nbk th K A N k)) (nI (mix A (nbk th K A N k) k c0 sb)) (nI (rv (min b (opv th K A N k (Mv th K A N R (k + 1)) i c h)))) x (nI (i + 1)) = some (nI (rv (Mv th K A N (R + 1) k c0)), τ') ∧ On 80 τ0 τ' ∧ MM th E K A N τ' := by
      intro x T t1 t2 t3
      rw [g_M_turning_108, ite2_p (show (4 : Int32) ≤ nI (i + 1) from nI_le (a := 4) (by omega) (by omega)), hmin']
      exact e_tu231 hN hk (by omega) hb hc0 hX t1 t2 t3 kr
    refine e_tuop hN hk _ _ _ kr hkr (by omega) (by omega) hh hb1 (by omega) hV hL hM hXc (fun o => ∃ τ', o = some (nI (rv (Mv th K A N (R + 1) k c0)), τ') ∧ On 80 τ0 τ' ∧ MM th E K A N τ') ?_
    intro T t1 t2 t3
    exact e_tu181 hN hk (by omega) hb hc0 hX (by omega) t1 t2 t3 kr _ (fun _ T' u1 u2 u3 _ => last _ T' u1 u2 u3) (fun _ _ T' u1 u2 u3 _ => last _ T' u1 u2 u3) (fun _ _ => hmin')
  | succ j ih =>
    intro i f τ c b hr h hf hij hh hb1 hc hV hL hM hXc hmin
    obtain ⟨f, rfl⟩ : ∃ q, f = q + 1 := ⟨f - 1, by omega⟩
    have ol := opv_le (th := th) (K := K) (A := A) (N := N) (k := k) (G := Mv th K A N R (k + 1)) i c h
    rw [mn_s, ← Nat.min_assoc] at hmin
    refine e_tuop hN hk _ _ _ kr hkr (by omega) (by omega) hh hb1 (by omega) hV hL hM hXc (fun o => ∃ τ', o = some (nI (rv (Mv th K A N (R + 1) k c0)), τ') ∧ On 80 τ0 τ' ∧ MM th E K A N τ') ?_
    intro T t1 t2 t3
    refine e_tu181 hN hk (by omega) hb hc0 hX (by omega) t1 t2 t3 kr _ ?_ ?_ ?_
    · intro q T' u1 u2 u3 u4
      rw [q, if_neg (by decide)] at hmin
      exact ih (i + 1) f T' (c + 1) _ hr h (by omega) (by omega) hh (by omega) (by omega) u1 u2 u3 u4 hmin
    · intro q q2 T' u1 u2 u3 u4
      rw [q, if_pos rfl, q2, if_neg (by decide)] at hmin
      exact ih (i + 1) f T' 0 _ true true (by omega) (by omega) rfl (by omega) (by omega) u1 u2 u3 u4 hmin
    · intro q q2
      rw [q, if_pos rfl, q2, if_pos rfl] at hmin
      omega
theorem e_turning {th : Nat → Int32} {g1 g2 : Option Nat} {E K A N : Nat} (hN : NN K N) (h60 : E ≤ 60) : ∀ (r k d : Nat), r < d → A + k + r = E → TC th g1 g2 E K A N k r (g_M_turning d) := by
  intro r
  induction r with
  | zero =>
    intro k d hd hk c b τ hb hc hcb hV hX hM h0
    obtain ⟨d, rfl⟩ : ∃ q, d = q + 1 := ⟨d - 1, by omega⟩
    refine ⟨τ, ?_, On.rfl _ _, hM⟩
    rw [g_M_turning]
    unfold gr_M_turning
    rw [gk_65, ev_bnd, ev_bnd, ev_bnd, hX.2.2.1, hV.2.2.1, ite2_p (by rw [show A + k = E by omega]), Mv]
    have hs : seen th A k c = (b || (decide (k = 0) || !tb (th (A + k)) 8)) := by
      unfold seen
      rcases hb with rfl | rfl
      · simp
      · cases decide (c = 0) <;> cases decide (k = 0) <;> rfl
    rw [hs]
    cases b with
    | true => rw [ite2_y (Eq.refl true), if_pos (Bool.true_or _)]; rfl
    | false =>
      rw [ite2_z (by decide)]
      by_cases k0 : k = 0
      · rw [ite2_p (by rw [k0]; rfl), if_pos (by rw [decide_eq_true k0]; rfl)]; rfl
      · rw [ite2_n (fun w => by have := (nI_eq (by omega) (by omega)).mp w; omega), e_isThere hV.1 (by omega), ev_cl2, hV.2.1, decide_eq_false k0]
        cases hv : tb (th (A + k)) 8 with
        | false => rw [ite2_z (by decide), if_pos (by decide)]; rfl
        | true => rw [ite2_y (Eq.refl true), if_neg (by decide)]; rfl
  | succ r ih =>
    intro k d hd hk c b τ hb hc hcb hV hX hM h0
    obtain ⟨d, rfl⟩ : ∃ q, d = q + 1 := ⟨d - 1, by omega⟩
    have nb := nbk_b (th := th) (K := K) (A := A) hN.1 hN.2.1 k
    have hkr := ih (k + 1) d (by omega) (by omega)
    have i80 : ns_in (nI (mix A (nbk th K A N k) k c b)) (ns_ln 80) := ns_inI (show mix A (nbk th K A N k) k c b < 8000 by unfold mix; split <;> omega) (by decide)
    have mlt : mix A (nbk th K A N k) k c b < 2 ^ 31 := by unfold mix; split <;> omega
    have hs : seen th A k c = (b || (decide (k = 0) || !tb (th (A + k)) 8)) := by
      unfold seen
      rcases hb with rfl | rfl
      · simp
      · cases decide (c = 0) <;> cases decide (k = 0) <;> rfl
    have ml := Mv_le (th := th) (K := K) (A := A) (N := N) (r + 1) k c
    have body : ∃ τ', g_M_turning_108 (g_M_turning d) ns_F τ 65 (nI A) (nI (A + k)) (nI c) (nI (nbk th K A N k)) (nI (mix A (nbk th K A N k) k c b)) (1000 : Int32) (yn (b = true)) (0 : Int32) = some (nI (rv (Mv th K A N (r + 1) k c)), τ') ∧ On 80 τ τ' ∧ MM th E K A N τ' := by
      refine e_tu108 hN hk h60 hb hc hX (g_M_turning d) hkr 3 0 ns_F τ c 1000 b (seen th A k c) (by show 4 < 10000; omega) (by omega) hs (by omega) (by omega) hV (Lz.rfl τ) hM hX ?_
      rw [Mv] at ml ⊢
      exact Nat.min_eq_right ml
    have fin76 : ∀ s1 : Int32, ((nI (130 * (A + k) + 2 * min c (nbk th K A N k))) + s1 = nI (mix A (nbk th K A N k) k c b)) → ∃ τ', g_M_turning_76 (g_M_turning d) τ (nI (130 * (A + k) + 2 * min c (nbk th K A N k))) s1 65 (nI A) (yn (b = true)) (nI (A + k)) (nI c) (nI (nbk th K A N k)) = some (nI (rv (Mv th K A N (r + 1) k c)), τ') ∧ On 80 τ τ' ∧ MM th E K A N τ' := by
      intro s1 hs1
      unfold g_M_turning_76
      rw [hs1, ev_bnd, hV.1, rg_65_29, ev_drf, gk_80, grd_t i80, ns_ixI mlt]
      by_cases k0 : k = 0
      · rw [h0 k0, ite2_p (by decide)]
        exact body
      · have hbb : b = decide (c = 0) := hb.resolve_left k0
        rcases hM k c (by omega) (by omega) (hc (by omega)) with q | q
        · rw [← hbb] at q
          rw [q, ite2_p (by decide)]
          exact body
        · rw [← hbb, show E - A - k = r + 1 by omega] at q
          have rl := rv_le (v := Mv th K A N (r + 1) k c)
          refine ⟨τ, ?_, On.rfl _ _, hM⟩
          rw [q, ite2_n (nI_nle rv_pos (by omega)), ev_drf, gk_80, grd_t i80, q]
    rw [g_M_turning]
    unfold gr_M_turning
    have e1 : (130 : Int32) * nI (A + k) + (2 : Int32) * nI (min c (nbk th K A N k)) = nI (130 * (A + k) + 2 * min c (nbk th K A N k)) := by rw [show (130 : Int32) = nI 130 from rfl, show (2 : Int32) = nI 2 from rfl, pk_mul, pk_mul, nI_add]
    rw [gk_65, ev_bnd, ev_bnd, ev_bnd, hX.2.2.1, hX.2.2.2, hX.2.1, hV.2.2.1, ite2_n (fun w => by have := (nI_eq (by omega) (by omega)).mp w; omega), e_minNN (by omega) (by omega), ev_cl2, e1]
    cases hbv : b with
    | false =>
      rw [hbv] at fin76
      rw [ite2_z (by decide)]
      exact fin76 0 (by rw [show (0 : Int32) = nI 0 from rfl, nI_add]; rfl)
    | true =>
      rw [hbv] at fin76
      rw [ite2_y (Eq.refl true)]
      exact fin76 1 (by rw [← nI_succ]; rfl)
