/-! TURNS: the reference's row of them -/
theorem scr81 : scr 81 := by unfold scr; omega
def On2 (a b : Nat) (σ τ : ns_St) : Prop := τ.2 = σ.2 ∧ ∀ c, c ≠ a → c ≠ b → τ.1 c = σ.1 c
/-- the reference on its way: against the memory at its start -/
def Wz (τ0 τ : ns_St) : Prop := τ.2 = τ0.2 ∧ (∀ b, b ≠ 65 → b ≠ 80 → b ≠ 81 → τ.1 b = τ0.1 b) ∧ ∀ i, ¬ (25 ≤ i ∧ i ≤ 28) → τ.1 65 i = τ0.1 65 i
theorem Wz.same {σ τ : ns_St} (h : Wz σ τ) : Same σ τ := by
  refine ⟨fun a ha h65 => h.2.1 a h65 (fun e => ha (e ▸ scr80)) (fun e => ha (e ▸ scr81)), fun k hk => h.2.2 k (fun q => hk (Or.inr q)), fun a _ => by rw [h.1], fun ⟨g1, g2, q⟩ => ⟨g1, g2, by rw [h.1]; exact q⟩⟩
theorem Wz.lz {a b c : ns_St} (h : Wz a b) (o : Lz b c) : Wz a c := ⟨o.1.trans h.1, fun x h1 h2 h3 => (o.2.1 x h1 h2).trans (h.2.1 x h1 h2 h3), fun i hi => (o.2.2 i (by omega)).trans (h.2.2 i hi)⟩
theorem Wz.p81 {a b : ns_St} (h : Wz a b) (k : Nat) (v : Int32) : Wz a (ns_pI b 81 k v) := ⟨h.1, fun x h1 h2 h3 => by rw [pI_ne _ _ _ h3]; exact h.2.1 x h1 h2 h3, fun i hi => by rw [pI_ne _ _ _ (by decide)]; exact h.2.2 i hi⟩
/-- the turned ones so far -/
def TU (th : Nat → Int32) (K A N C R n : Nat) (τ : ns_St) : Prop := ∀ p, p ≤ 60 → τ.1 81 p = if A ≤ p ∧ p < A + n then nI (wdh th K A N R (p - A) (wc th K A N C R (p - A))) else 0
theorem e_wk108 {th : Nat → Int32} {g1 g2 : Option Nat} {E K A N C n j0 : Nat} {all : Int32} {σ : ns_St} (hN : NN K N) (hn : A + n < E) (h60 : E ≤ 60) (hj0 : j0 < 6) (hA0 : σ.1 72 j0 = nI A) (x4 : Int32) (kh : ns_St → Nat → Int32 → Int32 → Int32 → Int32 → Option (Int32 × ns_St)) (hM1 : Mv th K A N (E - A - n) n (wc th K A N C (E - A) n) < 1000) : ∀ (e i f : Nat) (τ : ns_St) (c : Nat) (hr h : Bool), e < f → i + e ≤ 3 → i + e = wdh th K A N (E - A) n (wc th K A N C (E - A) n) → h = (hr || (decide (n = 0) || !tb (th (A + n)) 8)) → c + e + 10 + 5 * (E - A - n) < 2 ^ 27 → EV th g1 g2 E τ → Wz σ τ → MM th E K A N τ → TU th K A N C (E - A) n τ → RX τ K (nbk th K A N n) (A + n) c → nw th K A N n (Mv th K A N (E - A - n - 1) (n + 1)) e i c h = Mv th K A N (E - A - n) n (wc th K A N C (E - A) n) → (∀ e', e' < e → nw th K A N n (Mv th K A N (E - A - n - 1) (n + 1)) e' i c h ≠ Mv th K A N (E - A - n) n (wc th K A N C (E - A) n)) → nct th K A N n e c = wc th K A N C (E - A) (n + 1) →
    ∃ τ', g_M_turnsOf_108 kh f τ 65 (nI j0) all (nI (Mv th K A N (E - A - n) n (wc th K A N C (E - A) n))) x4 (nI (A + n)) (nI (nbk th K A N n)) (yn (hr = true)) (nI i) = kh τ' 65 (nI j0) all (nI (Mv th K A N (E - A - (n + 1)) (n + 1) (wc th K A N C (E - A) (n + 1)))) (yn (wc th K A N C (E - A) (n + 1) = 0)) ∧ EV th g1 g2 E τ' ∧ Wz σ τ' ∧ MM th E K A N τ' ∧ TU th K A N C (E - A) (n + 1) τ' ∧ RX τ' K (nbk th K A N (n + 1)) (A + (n + 1)) (wc th K A N C (E - A) (n + 1)) := by
  have nb := nbk_b (th := th) (K := K) (A := A) hN.1 hN.2.1 n
  have nb1 := nbk_b (th := th) (K := K) (A := A) hN.1 hN.2.1 (n + 1)
  have hMs := Mv_sml (th := th) (K := K) (A := A) (N := N) (E - A - n) n (wc th K A N C (E - A) n)
  have hM180 : Mv th K A N (E - A - n) n (wc th K A N C (E - A) n) ≤ 180 := by unfold sml at hMs; omega
  have hi8 : ns_in (nI j0) (ns_ln 72) := ns_inI (show j0 < 6 by omega) (by decide)
  intro e
  induction e with
  | zero =>
    intro i f τ c hr h hf hie hid hh hc hV hZ hMM hTU hX hnw hno hnct
    obtain ⟨f, rfl⟩ : ∃ q, f = q + 1 := ⟨f - 1, by omega⟩
    have hop : opv th K A N n (Mv th K A N (E - A - n - 1) (n + 1)) i c h = Mv th K A N (E - A - n) n (wc th K A N C (E - A) n) := hnw
    have hcond : (h && !((sg th K (nbk th K A N n) c (A + n + 1) 0).2.2 && tb (th (A + n + 1)) 4)) = true := by
      cases q : (h && !((sg th K (nbk th K A N n) c (A + n + 1) 0).2.2 && tb (th (A + n + 1)) 4)) with
      | true => rfl
      | false =>
        unfold opv at hop
        rw [q, if_neg (by decide)] at hop
        omega
    have hht : h = true := by cases h with | true => rfl | false => simp at hcond
    have hnf : ((sg th K (nbk th K A N n) c (A + n + 1) 0).2.2 && tb (th (A + n + 1)) 4) = false := by
      cases q : ((sg th K (nbk th K A N n) c (A + n + 1) 0).2.2 && tb (th (A + n + 1)) 4) with
      | false => rfl
      | true => rw [q] at hcond; simp at hcond
    have hval : min 1000 (i + Mv th K A N (E - A - n - 1) (n + 1) (sg th K (nbk th K A N n) c (A + n + 1) 0).2.1) = Mv th K A N (E - A - n) n (wc th K A N C (E - A) n) := by
      unfold opv at hop
      rw [if_pos hcond] at hop
      exact hop
    have hwc : (sg th K (nbk th K A N n) c (A + n + 1) 0).2.1 = wc th K A N C (E - A) (n + 1) := hnct
    have hcb : (sg th K (nbk th K A N n) c (A + n + 1) 0).2.1 ≤ c + 2 := stN_C
    have s0 : (sg th K (nbk th K A N n) c (A + n + 1) 0).2.2 = decide ((sg th K (nbk th K A N n) c (A + n + 1) 0).2.1 = 0) := stN_0
    have e := e_stepped (σ := τ) hV.1 (K := K) (N := nbk th K A N n) (p := A + n) (C := c) (b := 0) hN.2.2.2 (by omega) (by omega) (by omega) (Or.inl rfl) hX.1 hX.2.1 hX.2.2.1 hX.2.2.2
    rw [hV.2.1] at e
    have e' : g_M_stepped τ 65 (0 : Int32) = some (yn ((sg th K (nbk th K A N n) c (A + n + 1) 0).2.2 = true), s3 τ 65 26 (nI (nbk th K A N (n + 1))) (nI (A + n + 1)) (nI (sg th K (nbk th K A N n) c (A + n + 1) 0).2.1)) := e
    generalize hU : s3 τ 65 26 (nI (nbk th K A N (n + 1))) (nI (A + n + 1)) (nI (sg th K (nbk th K A N n) c (A + n + 1) 0).2.1) = U at e'
    have lU : Lz τ U := by rw [← hU]; exact Lz.s3
    have hVU := Lz.ev hV lU
    have mU : MM th E K A N U := hMM.cong (by rw [← hU]; exact s3_ne _ _ _ _ _ (by decide))
    have u81 : U.1 81 = τ.1 81 := by rw [← hU]; exact s3_ne _ _ _ _ _ (by decide)
    have rU : RX U K (nbk th K A N (n + 1)) (A + (n + 1)) (sg th K (nbk th K A N n) c (A + n + 1) 0).2.1 := ⟨by rw [← hU, s3_go _ _ _ _ _ _ (by omega)]; exact hX.1, by rw [← hU]; exact s3_g1 _ _ _ _ _ _, by rw [← hU]; exact s3_g2 _ _ _ _ _ _, by rw [← hU]; exact s3_g3 _ _ _ _ _ _⟩
    obtain ⟨U', eU, oU, mU'⟩ := e_turning (g1 := g1) (g2 := g2) hN h60 (E - A - n - 1) (n + 1) ns_D (by show _ < 70; omega) (by omega) _ _ U (Or.inr s0) (fun _ k3 => stN_nc nb.1 nb.2 k3) (by omega) hVU rU mU (fun q => absurd q (by omega))
    have hG : Mv th K A N (E - A - n - 1) (n + 1) (sg th K (nbk th K A N n) c (A + n + 1) 0).2.1 < 1000 := by omega
    have erv : rv (Mv th K A N (E - A - n - 1) (n + 1) (sg th K (nbk th K A N n) c (A + n + 1) 0).2.1) = Mv th K A N (E - A - n - 1) (n + 1) (sg th K (nbk th K A N n) c (A + n + 1) 0).2.1 + 1 := by unfold rv; rw [if_pos hG]
    have i81 : ns_in (nI (A + n)) (ns_ln 81) := ns_inI (show A + n < 61 by omega) (by decide)
    have zU : Wz σ U' := (hZ.lz lU).lz (Lz.on oU)
    have a72 : U.1 72 j0 = nI A := by rw [(hZ.lz lU).2.1 72 (by decide) (by decide) (by decide)]; exact hA0
    refine ⟨ns_pI U' 81 (A + n) (nI i), ?_, ?_, zU.p81 _ _, mU'.cong (pI_ne _ _ _ (by decide)), ?_, ?_⟩
    · -- it goes on
      have go171 : g_M_turnsOf_171 kh (g_M_turnsOf_108 kh f) U 65 (nI j0) all (nI (Mv th K A N (E - A - n) n (wc th K A N C (E - A) n))) x4 (nI (A + n)) (nI (nbk th K A N n)) (yn (hr = true)) (nI i) (nI c) (yn ((sg th K (nbk th K A N n) c (A + n + 1) 0).2.2 = true)) = kh (ns_pI U' 81 (A + n) (nI i)) 65 (nI j0) all (nI (Mv th K A N (E - A - (n + 1)) (n + 1) (wc th K A N C (E - A) (n + 1)))) (yn (wc th K A N C (E - A) (n + 1) = 0)) := by
        unfold g_M_turnsOf_171
        rw [hVU.1, rg_65_8, ev_drf, gk_72, grd_t hi8, ns_ixI (by omega), a72, eU, ev_cl2, erv, nI_add, ← nI_succ, ite2_p (by congr 1; omega), (hVU.on oU).1, rg_65_30, ev_drf, gk_81, grd_t i81, ns_ixI (by omega), ev_bnd, ev_bnd, pk_sub (by omega), s0, hwc]
        rw [show E - A - (n + 1) = E - A - n - 1 by omega]
        congr 1
        · congr 1
          rw [hwc] at hval hG
          omega
        · by_cases w : wc th K A N C (E - A) (n + 1) = 0
          · rw [yn_t w, yn_t (by rw [decide_eq_true w])]
          · rw [yn_f w, yn_f (by rw [decide_eq_false w]; decide)]
      have go147 : g_M_turnsOf_147 kh (g_M_turnsOf_108 kh f) τ 65 (nI j0) all (nI (Mv th K A N (E - A - n) n (wc th K A N C (E - A) n))) x4 (nI (A + n)) (nI (nbk th K A N n)) (yn (hr = true)) (nI i) (nI c) = kh (ns_pI U' 81 (A + n) (nI i)) 65 (nI j0) all (nI (Mv th K A N (E - A - (n + 1)) (n + 1) (wc th K A N C (E - A) (n + 1)))) (yn (wc th K A N C (E - A) (n + 1) = 0)) := by
        unfold g_M_turnsOf_147
        rw [e', ev_cl2]
        cases hst : (sg th K (nbk th K A N n) c (A + n + 1) 0).2.2 with
        | false =>
          rw [hst] at go171
          rw [ite2_z (by decide)]
          exact go171
        | true =>
          have p7 : U.1 65 27 = nI (A + n + 1) := rU.2.2.1
          rw [hst] at go171 hnf
          have hcl : tb (th (A + n + 1)) 4 = false := hnf
          rw [ite2_y (Eq.refl true), p7, e_isThere hVU.1 (by omega), ev_cl2, hVU.2.1, hcl, ite2_z (by decide)]
          exact go171
      rw [g_M_turnsOf_108, ite2_n (show ¬ (4 : Int32) ≤ nI i from nI_ge (b := 4) (by omega) (by decide)), ev_bnd, hX.2.2.2]
      have a72' : τ.1 72 j0 = nI A := by rw [hZ.2.1 72 (by decide) (by decide) (by decide)]; exact hA0
      cases hhr : hr with
      | true =>
        rw [hhr] at go147
        rw [ite2_y (Eq.refl true)]
        exact go147
      | false =>
        rw [hhr] at go147 hh
        rw [ite2_z (by decide), hV.1, rg_65_8, ev_drf, gk_72, grd_t hi8, ns_ixI (by omega), a72']
        by_cases k0 : n = 0
        · rw [ite2_p (by rw [k0]; rfl)]
          exact go147
        · rw [ite2_n (fun w => by have := (nI_eq (by omega) (by omega)).mp w; omega), e_isThere hV.1 (by omega), ev_cl2, hV.2.1]
          cases hv : tb (th (A + n)) 8 with
          | false =>
            rw [ite2_z (by decide)]
            exact go147
          | true =>
            rw [hv, decide_eq_false k0, hht] at hh
            exact absurd hh (by decide)
    · have := hVU.on oU
      exact ⟨this.1, by rw [pI_ne _ _ _ (by decide)]; exact this.2.1, by rw [pI_ne _ _ _ (by decide)]; exact this.2.2.1, h60⟩
    · intro p hp
      have tp' := hTU p hp
      by_cases ep : p = A + n
      · subst ep
        rw [pI_at, if_pos (by omega), show A + n - A = n by omega, ← hid]
        rfl
      · rw [pI_st _ _ _ ep, oU.2 81 (by decide), u81, tp']
        by_cases w : A ≤ p ∧ p < A + n
        · rw [if_pos w, if_pos (by omega)]
        · rw [if_neg w, if_neg (by omega)]
    · have := rU.on oU
      rw [hwc] at this
      unfold RX
      rw [pI_ne _ _ _ (by decide)]
      exact this
  | succ e ih =>
    intro i f τ c hr h hf hie hid hh hc hV hZ hMM hTU hX hnw hno hnct
    obtain ⟨f, rfl⟩ : ∃ q, f = q + 1 := ⟨f - 1, by omega⟩
    have hnop : opv th K A N n (Mv th K A N (E - A - n - 1) (n + 1)) i c h ≠ Mv th K A N (E - A - n) n (wc th K A N C (E - A) n) := hno 0 (by omega)
    rw [nw_s] at hnw
    rw [nct] at hnct
    -- the TURN
    have go213 : ∀ T, EV th g1 g2 E T → Wz σ T → MM th E K A N T → T.1 81 = τ.1 81 → T.1 65 25 = nI K → ∃ τ', g_M_turnsOf_213 kh (g_M_turnsOf_108 kh f) T 65 (nI j0) all (nI (Mv th K A N (E - A - n) n (wc th K A N C (E - A) n))) x4 (nI (A + n)) (nI (nbk th K A N n)) (yn (hr = true)) (nI i) (nI c) = kh τ' 65 (nI j0) all (nI (Mv th K A N (E - A - (n + 1)) (n + 1) (wc th K A N C (E - A) (n + 1)))) (yn (wc th K A N C (E - A) (n + 1) = 0)) ∧ EV th g1 g2 E τ' ∧ Wz σ τ' ∧ MM th E K A N τ' ∧ TU th K A N C (E - A) (n + 1) τ' ∧ RX τ' K (nbk th K A N (n + 1)) (A + (n + 1)) (wc th K A N C (E - A) (n + 1)) := by
      intro S sV sZ sM s81 s25
      unfold g_M_turnsOf_213
      rw [ev_bnd, ev_bnd, ev_bnd, ← nI_succ]
      generalize hT : ns_pI (ns_pI (ns_pI S 65 27 (nI (A + n))) 65 26 (nI (nbk th K A N n))) 65 28 (nI (c + 1)) = T
      have lT : Lz S T := by rw [← hT]; exact ((Lz.pI (by omega)).trans (Lz.pI (by omega))).trans (Lz.pI (by omega))
      have e80 : T.1 80 = S.1 80 := by rw [← hT, pI_ne _ _ _ (by decide), pI_ne _ _ _ (by decide), pI_ne _ _ _ (by decide)]
      have k5 : T.1 65 25 = nI K := by rw [lT.2.2 25 (by omega)]; exact s25
      have k6 : T.1 65 26 = nI (nbk th K A N n) := by rw [← hT, pI_st _ _ _ (by decide), pI_at]
      have k7 : T.1 65 27 = nI (A + n) := by rw [← hT, pI_st _ _ _ (by decide), pI_st _ _ _ (by decide), pI_at]
      have k8 : T.1 65 28 = nI (c + 1) := by rw [← hT, pI_at]
      have hVT := Lz.ev sV lT
      have es := e_stopsHere (σ := T) hVT.1 (K := K) (N := nbk th K A N n) (p := A + n) (C := c + 1) hN.2.2.2 (by omega) (by omega) (by omega) k5 k6 k7 k8
      rw [hVT.2.1] at es
      have es' : g_M_stopsHere T 65 = some (yn (tst K (nbk th K A N n) c (tb (th (A + n)) 4) = true), s3 T 65 26 (nI (nbk th K A N n)) (nI (A + n)) (nI (tct K (nbk th K A N n) c (tb (th (A + n)) 4)))) := es
      generalize hU : s3 T 65 26 (nI (nbk th K A N n)) (nI (A + n)) (nI (tct K (nbk th K A N n) c (tb (th (A + n)) 4))) = U at es'
      have lU : Lz S U := lT.trans (by rw [← hU]; exact Lz.s3)
      have hVU : EV th g1 g2 E U := Lz.ev sV lU
      have mU : MM th E K A N U := sM.cong (by rw [← hU, s3_ne _ _ _ _ _ (by decide)]; exact e80)
      have tU : TU th K A N C (E - A) n U := fun p hp => by rw [lU.2.1 81 (by decide) (by decide), s81]; exact hTU p hp
      have rU : RX U K (nbk th K A N n) (A + n) (tct K (nbk th K A N n) c (tb (th (A + n)) 4)) := ⟨by rw [← hU, s3_go _ _ _ _ _ _ (by omega)]; exact k5, by rw [← hU]; exact s3_g1 _ _ _ _ _ _, by rw [← hU]; exact s3_g2 _ _ _ _ _ _, by rw [← hU]; exact s3_g3 _ _ _ _ _ _⟩
      rw [es', ev_cl2]
      unfold tct at rU
      cases hst : tst K (nbk th K A N n) c (tb (th (A + n)) 4) with
      | false =>
        rw [hst, if_neg (by decide)] at rU hnw hnct
        rw [ite2_z (by decide), ev_bnd, ← nI_succ]
        refine ih (i + 1) f U (c + 1) hr h (by omega) (by omega) (by omega) hh (by omega) hVU (sZ.lz lU) mU tU rU hnw (fun e' he' => ?_) hnct
        have := hno (e' + 1) (by omega)
        rw [nw_s, hst, if_neg (by decide)] at this
        exact this
      | true =>
        rw [hst, if_pos rfl] at rU hnw hnct
        have hcl : tb (th (A + n)) 4 = false := by
          cases q : tb (th (A + n)) 4 with
          | false => rfl
          | true => rw [q, if_pos rfl] at hnw; omega
        rw [hcl, if_neg (by decide)] at hnw
        rw [ite2_y (Eq.refl true), e_isThere hVU.1 (by omega), ev_cl2, hVU.2.1, hcl, ite2_z (by decide), ev_bnd, ← nI_succ]
        refine ih (i + 1) f U 0 true true (by omega) (by omega) (by omega) rfl (by omega) hVU (sZ.lz lU) mU tU rU hnw (fun e' he' => ?_) hnct
        have := hno (e' + 1) (by omega)
        rw [nw_s, hst, if_pos rfl, hcl, if_neg (by decide)] at this
        exact this
    -- the STEP that is not taken
    have go147 : h = true → ∃ τ', g_M_turnsOf_147 kh (g_M_turnsOf_108 kh f) τ 65 (nI j0) all (nI (Mv th K A N (E - A - n) n (wc th K A N C (E - A) n))) x4 (nI (A + n)) (nI (nbk th K A N n)) (yn (hr = true)) (nI i) (nI c) = kh τ' 65 (nI j0) all (nI (Mv th K A N (E - A - (n + 1)) (n + 1) (wc th K A N C (E - A) (n + 1)))) (yn (wc th K A N C (E - A) (n + 1) = 0)) ∧ EV th g1 g2 E τ' ∧ Wz σ τ' ∧ MM th E K A N τ' ∧ TU th K A N C (E - A) (n + 1) τ' ∧ RX τ' K (nbk th K A N (n + 1)) (A + (n + 1)) (wc th K A N C (E - A) (n + 1)) := by
      intro ht
      have e' := e_stepped (σ := τ) hV.1 (K := K) (N := nbk th K A N n) (p := A + n) (C := c) (b := 0) hN.2.2.2 (by omega) (by omega) (by omega) (Or.inl rfl) hX.1 hX.2.1 hX.2.2.1 hX.2.2.2
      rw [hV.2.1] at e'
      have e'' : g_M_stepped τ 65 (0 : Int32) = some (yn ((sg th K (nbk th K A N n) c (A + n + 1) 0).2.2 = true), s3 τ 65 26 (nI (nbk th K A N (n + 1))) (nI (A + n + 1)) (nI (sg th K (nbk th K A N n) c (A + n + 1) 0).2.1)) := e'
      have hcb : (sg th K (nbk th K A N n) c (A + n + 1) 0).2.1 ≤ c + 2 := stN_C
      have s0 : (sg th K (nbk th K A N n) c (A + n + 1) 0).2.2 = decide ((sg th K (nbk th K A N n) c (A + n + 1) 0).2.1 = 0) := stN_0
      generalize hU : s3 τ 65 26 (nI (nbk th K A N (n + 1))) (nI (A + n + 1)) (nI (sg th K (nbk th K A N n) c (A + n + 1) 0).2.1) = U at e''
      have lU : Lz τ U := by rw [← hU]; exact Lz.s3
      have hVU := Lz.ev hV lU
      have mU : MM th E K A N U := hMM.cong (by rw [← hU]; exact s3_ne _ _ _ _ _ (by decide))
      have u81 : U.1 81 = τ.1 81 := by rw [← hU]; exact s3_ne _ _ _ _ _ (by decide)
      have rU : RX U K (nbk th K A N (n + 1)) (A + (n + 1)) (sg th K (nbk th K A N n) c (A + n + 1) 0).2.1 := ⟨by rw [← hU, s3_go _ _ _ _ _ _ (by omega)]; exact hX.1, by rw [← hU]; exact s3_g1 _ _ _ _ _ _, by rw [← hU]; exact s3_g2 _ _ _ _ _ _, by rw [← hU]; exact s3_g3 _ _ _ _ _ _⟩
      have a72 : U.1 72 j0 = nI A := by rw [(hZ.lz lU).2.1 72 (by decide) (by decide) (by decide)]; exact hA0
      have go171 : ((sg th K (nbk th K A N n) c (A + n + 1) 0).2.2 && tb (th (A + n + 1)) 4) = false → ∃ τ', g_M_turnsOf_171 kh (g_M_turnsOf_108 kh f) U 65 (nI j0) all (nI (Mv th K A N (E - A - n) n (wc th K A N C (E - A) n))) x4 (nI (A + n)) (nI (nbk th K A N n)) (yn (hr = true)) (nI i) (nI c) (yn ((sg th K (nbk th K A N n) c (A + n + 1) 0).2.2 = true)) = kh τ' 65 (nI j0) all (nI (Mv th K A N (E - A - (n + 1)) (n + 1) (wc th K A N C (E - A) (n + 1)))) (yn (wc th K A N C (E - A) (n + 1) = 0)) ∧ EV th g1 g2 E τ' ∧ Wz σ τ' ∧ MM th E K A N τ' ∧ TU th K A N C (E - A) (n + 1) τ' ∧ RX τ' K (nbk th K A N (n + 1)) (A + (n + 1)) (wc th K A N C (E - A) (n + 1)) := by
        intro hnf
        obtain ⟨U', eU, oU, mU'⟩ := e_turning (g1 := g1) (g2 := g2) hN h60 (E - A - n - 1) (n + 1) ns_D (by show _ < 70; omega) (by omega) _ _ U (Or.inr s0) (fun _ k3 => stN_nc nb.1 nb.2 k3) (by omega) hVU rU mU (fun q => absurd q (by omega))
        have sm := Mv_sml (th := th) (K := K) (A := A) (N := N) (E - A - n - 1) (n + 1) (sg th K (nbk th K A N n) c (A + n + 1) 0).2.1
        have rl := rv_le (v := Mv th K A N (E - A - n - 1) (n + 1) (sg th K (nbk th K A N n) c (A + n + 1) 0).2.1)
        have hne : ¬ i + rv (Mv th K A N (E - A - n - 1) (n + 1) (sg th K (nbk th K A N n) c (A + n + 1) 0).2.1) = Mv th K A N (E - A - n) n (wc th K A N C (E - A) n) + 1 := by
          intro w
          apply hnop
          unfold opv
          rw [ht, hnf, if_pos (by decide)]
          unfold sml at sm
          unfold rv at w
          split at w <;> omega
        unfold g_M_turnsOf_171
        rw [hVU.1, rg_65_8, ev_drf, gk_72, grd_t hi8, ns_ixI (by omega), a72, eU, ev_cl2, nI_add, ← nI_succ, ite2_n (fun w => hne ((nI_eq (by omega) (by omega)).mp w))]
        exact go213 U' (hVU.on oU) ((hZ.lz lU).lz (Lz.on oU)) mU' (by rw [oU.2 81 (by decide), u81]) (by rw [oU.2 65 (by decide)]; exact rU.1)
      unfold g_M_turnsOf_147
      rw [e'', ev_cl2]
      cases hst : (sg th K (nbk th K A N n) c (A + n + 1) 0).2.2 with
      | false =>
        rw [hst] at go171
        rw [ite2_z (by decide)]
        exact go171 rfl
      | true =>
        have p7 : U.1 65 27 = nI (A + n + 1) := rU.2.2.1
        rw [hst] at go171
        rw [ite2_y (Eq.refl true), p7, e_isThere hVU.1 (by omega), ev_cl2, hVU.2.1]
        cases hcl : tb (th (A + n + 1)) 4 with
        | false =>
          rw [hcl] at go171
          rw [ite2_z (by decide)]
          exact go171 rfl
        | true =>
          rw [ite2_y (Eq.refl true)]
          exact go213 U hVU (hZ.lz lU) mU u81 rU.1
    have a72' : τ.1 72 j0 = nI A := by rw [hZ.2.1 72 (by decide) (by decide) (by decide)]; exact hA0
    rw [g_M_turnsOf_108, ite2_n (show ¬ (4 : Int32) ≤ nI i from nI_ge (b := 4) (by omega) (by decide)), ev_bnd, hX.2.2.2]
    cases hhr : hr with
    | true =>
      rw [hhr] at go147 hh
      rw [ite2_y (Eq.refl true)]
      exact go147 (by rw [hh]; rfl)
    | false =>
      rw [hhr] at go147 hh go213
      rw [ite2_z (by decide), hV.1, rg_65_8, ev_drf, gk_72, grd_t hi8, ns_ixI (by omega), a72']
      by_cases k0 : n = 0
      · rw [ite2_p (by rw [k0]; rfl)]
        exact go147 (by rw [hh, decide_eq_true k0]; rfl)
      · rw [ite2_n (fun w => by have := (nI_eq (by omega) (by omega)).mp w; omega), e_isThere hV.1 (by omega), ev_cl2, hV.2.1]
        cases hv : tb (th (A + n)) 8 with
        | false =>
          rw [ite2_z (by decide)]
          exact go147 (by rw [hh, hv]; simp)
        | true =>
          rw [ite2_y (Eq.refl true)]
          exact go213 τ hV hZ hMM rfl hX.1
