/-! PASS -/
theorem Cp.wr {σ τ : ns_St} {w v : Nat} (h : Cp σ τ w v) : τ.2.2 = σ.2.2 := h.1
theorem k_pass {B : Nat} {σ : ns_St} (h : Inv B σ) (hB : 64 ≤ B) : both B (g_N_pass σ 0) (fun σ => g_M_pass σ 65) := by
  obtain ⟨g1, g2, hR⟩ := h.1
  have h' := h
  obtain ⟨hrf, hw, him, hsh, ⟨z, hz, z29, z65, hz4⟩, hrs⟩ := h'
  have hW0 := hw
  obtain ⟨E, H, a1, a2, a3, hG, a5, a6, a7, a8, a9, a10⟩ := hW0
  have h60 := hG.2.2.1
  -- the TAPE
  have tt : ∀ i, i < z → (σ.1 30 i).toNatClampNeg < 256 ∧ σ.1 30 i = nI (σ.1 30 i).toNatClampNeg ∧ σ.1 76 i = nI (σ.1 30 i).toNatClampNeg := fun i hi => by
    obtain ⟨v, h1, h2, h3⟩ := hz4 i hi
    rw [h2, nI_clamp (by omega)]
    exact ⟨h1, rfl, h3⟩
  generalize ht : (fun i => (σ.1 30 i).toNatClampNeg) = t
  have tt' : ∀ i, i < z → t i < 256 ∧ σ.1 30 i = nI (t i) ∧ σ.1 76 i = nI (t i) := fun i hi => by rw [← ht]; exact tt i hi
  -- the draft
  obtain ⟨τ0, e0, cp0⟩ := e_wtake (σ := σ) hR (wk19 g1 g2) (wk1 g1 g2) (by omega)
  have hRτ0 : τ0.2.2 = ns_rg g1 g2 := by rw [cp0.1]; exact hR
  have f01 : ∀ c, c ≠ 29 → (ns_pI (ns_pI τ0 29 2 (-1)) 29 5 (nI 0)).1 c = τ0.1 c := fun c hc => by rw [pI_ne _ _ _ hc, pI_ne _ _ _ hc]
  have f29 : ∀ k, k ≠ 2 → k ≠ 5 → (ns_pI (ns_pI τ0 29 2 (-1)) 29 5 (nI 0)).1 29 k = τ0.1 29 k := fun k h1 h2 => by rw [pI_st _ _ _ h2, pI_st _ _ _ h1]
  have x2 : (ns_pI (ns_pI τ0 29 2 (-1)) 29 5 (nI 0)).1 29 2 = -1 := by rw [pI_st _ _ _ (by decide), pI_at]
  have x5 : (ns_pI (ns_pI τ0 29 2 (-1)) 29 5 (nI 0)).1 29 5 = nI 0 := pI_at _ _ _ _
  have hJ1 : (ns_pI (ns_pI τ0 29 2 (-1)) 29 5 (nI 0)).2 = τ0.2 := rfl
  have eI : g_Tape_readInto τ0 29 19 = g_Tape_readInto_12 ns_F (ns_pI (ns_pI τ0 29 2 (-1)) 29 5 (nI 0)) 29 19 (nI 0) := by
    unfold g_Tape_readInto
    rw [gk_29, gk_19, ev_bnd, ev_bnd]
    rfl
  generalize ns_pI (ns_pI τ0 29 2 (-1)) 29 5 (nI 0) = τ1 at *
  have k1 : ∀ c, ¬ (19 ≤ c ∧ c < 28) → c ≠ 29 → τ1.1 c = σ.1 c := fun c h1 h2 => by rw [f01 c h2]; exact cp0.2.1 c h1
  have j1 : ∀ c, c ≠ 20 → τ1.2.1 c = σ.2.1 c := fun c hc => by rw [hJ1]; exact cp0.2.2.1 c hc
  have hR1 : τ1.2.2 = ns_rg g1 g2 := by rw [hJ1]; exact hRτ0
  have hT1 : tpC g1 g2 t z τ1 := ⟨hR1, hz, by rw [f29 1 (by decide) (by decide), cp0.2.1 29 (by omega)]; exact z29, fun i hi => ⟨(tt' i hi).1, by rw [k1 30 (by omega) (by decide)]; exact (tt' i hi).2.1⟩⟩
  have wr19 : WR τ1 19 B (σ.1 65 3) (σ.1 69) (σ.1 65 5) (σ.1 70) (σ.1 71) (σ.1 72) (σ.1 73) (σ.1 74) (σ.1 75) (σ.1 65 12) (σ.1 65 13) (σ.1 65 14) := WR.cong (σ := τ0) (fun c h1 h2 => f01 c (by omega)) (by rw [hJ1]) (WR.cp cp0 hw)
  -- the readers, from any memory of the reference like this one
  have run : ∀ ρ : ns_St, ρ.2.2 = ns_rg g1 g2 → (∀ c, 69 ≤ c → c ≤ 76 → ρ.1 c = σ.1 c) → (∀ k, k ≠ 17 → ρ.1 65 k = σ.1 65 k) → ρ.1 65 17 = nI 0 → Fin g1 g2 t z B τ1 ρ (g_Tape_readInto_12 ns_F τ1 29 19 (nI 0)) (g_M_pass_17 ns_F ρ 65 (nI 0) 1) := fun ρ r1 r2 r3 r4 => by
    refine e_all hB z 0 0 ns_F ns_F τ1 ρ (by show z + 1 < 10000; omega) (by show z + 1 < 10000; omega) (by omega) (Nat.le_refl _) hT1 ⟨r1, hz, by rw [r3 15 (by decide)]; exact z65, fun i hi => ⟨(tt' i hi).1, by rw [r2 76 (by omega) (by omega)]; exact (tt' i hi).2.2⟩⟩ x5 r4 ?_ x2
    unfold WT
    rw [r3 3 (by decide), r3 5 (by decide), r3 12 (by decide), r3 13 (by decide), r3 14 (by decide), r2 69 (by omega) (by omega), r2 70 (by omega) (by omega), r2 71 (by omega) (by omega), r2 72 (by omega) (by omega), r2 73 (by omega) (by omega), r2 74 (by omega) (by omega), r2 75 (by omega) (by omega)]
    exact wr19
  -- the reference's beginning
  have begin' : ∀ S : ns_St, S.2.2 = ns_rg g1 g2 → (∀ c, 69 ≤ c → c ≤ 76 → S.1 c = σ.1 c) → S.1 65 = σ.1 65 → ∃ κ, g_M_pass S 65 = g_M_pass_17 ns_F (ns_pI κ 65 17 (nI 0)) 65 (nI 0) 1 ∧ Kp S κ 79 6 ∧ κ.1 79 97 = σ.1 65 3 ∧ κ.1 79 98 = σ.1 65 5 ∧ κ.1 79 99 = σ.1 65 12 ∧ κ.1 79 100 = σ.1 65 13 ∧ κ.1 79 101 = σ.1 65 14 := fun S s1 s2 s3 => by
    obtain ⟨κ, e, kp, b1, b2, b3, b4, b5⟩ := e_keep (σ := S) s1 (a := 79) (E := E) (Or.inr rfl) (by rw [s3]; exact a1) h60 (fun p h1 h2 => by rw [s2 69 (by omega) (by omega)]; exact (hG.2.2.2.2 p h2).2 h1)
    refine ⟨κ, ?_, kp, by rw [b1, s3], by rw [b2, s3], by rw [b3, s3], by rw [b4, s3], by rw [b5, s3]⟩
    unfold g_M_pass
    rw [gk_65, s1, rg_65_24, ev_drf, gk_79, e, ev_cl2, ev_bnd]
    rfl
  have hNp : ∀ (n : Int32) (τ' : ns_St), TW τ1 τ' → g_Tape_readInto_12 ns_F τ1 29 19 (nI 0) = some (n, τ') → g_N_pass σ 0 = ite2 ((ns_pI τ' 29 1 0).1 29 2 = (-1 : Int32)) (cl2 (g_World_takeFrom (ns_pI τ' 29 1 0) 1 19) fun r35 σ34 => some (n, σ34)) (cl2 (g_N_refuse (ns_pI τ' 29 1 0) 0 (-2 : Int32)) fun r37 σ36 => drf (σ36.2.2 0 4) fun b38 => grd (ns_kd b38 = 5) <| some (((-20 : Int32) - (σ36.1 b38 2)), σ36)) := fun n τ' tw e => by
    have hR' : τ'.2.2 = ns_rg g1 g2 := by rw [tw.1]; exact hR1
    unfold g_N_pass
    rw [gk_0, hR, rg_0_2, ev_drf, gk_19, rg_0_0, ev_drf, gk_1, e0, ev_cl2, hRτ0, rg_0_4, ev_drf, gk_29, rg_0_2, ev_drf, gk_19, eI, e, ev_cl2, hR', rg_0_4, ev_drf, gk_29, ev_bnd, pI_R, hR', rg_0_4, ev_drf, gk_29, rg_0_0, ev_drf, gk_1, rg_0_2, ev_drf, gk_19]
  obtain ⟨τ', ρ', tw, _, cs⟩ := run (ns_pI σ 65 17 (nI 0)) hR (fun c h1 h2 => pI_ne _ _ _ (by omega)) (fun k hk => pI_st _ _ _ hk) (pI_at _ _ _ _)
  have hR' : τ'.2.2 = ns_rg g1 g2 := by rw [tw.1]; exact hR1
  have k2 : ∀ c, ¬ (19 ≤ c ∧ c ≤ 27) → c ≠ 29 → τ'.1 c = σ.1 c := fun c h1 h2 => by rw [tw.2.1 c h1 h2]; exact k1 c (by omega) h2
  have j2 : ∀ c, c ≠ 20 → τ'.2.1 c = σ.2.1 c := fun c hc => by rw [tw.2.2.1 c hc]; exact j1 c hc
  rcases cs with ⟨n, xe, v2, _, _⟩ | ⟨n, w, xe, hw250, v2, _, _⟩
  · -- the world that was read
    obtain ⟨S, eS, cpS⟩ := e_wtake (σ := ns_pI τ' 29 1 0) (g1 := g1) (g2 := g2) hR' (wk1 g1 g2) (wk19 g1 g2) (by omega)
    have kS' : ∀ c, ¬ (1 ≤ c ∧ c ≤ 9) → ¬ (19 ≤ c ∧ c ≤ 27) → c ≠ 29 → S.1 c = σ.1 c := fun c h1 h2 h3 => by rw [cpS.2.1 c (by omega), pI_ne _ _ _ h3]; exact k2 c h2 h3
    have jS : ∀ c, c ≠ 2 → c ≠ 20 → S.2.1 c = σ.2.1 c := fun c h1 h2 => by rw [cpS.2.2.1 c h1]; exact j2 c h2
    have hRS : S.2.2 = ns_rg g1 g2 := by rw [cpS.1]; exact hR'
    obtain ⟨κ, eK, kp, _⟩ := begin' S hRS (fun c _ _ => kS' c (by omega) (by omega) (by omega)) (kS' 65 (by omega) (by omega) (by omega))
    have on := kp.1
    have kk : ∀ c, c ≠ 65 → c ≠ 79 → (ns_pI κ 65 17 (nI 0)).1 c = S.1 c := fun c h1 h2 => by rw [pI_ne _ _ _ h1]; exact on.2 c h2
    have k65 : ∀ k, k ≠ 17 → (ns_pI κ 65 17 (nI 0)).1 65 k = σ.1 65 k := fun k hk => by rw [pI_st _ _ _ hk, on.2 65 (by decide), kS' 65 (by omega) (by omega) (by omega)]
    obtain ⟨τ2, ρ2, tw2, rw2, cs2⟩ := run (ns_pI κ 65 17 (nI 0)) (by show κ.2.2 = _; rw [on.1]; exact hRS) (fun c h1 h2 => by rw [kk c (by omega) (by omega)]; exact kS' c (by omega) (by omega) (by omega)) k65 (pI_at _ _ _ _)
    rcases cs2 with ⟨n2, xe2, _, ye2, wt2⟩ | ⟨_, w2, xe2, hw2, u2, _, _⟩
    · rw [xe] at xe2
      have inj := Option.some.inj xe2
      have i1 : nI n = nI n2 := congrArg Prod.fst inj
      have i2 : τ' = τ2 := congrArg Prod.snd inj
      subst i2
      rw [← i1] at ye2
      have l : ∀ c, ¬ (69 ≤ c ∧ c ≤ 75) → c ≠ 65 → c ≠ 79 → (ns_pI ρ2 65 15 0).1 c = S.1 c := fun c h1 h2 h3 => by rw [pI_ne _ _ _ h2, rw2.2.1 c h1 h2]; exact kk c h2 h3
      have l' : ∀ c, ¬ (1 ≤ c ∧ c ≤ 9) → ¬ (19 ≤ c ∧ c ≤ 27) → c ≠ 29 → ¬ (69 ≤ c ∧ c ≤ 75) → c ≠ 65 → c ≠ 79 → (ns_pI ρ2 65 15 0).1 c = σ.1 c := fun c h1 h2 h3 h4 h5 h6 => by rw [l c h4 h5 h6]; exact kS' c h1 h2 h3
      have lJ : (ns_pI ρ2 65 15 0).2 = S.2 := by show ρ2.2 = _; rw [rw2.1]; exact on.1
      have l65 : ∀ k, ¬ (k = 3 ∨ k = 5 ∨ (17 ≤ k ∧ k ≤ 20)) → k ≠ 15 → (ns_pI ρ2 65 15 0).1 65 k = σ.1 65 k := fun k h1 h2 => by rw [pI_st _ _ _ h2, rw2.2.2.1 k h1]; exact k65 k (by omega)
      refine ⟨nI n, S, ns_pI ρ2 65 15 0, ?_, ?_, ⟨g1, g2, by rw [lJ]; exact hRS⟩, ?_, ?_, ?_, ?_, ?_⟩
      · rw [hNp _ τ' tw xe, pI_st _ _ _ (by decide), v2, ite2_p (Eq.refl _), eS, ev_cl2]
      · show g_M_pass S 65 = _
        rw [eK, ye2]
      · unfold Wnow
        rw [pI_st ρ2 65 (0 : Int32) (show (3 : Nat) ≠ 15 by decide), pI_st ρ2 65 (0 : Int32) (show (5 : Nat) ≠ 15 by decide), pI_st ρ2 65 (0 : Int32) (show (12 : Nat) ≠ 15 by decide), pI_st ρ2 65 (0 : Int32) (show (13 : Nat) ≠ 15 by decide), pI_st ρ2 65 (0 : Int32) (show (14 : Nat) ≠ 15 by decide), pI_ne ρ2 15 0 (show (69 : Nat) ≠ 65 by decide), pI_ne ρ2 15 0 (show (70 : Nat) ≠ 65 by decide), pI_ne ρ2 15 0 (show (71 : Nat) ≠ 65 by decide), pI_ne ρ2 15 0 (show (72 : Nat) ≠ 65 by decide), pI_ne ρ2 15 0 (show (73 : Nat) ≠ 65 by decide), pI_ne ρ2 15 0 (show (74 : Nat) ≠ 65 by decide), pI_ne ρ2 15 0 (show (75 : Nat) ≠ 65 by decide)]
        refine WR.cong (σ := S) (fun c h1 h2 => l c (by omega) (by omega) (by omega)) (by rw [lJ]) ?_
        refine WR.cp cpS ?_
        exact WR.cong (σ := τ') (fun c h1 h2 => pI_ne _ _ _ (by omega)) (Eq.refl _) wt2
      · exact him.cong (by rw [l' 0 (by omega) (by omega) (by omega) (by omega) (by omega) (by omega)]) (l65 22 (by omega) (by omega)) (fun c h1 h2 => l' c (by omega) (by omega) (by omega) (by omega) (by omega) (by omega)) (by rw [lJ]; exact jS 11 (by omega) (by omega)) (l' 78 (by omega) (by omega) (by omega) (by omega) (by omega) (by omega))
      · intro s hs
        obtain ⟨b1, b2, b3, b4, b5⟩ := hsh s hs
        have h5 : (σ.1 65 5).toNatClampNeg ≤ ((ns_pI ρ2 65 15 0).1 65 5).toNatClampNeg := by
          rw [pI_st _ _ _ (by decide)]
          have := rw2.2.2.2
          rw [k65 5 (by decide)] at this
          exact this
        rw [l' (49 + 2 * s) (by omega) (by omega) (by omega) (by omega) (by omega) (by omega), l' 66 (by omega) (by omega) (by omega) (by omega) (by omega) (by omega), l' 67 (by omega) (by omega) (by omega) (by omega) (by omega) (by omega), lJ, jS (50 + 2 * s) (by omega) (by omega), jS 68 (by omega) (by omega)]
        exact ⟨b1, b2, b3, b4.imp id (fun q => q.imp id (fun ⟨j, q1, q2⟩ => ⟨j, q1, by omega⟩)), b5⟩
      · refine ⟨0, by omega, ?_, pI_at _ _ _ _, fun i hi => absurd hi (by omega)⟩
        rw [l 29 (by omega) (by omega) (by omega), cpS.2.1 29 (by omega), pI_at]; rfl
      · exact hrs.cong (l' 48 (by omega) (by omega) (by omega) (by omega) (by omega) (by omega)) (l' 77 (by omega) (by omega) (by omega) (by omega) (by omega) (by omega))
    · exfalso
      rw [xe] at xe2
      have i2 : τ' = τ2 := congrArg Prod.snd (Option.some.inj xe2)
      rw [← i2, v2] at u2
      exact nI_nm1 (show w2 < 2 ^ 31 by omega) u2.symm
  · -- the fault
    have vX : (ns_pI τ' 29 1 0).1 29 2 = nI w := by rw [pI_st _ _ _ (by decide)]; exact v2
    have eF : g_N_refuse (ns_pI τ' 29 1 0) 0 (-2 : Int32) = some (-2, rfN (ns_pI τ' 29 1 0) 0) := e_refuse (σ := ns_pI τ' 29 1 0) (g1 := g1) (g2 := g2) (by rw [pI_R]; exact hR') 0 (-2) (by decide) (by decide)
    generalize hSd : rfN (ns_pI τ' 29 1 0) 0 = S at eF
    have kS0 : ∀ c, c ≠ 48 → S.1 c = (ns_pI τ' 29 1 0).1 c := fun c h1 => by rw [← hSd, rfN, pI_ne _ _ _ h1]
    have kS' : ∀ c, ¬ (19 ≤ c ∧ c ≤ 27) → c ≠ 29 → c ≠ 48 → S.1 c = σ.1 c := fun c h2 h3 h4 => by rw [kS0 c h4, pI_ne _ _ _ h3]; exact k2 c h2 h3
    have jS0 : S.2 = τ'.2 := by rw [← hSd]; rfl
    have jS : ∀ c, c ≠ 20 → S.2.1 c = σ.2.1 c := fun c h2 => by rw [jS0]; exact j2 c h2
    have hRS : S.2.2 = ns_rg g1 g2 := by rw [jS0]; exact hR'
    obtain ⟨κ, eK, kp, p97, p98, p99, p100, p101⟩ := begin' S hRS (fun c _ _ => kS' c (by omega) (by omega) (by omega)) (kS' 65 (by omega) (by omega) (by omega))
    obtain ⟨on, kpp, kpm⟩ := kp
    have kk : ∀ c, c ≠ 65 → c ≠ 79 → (ns_pI κ 65 17 (nI 0)).1 c = S.1 c := fun c h1 h2 => by rw [pI_ne _ _ _ h1]; exact on.2 c h2
    have k65 : ∀ k, k ≠ 17 → (ns_pI κ 65 17 (nI 0)).1 65 k = σ.1 65 k := fun k hk => by rw [pI_st _ _ _ hk, on.2 65 (by decide), kS' 65 (by omega) (by omega) (by omega)]
    obtain ⟨τ2, ρ2, tw2, rw2, cs2⟩ := run (ns_pI κ 65 17 (nI 0)) (by show κ.2.2 = _; rw [on.1]; exact hRS) (fun c h1 h2 => by rw [kk c (by omega) (by omega)]; exact kS' c (by omega) (by omega) (by omega)) k65 (pI_at _ _ _ _)
    rcases cs2 with ⟨n2, xe2, u2, _, _⟩ | ⟨n2, w2, xe2, hw2, u2, m18, ye2⟩
    · exfalso
      rw [xe] at xe2
      have i2 : τ' = τ2 := congrArg Prod.snd (Option.some.inj xe2)
      rw [← i2, v2] at u2
      exact nI_nm1 (show w < 2 ^ 31 by omega) u2
    · rw [xe] at xe2
      have i2 : τ' = τ2 := congrArg Prod.snd (Option.some.inj xe2)
      rw [← i2, v2] at u2
      rw [← u2] at m18
      have hR2 : ρ2.2.2 = ns_rg g1 g2 := by rw [rw2.1]; show κ.2.2 = _; rw [on.1]; exact hRS
      have r79 : ρ2.1 79 = κ.1 79 := by rw [rw2.2.1 79 (by omega) (by omega), pI_ne _ _ _ (by decide)]
      obtain ⟨α, eA, ag⟩ := e_again hR2 (a := 79) (Or.inr rfl)
      obtain ⟨b1, b2, b3, b97, b98, b99, b100, b101, bp, bm⟩ := ag
      rw [r79] at b97 b98 b99 b100 b101 bp bm
      have hRα : α.2.2 = ns_rg g1 g2 := by rw [b1]; exact hR2
      have eNo : g_M_no (ns_pI α 65 15 0) 65 (-2 : Int32) = some (-2, rfM (ns_pI α 65 15 0) 0) := e_no (σ := ns_pI α 65 15 0) (g1 := g1) (g2 := g2) (by rw [pI_R]; exact hRα) 0 (-2) (by decide) (by decide)
      have o0 : ∀ c, c ≠ 77 → (rfM (ns_pI α 65 15 0) 0).1 c = (ns_pI α 65 15 0).1 c := fun c hc => by rw [rfM, pI_ne _ _ _ hc]
      have l : ∀ c, ¬ (69 ≤ c ∧ c ≤ 75) → c ≠ 65 → c ≠ 77 → c ≠ 79 → (rfM (ns_pI α 65 15 0) 0).1 c = S.1 c := fun c h1 h2 h3 h4 => by rw [o0 c h3, pI_ne _ _ _ h2, b2 c h1 h2, rw2.2.1 c h1 h2]; exact kk c h2 h4
      have l' : ∀ c, ¬ (19 ≤ c ∧ c ≤ 27) → c ≠ 29 → c ≠ 48 → ¬ (69 ≤ c ∧ c ≤ 75) → c ≠ 65 → c ≠ 77 → c ≠ 79 → (rfM (ns_pI α 65 15 0) 0).1 c = σ.1 c := fun c h1 h2 h3 h4 h5 h6 h7 => by rw [l c h4 h5 h6 h7]; exact kS' c h1 h2 h3
      have lJ : (rfM (ns_pI α 65 15 0) 0).2 = S.2 := by show α.2 = _; rw [b1, rw2.1]; exact on.1
      have l65 : ∀ k, k ≠ 15 → (rfM (ns_pI α 65 15 0) 0).1 65 k = α.1 65 k := fun k hk => by rw [o0 65 (by decide), pI_st _ _ _ hk]
      have lm : ∀ c, 69 ≤ c → c ≤ 75 → (rfM (ns_pI α 65 15 0) 0).1 c = α.1 c := fun c h1 h2 => by rw [o0 c (by omega), pI_ne _ _ _ (by omega)]
      have l5 : (rfM (ns_pI α 65 15 0) 0).1 65 5 = σ.1 65 5 := by rw [l65 5 (by decide), b98, p98]
      refine ⟨(-20 : Int32) - nI w, S, rfM (ns_pI α 65 15 0) 0, ?_, ?_, ⟨g1, g2, by rw [lJ]; exact hRS⟩, ?_, ?_, ?_, ?_, ?_⟩
      · rw [hNp _ τ' tw xe, vX, ite2_n (nI_nm1 (by omega)), eF, ev_cl2, hRS, rg_0_4, ev_drf, gk_29, kS0 29 (by decide), vX]
      · show g_M_pass S 65 = _
        rw [eK, ye2, hR2, rg_65_24, ev_drf, gk_79, eA, ev_cl2, ev_bnd, eNo, ev_cl2, l65 18 (by decide), b3 18 (by decide) (by decide) (by decide) (by decide) (by decide), m18]
      · unfold Wnow
        rw [l65 3 (by decide), l5, l65 12 (by decide), l65 13 (by decide), l65 14 (by decide), lm 69 (by omega) (by omega), lm 70 (by omega) (by omega), lm 71 (by omega) (by omega), lm 72 (by omega) (by omega), lm 73 (by omega) (by omega), lm 74 (by omega) (by omega), lm 75 (by omega) (by omega), b97, b99, b100, b101, p97, p99, p100, p101]
        have s69 : ∀ c, 69 ≤ c → c ≤ 75 → S.1 c = σ.1 c := fun c h1 h2 => kS' c (by omega) (by omega) (by omega)
        refine WR.ar (th := σ.1 69) (k := σ.1 70) (nu := σ.1 71) (pl := σ.1 72) (ct := σ.1 73) (re := σ.1 74) (ow := σ.1 75) (fun p hp => by rw [bp p hp, kpp p hp, s69 69 (by omega) (by omega)]) (fun j hj => ?_) (WR.cong (σ := σ) (fun c h1 h2 => l' c (by omega) (by omega) (by omega) (by omega) (by omega) (by omega) (by omega)) (by rw [lJ]; exact jS 2 (by omega)) hw)
        obtain ⟨c1, c2, c3, c4, c5, c6⟩ := bm j hj
        obtain ⟨e1, e2, e3, e4, e5, e6⟩ := kpm j hj
        rw [c1, c2, c3, c4, c5, c6, e1, e2, e3, e4, e5, e6, s69 70 (by omega) (by omega), s69 71 (by omega) (by omega), s69 72 (by omega) (by omega), s69 73 (by omega) (by omega), s69 74 (by omega) (by omega), s69 75 (by omega) (by omega)]
        exact ⟨rfl, rfl, rfl, rfl, rfl, rfl⟩
      · exact him.cong (by rw [l' 0 (by omega) (by omega) (by omega) (by omega) (by omega) (by omega) (by omega)]) (by rw [l65 22 (by decide), b3 22 (by decide) (by decide) (by decide) (by decide) (by decide), rw2.2.2.1 22 (by omega)]; exact k65 22 (by decide)) (fun c h1 h2 => l' c (by omega) (by omega) (by omega) (by omega) (by omega) (by omega) (by omega)) (by rw [lJ]; exact jS 11 (by omega)) (l' 78 (by omega) (by omega) (by omega) (by omega) (by omega) (by omega) (by omega))
      · exact hsh.cong (fun c h1 h2 => l' c (by omega) (by omega) (by omega) (by omega) (by omega) (by omega) (by omega)) (fun c h1 h2 => by rw [lJ]; exact jS c (by omega)) (l' 66 (by omega) (by omega) (by omega) (by omega) (by omega) (by omega) (by omega)) (l' 67 (by omega) (by omega) (by omega) (by omega) (by omega) (by omega) (by omega)) (by rw [lJ]; exact jS 68 (by omega)) l5
      · refine ⟨0, by omega, ?_, by rw [o0 65 (by decide), pI_at]; rfl, fun i hi => absurd hi (by omega)⟩
        rw [l 29 (by omega) (by omega) (by omega) (by omega), kS0 29 (by decide), pI_at]; rfl
      · intro k hk
        have hb := hrs k hk
        have s48 : (rfM (ns_pI α 65 15 0) 0).1 48 k = S.1 48 k := by rw [l 48 (by omega) (by omega) (by omega) (by omega)]
        have a77 : (ns_pI α 65 15 0).1 77 = σ.1 77 := by rw [pI_ne _ _ _ (by decide), b2 77 (by omega) (by omega), rw2.2.1 77 (by omega) (by omega), kk 77 (by omega) (by omega)]; exact kS' 77 (by omega) (by omega) (by omega)
        have t48 : (ns_pI τ' 29 1 0).1 48 = σ.1 48 := by rw [pI_ne _ _ _ (by decide)]; exact k2 48 (by omega) (by omega)
        rw [s48, ← hSd]
        by_cases e : k = 0
        · subst e
          rw [rfN, pI_at, t48, rfM, pI_at, a77, hb]
        · rw [rfN, pI_st _ _ _ e, t48, rfM, pI_st _ _ _ (by omega), a77]
          exact hb
