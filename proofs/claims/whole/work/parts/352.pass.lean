/-! PASS: both -/
theorem wd_len {t : Nat → Nat} {f s b w : Nat} (h : wd t f s b w = true) : b - f = wL w := by
  unfold wd at h
  rw [Bool.and_eq_true, Bool.and_eq_true] at h
  exact of_decide_eq_true h.2.1
theorem wd_no {t : Nat → Nat} {f s b : Nat} (h : wd t f s b 0 = true) {w : Nat} (hw : 1 ≤ w ∧ w ≤ 5) : wd t f s b w = false := by
  cases q : wd t f s b w with
  | false => rfl
  | true =>
    have e := (wd_len h).symm.trans (wd_len q)
    rcases (by omega : w = 1 ∨ w = 2 ∨ w = 3 ∨ w = 4 ∨ w = 5) with rfl | rfl | rfl | rfl | rfl <;> exact absurd e (by decide)
theorem e_stmt {g1 g2 : Option Nat} {t : Nat → Nat} {z B f : Nat} {τ ρ : ns_St} (hS : Sim g1 g2 t z B τ ρ f) (hB : 64 ≤ B) : Out g1 g2 t z B τ ρ f (g_Tape_readStatement τ 29 19) (g_M_statement ρ 65) := by
  have hS' := hS
  obtain ⟨hT, hR, cT, cR, hW, h2, hf⟩ := hS
  have z250 := hT.2.1
  have kb := kB_b (t := t) hf
  have ks := kS_b (t := t) (z := z) (f := f)
  have hWT := hW
  obtain ⟨E, H, a1, a2, a3, hG, a5, a6, a7, a8, a9, a10⟩ := hW
  have wC' : ∀ w, w < 8 → g_Tape_isWord τ 29 w = some (yn (wd t f (kS t z f) (kB t z f) w = true), τ) := fun w hw => e_isWordC hT hw cT kb.1 kb.2.1 ks
  have wM' : ∀ w, w < 8 → g_M_isWord ρ 65 w = some (yn (wd t f (kS t z f) (kB t z f) w = true), ρ) := fun w hw => e_isWordM hR hw cR kb.1 kb.2.1 ks
  -- nothing known
  have bad107 : wd t f (kS t z f) (kB t z f) 5 = false → g_M_statement_107 ρ 0 65 = some (0, ρ) := fun h5 => by
    unfold g_M_statement_107
    rw [ite2_p (by decide), a2]
    by_cases h6 : H = 6
    · subst h6; rw [ite2_p (by decide)]
    · rw [ite2_n (show ¬ nI H = (6 : Int32) from fun q => h6 ((nI_eq (b := 6) (by omega) (by decide)).mp q)), wM' 5 (by decide), ev_cl2, h5, ite2_z (by decide)]
  have bad : ∀ x y, x = some ((), ns_pI τ 29 2 (nI f)) → y = some (0, ρ) → Out g1 g2 t z B τ ρ f x y := fun x y hx hy => ⟨_, ρ, TW.f2, RW.rfl ρ, hx, Or.inr ⟨hy, f, by omega, pI_at _ _ _ _, cR.1⟩⟩
  unfold g_Tape_readStatement g_M_statement
  rw [gk_29, gk_19, gk_65, wC' 0 (by decide), ev_cl2, a2]
  cases h0 : wd t f (kS t z f) (kB t z f) 0 with
  | true =>
    rw [ite2_y (Eq.refl true)]
    by_cases hH : H = 0
    · subst hH
      have ol := e_rlen hS' (by rw [a2]; rfl)
      rw [ite2_p (by decide), wM' 0 (by decide), ev_cl2, h0, ite2_y (Eq.refl true)]
      obtain ⟨τ', ρ', b1, b2, b3, b4⟩ := ol
      exact Out.from ⟨τ', ρ', b1, b2, by rw [b3, ev_cl2], b4⟩ (TW.rfl _) (RW.rfl _) kb.1
    · rw [ite2_n (nI_ne0 (by omega) (by omega))]
      refine bad _ _ ?_ ?_
      · unfold g_Tape_readLength
        rw [gk_29, gk_19, a5, ite2_n (nI_nle (by omega) (by omega)), cT.1, ev_bnd, ev_cl2]
      · unfold g_M_statement_53
        rw [wM' 1 (by decide), ev_cl2, wd_no h0 (by omega), ite2_z (by decide), wM' 2 (by decide), ev_cl2, wd_no h0 (by omega), ite2_z (by decide), wM' 3 (by decide), ev_cl2, wd_no h0 (by omega), ite2_z (by decide), wM' 4 (by decide), ev_cl2, wd_no h0 (by omega), ite2_z (by decide)]
        exact bad107 (wd_no h0 (by omega))
  | false =>
    have e53 : ite2 (nI H = 0) (cl2 (g_M_isWord ρ 65 0) fun r151 σ150 => ite2 (r151 = 0) (g_M_statement_53 σ150 65) (cl2 (g_M_number σ150 65 (1 : Int32) (60 : Int32)) fun r154 σ153 => ite2 (r154 = 0) (some ((0 : Int32), σ153)) (cl2 (g_M_highest σ153 65) fun r157 σ156 => ite2 (r157 ≤ (σ156.1 65 20)) (cl2 (g_M_longer σ156 65 (σ156.1 65 20)) fun r160 σ159 => cl2 (g_M_next σ159 65) fun r162 σ161 => some ((1 : Int32), σ161)) (some ((0 : Int32), σ156))))) (g_M_statement_53 ρ 65) = g_M_statement_53 ρ 65 := by
      by_cases q : nI H = 0
      · rw [ite2_p q, wM' 0 (by decide), ev_cl2, h0, ite2_z (by decide)]
      · rw [ite2_n q]
    rw [ite2_z (by decide), e53]
    have mark : ∀ (w : Nat) (y : Option (Int32 × ns_St)), w < 4 → y = g_M_statement_107 ρ (nI (2 ^ w)) 65 → Out g1 g2 t z B τ ρ f (drf (τ.2.2 19 0) fun b57 => grd (ns_kd b57 = 1) <| cl2 (g_Tape_readMark τ 29 b57 (nI w)) fun r59 σ58 => some ((), σ58)) y := fun w y hw hy => by
      obtain ⟨τ', ρ', b1, b2, b3, b4⟩ := e_rmark hS' hw
      rw [← hy] at b4
      refine Out.from (b := kB t z f) ⟨τ', ρ', b1, b2, ?_, b4⟩ (TW.rfl _) (RW.rfl _) kb.1
      rw [hT.1, rg_19_0, ev_drf, grd_t kd_20, b3, ev_cl2]
    unfold g_M_statement_53
    rw [wC' 1 (by decide), ev_cl2, wM' 1 (by decide), ev_cl2]
    cases h1 : wd t f (kS t z f) (kB t z f) 1 with
    | true => rw [ite2_y (Eq.refl true), ite2_y (Eq.refl true)]; exact mark 0 _ (by omega) rfl
    | false =>
      rw [ite2_z (by decide), ite2_z (by decide), wC' 2 (by decide), ev_cl2, wM' 2 (by decide), ev_cl2]
      cases h2 : wd t f (kS t z f) (kB t z f) 2 with
      | true => rw [ite2_y (Eq.refl true), ite2_y (Eq.refl true)]; exact mark 1 _ (by omega) rfl
      | false =>
        rw [ite2_z (by decide), ite2_z (by decide), wC' 3 (by decide), ev_cl2, wM' 3 (by decide), ev_cl2]
        cases h3 : wd t f (kS t z f) (kB t z f) 3 with
        | true => rw [ite2_y (Eq.refl true), ite2_y (Eq.refl true)]; exact mark 2 _ (by omega) rfl
        | false =>
          rw [ite2_z (by decide), ite2_z (by decide), wC' 4 (by decide), ev_cl2, wM' 4 (by decide), ev_cl2]
          cases h4 : wd t f (kS t z f) (kB t z f) 4 with
          | true => rw [ite2_y (Eq.refl true), ite2_y (Eq.refl true)]; exact mark 3 _ (by omega) rfl
          | false =>
            rw [ite2_z (by decide), ite2_z (by decide), wC' 5 (by decide), ev_cl2]
            cases h5 : wd t f (kS t z f) (kB t z f) 5 with
            | true =>
              rw [ite2_y (Eq.refl true)]
              obtain ⟨τ', ρ', b1, b2, b3, b4⟩ := e_rmule hS' hB h5
              exact ⟨τ', ρ', b1, b2, by rw [b3, ev_cl2], b4⟩
            | false =>
              rw [ite2_z (by decide)]
              exact bad _ _ (by rw [cT.1, ev_bnd]) (bad107 h5)
/-- what the readers do with all of a TAPE -/
def Fin (g1 g2 : Option Nat) (t : Nat → Nat) (z B : Nat) (τ ρ : ns_St) (x y : Option (Int32 × ns_St)) : Prop := ∃ τ' ρ', TW τ τ' ∧ RW ρ ρ' ∧ ((∃ n : Nat, x = some (nI n, τ') ∧ τ'.1 29 2 = -1 ∧ y = some (nI n, ns_pI ρ' 65 15 0) ∧ WT τ' ρ' B) ∨ ∃ (n : Int32) (w : Nat), x = some (n, τ') ∧ w ≤ 250 ∧ τ'.1 29 2 = nI w ∧ ρ'.1 65 18 = nI w ∧ y = (drf (ρ'.2.2 65 24) fun b29 => grd (ns_kd b29 = 10) <| cl2 (g_M_again ρ' 65 b29) fun r31 σ30 => bnd (ns_pI σ30 65 15 (0 : Int32)) fun σ32 => cl2 (g_M_no σ32 65 (-2 : Int32)) fun r34 σ33 => some (((-20 : Int32) - (σ33.1 65 18)), σ33)))
theorem Fin.from {g1 g2 : Option Nat} {t : Nat → Nat} {z B : Nat} {τ ρ τ0 ρ0 : ns_St} {x y : Option (Int32 × ns_St)} (h : Fin g1 g2 t z B τ ρ x y) (s : TW τ0 τ) (q : RW ρ0 ρ) : Fin g1 g2 t z B τ0 ρ0 x y := by
  obtain ⟨τ', ρ', a1, a2, a3⟩ := h
  exact ⟨τ', ρ', s.trans a1, q.trans a2, a3⟩
theorem e_all {g1 g2 : Option Nat} {t : Nat → Nat} {z B : Nat} (hB : 64 ≤ B) : ∀ (r b x u v : Nat) (τ ρ : ns_St), r + 1 < u → r + 1 < v → b + r = z → x ≤ b → tpC g1 g2 t z τ → tpR g1 g2 t z ρ → τ.1 29 5 = nI b → ρ.1 65 17 = nI b → WT τ ρ B → τ.1 29 2 = -1 → Fin g1 g2 t z B τ ρ (g_Tape_readInto_12 u τ 29 19 (nI x)) (g_M_pass_17 v ρ 65 (nI x) 1) := by
  intro r
  induction r using Nat.strongRecOn with
  | _ r ih =>
    intro b x u v τ ρ hu hv hb hx hT hR h5 h17 hW h2
    obtain ⟨u, rfl⟩ : ∃ q, u = q + 1 := ⟨u - 1, by omega⟩
    obtain ⟨v, rfl⟩ : ∃ q, v = q + 1 := ⟨v - 1, by omega⟩
    have z250 := hT.2.1
    have fb := kF_b (t := t) (show b ≤ z by omega)
    obtain ⟨τ1, e1, s1, c1⟩ := e_nextToken hT (by omega) h5
    obtain ⟨ρ1, r1, q1, d1⟩ := e_next hR (by omega) h17
    have hS : Sim g1 g2 t z B τ1 ρ1 (kF t z b) := ⟨hT.t3 s1, hR.r3 q1, c1, d1, hW.tr s1 q1, by rw [s1.2.2 2 (by omega)]; exact h2, fb.2⟩
    obtain ⟨τ2, ρ2, w1, w2, e2, o2⟩ := e_stmt hS hB
    have fT := (TW.t3 s1).trans w1
    have fR := (RW.r3 q1).trans w2
    rw [g_Tape_readInto_12, e1, ev_cl2, e2, ev_cl2, ev_bnd, ← nI_succ, g_M_pass_17, ite2_n (show ¬ (1 : Int32) = 0 by decide), r1, ev_cl2]
    -- where nothing follows a fault
    have stop : ∀ (y : Int32) (v' : Nat) (σ : ns_St), 0 < v' → g_M_pass_17 v' σ 65 y 0 = (drf (σ.2.2 65 24) fun b29 => grd (ns_kd b29 = 10) <| cl2 (g_M_again σ 65 b29) fun r31 σ30 => bnd (ns_pI σ30 65 15 (0 : Int32)) fun σ32 => cl2 (g_M_no σ32 65 (-2 : Int32)) fun r34 σ33 => some (((-20 : Int32) - (σ33.1 65 18)), σ33)) := fun y v' σ hv' => by
      obtain ⟨v', rfl⟩ : ∃ q, v' = q + 1 := ⟨v' - 1, by omega⟩
      rw [g_M_pass_17, ite2_p (Eq.refl _)]
    rcases o2 with ⟨y1, f', hf', hS2⟩ | ⟨y0, w, hw, m1, m2⟩
    · obtain ⟨hT2, hR2, cT, cR, hW2, h22, hz⟩ := hS2
      have ks := kS_b (t := t) (z := z) (f := f')
      have rs1 := rs_1 ks
      rw [y1, ev_cl2, ite2_n (show ¬ (1 : Int32) = 0 by decide), ev_bnd, ev_bnd, ← nI_succ, h22, ite2_p (Eq.refl (-1 : Int32)), cT.2.1]
      unfold g_M_pass_37
      rw [ite2_n (show ¬ (1 : Int32) = 0 by decide), cR.2.1]
      by_cases c0 : kS t z f' = 0
      · refine ⟨τ2, ρ2, fT, fR, Or.inl ⟨x + 1, ?_, h22, ?_, hW2⟩⟩
        · unfold g_Tape_readInto_55
          rw [c0, ite2_p (show nI 0 = 0 from rfl), h22, ite2_p (Eq.refl (-1 : Int32)), cT.2.1, c0, ite2_n (show ¬ nI 0 = (3 : Int32) by decide)]
        · rw [ite2_p (rs1.2.2.1.mpr c0), ev_bnd]
      · rw [ite2_n (nI_ne0 (by omega) (by omega)), ite2_n (fun q => c0 (rs1.2.2.1.mp q))]
        unfold g_M_pass_55
        rw [ite2_n (show ¬ (1 : Int32) = 0 by decide), cR.2.1]
        by_cases c3 : kS t z f' = 3
        · have kb' : kB t z f' = f' + 1 := by unfold kB; rw [c3]; rfl
          have kbz := (kB_b (t := t) hz).2.1
          rw [ite2_p (show nI (kS t z f') = (3 : Int32) by rw [c3]; rfl), ite2_p (rs1.2.2.2.mpr c3)]
          unfold g_Tape_readInto_55
          rw [h22, ite2_p (Eq.refl _), cT.2.1, ite2_p (show nI (kS t z f') = (3 : Int32) by rw [c3]; rfl), ite2_p (show nI (x + 1) ≤ (250 : Int32) from nI_le (b := 250) (by omega) (by decide))]
          exact (ih (z - kB t z f') (by omega) (kB t z f') (x + 1) u v τ2 ρ2 (by omega) (by omega) (by omega) (by omega) hT2 hR2 cT.2.2 cR.2.2.1 hW2 h22).from fT fR
        · refine ⟨ns_pI τ2 29 2 (nI f'), ρ2, fT.trans TW.f2, fR, Or.inr ⟨nI (x + 1), f', ?_, by omega, pI_at _ _ _ _, cR.1, ?_⟩⟩
          · rw [ite2_n (show ¬ nI (kS t z f') = (3 : Int32) from fun q => c3 ((nI_eq (b := 3) (by omega) (by decide)).mp q)), cT.1]
            unfold g_Tape_readInto_55
            rw [pI_at, ite2_n (nI_nm1 (by omega))]
          · rw [ite2_n (fun q => c3 (rs1.2.2.2.mp q))]
            exact stop _ _ _ (by omega)
    · refine ⟨τ2, ρ2, fT, fR, Or.inr ⟨nI (x + 1), w, ?_, hw, m1, m2, ?_⟩⟩
      · rw [m1, ite2_n (nI_nm1 (by omega))]
        unfold g_Tape_readInto_55
        rw [m1, ite2_n (nI_nm1 (by omega))]
      · rw [y0, ev_cl2, ite2_p (Eq.refl _)]
        unfold g_M_pass_37 g_M_pass_55
        rw [ite2_p (Eq.refl _), ite2_p (Eq.refl _)]
        exact stop _ _ _ (by omega)
