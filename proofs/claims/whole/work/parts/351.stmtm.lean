/-! PASS: a MULE's statement -/
theorem WT.pl {τ ρ : ns_St} {B E H j A : Nat} (h : WT τ ρ B) (h3 : ρ.1 65 3 = nI E) (hE : E ≤ 60) (hj : j < 6) (hA : A ≤ E) : WT (ns_pI τ (22 + j) 2 (nI A)) (ns_pI ρ 72 j (nI A)) B := by
  obtain ⟨E', H, a1, a2, a3, hG, a5, a6, a7, a8, a9, a10⟩ := h
  have h60 := hG.2.2.1
  have eE : E' = E := by rw [h3] at a1; exact ((nI_eq (by omega) (by omega)).mp a1).symm
  subst eE
  unfold WT
  rw [pI_ne ρ j (nI A) (show (65 : Nat) ≠ 72 by decide), pI_ne ρ j (nI A) (show (69 : Nat) ≠ 72 by decide), pI_ne ρ j (nI A) (show (70 : Nat) ≠ 72 by decide), pI_ne ρ j (nI A) (show (71 : Nat) ≠ 72 by decide), pI_ne ρ j (nI A) (show (73 : Nat) ≠ 72 by decide), pI_ne ρ j (nI A) (show (74 : Nat) ≠ 72 by decide), pI_ne ρ j (nI A) (show (75 : Nat) ≠ 72 by decide)]
  refine ⟨E', H, a1, a2, a3, hG.cong (pI_ne _ _ _ (by omega)) rfl, by rw [pI_ne _ _ _ (by omega)]; exact a5, by rw [pI_ne _ _ _ (by omega)]; exact a6, a7, by rw [pI_ne _ _ _ (by omega)]; exact a8, by rw [pI_ne _ _ _ (by omega)]; exact a9, fun i hi => ?_⟩
  obtain ⟨K, N, A', C, O, b1, b2, b3, b4, b5, b6, b7⟩ := a10 i hi
  by_cases e : i = j
  · subst e
    obtain ⟨m0, m1, m2, m3, m4, m5, m6, m7⟩ := b2
    refine ⟨K, N, A, C, O, ⟨b1.1, b1.2.1, b1.2.2.1, hA, b1.2.2.2.2⟩, ?_, b3, b4, pI_at _ _ _ _, b6, b7⟩
    refine ⟨?_, ?_, ?_, ?_, ?_, ?_, ?_, ?_⟩
    · rw [show 19 + 3 + i = 22 + i by omega, pI_st _ _ _ (by decide)]; exact m0
    · rw [show 19 + 3 + i = 22 + i by omega, pI_st _ _ _ (by decide)]; exact m1
    · rw [show 19 + 3 + i = 22 + i by omega, pI_at]
    · rw [show 19 + 3 + i = 22 + i by omega, pI_st _ _ _ (by decide)]; exact m3
    · rw [show 19 + 3 + i = 22 + i by omega, pI_st _ _ _ (by decide)]; exact m4
    · rw [show 19 + 3 + i = 22 + i by omega, pI_st _ _ _ (by decide)]; exact m5
    · rw [show 19 + 3 + i = 22 + i by omega, pI_st _ _ _ (by decide)]; exact m6
    · rw [show 19 + 3 + i = 22 + i by omega, pI_st _ _ _ (by decide)]; exact m7
  · exact ⟨K, N, A', C, O, b1, b2.cong (pI_ne _ _ _ (by omega)), b3, b4, by rw [pI_st _ _ _ e]; exact b5, b6, b7⟩
theorem WT.ct {τ ρ : ns_St} {B j N C : Nat} (h : WT τ ρ B) (hj : j < 6) (hN : ρ.1 71 j = nI N) (hN2 : N ≤ 64) (hC : C < N) (hB : C ≤ B) : WT (ns_pI τ (22 + j) 3 (nI C)) (ns_pI ρ 73 j (nI C)) B := by
  obtain ⟨E', H, a1, a2, a3, hG, a5, a6, a7, a8, a9, a10⟩ := h
  unfold WT
  rw [pI_ne ρ j (nI C) (show (65 : Nat) ≠ 73 by decide), pI_ne ρ j (nI C) (show (69 : Nat) ≠ 73 by decide), pI_ne ρ j (nI C) (show (70 : Nat) ≠ 73 by decide), pI_ne ρ j (nI C) (show (71 : Nat) ≠ 73 by decide), pI_ne ρ j (nI C) (show (72 : Nat) ≠ 73 by decide), pI_ne ρ j (nI C) (show (74 : Nat) ≠ 73 by decide), pI_ne ρ j (nI C) (show (75 : Nat) ≠ 73 by decide)]
  refine ⟨E', H, a1, a2, a3, hG.cong (pI_ne _ _ _ (by omega)) rfl, by rw [pI_ne _ _ _ (by omega)]; exact a5, by rw [pI_ne _ _ _ (by omega)]; exact a6, a7, by rw [pI_ne _ _ _ (by omega)]; exact a8, by rw [pI_ne _ _ _ (by omega)]; exact a9, fun i hi => ?_⟩
  obtain ⟨K, N', A', C', O, b1, b2, b3, b4, b5, b6, b7⟩ := a10 i hi
  by_cases e : i = j
  · subst e
    obtain ⟨m0, m1, m2, m3, m4, m5, m6, m7⟩ := b2
    have hb := b1.2.2.1
    have eN : N' = N := by rw [hN] at b4; exact ((nI_eq (by omega) (by omega)).mp b4).symm
    subst eN
    refine ⟨K, N', A', C, O, ⟨b1.1, b1.2.1, b1.2.2.1, b1.2.2.2.1, hB, b1.2.2.2.2.2.1, fun _ => hC, b1.2.2.2.2.2.2.2⟩, ?_, b3, b4, b5, pI_at _ _ _ _, b7⟩
    refine ⟨?_, ?_, ?_, ?_, ?_, ?_, ?_, ?_⟩
    · rw [show 19 + 3 + i = 22 + i by omega, pI_st _ _ _ (by decide)]; exact m0
    · rw [show 19 + 3 + i = 22 + i by omega, pI_st _ _ _ (by decide)]; exact m1
    · rw [show 19 + 3 + i = 22 + i by omega, pI_st _ _ _ (by decide)]; exact m2
    · rw [show 19 + 3 + i = 22 + i by omega, pI_at]
    · rw [show 19 + 3 + i = 22 + i by omega, pI_st _ _ _ (by decide)]; exact m4
    · rw [show 19 + 3 + i = 22 + i by omega, pI_st _ _ _ (by decide)]; exact m5
    · rw [show 19 + 3 + i = 22 + i by omega, pI_st _ _ _ (by decide)]; exact m6
    · rw [show 19 + 3 + i = 22 + i by omega, pI_st _ _ _ (by decide)]; exact m7
  · exact ⟨K, N', A', C', O, b1, b2.cong (pI_ne _ _ _ (by omega)), b3, b4, b5, by rw [pI_st _ _ _ e]; exact b6, b7⟩
theorem WT.new {τ ρ τ' ρ' : ns_St} {B H K N O : Nat} (hW : WT τ ρ B) (hH : H < 6) (h5 : ρ.1 65 5 = nI H) (hK : K ≤ 5) (hN : 2 ≤ N ∧ N ≤ 13) (hO : O ≤ 9) (t1 : ∀ k, k ≠ 2 → τ'.1 19 k = τ.1 19 k) (t2 : τ'.1 19 2 = nI (H + 1)) (t3 : ∀ c, 20 ≤ c → c < 28 → c ≠ 22 + H → τ'.1 c = τ.1 c) (tJ : τ'.2.1 20 = τ.2.1 20) (mu : MU τ' (22 + H) K N 0 0 O 0) (r1 : ρ'.1 69 = ρ.1 69) (r2 : ∀ k, k ≠ 5 → ρ'.1 65 k = ρ.1 65 k) (r3 : ρ'.1 65 5 = nI (H + 1)) (r4 : ∀ c i, 70 ≤ c → c ≤ 75 → i ≠ H → ρ'.1 c i = ρ.1 c i) (n0 : ρ'.1 70 H = nI K) (n1 : ρ'.1 71 H = nI N) (n2 : ρ'.1 72 H = 0) (n3 : ρ'.1 73 H = 0) (n4 : ρ'.1 74 H = 0) (n5 : ρ'.1 75 H = nI O) : WT τ' ρ' B := by
  obtain ⟨E, H', a1, a2, a3, hG, a5, a6, a7, a8, a9, a10⟩ := hW
  have eH : H' = H := by rw [h5] at a2; exact ((nI_eq (by omega) (by omega)).mp a2).symm
  subst eH
  refine ⟨E, H' + 1, by rw [r2 3 (by decide)]; exact a1, r3, by omega, by rw [r1]; exact hG.cong (t3 20 (by omega) (by omega) (by omega)) tJ, t2, by rw [t1 3 (by decide), r2 12 (by decide)]; exact a6, by rw [r2 12 (by decide)]; exact a7, by rw [t1 4 (by decide), r2 13 (by decide)]; exact a8, by rw [t1 5 (by decide), r2 14 (by decide)]; exact a9, fun i hi => ?_⟩
  by_cases e : i = H'
  · subst e
    exact ⟨K, N, 0, 0, O, ⟨hK, hN.1, by omega, by omega, by omega, hO, fun _ => by omega, fun _ => hN.2⟩, by rw [n4]; exact mu, n0, n1, n2, n3, n5⟩
  · obtain ⟨K', N', A', C', O', b1, b2, b3, b4, b5, b6, b7⟩ := a10 i (by omega)
    exact ⟨K', N', A', C', O', b1, by rw [r4 74 i (by omega) (by omega) e]; exact b2.cong (t3 _ (by omega) (by omega) (by omega)), by rw [r4 70 i (by omega) (by omega) e]; exact b3, by rw [r4 71 i (by omega) (by omega) e]; exact b4, by rw [r4 72 i (by omega) (by omega) e]; exact b5, by rw [r4 73 i (by omega) (by omega) e]; exact b6, by rw [r4 75 i (by omega) (by omega) e]; exact b7⟩
theorem e_93F {τ : ns_St} {c : Nat} {n : Int32} (h : ¬ τ.1 29 2 = -1) : g_Tape_readMule_93 τ 29 c n = some ((), τ) := by
  unfold g_Tape_readMule_93
  rw [ite2_n h]
theorem e_93 {g1 g2 : Option Nat} {t : Nat → Nat} {z B f H N : Nat} {τ ρ : ns_St} (hS : Sim g1 g2 t z B τ ρ f) (hH : H < 6) (hB : 64 ≤ B) (hN : 2 ≤ N ∧ N ≤ 13) (h71 : ρ.1 71 H = nI N) : Out g1 g2 t z B τ ρ f (g_Tape_readMule_93 τ 29 (22 + H) (nI N)) (g_M_statement_274 ρ 65 (nI N) (nI H)) := by
  have hS' := hS
  obtain ⟨hT, hR, cT, cR, hW, h2, hf⟩ := hS
  have z250 := hT.2.1
  have kb := kB_b (t := t) hf
  have fb := kF_b (t := t) kb.2.1
  have kb1 := kB_b (t := t) fb.2
  have ks := kS_b (t := t) (z := z) (f := f)
  have ks1 := kS_b (t := t) (z := z) (f := kF t z (kB t z f))
  unfold g_Tape_readMule_93 g_M_statement_274
  rw [h2, ite2_p (Eq.refl _), e_isWordC hT (by decide) cT kb.1 kb.2.1 ks, ev_cl2, e_isWordM hR (by decide) cR kb.1 kb.2.1 ks, ev_cl2]
  cases hwd : wd t f (kS t z f) (kB t z f) 7 with
  | false =>
    rw [ite2_z (by decide), ite2_z (by decide)]
    exact ⟨τ, ρ, TW.rfl τ, RW.rfl ρ, Eq.refl _, Or.inl ⟨Eq.refl _, f, Nat.le_refl _, hS'⟩⟩
  | true =>
    obtain ⟨τ1, e1, s1, c1⟩ := e_nextToken hT kb.2.1 cT.2.2
    obtain ⟨n, rfl⟩ : ∃ n, N = n + 1 := ⟨N - 1, by omega⟩
    obtain ⟨ρ1, r1, q1, d1⟩ := e_number (lo := 0) (hi := n) hR kb.2.1 cR.2.2.1
    have r1' : g_M_number ρ 65 (0 : Int32) (nI n) = _ := r1
    have F2 : τ1.1 29 2 = -1 := by rw [s1.2.2 2 (by omega)]; exact h2
    rw [ite2_y (Eq.refl true), ite2_y (Eq.refl true), nI_pred, e1, ev_cl2, r1', ev_cl2]
    generalize kF t z (kB t z f) = F at *
    rcases e_take (lo := 0) (hi := n) (hT.t3 s1) c1 kb1.1 kb1.2.1 ks1 F2 (by omega) (by omega) with ⟨ok, τ2, e2, s2, c2⟩ | ⟨no, e2⟩
    · have e2' : g_Tape_takeNumber τ1 29 (0 : Int32) (nI n) = _ := e2
      obtain ⟨C, _, hC, vp⟩ := ok.n (by omega) (by omega)
      rw [vp] at e2'
      have v20 : ρ1.1 65 20 = nI C := by rw [d1.2.2.2 ok.1, vp]
      have hRρ : ρ1.2.2 = ns_rg g1 g2 := by rw [q1.1]; exact hR.1
      have i73 : ns_in (nI H) (ns_ln 73) := ns_inI (show H < 6 by omega) (by decide)
      have s12 := s1.trans s2
      have fT : TW τ (ns_pI τ2 (22 + H) 3 (nI C)) := (TW.t3 s12).trans (TW.w (by omega))
      have fR : RW ρ (ns_pI ρ1 73 H (nI C)) := (RW.r3 q1).trans (RW.w (by decide))
      obtain ⟨ρ2, r2, q2, d2⟩ := e_next (hR.rw fR) kb1.2.1 (by rw [pI_ne _ _ _ (by decide)]; exact d1.2.2.1)
      have fb2 := kF_b (t := t) kb1.2.1
      refine ⟨_, ρ2, fT, fR.trans (RW.r3 q2), ?_, Or.inl ⟨?_, kF t z (kB t z F), by omega, hT.tw fT, hR.rw (fR.trans (RW.r3 q2)), ?_, d2, ?_, ?_, fb2.2⟩⟩
      · rw [e2', ev_cl2, ev_bnd]
      · rw [ite2_y (show _ ∧ _ ∧ _ from ok), hRρ, rg_65_9, ev_drf, gk_73, grd_t i73, ns_ixI (by omega), v20, ev_bnd, r2, ev_cl2]
      · unfold tcC; rw [pI_ne _ _ _ (by omega)]; exact c2
      · exact (WT.ct (hW.tr s12 q1) hH (by rw [q1.2.1 71 (by decide)]; exact h71) (by omega) (by omega) (by omega)).tr (T3.rfl _) q2
      · rw [pI_ne _ _ _ (by omega), s12.2.2 2 (by omega)]; exact h2
    · have e2' : g_Tape_takeNumber τ1 29 (0 : Int32) (nI n) = _ := e2
      refine ⟨_, ρ1, ((TW.t3 s1).trans (TW.f2 (v := nI F))).trans (TW.w (c := 22 + H) (k := 3) (v := nI 0) (by omega)), RW.r3 q1, ?_, Or.inr ⟨?_, F, by omega, ?_, d1.1⟩⟩
      · rw [e2', ev_cl2, ev_bnd]
      · rw [ite2_z (show ¬ (_ ∧ _ ∧ _) from no)]
      · rw [pI_ne _ _ _ (by omega), pI_at]
/-- class and reference where a MULE may be said to stand -/
theorem e_at {g1 g2 : Option Nat} {t : Nat → Nat} {z B f H N : Nat} {τ ρ : ns_St} (hS : Sim g1 g2 t z B τ ρ f) (hH : H < 6) (hB : 64 ≤ B) (hN : 2 ≤ N ∧ N ≤ 13) (h71 : ρ.1 71 H = nI N) : Out g1 g2 t z B τ ρ f (cl2 (g_Tape_isWord τ 29 6) fun r59 σ58 => ite2 (r59 = 0) (g_Tape_readMule_93 σ58 29 (22 + H) (nI N)) (cl2 (g_Tape_nextToken σ58 29) fun r62 σ61 => drf (σ61.2.2 19 0) fun b63 => grd (ns_kd b63 = 1) <| cl2 (g_Tape_takeNumber σ61 29 (0 : Int32) (σ61.1 b63 0)) fun r65 σ64 => bnd (ns_pI σ64 (22 + H) 2 r65) fun σ66 => g_Tape_readMule_93 σ66 29 (22 + H) (nI N))) (cl2 (g_M_isWord ρ 65 6) fun r114 σ113 => ite2 (r114 = 0) (g_M_statement_274 σ113 65 (nI N) (nI H)) (cl2 (g_M_number σ113 65 (0 : Int32) (σ113.1 65 3)) fun r117 σ116 => ite2 (r117 = 0) (some ((0 : Int32), σ116)) (drf (σ116.2.2 65 8) fun b119 => grd (ns_kd b119 = 10) <| grd (ns_in (nI H) (ns_ln b119)) <| bnd (ns_pI σ116 b119 (ns_ix (nI H)) (σ116.1 65 20)) fun σ121 => cl2 (g_M_next σ121 65) fun r123 σ122 => g_M_statement_274 σ122 65 (nI N) (nI H)))) := by
  have hS' := hS
  obtain ⟨hT, hR, cT, cR, hW, h2, hf⟩ := hS
  have z250 := hT.2.1
  have kb := kB_b (t := t) hf
  have fb := kF_b (t := t) kb.2.1
  have kb1 := kB_b (t := t) fb.2
  have ks := kS_b (t := t) (z := z) (f := f)
  have ks1 := kS_b (t := t) (z := z) (f := kF t z (kB t z f))
  rw [e_isWordC hT (by decide) cT kb.1 kb.2.1 ks, ev_cl2, e_isWordM hR (by decide) cR kb.1 kb.2.1 ks, ev_cl2]
  cases hwd : wd t f (kS t z f) (kB t z f) 6 with
  | false =>
    rw [ite2_z (by decide), ite2_z (by decide)]
    exact e_93 hS' hH hB hN h71
  | true =>
    obtain ⟨E, H', a1, a2, a3, hG, a5, a6, a7, a8, a9, a10⟩ := hW
    have hWT : WT τ ρ B := ⟨E, H', a1, a2, a3, hG, a5, a6, a7, a8, a9, a10⟩
    have h60 := hG.2.2.1
    obtain ⟨τ1, e1, s1, c1⟩ := e_nextToken hT kb.2.1 cT.2.2
    obtain ⟨ρ1, r1, q1, d1⟩ := e_number (lo := 0) (hi := E) hR kb.2.1 cR.2.2.1
    have r1' : g_M_number ρ 65 (0 : Int32) (nI E) = _ := r1
    have F2 : τ1.1 29 2 = -1 := by rw [s1.2.2 2 (by omega)]; exact h2
    have hRτ : τ1.2.2 = ns_rg g1 g2 := by rw [s1.1]; exact hT.1
    have t20 : τ1.1 20 0 = nI E := by rw [s1.2.1 20 (by decide)]; exact hG.1
    rw [ite2_y (Eq.refl true), ite2_y (Eq.refl true), e1, ev_cl2, hRτ, rg_19_0, ev_drf, grd_t kd_20, t20, a1, r1', ev_cl2]
    generalize kF t z (kB t z f) = F at *
    rcases e_take (lo := 0) (hi := E) (hT.t3 s1) c1 kb1.1 kb1.2.1 ks1 F2 (by omega) (by omega) with ⟨ok, τ2, e2, s2, c2⟩ | ⟨no, e2⟩
    · have e2' : g_Tape_takeNumber τ1 29 (0 : Int32) (nI E) = _ := e2
      obtain ⟨A, _, hA, vp⟩ := ok.n (by omega) (by omega)
      rw [vp] at e2'
      have v20 : ρ1.1 65 20 = nI A := by rw [d1.2.2.2 ok.1, vp]
      have hRρ : ρ1.2.2 = ns_rg g1 g2 := by rw [q1.1]; exact hR.1
      have i72 : ns_in (nI H) (ns_ln 72) := ns_inI (show H < 6 by omega) (by decide)
      have s12 := s1.trans s2
      have fT : TW τ (ns_pI τ2 (22 + H) 2 (nI A)) := (TW.t3 s12).trans (TW.w (by omega))
      have fR : RW ρ (ns_pI ρ1 72 H (nI A)) := (RW.r3 q1).trans (RW.w (by decide))
      obtain ⟨ρ2, r2, q2, d2⟩ := e_next (hR.rw fR) kb1.2.1 (by rw [pI_ne _ _ _ (by decide)]; exact d1.2.2.1)
      have fb2 := kF_b (t := t) kb1.2.1
      rw [e2', ev_cl2, ev_bnd, ite2_y (show _ ∧ _ ∧ _ from ok), hRρ, rg_65_8, ev_drf, gk_72, grd_t i72, ns_ixI (by omega), v20, ev_bnd, r2, ev_cl2]
      refine (e_93 (f := kF t z (kB t z F)) (τ := ns_pI τ2 (22 + H) 2 (nI A)) (ρ := ρ2) ⟨hT.tw fT, hR.rw (fR.trans (RW.r3 q2)), ?_, d2, ?_, ?_, fb2.2⟩ hH hB hN (by rw [q2.2.1 71 (by decide), pI_ne _ _ _ (by decide), q1.2.1 71 (by decide)]; exact h71)).from fT (fR.trans (RW.r3 q2)) (by omega)
      · unfold tcC; rw [pI_ne _ _ _ (by omega)]; exact c2
      · exact (WT.pl (H := H) (hWT.tr s12 q1) (by rw [q1.2.2 3 (by omega)]; exact a1) h60 hH hA).tr (T3.rfl _) q2
      · rw [pI_ne _ _ _ (by omega), s12.2.2 2 (by omega)]; exact h2
    · have e2' : g_Tape_takeNumber τ1 29 (0 : Int32) (nI E) = _ := e2
      have x2 : (ns_pI (ns_pI τ1 29 2 (nI F)) (22 + H) 2 (nI 0)).1 29 2 = nI F := by rw [pI_ne _ _ _ (by omega), pI_at]
      refine ⟨_, ρ1, ((TW.t3 s1).trans TW.f2).trans (TW.w (c := 22 + H) (k := 2) (v := nI 0) (by omega)), RW.r3 q1, ?_, Or.inr ⟨?_, F, by omega, x2, d1.1⟩⟩
      · rw [e2', ev_cl2, ev_bnd, e_93F (by rw [x2]; exact nI_nm1 (by omega))]
      · rw [ite2_z (show ¬ (_ ∧ _ ∧ _) from no)]
/-- a MULE that is not read to its end -/
theorem e_mbad {X : ns_St → Option (Unit × ns_St)} {τ : ns_St} {H K N O x : Nat} (hH : H < 6) (hK : K ≤ 5) (hx : x ≤ 250) (h2 : τ.1 29 2 = nI x) : ∃ τ', (cl2 (g_Mule_become τ (22 + H) (nI K) (nI N) (nI O)) fun _ σ55 => ite2 ((σ55.1 29 2) = (-1 : Int32)) (X σ55) (g_Tape_readMule_93 σ55 29 (22 + H) (nI N))) = some ((), τ') ∧ TW τ τ' ∧ τ'.1 29 2 = nI x := by
  obtain ⟨τ', e, on, _⟩ := e_become (σ := τ) (c := 22 + H) (N := N) (O := O) (kd_m22 H hH) hK
  have x2 : τ'.1 29 2 = nI x := by rw [on.2 29 (by omega)]; exact h2
  refine ⟨τ', ?_, ⟨by rw [on.1], fun b hb _ => on.2 b (by omega), fun b _ => by rw [on.1], by rw [on.2 29 (by omega)]⟩, x2⟩
  rw [e, ev_cl2, x2, ite2_n (nI_nm1 (by omega)), e_93F (by rw [x2]; exact nI_nm1 (by omega))]
theorem e_rmule {g1 g2 : Option Nat} {t : Nat → Nat} {z B f : Nat} {τ ρ : ns_St} (hS : Sim g1 g2 t z B τ ρ f) (hB : 64 ≤ B) (hwd : wd t f (kS t z f) (kB t z f) 5 = true) : Out g1 g2 t z B τ ρ f (g_Tape_readMule τ 29 19) (g_M_statement_107 ρ 0 65) := by
  obtain ⟨hT, hR, cT, cR, hW, h2, hf⟩ := hS
  have z250 := hT.2.1
  have kb := kB_b (t := t) hf
  have ks := kS_b (t := t) (z := z) (f := f)
  have hWT := hW
  obtain ⟨E, H, a1, a2, a3, hG, a5, a6, a7, a8, a9, a10⟩ := hW
  by_cases h6 : H = 6
  · subst h6
    refine ⟨_, ρ, TW.f2 (v := nI f), RW.rfl ρ, ?_, Or.inr ⟨?_, f, by omega, pI_at _ _ _ _, cR.1⟩⟩
    · unfold g_Tape_readMule
      rw [gk_29, gk_19, e_newMuleF kd_19 a5, ev_cl2, ev_onn, cT.1, ev_bnd]
    · unfold g_M_statement_107
      rw [ite2_p (by decide), a2, ite2_p (by decide)]
  · have hH : H < 6 := by omega
    have n6 : ¬ ρ.1 65 5 = (6 : Int32) := by rw [a2]; exact fun q => h6 ((nI_eq (b := 6) (by omega) (by decide)).mp q)
    have fa : TW τ (ns_pI τ 19 2 (nI (H + 1))) := TW.w (by decide)
    have hTa := hT.tw fa
    obtain ⟨τ1, e1, s1, c1⟩ := e_nextToken hTa kb.2.1 (by rw [pI_ne _ _ _ (by decide)]; exact cT.2.2)
    have hN0 : g_Tape_readMule τ 29 19 = (cl2 (g_Tape_takeNumber τ1 29 (0 : Int32) (5 : Int32)) fun r50 σ49 => cl2 (g_Tape_takeNumber σ49 29 (2 : Int32) (13 : Int32)) fun r52 σ51 => cl2 (g_Tape_takeNumber σ51 29 (0 : Int32) (9 : Int32)) fun r54 σ53 => cl2 (g_Mule_become σ53 (22 + H) r50 r52 r54) fun r56 σ55 => ite2 ((σ55.1 29 2) = (-1 : Int32)) (cl2 (g_Tape_isWord σ55 29 6) fun r59 σ58 => ite2 (r59 = 0) (g_Tape_readMule_93 σ58 29 (22 + H) r52) (cl2 (g_Tape_nextToken σ58 29) fun r62 σ61 => drf (σ61.2.2 19 0) fun b63 => grd (ns_kd b63 = 1) <| cl2 (g_Tape_takeNumber σ61 29 (0 : Int32) (σ61.1 b63 0)) fun r65 σ64 => bnd (ns_pI σ64 (22 + H) 2 r65) fun σ66 => g_Tape_readMule_93 σ66 29 (22 + H) r52)) (g_Tape_readMule_93 σ55 29 (22 + H) r52)) := by
      unfold g_Tape_readMule
      rw [gk_29, gk_19, e_newMule hT.1 (wk19 g1 g2) hH a5, ev_cl2, ev_ons, show 19 + 3 + H = 22 + H by omega, grd_t (kd_m22 H hH), e1, ev_cl2]
    have hM0 : g_M_statement_107 ρ 0 65 = (cl2 (g_M_number ρ 65 (0 : Int32) (5 : Int32)) fun r99 σ98 => ite2 (r99 = 0) (some ((0 : Int32), σ98)) (bnd (σ98.1 65 20) fun z101 => cl2 (g_M_number σ98 65 (2 : Int32) (13 : Int32)) fun r103 σ102 => ite2 (r103 = 0) (some ((0 : Int32), σ102)) (bnd (σ102.1 65 20) fun z105 => cl2 (g_M_number σ102 65 (0 : Int32) (9 : Int32)) fun r107 σ106 => ite2 (r107 = 0) (some ((0 : Int32), σ106)) (cl2 (g_M_newMule σ106 65 z101 z105 (σ106.1 65 20)) fun r110 σ109 => cl2 (g_M_next σ109 65) fun r112 σ111 => cl2 (g_M_isWord σ111 65 6) fun r114 σ113 => ite2 (r114 = 0) (g_M_statement_274 σ113 65 z105 r110) (cl2 (g_M_number σ113 65 (0 : Int32) (σ113.1 65 3)) fun r117 σ116 => ite2 (r117 = 0) (some ((0 : Int32), σ116)) (drf (σ116.2.2 65 8) fun b119 => grd (ns_kd b119 = 10) <| grd (ns_in r110 (ns_ln b119)) <| bnd (ns_pI σ116 b119 (ns_ix r110) (σ116.1 65 20)) fun σ121 => cl2 (g_M_next σ121 65) fun r123 σ122 => g_M_statement_274 σ122 65 z105 r110)))))) := by
      unfold g_M_statement_107
      rw [ite2_p (by decide), ite2_n n6, e_isWordM hR (by decide) cR kb.1 kb.2.1 ks, ev_cl2, hwd, ite2_y (Eq.refl true)]
    rw [hN0, hM0]
    -- first number
    have fb1 := kF_b (t := t) kb.2.1
    obtain ⟨ρ1, r1, q1, d1⟩ := e_number (lo := 0) (hi := 5) hR kb.2.1 cR.2.2.1
    have r1' : g_M_number ρ 65 (0 : Int32) (5 : Int32) = _ := r1
    have ks1 := kS_b (t := t) (z := z) (f := kF t z (kB t z f))
    rw [r1', ev_cl2]
    generalize kF t z (kB t z f) = F1 at *
    have kb1 := kB_b (t := t) fb1.2
    have x1 : τ1.1 29 2 = -1 := by rw [s1.2.2 2 (by omega), pI_ne _ _ _ (by decide)]; exact h2
    have f1 := fa.trans (TW.t3 s1)
    rcases e_take (lo := 0) (hi := 5) (hT.tw f1) c1 kb1.1 kb1.2.1 ks1 x1 (by omega) (by omega) with ⟨ok1, τ2, e2, s2, c2⟩ | ⟨no1, e2⟩
    rotate_left
    · have e2' : g_Tape_takeNumber τ1 29 (0 : Int32) (5 : Int32) = _ := e2
      have y2 : (ns_pI τ1 29 2 (nI F1)).1 29 2 = nI F1 := pI_at _ _ _ _
      have y2n : ¬ (ns_pI τ1 29 2 (nI F1)).1 29 2 = -1 := by rw [y2]; exact nI_nm1 (by omega)
      rw [e2', ev_cl2, e_takeF y2n, ev_cl2, e_takeF y2n, ev_cl2]
      obtain ⟨τ', e', t', v'⟩ := e_mbad (N := 2) (O := 0) (K := 0) hH (by omega) (show F1 ≤ 250 by omega) y2
      exact ⟨τ', ρ1, (f1.trans TW.f2).trans t', RW.r3 q1, e', Or.inr ⟨by rw [ite2_z (show ¬ (_ ∧ _ ∧ _) from no1)], F1, by omega, v', d1.1⟩⟩
    have e2' : g_Tape_takeNumber τ1 29 (0 : Int32) (5 : Int32) = _ := e2
    obtain ⟨K, _, hK, vK⟩ := ok1.n (by omega) (by omega)
    have w1 : ρ1.1 65 20 = nI K := by rw [d1.2.2.2 ok1.1, vK]
    rw [e2', ev_cl2, ite2_y (show _ ∧ _ ∧ _ from ok1), vK, w1, ev_bnd]
    -- second number
    have fb2 := kF_b (t := t) kb1.2.1
    obtain ⟨ρ2, r2, q2, d2⟩ := e_number (lo := 2) (hi := 13) (hR.r3 q1) kb1.2.1 d1.2.2.1
    have r2' : g_M_number ρ1 65 (2 : Int32) (13 : Int32) = _ := r2
    have ks2 := kS_b (t := t) (z := z) (f := kF t z (kB t z F1))
    rw [r2', ev_cl2]
    generalize kF t z (kB t z F1) = F2 at *
    have kb2 := kB_b (t := t) fb2.2
    have x2 : τ2.1 29 2 = -1 := by rw [s2.2.2 2 (by omega)]; exact x1
    have f2 := f1.trans (TW.t3 s2)
    have q12 := q1.trans q2
    rcases e_take (lo := 2) (hi := 13) (hT.tw f2) c2 kb2.1 kb2.2.1 ks2 x2 (by omega) (by omega) with ⟨ok2, τ3, e3, s3, c3⟩ | ⟨no2, e3⟩
    rotate_left
    · have e3' : g_Tape_takeNumber τ2 29 (2 : Int32) (13 : Int32) = _ := e3
      have y2 : (ns_pI τ2 29 2 (nI F2)).1 29 2 = nI F2 := pI_at _ _ _ _
      have y2n : ¬ (ns_pI τ2 29 2 (nI F2)).1 29 2 = -1 := by rw [y2]; exact nI_nm1 (by omega)
      rw [e3', ev_cl2, e_takeF y2n, ev_cl2]
      obtain ⟨τ', e', t', v'⟩ := e_mbad (N := 2) (O := 0) hH hK (show F2 ≤ 250 by omega) y2
      exact ⟨τ', ρ2, (f2.trans TW.f2).trans t', RW.r3 q12, e', Or.inr ⟨by rw [ite2_z (show ¬ (_ ∧ _ ∧ _) from no2)], F2, by omega, v', d2.1⟩⟩
    have e3' : g_Tape_takeNumber τ2 29 (2 : Int32) (13 : Int32) = _ := e3
    obtain ⟨N, hN1, hN, vN⟩ := ok2.n (by omega) (by omega)
    have w2 : ρ2.1 65 20 = nI N := by rw [d2.2.2.2 ok2.1, vN]
    rw [e3', ev_cl2, ite2_y (show _ ∧ _ ∧ _ from ok2), vN, w2, ev_bnd]
    -- third number
    have fb3 := kF_b (t := t) kb2.2.1
    obtain ⟨ρ3, r3, q3, d3⟩ := e_number (lo := 0) (hi := 9) (hR.r3 q12) kb2.2.1 d2.2.2.1
    have r3' : g_M_number ρ2 65 (0 : Int32) (9 : Int32) = _ := r3
    have ks3 := kS_b (t := t) (z := z) (f := kF t z (kB t z F2))
    rw [r3', ev_cl2]
    generalize kF t z (kB t z F2) = F3 at *
    have kb3 := kB_b (t := t) fb3.2
    have x3 : τ3.1 29 2 = -1 := by rw [s3.2.2 2 (by omega)]; exact x2
    have f3 := f2.trans (TW.t3 s3)
    have q13 := q12.trans q3
    rcases e_take (lo := 0) (hi := 9) (hT.tw f3) c3 kb3.1 kb3.2.1 ks3 x3 (by omega) (by omega) with ⟨ok3, τ4, e4, s4, c4⟩ | ⟨no3, e4⟩
    rotate_left
    · have e4' : g_Tape_takeNumber τ3 29 (0 : Int32) (9 : Int32) = _ := e4
      have y2 : (ns_pI τ3 29 2 (nI F3)).1 29 2 = nI F3 := pI_at _ _ _ _
      rw [e4', ev_cl2]
      obtain ⟨τ', e', t', v'⟩ := e_mbad (N := N) (O := 0) hH hK (show F3 ≤ 250 by omega) y2
      exact ⟨τ', ρ3, (f3.trans TW.f2).trans t', RW.r3 q13, e', Or.inr ⟨by rw [ite2_z (show ¬ (_ ∧ _ ∧ _) from no3)], F3, by omega, v', d3.1⟩⟩
    have e4' : g_Tape_takeNumber τ3 29 (0 : Int32) (9 : Int32) = _ := e4
    obtain ⟨O, _, hO, vO⟩ := ok3.n (by omega) (by omega)
    have w3 : ρ3.1 65 20 = nI O := by rw [d3.2.2.2 ok3.1, vO]
    have f4 := f3.trans (TW.t3 s4)
    have hRρ3 : ρ3.2.2 = ns_rg g1 g2 := by rw [q13.1]; exact hR.1
    obtain ⟨τ5, e5, on, mu⟩ := e_become (σ := τ4) (c := 22 + H) (N := N) (O := O) (kd_m22 H hH) hK
    obtain ⟨ρ4, r4, m1, m2, m3, m4, m5, n0, n1, n2, n3, n4, n5⟩ := e_newMuleM (σ := ρ3) hRρ3 hH (by rw [q13.2.2 5 (by omega)]; exact a2) (nI K) (nI N) (nI O)
    have fR4 : RW ρ3 ρ4 := ⟨m1, fun b hb hc => m2 b (by omega) hc, fun k hk => m3 k (by omega), by rw [m4, q13.2.2 5 (by omega), a2, nI_clamp (by omega), nI_clamp (by omega)]; omega⟩
    have hR4 := (hR.r3 q13).rw fR4
    obtain ⟨ρ5, r5, q5, d5⟩ := e_next hR4 kb3.2.1 (by rw [m3 17 (by decide)]; exact d3.2.2.1)
    have fb4 := kF_b (t := t) kb3.2.1
    have f5 : TW τ τ5 := f4.trans ⟨by rw [on.1], fun b hb _ => on.2 b (by omega), fun b _ => by rw [on.1], by rw [on.2 29 (by omega)]⟩
    have x5 : τ5.1 29 2 = -1 := by rw [on.2 29 (by omega), s4.2.2 2 (by omega)]; exact x3
    rw [e4', ev_cl2, ite2_y (show _ ∧ _ ∧ _ from ok3), vO, e5, ev_cl2, x5, ite2_p (Eq.refl _), w3, r4, ev_cl2, r5, ev_cl2]
    have s14 := ((s1.trans s2).trans s3).trans s4
    have t29 : ∀ c, c ≠ 29 → c ≠ 22 + H → τ5.1 c = (ns_pI τ 19 2 (nI (H + 1))).1 c := fun c hc hd => by rw [on.2 c hd, s14.2.1 c hc]
    have fRR : RW ρ ρ5 := ((RW.r3 q13).trans fR4).trans (RW.r3 q5)
    refine (e_at (f := kF t z (kB t z F3)) (τ := τ5) (ρ := ρ5) (B := B) (g1 := g1) (g2 := g2) ⟨hT.tw f5, hR.rw fRR, ?_, d5, ?_, x5, fb4.2⟩ hH hB ⟨hN1, hN⟩ (by rw [q5.2.1 71 (by decide)]; exact n1)).from f5 fRR (by omega)
    · unfold tcC; rw [on.2 29 (by omega)]; exact c4
    · refine WT.tr (τ := τ5) (ρ := ρ4) ?_ (T3.rfl _) q5
      refine WT.new (τ := τ) (ρ := ρ3) (hWT.tr (T3.rfl τ) q13) hH (by rw [q13.2.2 5 (by omega)]; exact a2) hK ⟨hN1, hN⟩ hO (fun k hk => ?_) ?_ (fun c h1 h3 h4 => ?_) ?_ mu (m2 69 (by omega) (by decide)) m3 m4 m5 n0 n1 n2 n3 n4 n5
      · rw [t29 19 (by decide) (by omega), pI_st _ _ _ hk]
      · rw [t29 19 (by decide) (by omega), pI_at]
      · rw [t29 c (by omega) h4, pI_ne _ _ _ (by omega)]
      · rw [on.1, s14.1]; rfl
