/-! PASS: statements -/
def WT (τ ρ : ns_St) (B : Nat) : Prop := WR τ 19 B (ρ.1 65 3) (ρ.1 69) (ρ.1 65 5) (ρ.1 70) (ρ.1 71) (ρ.1 72) (ρ.1 73) (ρ.1 74) (ρ.1 75) (ρ.1 65 12) (ρ.1 65 13) (ρ.1 65 14)
def TW (τ τ' : ns_St) : Prop := τ'.2.2 = τ.2.2 ∧ (∀ b, ¬ (19 ≤ b ∧ b ≤ 27) → b ≠ 29 → τ'.1 b = τ.1 b) ∧ (∀ b, b ≠ 20 → τ'.2.1 b = τ.2.1 b) ∧ τ'.1 29 1 = τ.1 29 1
def RW (ρ ρ' : ns_St) : Prop := ρ'.2 = ρ.2 ∧ (∀ b, ¬ (69 ≤ b ∧ b ≤ 75) → b ≠ 65 → ρ'.1 b = ρ.1 b) ∧ (∀ k, ¬ (k = 3 ∨ k = 5 ∨ (17 ≤ k ∧ k ≤ 20)) → ρ'.1 65 k = ρ.1 65 k) ∧ (ρ.1 65 5).toNatClampNeg ≤ (ρ'.1 65 5).toNatClampNeg
theorem TW.rfl (τ : ns_St) : TW τ τ := ⟨Eq.refl _, fun _ _ _ => Eq.refl _, fun _ _ => Eq.refl _, Eq.refl _⟩
theorem RW.rfl (τ : ns_St) : RW τ τ := ⟨Eq.refl _, fun _ _ _ => Eq.refl _, fun _ _ => Eq.refl _, Nat.le_refl _⟩
theorem TW.trans {a b c : ns_St} (h1 : TW a b) (h2 : TW b c) : TW a c := ⟨h2.1.trans h1.1, fun x hx hy => (h2.2.1 x hx hy).trans (h1.2.1 x hx hy), fun x hx => (h2.2.2.1 x hx).trans (h1.2.2.1 x hx), h2.2.2.2.trans h1.2.2.2⟩
theorem RW.trans {a b c : ns_St} (h1 : RW a b) (h2 : RW b c) : RW a c := ⟨h2.1.trans h1.1, fun x hx hy => (h2.2.1 x hx hy).trans (h1.2.1 x hx hy), fun k hk => (h2.2.2.1 k hk).trans (h1.2.2.1 k hk), Nat.le_trans h1.2.2.2 h2.2.2.2⟩
theorem TW.t3 {a b : ns_St} (h : T3 a b) : TW a b := ⟨by rw [h.1], fun x _ hy => h.2.1 x hy, fun x _ => by rw [h.1], h.2.2 1 (by omega)⟩
theorem RW.r3 {a b : ns_St} (h : R3 a b) : RW a b := ⟨h.1, fun x _ hy => h.2.1 x hy, fun k hk => h.2.2 k (by omega), by rw [h.2.2 5 (by omega)]; exact Nat.le_refl _⟩
theorem TW.f2 {a : ns_St} {v : Int32} : TW a (ns_pI a 29 2 v) := ⟨Eq.refl _, fun x _ hy => pI_ne _ _ _ hy, fun _ _ => Eq.refl _, pI_st _ _ _ (by decide)⟩
theorem TW.w {a : ns_St} {c k : Nat} {v : Int32} (hc : 19 ≤ c ∧ c ≤ 27) : TW a (ns_pI a c k v) := ⟨Eq.refl _, fun x hx _ => pI_ne _ _ _ (fun e => hx (e ▸ hc)), fun _ _ => Eq.refl _, by rw [pI_ne _ _ _ (by omega)]⟩
theorem RW.w {a : ns_St} {c k : Nat} {v : Int32} (hc : 69 ≤ c ∧ c ≤ 75) : RW a (ns_pI a c k v) := ⟨Eq.refl _, fun x hx _ => pI_ne _ _ _ (fun e => hx (e ▸ hc)), fun j _ => by rw [pI_ne _ _ _ (by omega)], by rw [pI_ne _ _ _ (by omega)]; exact Nat.le_refl _⟩
theorem tpC.tw {g1 g2 : Option Nat} {t : Nat → Nat} {z : Nat} {τ τ' : ns_St} (h : tpC g1 g2 t z τ) (s : TW τ τ') : tpC g1 g2 t z τ' := ⟨by rw [s.1]; exact h.1, h.2.1, by rw [s.2.2.2]; exact h.2.2.1, fun i hi => by rw [s.2.1 30 (by decide) (by decide)]; exact h.2.2.2 i hi⟩
theorem tpR.rw {g1 g2 : Option Nat} {t : Nat → Nat} {z : Nat} {ρ ρ' : ns_St} (h : tpR g1 g2 t z ρ) (s : RW ρ ρ') : tpR g1 g2 t z ρ' := ⟨by rw [s.1]; exact h.1, h.2.1, by rw [s.2.2.1 15 (by omega)]; exact h.2.2.1, fun i hi => by rw [s.2.1 76 (by decide) (by decide)]; exact h.2.2.2 i hi⟩
theorem WT.to {τ ρ τ' ρ' : ns_St} {B : Nat} (h : WT τ ρ B) (h1 : ∀ c, 19 ≤ c → c < 28 → τ'.1 c = τ.1 c) (h2 : τ'.2.1 20 = τ.2.1 20) (h3 : ∀ c, 69 ≤ c → c ≤ 75 → ρ'.1 c = ρ.1 c) (h4 : ∀ k, ¬ (17 ≤ k ∧ k ≤ 20) → ρ'.1 65 k = ρ.1 65 k) : WT τ' ρ' B := by
  unfold WT
  rw [h4 3 (by omega), h4 5 (by omega), h4 12 (by omega), h4 13 (by omega), h4 14 (by omega), h3 69 (by omega) (by omega), h3 70 (by omega) (by omega), h3 71 (by omega) (by omega), h3 72 (by omega) (by omega), h3 73 (by omega) (by omega), h3 74 (by omega) (by omega), h3 75 (by omega) (by omega)]
  exact WR.cong (w := 19) h1 h2 h
theorem WT.tr {τ ρ τ' ρ' : ns_St} {B : Nat} (h : WT τ ρ B) (s : T3 τ τ') (q : R3 ρ ρ') : WT τ' ρ' B := h.to (fun c _ _ => s.2.1 c (by omega)) (by rw [s.1]) (fun c _ _ => q.2.1 c (by omega)) q.2.2
/-- both readers at the same TOKEN, with the same world -/
def Sim (g1 g2 : Option Nat) (t : Nat → Nat) (z B : Nat) (τ ρ : ns_St) (f : Nat) : Prop := tpC g1 g2 t z τ ∧ tpR g1 g2 t z ρ ∧ tcC τ f (kS t z f) (kB t z f) ∧ tcR t ρ f (kS t z f) (kB t z f) ∧ WT τ ρ B ∧ τ.1 29 2 = -1 ∧ f ≤ z
def Out (g1 g2 : Option Nat) (t : Nat → Nat) (z B : Nat) (τ ρ : ns_St) (b0 : Nat) (x : Option (Unit × ns_St)) (y : Option (Int32 × ns_St)) : Prop := ∃ τ' ρ', TW τ τ' ∧ RW ρ ρ' ∧ x = some ((), τ') ∧ ((y = some (1, ρ') ∧ ∃ f', b0 ≤ f' ∧ Sim g1 g2 t z B τ' ρ' f') ∨ (y = some (0, ρ') ∧ ∃ w, w ≤ 250 ∧ τ'.1 29 2 = nI w ∧ ρ'.1 65 18 = nI w))
theorem Out.from {g1 g2 : Option Nat} {t : Nat → Nat} {z B : Nat} {τ ρ τ0 ρ0 : ns_St} {b b0 : Nat} {x : Option (Unit × ns_St)} {y : Option (Int32 × ns_St)} (h : Out g1 g2 t z B τ ρ b x y) (s : TW τ0 τ) (q : RW ρ0 ρ) (hb : b0 ≤ b) : Out g1 g2 t z B τ0 ρ0 b0 x y := by
  obtain ⟨τ', ρ', a1, a2, a3, a4⟩ := h
  refine ⟨τ', ρ', s.trans a1, q.trans a2, a3, ?_⟩
  rcases a4 with ⟨c1, f', c2, c3⟩ | c
  · exact Or.inl ⟨c1, f', by omega, c3⟩
  · exact Or.inr c
theorem GR.or {σ σ' : ns_St} {g E w p : Nat} {th th' : Nat → Int32} (hG : GR σ g th E) (hw : w < 4) (hp : p ≤ E) (h0 : σ'.1 g 0 = σ.1 g 0) (hJ : ∀ u q, q < 64 → gb (σ'.2.1 g (u + 1)) q = if u = w ∧ q = p then true else gb (σ.2.1 g (u + 1)) q) (ht : th' p = th p ||| nI (2 ^ w)) (hn : ∀ q, q ≠ p → th' q = th q) : GR σ' g th' E := by
  have h60 := hG.2.2.1
  obtain ⟨v, hv, ev⟩ := (hG.2.2.2.2 p (by omega)).1
  refine GR.mk (by rw [h0]; exact hG.1) hG.2.1 h60 (fun u q hu hq => ?_) (fun q hq => ?_)
  · rw [hJ u q hq, hG.w hu hq]
    by_cases e : q = p
    · subst e
      rw [ht, ev, tb16o v hv w hw u hu, decide_eq_true hp]
      by_cases e2 : u = w
      · rw [if_pos ⟨e2, rfl⟩, decide_eq_true e2]; simp
      · rw [if_neg (fun q => e2 q.1), decide_eq_false e2]; simp
    · rw [if_neg (fun q => e q.2), hn q e]
  · by_cases e : q = p
    · subst e
      have x := x16 v hv w hw
      rw [ht, ev, x.2.2.1]
      exact ⟨⟨_, x.2.2.2, rfl⟩, fun h => absurd h (by omega)⟩
    · rw [hn q e]; exact hG.2.2.2.2 q hq
theorem two_pow4 {w : Nat} (hw : w < 4) : 0 < 2 ^ w ∧ 2 ^ w < 2 ^ 31 := by
  rcases (by omega : w = 0 ∨ w = 1 ∨ w = 2 ∨ w = 3) with rfl | rfl | rfl | rfl <;> decide
theorem e_rmark {g1 g2 : Option Nat} {t : Nat → Nat} {z B f w : Nat} {τ ρ : ns_St} (hS : Sim g1 g2 t z B τ ρ f) (hw : w < 4) : Out g1 g2 t z B τ ρ (kB t z f) (g_Tape_readMark τ 29 20 (nI w)) (g_M_statement_107 ρ (nI (2 ^ w)) 65) := by
  obtain ⟨hT, hR, cT, cR, hW, h2, hf⟩ := hS
  have z250 := hT.2.1
  have kb := kB_b (t := t) hf
  have fb := kF_b (t := t) kb.2.1
  have kb1 := kB_b (t := t) fb.2
  have ks1 := kS_b (t := t) (z := z) (f := kF t z (kB t z f))
  obtain ⟨E, H, a1, a2, a3, hG, a5, a6, a7, a8, a9, a10⟩ := hW
  have h60 := hG.2.2.1
  obtain ⟨τ1, e1, s1, c1⟩ := e_nextToken hT kb.2.1 cT.2.2
  obtain ⟨ρ1, r1, q1, d1⟩ := e_number (lo := 0) (hi := E) hR kb.2.1 cR.2.2.1
  have r1' : g_M_number ρ 65 (0 : Int32) (nI E) = _ := r1
  have hWT : WT τ ρ B := ⟨E, H, a1, a2, a3, hG, a5, a6, a7, a8, a9, a10⟩
  have t20 : τ1.1 20 0 = nI E := by rw [s1.2.1 20 (by decide)]; exact hG.1
  have hM : g_M_statement_107 ρ (nI (2 ^ w)) 65 = ite2 (yn (kS t z (kF t z (kB t z f)) = 2 ∧ nI 0 ≤ VAL t (kF t z (kB t z f)) (kB t z (kF t z (kB t z f))) ∧ VAL t (kF t z (kB t z f)) (kB t z (kF t z (kB t z f))) ≤ nI E) = 0) (some ((0 : Int32), ρ1)) (cl2 (g_M_canBe ρ1 65 (ρ1.1 65 20) (nI (2 ^ w))) fun r128 σ127 => ite2 (r128 = 0) (some ((0 : Int32), σ127)) (drf (σ127.2.2 65 4) fun b130 => grd (ns_kd b130 = 10) <| bnd (σ127.1 65 20) fun z131 => grd (ns_in z131 (ns_ln b130)) <| grd (ns_in z131 (ns_ln b130)) <| bnd (ns_pI σ127 b130 (ns_ix z131) ((σ127.1 b130 (ns_ix z131)) ||| (nI (2 ^ w)))) fun σ134 => cl2 (g_M_next σ134 65) fun r136 σ135 => some ((1 : Int32), σ135))) := by
    unfold g_M_statement_107
    rw [ite2_n (nI_nle (two_pow4 hw).1 (two_pow4 hw).2), a1, r1', ev_cl2]
  generalize kF t z (kB t z f) = F at *
  have F2 : τ1.1 29 2 = -1 := by rw [s1.2.2 2 (by omega)]; exact h2
  rcases e_take (lo := 0) (hi := E) (hT.t3 s1) c1 kb1.1 kb1.2.1 ks1 F2 (by omega) (by omega) with ⟨ok, τ2, e2, s2, c2⟩ | ⟨no, e2⟩
  · have e2' : g_Tape_takeNumber τ1 29 (0 : Int32) (nI E) = _ := e2
    obtain ⟨p, _, hp, vp⟩ := ok.n (by omega) (by omega)
    rw [vp] at e2'
    have s12 := s1.trans s2
    have t2f : τ2.1 29 2 = -1 := by rw [s12.2.2 2 (by omega)]; exact h2
    have hG2 : GR τ2 20 (ρ.1 69) E := hG.cong (s12.2.1 20 (by decide)) (by rw [s12.1])
    have hN : g_Tape_readMark τ 29 20 (nI w) = cl2 (some (yn (fbd (ρ.1 69) w p = true), τ2)) fun r20 σ19 => ite2 (r20 = 0) (cl2 (g_Ground_mark σ19 20 (nI w) (nI p) (1 : Int32)) fun r23 σ22 => some ((), σ22)) (bnd (ns_pI σ19 29 2 (nI F)) fun σ24 => some ((), σ24)) := by
      unfold g_Tape_readMark
      rw [gk_29, grd_t kd_20, e1, ev_cl2, c1.1, ev_bnd, t20, e2', ev_cl2, t2f, ite2_p (Eq.refl _), e_forbids kd_20 hG2 hw hp]
    have v20 : ρ1.1 65 20 = nI p := by rw [d1.2.2.2 ok.1, vp]
    have m69 : ρ1.1 69 = ρ.1 69 := q1.2.1 69 (by decide)
    have hRρ : ρ1.2.2 = ns_rg g1 g2 := by rw [q1.1]; exact hR.1
    rw [hM, ite2_y (show _ ∧ _ ∧ _ from ok), v20, e_canBe hRρ hw (by omega), ev_cl2, m69, hN, ev_cl2]
    cases hfb : fbd (ρ.1 69) w p with
    | true =>
      rw [ite2_y (Eq.refl true), ite2_z (by decide), ev_bnd]
      exact ⟨_, ρ1, (TW.t3 s12).trans TW.f2, RW.r3 q1, Eq.refl _, Or.inr ⟨Eq.refl _, F, by omega, pI_at _ _ _ _, d1.1⟩⟩
    | false =>
      have i69 : ns_in (nI p) (ns_ln 69) := ns_inI (show p < 61 by omega) (by decide)
      have em : g_Ground_mark τ2 20 (nI w) (nI p) (1 : Int32) = some ((), mkJ τ2 20 w p true) := e_mark kd_20 hw true
      have fR : RW ρ (ns_pI ρ1 69 p (ρ.1 69 p ||| nI (2 ^ w))) := (RW.r3 q1).trans (RW.w (by decide))
      obtain ⟨ρ2, r2, q2, d2⟩ := e_next (hR.rw fR) kb1.2.1 (by rw [pI_ne _ _ _ (by decide)]; exact d1.2.2.1)
      have x65 : ∀ k, ¬ (17 ≤ k ∧ k ≤ 20) → ρ2.1 65 k = ρ.1 65 k := fun k hk => by rw [q2.2.2 k hk, pI_ne _ _ _ (by decide), q1.2.2 k hk]
      have xm : ∀ c, 70 ≤ c → c ≤ 75 → ρ2.1 c = ρ.1 c := fun c h1 h3 => by rw [q2.2.1 c (by omega), pI_ne _ _ _ (by omega), q1.2.1 c (by omega)]
      have fb2 := kF_b (t := t) kb1.2.1
      refine ⟨mkJ τ2 20 w p true, ρ2, (TW.t3 s12).trans ⟨Eq.refl _, fun _ _ _ => Eq.refl _, fun b hb => mkJ_ne hb, Eq.refl _⟩, fR.trans (RW.r3 q2), ?_, Or.inl ⟨?_, kF t z (kB t z F), by omega, ?_⟩⟩
      · rw [ite2_z (by decide), em, ev_cl2]
      · rw [ite2_y (by decide), hRρ, rg_65_4, ev_drf, gk_69, v20, ev_bnd, grd_t i69, grd_t i69, ns_ixI (by omega), m69, ev_bnd, r2, ev_cl2]
      · refine ⟨hT.tw ((TW.t3 s12).trans ⟨Eq.refl _, fun _ _ _ => Eq.refl _, fun b hb => mkJ_ne hb, Eq.refl _⟩), hR.rw (fR.trans (RW.r3 q2)), c2, d2, ?_, t2f, fb2.2⟩
        unfold WT
        rw [x65 3 (by omega), x65 5 (by omega), x65 12 (by omega), x65 13 (by omega), x65 14 (by omega), xm 70 (by omega) (by omega), xm 71 (by omega) (by omega), xm 72 (by omega) (by omega), xm 73 (by omega) (by omega), xm 74 (by omega) (by omega), xm 75 (by omega) (by omega)]
        have k0 : ∀ c, c ≠ 29 → (mkJ τ2 20 w p true).1 c = τ.1 c := fun c hc => s12.2.1 c hc
        refine ⟨E, H, a1, a2, a3, ?_, by rw [k0 19 (by decide)]; exact a5, by rw [k0 19 (by decide)]; exact a6, a7, by rw [k0 19 (by decide)]; exact a8, by rw [k0 19 (by decide)]; exact a9, fun j hj => ?_⟩
        · refine GR.or (σ := τ2) hG2 hw hp (Eq.refl _) (fun u q hq => mkJ_w true (by omega) hq) ?_ (fun q hq => ?_)
          · rw [q2.2.1 69 (by decide), pI_at]
          · rw [q2.2.1 69 (by decide), pI_st _ _ _ hq, m69]
        · obtain ⟨K, N, A, C, O, b1, b2, b3⟩ := a10 j hj
          exact ⟨K, N, A, C, O, b1, b2.cong (k0 _ (by omega)), b3⟩
  · have e2' : g_Tape_takeNumber τ1 29 (0 : Int32) (nI E) = _ := e2
    refine ⟨_, ρ1, (TW.t3 s1).trans TW.f2, RW.r3 q1, ?_, Or.inr ⟨?_, F, by omega, pI_at _ _ _ _, d1.1⟩⟩
    · unfold g_Tape_readMark
      rw [gk_29, grd_t kd_20, e1, ev_cl2, c1.1, ev_bnd, t20, e2', ev_cl2, pI_at, ite2_n (nI_nm1 (by omega))]
    · rw [hM, ite2_z (show ¬ (_ ∧ _ ∧ _) from no)]
theorem max1 {σ : ns_St} {k : Nat} (hk : k < 2 ^ 31) : g_Math_max σ (1 : Int32) (nI k) = some (nI (if 1 < k then k else 1), σ) := by
  unfold g_Math_max
  by_cases c : 1 < k
  · rw [ite2_p (show (1 : Int32) < nI k from nI_lt (a := 1) c hk), if_pos c]
  · rw [ite2_n (show ¬ (1 : Int32) < nI k from nI_nlt (a := 1) (by omega) (by decide)), if_neg c]; rfl
theorem e_rlen {g1 g2 : Option Nat} {t : Nat → Nat} {z B f : Nat} {τ ρ : ns_St} (hS : Sim g1 g2 t z B τ ρ f) (h5 : ρ.1 65 5 = 0) : Out g1 g2 t z B τ ρ (kB t z f) (g_Tape_readLength τ 29 19) (cl2 (g_M_number ρ 65 (1 : Int32) (60 : Int32)) fun r154 σ153 => ite2 (r154 = 0) (some ((0 : Int32), σ153)) (cl2 (g_M_highest σ153 65) fun r157 σ156 => ite2 (r157 ≤ (σ156.1 65 20)) (cl2 (g_M_longer σ156 65 (σ156.1 65 20)) fun r160 σ159 => cl2 (g_M_next σ159 65) fun r162 σ161 => some ((1 : Int32), σ161)) (some ((0 : Int32), σ156)))) := by
  obtain ⟨hT, hR, cT, cR, hW, h2, hf⟩ := hS
  have z250 := hT.2.1
  have kb := kB_b (t := t) hf
  have fb := kF_b (t := t) kb.2.1
  have kb1 := kB_b (t := t) fb.2
  have ks1 := kS_b (t := t) (z := z) (f := kF t z (kB t z f))
  obtain ⟨E, H, a1, a2, a3, hG, a5, a6, a7, a8, a9, a10⟩ := hW
  have h60 := hG.2.2.1
  have hE1 := hG.2.1
  have hH0 : H = 0 := by rw [a2] at h5; exact (nI_eq (b := 0) (by omega) (by decide)).mp h5
  subst hH0
  obtain ⟨τ1, e1, s1, c1⟩ := e_nextToken hT kb.2.1 cT.2.2
  obtain ⟨ρ1, r1, q1, d1⟩ := e_number (lo := 1) (hi := 60) hR kb.2.1 cR.2.2.1
  have r1' : g_M_number ρ 65 (1 : Int32) (60 : Int32) = _ := r1
  have hRρ : ρ1.2.2 = ns_rg g1 g2 := by rw [q1.1]; exact hR.1
  have hRτ : τ1.2.2 = ns_rg g1 g2 := by rw [s1.1]; exact hT.1
  have m69 : ρ1.1 69 = ρ.1 69 := q1.2.1 69 (by decide)
  have hG1 : GR τ1 20 (ρ.1 69) E := hG.cong (s1.2.1 20 (by decide)) (by rw [s1.1])
  have m3 : ρ1.1 65 3 = nI E := by rw [q1.2.2 3 (by omega)]; exact a1
  -- the highest PLACE
  obtain ⟨k, hk60, hN, hMM, hup⟩ : ∃ k : Nat, k ≤ E ∧ (cl2 (g_Ground_highest τ1 20) fun r20 σ19 => cl2 (g_Math_max σ19 (1 : Int32) r20) fun r22 σ21 => cl2 (g_Tape_takeNumber σ21 29 r22 (60 : Int32)) fun r24 σ23 => ite2 ((σ23.1 29 2) = (-1 : Int32)) (drf (σ23.2.2 19 0) fun b26 => grd (ns_kd b26 = 1) <| bnd (ns_pI σ23 b26 0 r24) fun σ27 => some ((), σ27)) (some ((), σ23))) = (cl2 (g_Tape_takeNumber τ1 29 (nI (if 1 < k then k else 1)) (60 : Int32)) fun r24 σ23 => ite2 ((σ23.1 29 2) = (-1 : Int32)) (drf (σ23.2.2 19 0) fun b26 => grd (ns_kd b26 = 1) <| bnd (ns_pI σ23 b26 0 r24) fun σ27 => some ((), σ27)) (some ((), σ23))) ∧ g_M_highest ρ1 65 = some (nI k, ρ1) ∧ ∀ p, k < p → p ≤ E → ρ.1 69 p = 0 := by
    rcases hi_or (ρ.1 69) E with hi | ⟨k, hi⟩
    · refine ⟨0, by omega, ?_, ?_, fun p _ h => hi p h⟩
      · rw [(e_ghi kd_20 hG1).1 hi, ev_cl2]
        have : g_Math_max τ1 (1 : Int32) (-1 : Int32) = some (1, τ1) := by unfold g_Math_max; rw [ite2_n (by decide)]
        rw [this, ev_cl2]
        rfl
      · exact (e_mhi hRρ m3 h60).1 (by rw [m69]; exact hi)
    · refine ⟨k, hi.1, ?_, (e_mhi hRρ m3 h60).2 k (by rw [m69]; exact hi), hi.2.2⟩
      rw [(e_ghi kd_20 hG1).2 k hi, ev_cl2, max1 (by have := hi.1; omega), ev_cl2]
  generalize hl : (if 1 < k then k else 1) = l at hN
  have hl2 : l ≤ 60 := by rw [← hl]; split <;> omega
  have hNN : g_Tape_readLength τ 29 19 = (cl2 (g_Tape_takeNumber τ1 29 (nI l) (60 : Int32)) fun r24 σ23 => ite2 ((σ23.1 29 2) = (-1 : Int32)) (drf (σ23.2.2 19 0) fun b26 => grd (ns_kd b26 = 1) <| bnd (ns_pI σ23 b26 0 r24) fun σ27 => some ((), σ27)) (some ((), σ23))) := by
    unfold g_Tape_readLength
    rw [gk_29, gk_19, a5, ite2_p (by decide), e1, ev_cl2, hRτ, rg_19_0, ev_drf, grd_t kd_20]
    exact hN
  generalize kF t z (kB t z f) = F at *
  have F2 : τ1.1 29 2 = -1 := by rw [s1.2.2 2 (by omega)]; exact h2
  rw [hNN, r1', ev_cl2]
  rcases e_take (lo := l) (hi := 60) (hT.t3 s1) c1 kb1.1 kb1.2.1 ks1 F2 (by omega) (by omega) with ⟨ok, τ2, e2, s2, c2⟩ | ⟨no, e2⟩
  · have e2' : g_Tape_takeNumber τ1 29 (nI l) (60 : Int32) = _ := e2
    obtain ⟨n, hn1, hn, vp⟩ := ok.n (by omega) (by omega)
    rw [vp] at e2'
    have hl1 : 1 ≤ l ∧ k ≤ l := by rw [← hl]; split <;> omega
    have ok' : kS t z F = 2 ∧ nI 1 ≤ VAL t F (kB t z F) ∧ VAL t F (kB t z F) ≤ nI 60 := ⟨ok.1, by rw [vp]; exact nI_le (by omega) (by omega), ok.2.2⟩
    have v20 : ρ1.1 65 20 = nI n := by rw [d1.2.2.2 ok.1, vp]
    have s12 := s1.trans s2
    have t2f : τ2.1 29 2 = -1 := by rw [s12.2.2 2 (by omega)]; exact h2
    have hR2 : τ2.2.2 = ns_rg g1 g2 := by rw [s12.1]; exact hT.1
    have fR : R3 ρ ρ1 := q1
    have fR2 : RW ρ (ns_pI ρ1 65 3 (nI n)) := (RW.r3 q1).trans ⟨Eq.refl _, fun b _ hb => pI_ne _ _ _ hb, fun j hj => pI_st _ _ _ (fun e => hj (Or.inl e)), by rw [pI_st _ _ _ (by decide)]; exact Nat.le_refl _⟩
    have el := e_longer (n := n) hRρ m3 h60 (by omega) (fun p h1 h3 => by rw [m69]; exact (hG.2.2.2.2 p h3).2 h1)
    obtain ⟨ρ2, r2, q2, d2⟩ := e_next (hR.rw fR2) kb1.2.1 (by rw [pI_st _ _ _ (by decide)]; exact d1.2.2.1)
    have fb2 := kF_b (t := t) kb1.2.1
    have fT : TW τ (ns_pI τ2 20 0 (nI n)) := (TW.t3 s12).trans (TW.w (by decide))
    refine ⟨_, ρ2, fT, fR2.trans (RW.r3 q2), ?_, Or.inl ⟨?_, kF t z (kB t z F), by omega, ?_⟩⟩
    · rw [e2', ev_cl2, t2f, ite2_p (Eq.refl _), hR2, rg_19_0, ev_drf, grd_t kd_20, ev_bnd]
    · rw [ite2_y ok', hMM, ev_cl2, v20, ite2_p (nI_le (by omega) (by omega)), el, ev_cl2, r2, ev_cl2]
    · refine ⟨hT.tw fT, hR.rw (fR2.trans (RW.r3 q2)), ?_, d2, ?_, by rw [pI_ne _ _ _ (by decide)]; exact t2f, fb2.2⟩
      · unfold tcC; rw [pI_ne _ _ _ (by decide)]; exact c2
      · have k0 : ∀ c, c ≠ 29 → c ≠ 20 → (ns_pI τ2 20 0 (nI n)).1 c = τ.1 c := fun c h1 h3 => by rw [pI_ne _ _ _ h3]; exact s12.2.1 c h1
        have x65 : ∀ k, k ≠ 3 → ¬ (17 ≤ k ∧ k ≤ 20) → ρ2.1 65 k = ρ.1 65 k := fun k h1 hk => by rw [q2.2.2 k hk, pI_st _ _ _ h1, q1.2.2 k hk]
        refine ⟨n, 0, by rw [q2.2.2 3 (by omega), pI_at], by rw [x65 5 (by omega) (by omega)]; exact a2, by omega, ?_, by rw [k0 19 (by decide) (by decide)]; exact a5, by rw [k0 19 (by decide) (by decide), x65 12 (by omega) (by omega)]; exact a6, by rw [x65 12 (by omega) (by omega)]; exact a7, by rw [k0 19 (by decide) (by decide), x65 13 (by omega) (by omega)]; exact a8, by rw [k0 19 (by decide) (by decide), x65 14 (by omega) (by omega)]; exact a9, fun j hj => absurd hj (by omega)⟩
        refine GR.len (σ := τ) (th := ρ.1 69) hG (pI_at _ _ _ _) (by show τ2.2.1 20 = _; rw [s12.1]) (by rw [q2.2.1 69 (by decide), pI_ne _ _ _ (by decide), m69]) (by omega) (by omega) (fun p h1 h3 => hup p (by omega) h3)
  · have e2' : g_Tape_takeNumber τ1 29 (nI l) (60 : Int32) = _ := e2
    refine ⟨_, ρ1, (TW.t3 s1).trans TW.f2, RW.r3 q1, ?_, Or.inr ⟨?_, F, by omega, pI_at _ _ _ _, d1.1⟩⟩
    · rw [e2', ev_cl2, pI_at, ite2_n (nI_nm1 (by omega))]
    · by_cases c : kS t z F = 2 ∧ nI 1 ≤ VAL t F (kB t z F) ∧ VAL t F (kB t z F) ≤ nI 60
      · obtain ⟨n, hn1, hn, vp⟩ := okN.n (lo := 1) (hi := 60) c (by omega) (by omega)
        have v20 : ρ1.1 65 20 = nI n := by rw [d1.2.2.2 c.1, vp]
        rw [ite2_y c, hMM, ev_cl2, v20, ite2_n (fun q => no ⟨c.1, by
          rw [vp]
          have := (nI_leI (by omega) (by omega)).mp q
          refine nI_le ?_ (by omega)
          rw [← hl]; split <;> omega, c.2.2⟩)]
      · rw [ite2_z c]
