/-! a TRAIN: those told, as bits -/
theorem tbS : ∀ S, S < 64 → ∀ m, m < 6 → (((nI S >>> (nI m &&& 31)) &&& (1 : Int32)) = (if S.testBit m = true then 1 else 0) ∧ nI S ||| ((1 : Int32) <<< (nI m &&& 31)) = nI (S ||| 2 ^ m) ∧ S ||| 2 ^ m < 64) := by decide +kernel
theorem l2i6 : ∀ m, m < 6 → (lN m).toInt32 = nI m := by decide +kernel
theorem tb_0 {S m : Nat} (hS : S < 64) (hm : m < 6) : (((nI S >>> (nI m &&& 31)) &&& (1 : Int32)) = 0) ↔ S.testBit m = false := by
  rw [(tbS S hS m hm).1]
  cases S.testBit m with
  | false => exact ⟨fun _ => rfl, fun _ => rfl⟩
  | true => exact ⟨fun q => absurd q (by decide), fun q => absurd q (by decide)⟩
theorem tb_1 {S m : Nat} (hS : S < 64) (hm : m < 6) : (((nI S >>> (nI m &&& 31)) &&& (1 : Int32)) = 1) ↔ S.testBit m = true := by
  rw [(tbS S hS m hm).1]
  cases S.testBit m with
  | false => exact ⟨fun q => absurd q (by decide), fun q => absurd q (by decide)⟩
  | true => exact ⟨fun _ => rfl, fun _ => rfl⟩
/-- whether an element is a MULE's number -/
theorem lm_cases (x : Int64) {H : Nat} (hH : H ≤ 6) : (lg_cmp x 0 < 0) ∨ (¬ lg_cmp x 0 < 0 ∧ 0 ≤ lg_cmp x ((nI H).toInt64)) ∨ (¬ lg_cmp x 0 < 0 ∧ ¬ 0 ≤ lg_cmp x ((nI H).toInt64) ∧ ∃ m, m < H ∧ x = lN m) := by
  by_cases h0 : lg_cmp x 0 < 0
  · exact Or.inl h0
  · by_cases h1 : 0 ≤ lg_cmp x ((nI H).toInt64)
    · exact Or.inr (Or.inl ⟨h0, h1⟩)
    · refine Or.inr (Or.inr ⟨h0, h1, ?_⟩)
      obtain ⟨k, hk, rfl⟩ := pk_lOf (x := x) (fun q => h0 ((lg_cmp_lt _ _).mpr q))
      refine ⟨k, ?_, rfl⟩
      rw [nI_l (by omega)] at h1
      rcases Nat.lt_or_ge k H with g | g
      · exact g
      · exact absurd ((lg_cmp_ge _ _).mpr ((pk_lLE (by omega) hk).mpr g)) h1
/-- the greatest PLACE of those told -/
def mx (A : Nat → Nat) (S : Nat) : Nat → Nat
  | 0 => 0
  | k + 1 => if S.testBit k = true then max (mx A S k) (A k) else mx A S k
theorem mx_or (A : Nat → Nat) (S m : Nat) : ∀ k, mx A (S ||| 2 ^ m) k = if m < k then max (mx A S k) (A m) else mx A S k
  | 0 => rfl
  | k + 1 => by
    rw [mx, mx, mx_or A S m k, fb_bit_set]
    by_cases e : k = m
    · subst e
      rw [decide_eq_true rfl, Bool.or_true, if_pos rfl, if_neg (Nat.lt_irrefl _), if_pos (Nat.lt_succ_self _)]
      split <;> omega
    · rw [decide_eq_false e, Bool.or_false]
      by_cases h : m < k
      · rw [if_pos h, if_pos (show m < k + 1 by omega)]
        split <;> omega
      · rw [if_neg h, if_neg (show ¬ m < k + 1 by omega)]
theorem mx_le {A : Nat → Nat} {S E : Nat} : ∀ k, (∀ j, j < k → A j ≤ E) → mx A S k ≤ E
  | 0, _ => Nat.zero_le _
  | k + 1, h => by
    have := mx_le (A := A) (S := S) k (fun j hj => h j (by omega))
    have := h k (by omega)
    rw [mx]
    split <;> omega
theorem mx_0 {A : Nat → Nat} : ∀ k, mx A 0 k = 0
  | 0 => rfl
  | k + 1 => by rw [mx, Nat.zero_testBit, if_neg (by decide), mx_0 k]
/-- those told, or none -/
def td (V : Nat → Int64) (H : Nat) : Nat → Nat → Nat → Option Nat
  | 0, _, S => some S
  | r + 1, i, S => if lg_cmp (V i) 0 < 0 ∨ 0 ≤ lg_cmp (V i) ((nI H).toInt64) ∨ ¬ ((nI S >>> ((V i).toInt32 &&& 31)) &&& (1 : Int32)) = 0 then none else td V H r (i + 1) (S ||| 2 ^ (V i).toInt32.toNatClampNeg)
theorem td_s {V : Nat → Int64} {H r i S m : Nat} (g0 : ¬ lg_cmp (V i) 0 < 0) (gH : ¬ 0 ≤ lg_cmp (V i) ((nI H).toInt64)) (hc : (V i).toInt32 = nI m) (hm : m < 6) : td V H (r + 1) i S = if ((nI S >>> (nI m &&& 31)) &&& (1 : Int32)) = 0 then td V H r (i + 1) (S ||| 2 ^ m) else none := by
  rw [td, hc, nI_clamp (by omega)]
  by_cases q : ((nI S >>> (nI m &&& 31)) &&& (1 : Int32)) = 0
  · rw [if_pos q, if_neg (by rintro (c | c | c); exact g0 c; exact gH c; exact c q)]
  · rw [if_neg q, if_pos (Or.inr (Or.inr q))]
theorem td_n {V : Nat → Int64} {H r i S : Nat} (h : lg_cmp (V i) 0 < 0 ∨ 0 ≤ lg_cmp (V i) ((nI H).toInt64)) : td V H (r + 1) i S = none := by
  rw [td]
  exact if_pos (h.imp id Or.inl)
theorem td_lt {V : Nat → Int64} {H : Nat} (hH : H ≤ 6) : ∀ r i S, S < 64 → ∀ S', td V H r i S = some S' → S' < 64
  | 0, i, S, h, S', q => by cases q; exact h
  | r + 1, i, S, h, S', q => by
    rw [td] at q
    by_cases c : lg_cmp (V i) 0 < 0 ∨ 0 ≤ lg_cmp (V i) ((nI H).toInt64) ∨ ¬ ((nI S >>> ((V i).toInt32 &&& 31)) &&& (1 : Int32)) = 0
    · rw [if_pos c] at q; cases q
    · rw [if_neg c] at q
      refine td_lt hH r (i + 1) _ ?_ S' q
      rcases lm_cases (V i) hH with g | ⟨_, g⟩ | ⟨_, _, m, hm, g⟩
      · exact absurd (Or.inl g) c
      · exact absurd (Or.inr (Or.inl g)) c
      · rw [g, l2i6 m (by omega), nI_clamp (by omega)]
        exact (tbS S h m (by omega)).2.2
theorem e_told15 {B : Nat} {σ : ns_St} {E H : Nat} (hW : PW B σ E H) {s z sz n : Nat} {V : Nat → Int64} (hs : s < 8) (hS : SR σ s z sz V) (hn : n ≤ sz) : ∀ (r i f S : Nat), r < f → i + r = n → S < 64 → g_N_mulesTold_15 f σ 0 (49 + 2 * s) (nI n) (nI S) (nI i) = some (match td V H r i S with | none => -1 | some S' => nI S', σ) := by
  obtain ⟨g1, g2, hR⟩ := hW.1
  have hH := hW.2.2.2.1
  have hsz := hS.2.2.2.2.2.1
  intro r
  induction r with
  | zero =>
    intro i f S hf hi hS64
    obtain ⟨f, rfl⟩ : ∃ q, f = q + 1 := ⟨f - 1, by omega⟩
    rw [g_N_mulesTold_15, ite2_p (nI_le (by omega) (by omega))]
    rfl
  | succ r ih =>
    intro i f S hf hi hS64
    obtain ⟨f, rfl⟩ : ∃ q, f = q + 1 := ⟨f - 1, by omega⟩
    rw [g_N_mulesTold_15, ite2_n (nI_ge (by omega) (by omega)), hS.cell hR hs (by omega), ev_cl2]
    rcases lm_cases (V i) hH with g | ⟨g0, g⟩ | ⟨g0, gH, m, hm, g⟩
    · rw [ite2_p g, td_n (Or.inl g)]
    · rw [ite2_n g0, hR, rg_0_0, ev_drf, gk_1, hW.2.2.2.2.2.1, ite2_p g, td_n (Or.inr g)]
    · rw [ite2_n g0, hR, rg_0_0, ev_drf, gk_1, hW.2.2.2.2.2.1, ite2_n gH]
      have hc : (V i).toInt32 = nI m := by rw [g]; exact l2i6 m (by omega)
      rw [td_s g0 gH hc (by omega), hc]
      by_cases q : ((nI S >>> (nI m &&& 31)) &&& (1 : Int32)) = 0
      · rw [ite2_p q, ev_bnd, ev_bnd, ← nI_succ, (tbS S hS64 m (by omega)).2.1, if_pos q]
        exact ih (i + 1) f _ (by omega) (by omega) (tbS S hS64 m (by omega)).2.2
      · rw [ite2_n q, if_neg q]
theorem e_train69 {B : Nat} {σ τ : ns_St} {E H : Nat} (hW : PW B σ E H) (q : Same σ τ) {s z sz n : Nat} {V : Nat → Int64} (hs : s < 8) (hS : SR σ s z sz V) (hn : n ≤ sz) : ∀ (r i f S : Nat), r < f → i + r = n → S < 64 → g_M_train_69 f τ 65 (nI s) (nI n) (nI S) (nI (mx (gm σ 72) S H)) (nI i) = match td V H r i S with | none => (cl2 (g_M_no τ 65 (-2 : Int32)) fun r σ' => some (r, σ')) | some S' => g_M_train_166 ns_F τ 65 (nI S') (nI (mx (gm σ 72) S' H)) (0 : Int32) (nI (mx (gm σ 72) S' H + 1)) := by
  have hH := hW.2.2.2.1
  have h60 := hW.h60
  obtain ⟨g1, g2, hR⟩ := (hW.same q).1
  have hS' := hS.same hs q
  have hsz := hS.2.2.2.2.2.1
  have mb : ∀ S, mx (gm σ 72) S H ≤ E := fun S => mx_le H (fun j hj => (hW.m hj).1.2.2.2.1)
  intro r
  induction r with
  | zero =>
    intro i f S hf hi hS64
    obtain ⟨f, rfl⟩ : ∃ q, f = q + 1 := ⟨f - 1, by omega⟩
    rw [g_M_train_69, ite2_p (nI_le (by omega) (by omega)), ev_bnd, ← nI_succ]
    rfl
  | succ r ih =>
    intro i f S hf hi hS64
    obtain ⟨f, rfl⟩ : ∃ q, f = q + 1 := ⟨f - 1, by omega⟩
    have hin : ns_in (nI (40 * s + i)) (ns_ln 68) := ns_inI (show 40 * s + i < 320 by omega) (by decide)
    rw [g_M_train_69, ite2_n (nI_ge (by omega) (by omega)), hR, rg_65_2, ev_drf, gk_68, ix40, grd_t hin, ns_ixI (by omega), hS'.2.2.2.2.2.2.2 i (by omega), ev_bnd, (hW.same q).2.2.1]
    rcases lm_cases (V i) hH with g | ⟨g0, g⟩ | ⟨g0, gH, m, hm, g⟩
    · rw [ite2_p g, td_n (Or.inl g)]
    · rw [ite2_n g0, ite2_p g, td_n (Or.inr g)]
    · rw [ite2_n g0, ite2_n gH]
      have hc : (V i).toInt32 = nI m := by rw [g]; exact l2i6 m (by omega)
      have hi8 : ns_in (nI m) (ns_ln 72) := ns_inI (show m < 6 by omega) (by decide)
      have mA : τ.1 72 m = nI (gm σ 72 m) := by rw [q.mi (by omega)]; exact (hW.m hm).2.2.2.2.1
      have b1 := mb S
      have b2 := (hW.m hm).1.2.2.2.1
      rw [td_s g0 gH hc (by omega), hc]
      by_cases c : ((nI S >>> (nI m &&& 31)) &&& (1 : Int32)) = 0
      · have c1 : ¬ ((nI S >>> (nI m &&& 31)) &&& (1 : Int32)) = 1 := fun w => by rw [c] at w; exact absurd w (by decide)
        rw [ite2_n c1, ev_bnd, rg_65_8, ev_drf, gk_72, grd_t hi8, ns_ixI (by omega), mA, e_maxN (by omega) (by omega), ev_cl2, ev_bnd, ← nI_succ, (tbS S hS64 m (by omega)).2.1, if_pos c]
        have := ih (i + 1) f (S ||| 2 ^ m) (by omega) (by omega) (tbS S hS64 m (by omega)).2.2
        rw [mx_or, if_pos hm] at this
        exact this
      · have c1 : ((nI S >>> (nI m &&& 31)) &&& (1 : Int32)) = 1 := by
          rw [tb_1 hS64 (by omega)]
          cases w : S.testBit m with
          | true => rfl
          | false => exact absurd ((tb_0 hS64 (by omega)).mpr w) c
        rw [ite2_p c1, if_neg c]
/-- whether one of the first k that are told STOPS -/
def om (σ : ns_St) (fr S : Nat) : Nat → Nat → Bool
  | 0, _ => false
  | k + 1, i => om σ fr S k i || (S.testBit k && js (σ.1 69) (gm σ 70 k) fr (gm σ 71 k) (gm σ 73 k) i)
theorem e_pot51 {B : Nat} {σ : ns_St} {E H fr S : Nat} (hW : PW B σ E H) (hfr : fr ≤ E) (hS : S < 64) : ∀ (r k f : Nat) (τ : ns_St) (x : Int64), r < f → k + r = H → Same σ τ → (∀ p, p < 64 → gb x p = (decide (fr < p ∧ p ≤ E) && om σ fr S k (p - fr - 1))) → ∃ τ', g_N_placesOfTrain_51 f τ 0 (nI S) (nI fr) x (nI k) = some (nI (fb_ct (om σ fr S H) (E - fr)), τ') ∧ Same σ τ' := by
  have hH := hW.2.2.2.1
  have h60 := hW.h60
  intro r
  induction r with
  | zero =>
    intro k f τ x hf hk q hx
    obtain ⟨f, rfl⟩ : ∃ q, f = q + 1 := ⟨f - 1, by omega⟩
    obtain ⟨g1, g2, hR⟩ := (hW.same q).1
    have hk' : k = H := by omega
    subst hk'
    refine ⟨τ, ?_, q⟩
    rw [g_N_placesOfTrain_51, hR, rg_0_0, ev_drf, gk_1, (hW.same q).2.2.2.2.2.1, ite2_p (nI_le (by omega) (by omega)), e_bitCount, ev_cl2, ct_win hfr h60 hx]
  | succ r ih =>
    intro k f τ x hf hk q hx
    obtain ⟨f, rfl⟩ : ∃ q, f = q + 1 := ⟨f - 1, by omega⟩
    obtain ⟨g1, g2, hR⟩ := (hW.same q).1
    have hin : ns_in (nI k) (ns_ln 3) := ns_inI (show k < 6 by omega) (by decide)
    have m := (hW.m (j := k) (by omega)).same q (by omega)
    obtain ⟨u0, u1, u2, u3, u4, u5, u6, u7⟩ := m.2.1
    rw [g_N_placesOfTrain_51, hR, rg_0_0, ev_drf, gk_1, (hW.same q).2.2.2.2.2.1, ite2_n (nI_ge (by omega) (by omega))]
    cases hb : S.testBit k with
    | false =>
      rw [ite2_p ((tb_0 hS (by omega)).mpr hb), ev_bnd, ← nI_succ]
      exact ih (k + 1) f τ x (by omega) (by omega) q (fun p hp => by rw [hx p hp, om, hb, Bool.false_and, Bool.or_false])
    | true =>
      obtain ⟨τ1, e1, s1⟩ := e_sBy hW q (k := k) (by omega) hfr
      rw [ite2_n (fun w => by rw [(tb_0 hS (by omega)).mp w] at hb; cases hb), ev_drf, gk_1, rg_1_1, ev_drf, gk_3, grd_t hin, ns_ixI (by omega), rg_ml3 g1 g2 (show k < 6 by omega), ev_drf, grd_t (kd_m4 k (by omega)), u1, u3, e1, ev_cl2, ev_bnd, ev_bnd, ← nI_succ]
      refine ih (k + 1) f τ1 _ (by omega) (by omega) s1 (fun p hp => ?_)
      rw [gb_or, hx p hp, gb_jm h60 hfr hp, jp, om, hb, Bool.true_and]
      by_cases c : fr < p ∧ p ≤ E
      · rw [decide_eq_true c, Bool.true_and, Bool.true_and, Bool.true_and]
      · rw [decide_eq_false c]; rfl
theorem e_pot4 {B : Nat} {σ τ : ns_St} {E H S : Nat} (hW : PW B σ E H) (q : Same σ τ) (hS : S < 64) : ∀ (r k f : Nat), r < f → k + r = H → g_N_placesOfTrain_4 f τ 0 (nI S) (nI (mx (gm σ 72) S k)) (nI k) = g_N_placesOfTrain_51 ns_F τ 0 (nI S) (nI (mx (gm σ 72) S H)) 0 0 := by
  have hH := hW.2.2.2.1
  have h60 := hW.h60
  obtain ⟨g1, g2, hR⟩ := (hW.same q).1
  intro r
  induction r with
  | zero =>
    intro k f hf hk
    obtain ⟨f, rfl⟩ : ∃ q, f = q + 1 := ⟨f - 1, by omega⟩
    have hk' : k = H := by omega
    subst hk'
    rw [g_N_placesOfTrain_4, hR, rg_0_0, ev_drf, gk_1, (hW.same q).2.2.2.2.2.1, ite2_p (nI_le (by omega) (by omega))]
  | succ r ih =>
    intro k f hf hk
    obtain ⟨f, rfl⟩ : ∃ q, f = q + 1 := ⟨f - 1, by omega⟩
    have hin : ns_in (nI k) (ns_ln 3) := ns_inI (show k < 6 by omega) (by decide)
    have m := (hW.m (j := k) (by omega)).same q (by omega)
    obtain ⟨u0, u1, u2, u3, u4, u5, u6, u7⟩ := m.2.1
    have b1 : mx (gm σ 72) S k ≤ E := mx_le k (fun j hj => (hW.m (by omega)).1.2.2.2.1)
    have b2 := m.1.2.2.2.1
    have e2 := ih (k + 1) f (by omega) (by omega)
    rw [mx] at e2
    rw [g_N_placesOfTrain_4, hR, rg_0_0, ev_drf, gk_1, (hW.same q).2.2.2.2.2.1, ite2_n (nI_ge (by omega) (by omega))]
    cases hb : S.testBit k with
    | false =>
      rw [hb, if_neg (by decide)] at e2
      rw [ite2_p ((tb_0 hS (by omega)).mpr hb), ev_bnd, ← nI_succ]
      exact e2
    | true =>
      rw [hb, if_pos rfl] at e2
      rw [ite2_n (fun w => by rw [(tb_0 hS (by omega)).mp w] at hb; cases hb), ev_drf, gk_1, rg_1_1, ev_drf, gk_3, grd_t hin, ns_ixI (by omega), rg_ml3 g1 g2 (show k < 6 by omega), ev_drf, grd_t (kd_m4 k (by omega)), u2, e_maxN (by omega) (by omega), ev_cl2, ev_bnd, ← nI_succ]
      exact e2
theorem e_train181 {B : Nat} {σ : ns_St} {E H fr S i : Nat} (hW : PW B σ E H) (hi : fr + i < E) (hS : S < 64) (c : Nat) (kh : ns_St → Nat → Int32 → Int32 → Int32 → Int32 → Option (Int32 × ns_St)) : ∀ (r k f : Nat) (τ : ns_St), r < f → k + r = H → Same σ τ → ∃ τ', g_M_train_181 kh f τ 65 (nI S) (nI fr) (nI c) (nI (fr + i + 1)) (yn (om σ fr S k i = true)) (nI k) = kh τ' 65 (nI S) (nI fr) (nI (c + if om σ fr S H i then 1 else 0)) (nI (fr + i + 1 + 1)) ∧ Same σ τ' := by
  have hH := hW.2.2.2.1
  have h60 := hW.h60
  intro r
  induction r with
  | zero =>
    intro k f τ hf hk q
    obtain ⟨f, rfl⟩ : ∃ q, f = q + 1 := ⟨f - 1, by omega⟩
    have hk' : k = H := by omega
    subst hk'
    refine ⟨τ, ?_, q⟩
    rw [g_M_train_181, (hW.same q).2.2.1, ite2_p (nI_le (by omega) (by omega))]
    cases ho : om σ fr S k i with
    | false => rw [ite2_z (by decide), ev_bnd, ← nI_succ]; rfl
    | true => rw [ite2_y (Eq.refl true), ev_bnd, ev_bnd, ← nI_succ, ← nI_succ]; rfl
  | succ r ih =>
    intro k f τ hf hk q
    obtain ⟨f, rfl⟩ : ∃ q, f = q + 1 := ⟨f - 1, by omega⟩
    rw [g_M_train_181, (hW.same q).2.2.1, ite2_n (nI_ge (by omega) (by omega))]
    cases hb : S.testBit k with
    | false =>
      obtain ⟨τ2, e2, s2⟩ := ih (k + 1) f τ (by omega) (by omega) q
      rw [om, hb, Bool.false_and, Bool.or_false] at e2
      refine ⟨τ2, ?_, s2⟩
      rw [ite2_n (fun w => by rw [(tb_1 hS (by omega)).mp w] at hb; cases hb), ev_bnd, ← nI_succ]
      exact e2
    | true =>
      obtain ⟨τ1, e1, s1⟩ := e_sAt hW q (k := k) (by omega) (S := fr) (p := fr + i + 1) (by omega) (by omega)
      rw [jp_s hi] at e1
      obtain ⟨τ2, e2, s2⟩ := ih (k + 1) f τ1 (by omega) (by omega) s1
      rw [om, hb, Bool.true_and] at e2
      refine ⟨τ2, ?_, s2⟩
      rw [ite2_p ((tb_1 hS (by omega)).mpr hb), e1, ev_cl2]
      cases hj : js (σ.1 69) (gm σ 70 k) fr (gm σ 71 k) (gm σ 73 k) i with
      | false =>
        rw [hj, Bool.or_false] at e2
        rw [ite2_z (by decide), ev_bnd, ← nI_succ]
        exact e2
      | true =>
        rw [hj, Bool.or_true, yn_t rfl] at e2
        rw [ite2_y (Eq.refl true), ev_bnd, ← nI_succ]
        exact e2
theorem e_train166 {B : Nat} {σ : ns_St} {E H fr S : Nat} (hW : PW B σ E H) (hS : S < 64) : ∀ (r i f : Nat) (τ : ns_St), r < f → fr + i + r = E → Same σ τ → ∃ τ', g_M_train_166 f τ 65 (nI S) (nI fr) (nI (fb_ct (om σ fr S H) i)) (nI (fr + i + 1)) = some (nI (fb_ct (om σ fr S H) (E - fr)), τ') ∧ Same σ τ' := by
  have hH := hW.2.2.2.1
  have h60 := hW.h60
  intro r
  induction r with
  | zero =>
    intro i f τ hf hi q
    obtain ⟨f, rfl⟩ : ∃ q, f = q + 1 := ⟨f - 1, by omega⟩
    refine ⟨τ, ?_, q⟩
    rw [g_M_train_166, (hW.same q).2.1, ite2_p (nI_lt (by omega) (by omega)), show E - fr = i by omega]
  | succ r ih =>
    intro i f τ hf hi q
    obtain ⟨f, rfl⟩ : ∃ q, f = q + 1 := ⟨f - 1, by omega⟩
    obtain ⟨τ1, e1, s1⟩ := e_train181 hW (fr := fr) (i := i) (by omega) hS (fb_ct (om σ fr S H) i) (g_M_train_166 f) H 0 ns_F τ (by show H < 10000; omega) (by omega) q
    obtain ⟨τ2, e2, s2⟩ := ih (i + 1) f τ1 (by omega) (by omega) s1
    refine ⟨τ2, ?_, s2⟩
    have e1' : g_M_train_181 (g_M_train_166 f) ns_F τ 65 (nI S) (nI fr) (nI (fb_ct (om σ fr S H) i)) (nI (fr + i + 1)) (0 : Int32) (0 : Int32) = _ := e1
    rw [g_M_train_166, (hW.same q).2.1, ite2_n (nI_nlt (by omega) (by omega)), e1']
    exact e2
theorem k_train {B : Nat} {σ : ns_St} (h : Inv B σ) (hB : B < 2 ^ 26) (x y : Int32) : both B (g_N_train σ 0 x y) (fun σ => g_M_train σ 65 x y) := by
  obtain ⟨g1, g2, hR⟩ := h.1
  obtain ⟨E, H, hW⟩ := PW.of h hB
  have hH := hW.2.2.2.1
  have h60 := hW.h60
  rcases sh_cases x with ⟨s, hs, rfl, hx⟩ | hx
  · have hks := kd_sh s hs
    have b1 := (h.2.2.2.1 s hs).1
    have in67 : ns_in (nI s) (ns_ln 67) := ns_inI hs (by decide)
    rcases r1_cases y (n := 6) (by omega) with ⟨n, hn1, hn, rfl, hy⟩ | hy
    · have hy' : (1 : Int32) ≤ nI n ∧ nI n ≤ (6 : Int32) := hy
      have hN0 : g_N_train σ 0 (nI s) (nI n) = ite2 (trb (σ.1 66 s) = 0) (cl2 (g_N_mulesTold σ 0 (49 + 2 * s) (nI n)) fun r35 σ34 => ite2 (r35 = (-1 : Int32)) (cl2 (g_N_refuse σ34 0 (-2 : Int32)) fun r40 σ39 => some (r40, σ39)) (cl2 (g_N_placesOfTrain σ34 0 r35) fun r38 σ37 => some (r38, σ37))) (cl2 (g_N_refuse σ 0 (trb (σ.1 66 s))) fun r42 σ41 => some (r42, σ41)) := by
        unfold g_N_train
        rw [gk_0, e_shelfAt hR hs hx, ev_cl2, ev_ons, grd_t hks, e_isWithin, ev_cl2, ite2_y hy', e_trb hs, ev_cl2, b1]
      by_cases ht : trb (σ.1 66 s) = 0
      · obtain ⟨z, sz, hS⟩ := h.sr hs ht
        have hsz := hS.2.2.2.2.2.1
        have hM0 : ∀ τ : ns_St, τ.2.2 = ns_rg g1 g2 → τ.1 66 s = σ.1 66 s → τ.1 67 s = nI sz → g_M_train τ 65 (nI s) (nI n) = ite2 (nI n ≤ nI sz) (g_M_train_69 ns_F τ 65 (nI s) (nI n) (0 : Int32) (0 : Int32) (0 : Int32)) (cl2 (g_M_no τ 65 (-2 : Int32)) fun r70 σ69 => some (r70, σ69)) := fun τ q1 q3 q4 => by
          unfold g_M_train
          rw [gk_65, e_within, ev_cl2, ite2_y hx, e_within, ev_cl2, ite2_y hy', e_noRow q1 hs hx (by rw [q3]; exact h.hd hs), ev_cl2, q3, ht, ite2_p (by decide), q1, rg_65_1, ev_drf, gk_67, grd_t in67, ns_ixI (by omega), q4]
        have f66 : (rfN σ 0).1 66 s = σ.1 66 s := by rw [rfN, pI_ne _ _ _ (by decide)]
        have f67 : (rfN σ 0).1 67 s = nI sz := by rw [rfN, pI_ne _ _ _ (by decide)]; exact hS.2.2.2.2.1
        by_cases hnz : n ≤ sz
        · have eT := e_told15 hW hs hS hnz n 0 ns_F 0 (by show n < 10000; omega) (by omega) (by omega)
          have eT' : g_N_mulesTold σ 0 (49 + 2 * s) (nI n) = some (match td (fun i => σ.2.1 68 (40 * s + i)) H n 0 0 with | none => -1 | some S' => nI S', σ) := by
            unfold g_N_mulesTold
            rw [gk_0, grd_t hks, hS.2.2.2.1, ite2_p (nI_le hnz (by omega))]
            exact eT
          cases hT : td (fun i => σ.2.1 68 (40 * s + i)) H n 0 0 with
          | none =>
            rw [hT] at eT'
            have eT2 : g_N_mulesTold σ 0 (49 + 2 * s) (nI n) = some ((-1 : Int32), σ) := eT'
            refine both.bad h hR (z := 0) (by decide) (c := -2) (by decide) (by decide) ?_ ?_
            · rw [hN0, ite2_p ht, eT2, ev_cl2, ite2_p rfl]
            · show g_M_train (rfN σ 0) 65 (nI s) (nI n) = _
              have hWr : PW B (rfN σ 0) E H := hW.torfN
              have hSr : SR (rfN σ 0) s z sz (fun i => σ.2.1 68 (40 * s + i)) := by
                obtain ⟨h1, h2, h3, h4, h5, h6, h7, h8⟩ := hS
                have k : ∀ a, a ≠ 48 → (rfN σ 0).1 a = σ.1 a := fun a ha => by rw [rfN, pI_ne _ _ _ ha]
                exact ⟨h1, by rw [k _ (by omega)]; exact h2, by rw [k _ (by omega)]; exact h3, by rw [k _ (by omega)]; exact h4, by rw [k _ (by omega)]; exact h5, h6, h7, h8⟩
              have e69 := e_train69 hWr (Same.rfl _) hs hSr hnz n 0 ns_F 0 (by show n < 10000; omega) (by omega) (by omega)
              rw [hT, mx_0] at e69
              rw [hM0 (rfN σ 0) hR f66 f67, ite2_p (nI_le hnz (by omega))]
              exact e69
          | some S' =>
            rw [hT] at eT'
            have eT2 : g_N_mulesTold σ 0 (49 + 2 * s) (nI n) = some (nI S', σ) := eT'
            have hS64 := td_lt (V := fun i => σ.2.1 68 (40 * s + i)) hH n 0 0 (by omega) S' hT
            have hfr : mx (gm σ 72) S' H ≤ E := mx_le H (fun j hj => (hW.m hj).1.2.2.2.1)
            obtain ⟨τ1, e1, s1⟩ := e_pot51 hW hfr hS64 H 0 ns_F σ 0 (by show H < 10000; omega) (by omega) (Same.rfl σ) (fun p hp => by rw [gb_0, om, Bool.and_false])
            have e4 := e_pot4 hW (Same.rfl σ) hS64 H 0 ns_F (by show H < 10000; omega) (by omega)
            obtain ⟨g3, g4, hR1⟩ := (hW.same s1).1
            have e69 := e_train69 hW s1 hs hS hnz n 0 ns_F 0 (by show n < 10000; omega) (by omega) (by omega)
            rw [hT, mx_0] at e69
            obtain ⟨τ2, e2, s2⟩ := e_train166 hW (fr := mx (gm σ 72) S' H) hS64 (E - mx (gm σ 72) S' H) 0 ns_F τ1 (by show E - _ < 10000; omega) (by omega) s1
            have eP : g_N_placesOfTrain σ 0 (nI S') = some (nI (fb_ct (om σ (mx (gm σ 72) S' H) S' H) (E - mx (gm σ 72) S' H)), τ1) := by
              unfold g_N_placesOfTrain
              rw [gk_0]
              exact e4.trans e1
            refine ⟨_, τ1, τ2, ?_, Eq.trans ?_ e2, h.same s2⟩
            · rw [hN0, ite2_p ht, eT2, ev_cl2, ite2_n (nI_nm1 (by omega)), eP, ev_cl2]
            · show g_M_train τ1 65 (nI s) (nI n) = _
              unfold g_M_train
              rw [gk_65, e_within, ev_cl2, ite2_y hx, e_within, ev_cl2, ite2_y hy', e_noRow hR1 hs hx (by rw [s1.mi (by omega)]; exact h.hd hs), ev_cl2, s1.mi (a := 66) (by omega), ht, ite2_p (by decide), hR1, rg_65_1, ev_drf, gk_67, grd_t in67, ns_ixI (by omega), s1.mi (a := 67) (by omega), hS.2.2.2.2.1, ite2_p (nI_le hnz (by omega))]
              exact e69
        · have eT' : g_N_mulesTold σ 0 (49 + 2 * s) (nI n) = some ((-1 : Int32), σ) := by
            unfold g_N_mulesTold
            rw [gk_0, grd_t hks, hS.2.2.2.1, ite2_n (nI_ge (by omega) (by omega))]
          refine both.bad h hR (z := 0) (by decide) (c := -2) (by decide) (by decide) ?_ ?_
          · rw [hN0, ite2_p ht, eT', ev_cl2, ite2_p rfl]
          · show g_M_train (rfN σ 0) 65 (nI s) (nI n) = _
            rw [hM0 (rfN σ 0) hR f66 f67, ite2_n (nI_ge (by omega) (by omega))]
      · refine both.trb h hR hs ht (by rw [hN0, ite2_n ht]) (fun z => ?_)
        have f66 : (rfN σ z).1 66 = σ.1 66 := by rw [rfN, pI_ne _ _ _ (by decide)]
        show g_M_train (rfN σ z) 65 (nI s) (nI n) = _
        unfold g_M_train
        rw [gk_65, e_within, ev_cl2, ite2_y hx, e_within, ev_cl2, ite2_y hy', e_noRow (σ := rfN σ z) hR hs hx (by rw [f66]; exact h.hd hs), ev_cl2, f66, ite2_n (trb_neg (h.hd hs) ht)]
    · have hy' : ¬ ((1 : Int32) ≤ y ∧ y ≤ (6 : Int32)) := hy
      refine both.bad h hR (z := 0) (by decide) (c := -2) (by decide) (by decide) ?_ ?_
      · unfold g_N_train
        rw [gk_0, e_shelfAt hR hs hx, ev_cl2, ev_ons, grd_t hks, e_isWithin, ev_cl2, ite2_z hy']
      · show g_M_train (rfN σ 0) 65 (nI s) y = _
        unfold g_M_train
        rw [gk_65, e_within, ev_cl2, ite2_y hx, e_within, ev_cl2, ite2_z hy']
  · refine both.bad h hR (z := 0) (by decide) (c := -2) (by decide) (by decide) ?_ ?_
    · unfold g_N_train
      rw [gk_0, e_shelfAtN hx, ev_cl2, ev_onn]
    · show g_M_train (rfN σ 0) 65 x y = _
      unfold g_M_train
      rw [gk_65, e_within, ev_cl2, ite2_z hx]
