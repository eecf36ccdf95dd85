/-! STOPS seen: PLACES told, each above the one ahead -/
def okv (V : Nat → Int64) (E i : Nat) : Prop := ¬ lg_cmp (V i) 1 < 0 ∧ ¬ 0 < lg_cmp (V i) ((nI E).toInt64) ∧ (0 < i → 0 < lg_cmp (V i) (V (i - 1)))
def qv (V : Nat → Int64) (i : Nat) : Nat := (V i).toBitVec.toNat
theorem qv_of {V : Nat → Int64} {i k : Nat} (hk : k < 2 ^ 63) (e : V i = lN k) : qv V i = k := by
  unfold qv; rw [e, wb_tn (by omega)]
theorem okv.b {V : Nat → Int64} {E i : Nat} (hE : E ≤ 60) (h : okv V E i) : V i = lN (qv V i) ∧ 1 ≤ qv V i ∧ qv V i ≤ E := by
  obtain ⟨h1, h2, _⟩ := h
  have n0 : ¬ V i < 0 := fun q => h1 ((lg_cmp_lt _ _).mpr (by
    rw [Int64.lt_iff_toInt_lt] at *
    have : (0 : Int64).toInt = 0 := by decide
    have : (1 : Int64).toInt = 1 := by decide
    omega))
  obtain ⟨k, hk, e⟩ := pk_lOf n0
  rw [qv_of hk e]
  refine ⟨e, ?_, ?_⟩
  · rcases Nat.lt_or_ge k 1 with g | g
    · exfalso
      refine h1 ((lg_cmp_lt _ _).mpr ?_)
      rw [e]
      exact (pk_lLT (b := 1) hk (by decide)).mpr g
    · exact g
  · rcases Nat.lt_or_ge E k with g | g
    · exfalso
      refine h2 ((lg_cmp_gt _ _).mpr ?_)
      rw [e, nI_l (by omega)]
      exact (pk_lLT (by omega) hk).mpr g
    · exact g
theorem okv.s {V : Nat → Int64} {E i : Nat} (hE : E ≤ 60) (h : okv V E (i + 1)) (h' : okv V E i) : qv V i < qv V (i + 1) := by
  obtain ⟨e1, b1, c1⟩ := h.b hE
  obtain ⟨e2, b2, c2⟩ := h'.b hE
  have h3 := h.2.2 (by omega)
  rw [show i + 1 - 1 = i by omega, e1, e2, lg_cmp_gt] at h3
  exact (pk_lLT (by omega) (by omega)).mp h3
/-- whether a PLACE is among the first k -/
def sn (q : Nat → Nat) : Nat → Nat → Bool
  | 0, _ => false
  | k + 1, p => sn q k p || decide (p = q k)
theorem sn_t {q : Nat → Nat} {p : Nat} : ∀ {k : Nat}, sn q k p = true ↔ ∃ i, i < k ∧ p = q i
  | 0 => ⟨fun h => (by cases h), fun ⟨i, h, _⟩ => absurd h (by omega)⟩
  | k + 1 => by
    rw [sn, Bool.or_eq_true, sn_t, decide_eq_true_iff]
    constructor
    · rintro (⟨i, h1, h2⟩ | h)
      · exact ⟨i, by omega, h2⟩
      · exact ⟨k, by omega, h⟩
    · rintro ⟨i, h1, h2⟩
      by_cases e : i = k
      · subst e; exact Or.inr h2
      · exact Or.inl ⟨i, by omega, h2⟩
theorem l2i60 {n : Nat} (h : n < 2 ^ 31) : (lN n).toInt32 = nI n := by rw [← nI_l h, lg_l2i_i2l]
/-- the one ahead -/
def ahd (V : Nat → Int64) (k : Nat) : Int64 := if k = 0 then 0 else V (k - 1)
theorem ptold_step {B : Nat} {σ : ns_St} {E H : Nat} (hW : PW B σ E H) {s z sz n k f : Nat} {V : Nat → Int64} (hs : s < 8) (hS : SR σ s z sz V) (hn : n ≤ sz) (hk : k < n) (ok : ∀ i, i ≤ k → okv V E i) (x : Int64) : g_N_placesTold_18 (f + 1) σ 0 (49 + 2 * s) (nI n) x (ahd V k) (nI k) = g_N_placesTold_18 f σ 0 (49 + 2 * s) (nI n) (x ||| ((1 : Int64) <<< ((nI (qv V k)).toInt64 &&& 63))) (ahd V (k + 1)) (nI (k + 1)) := by
  obtain ⟨g1, g2, hR⟩ := hW.1
  have h60 := hW.h60
  have hsz := hS.2.2.2.2.2.1
  obtain ⟨e1, b1, c1⟩ := (ok k (by omega)).b h60
  have c2 : ¬ lg_cmp (V k) (ahd V k) ≤ 0 := by
    rw [lg_cmp_le]
    unfold ahd
    by_cases k0 : k = 0
    · subst k0
      rw [if_pos rfl, e1]
      exact fun q => by have := (pk_lLE (b := 0) (by omega) (by decide)).mp q; omega
    · rw [if_neg k0]
      obtain ⟨k', rfl⟩ : ∃ k', k = k' + 1 := ⟨k - 1, by omega⟩
      have hlt := (ok (k' + 1) (by omega)).s h60 (ok k' (by omega))
      obtain ⟨e2, b2, c2⟩ := (ok k' (by omega)).b h60
      rw [show k' + 1 - 1 = k' by omega, e1, e2]
      exact fun q => by have := (pk_lLE (by omega) (by omega)).mp q; omega
  have c3 : lg_cmp (V k) ((σ.1 2 0).toInt64) ≤ 0 := by
    rw [hW.2.2.2.2.1.1, lg_cmp_le, nI_l (by omega), e1]
    exact (pk_lLE (by omega) (by omega)).mpr c1
  rw [g_N_placesTold_18, ite2_n (nI_ge (by omega) (by omega)), hS.cell hR hs (by omega), ev_cl2, ite2_n c2, hR, rg_0_0, ev_drf, gk_1, rg_1_0, ev_drf, gk_2, ite2_p c3, e_bit, ev_cl2, ev_bnd, ev_bnd, ← nI_succ]
  have e4 : (V k).toInt32 = nI (qv V k) := by rw [e1, l2i60 (by omega)]
  rw [e4]
  rfl
theorem ptold_all {B : Nat} {σ : ns_St} {E H : Nat} (hW : PW B σ E H) {s z sz n : Nat} {V : Nat → Int64} (hs : s < 8) (hS : SR σ s z sz V) (hn : n ≤ sz) (ok : ∀ i, i < n → okv V E i) : ∀ (r k f : Nat) (x : Int64), r < f → k + r = n → (∀ p, p < 64 → gb x p = sn (qv V) k p) → ∃ y, g_N_placesTold_18 f σ 0 (49 + 2 * s) (nI n) x (ahd V k) (nI k) = some (y, σ) ∧ ∀ p, p < 64 → gb y p = sn (qv V) n p := by
  have h60 := hW.h60
  have hsz := hS.2.2.2.2.2.1
  intro r
  induction r with
  | zero =>
    intro k f x hf hk hx
    obtain ⟨f, rfl⟩ : ∃ q, f = q + 1 := ⟨f - 1, by omega⟩
    have hk' : k = n := by omega
    subst hk'
    refine ⟨x, ?_, hx⟩
    rw [g_N_placesTold_18, ite2_p (nI_le (by omega) (by omega))]
  | succ r ih =>
    intro k f x hf hk hx
    obtain ⟨f, rfl⟩ : ∃ q, f = q + 1 := ⟨f - 1, by omega⟩
    obtain ⟨e1, b1, c1⟩ := (ok k (by omega)).b h60
    rw [ptold_step hW hs hS hn (by omega) (fun i hi => ok i (by omega))]
    refine ih (k + 1) f _ (by omega) (by omega) (fun p hp => ?_)
    rw [gb_or, gb_bit (by omega), hx p hp, sn]
theorem ptold_bad {B : Nat} {σ : ns_St} {E H : Nat} (hW : PW B σ E H) {s z sz n k0 : Nat} {V : Nat → Int64} (hs : s < 8) (hS : SR σ s z sz V) (hn : n ≤ sz) (hk0 : k0 < n) (ok : ∀ i, i < k0 → okv V E i) (bad : ¬ okv V E k0) : ∀ (r k f : Nat) (x : Int64), r < f → k + r = k0 → g_N_placesTold_18 f σ 0 (49 + 2 * s) (nI n) x (ahd V k) (nI k) = some (0, σ) := by
  obtain ⟨g1, g2, hR⟩ := hW.1
  have h60 := hW.h60
  have hsz := hS.2.2.2.2.2.1
  intro r
  induction r with
  | zero =>
    intro k f x hf hk
    obtain ⟨f, rfl⟩ : ∃ q, f = q + 1 := ⟨f - 1, by omega⟩
    have hk' : k = k0 := by omega
    subst hk'
    rw [g_N_placesTold_18, ite2_n (nI_ge (by omega) (by omega)), hS.cell hR hs (by omega), ev_cl2]
    by_cases c2 : lg_cmp (V k) (ahd V k) ≤ 0
    · rw [ite2_p c2]
    · have c3 : ¬ lg_cmp (V k) ((σ.1 2 0).toInt64) ≤ 0 := by
        intro c3
        rw [hW.2.2.2.2.1.1] at c3
        rw [lg_cmp_le] at c2 c3
        refine bad ⟨fun q => c2 ?_, fun q => ?_, fun q => ?_⟩
        · rw [lg_cmp_lt, Int64.lt_iff_toInt_lt] at q
          have z0 : (0 : Int64).toInt = 0 := by decide
          have z1 : (1 : Int64).toInt = 1 := by decide
          rw [Int64.le_iff_toInt_le]
          unfold ahd
          by_cases k0 : k = 0
          · rw [if_pos k0]; omega
          · rw [if_neg k0]
            obtain ⟨e2, b2, _⟩ := (ok (k - 1) (by omega)).b h60
            have := pk_lT (n := qv V (k - 1)) (by omega)
            rw [← e2] at this
            omega
        · rw [lg_cmp_gt] at q
          exact lg_le_not_lt c3 q
        · rw [lg_cmp_gt]
          unfold ahd at c2
          rw [if_neg (by omega)] at c2
          rcases lg_tri (V (k - 1)) (V k) with w | w | w
          · exact w
          · exact absurd (by rw [w, Int64.le_iff_toInt_le]; omega) c2
          · exact absurd (by rw [Int64.le_iff_toInt_le]; rw [Int64.lt_iff_toInt_lt] at w; omega) c2
      rw [ite2_n c2, hR, rg_0_0, ev_drf, gk_1, rg_1_0, ev_drf, gk_2, ite2_n c3]
  | succ r ih =>
    intro k f x hf hk
    obtain ⟨f, rfl⟩ : ∃ q, f = q + 1 := ⟨f - 1, by omega⟩
    rw [ptold_step hW hs hS hn (by omega) (fun i hi => ok i (by omega))]
    exact ih (k + 1) f _ (by omega) (by omega)
theorem num75_step {B : Nat} {σ τ : ns_St} {E H : Nat} (hW : PW B σ E H) (q : Same σ τ) {s z sz n k f : Nat} {V : Nat → Int64} {w : Int32} (hs : s < 8) (hS : SR σ s z sz V) (hn : n ≤ sz) (hk : k < n) (ok : okv V E k) : g_M_numbers_75 (f + 1) τ 65 (nI s) (nI n) w (nI k) = g_M_numbers_75 f τ 65 (nI s) (nI n) w (nI (k + 1)) := by
  obtain ⟨g1, g2, hR⟩ := (hW.same q).1
  have h60 := hW.h60
  have hsz := hS.2.2.2.2.2.1
  have hS' := hS.same hs q
  have hin : ns_in (nI (40 * s + k)) (ns_ln 68) := ns_inI (show 40 * s + k < 320 by omega) (by decide)
  rw [g_M_numbers_75, ite2_n (nI_ge (by omega) (by omega)), hR, rg_65_2, ev_drf, gk_68, ix40, grd_t hin, ns_ixI (by omega), hS'.2.2.2.2.2.2.2 k (by omega), ev_bnd, (hW.same q).2.1, ite2_n ok.1, ite2_n ok.2.1]
  by_cases k0 : k = 0
  · rw [ite2_p (by rw [k0]; decide), ev_bnd, ← nI_succ]
  · obtain ⟨k', rfl⟩ : ∃ k', k = k' + 1 := ⟨k - 1, by omega⟩
    have hin2 : ns_in (nI (40 * s + k')) (ns_ln 68) := ns_inI (show 40 * s + k' < 320 by omega) (by decide)
    rw [ite2_n (nI_nle (by omega) (by omega)), ev_drf, gk_68, show 40 * s + (k' + 1) = 40 * s + k' + 1 from rfl, nI_pred, grd_t hin2, ns_ixI (by omega), hS'.2.2.2.2.2.2.2 k' (by omega), ite2_p (show 0 < lg_cmp (V (k' + 1)) (V k') from ok.2.2 (by omega)), ev_bnd, ← nI_succ]
theorem num75_all {B : Nat} {σ τ : ns_St} {E H : Nat} (hW : PW B σ E H) (q : Same σ τ) {s z sz n : Nat} {V : Nat → Int64} {w : Int32} (hs : s < 8) (hS : SR σ s z sz V) (hn : n ≤ sz) (ok : ∀ i, i < n → okv V E i) : ∀ (r k f : Nat), r < f → k + r = n → g_M_numbers_75 f τ 65 (nI s) (nI n) w (nI k) = g_M_numbers_160 ns_F τ 65 (nI s) (nI n) w 0 0 2 := by
  have hsz := hS.2.2.2.2.2.1
  intro r
  induction r with
  | zero =>
    intro k f hf hk
    obtain ⟨f, rfl⟩ : ∃ q, f = q + 1 := ⟨f - 1, by omega⟩
    rw [g_M_numbers_75, ite2_p (nI_le (by omega) (by omega))]
  | succ r ih =>
    intro k f hf hk
    obtain ⟨f, rfl⟩ : ∃ q, f = q + 1 := ⟨f - 1, by omega⟩
    rw [num75_step hW q hs hS hn (by omega) (ok k (by omega))]
    exact ih (k + 1) f (by omega) (by omega)
theorem num75_bad {B : Nat} {σ τ : ns_St} {E H : Nat} (hW : PW B σ E H) (q : Same σ τ) {s z sz n k0 : Nat} {V : Nat → Int64} {w : Int32} (hs : s < 8) (hS : SR σ s z sz V) (hn : n ≤ sz) (hk0 : k0 < n) (ok : ∀ i, i < k0 → okv V E i) (bad : ¬ okv V E k0) : ∀ (r k f : Nat), r < f → k + r = k0 → g_M_numbers_75 f τ 65 (nI s) (nI n) w (nI k) = cl2 (g_M_no τ 65 (-2 : Int32)) fun r σ' => some (r, σ') := by
  obtain ⟨g1, g2, hR⟩ := (hW.same q).1
  have h60 := hW.h60
  have hsz := hS.2.2.2.2.2.1
  have hS' := hS.same hs q
  intro r
  induction r with
  | zero =>
    intro k f hf hk
    obtain ⟨f, rfl⟩ : ∃ q, f = q + 1 := ⟨f - 1, by omega⟩
    have hk' : k = k0 := by omega
    subst hk'
    have hin : ns_in (nI (40 * s + k)) (ns_ln 68) := ns_inI (show 40 * s + k < 320 by omega) (by decide)
    rw [g_M_numbers_75, ite2_n (nI_ge (by omega) (by omega)), hR, rg_65_2, ev_drf, gk_68, ix40, grd_t hin, ns_ixI (by omega), hS'.2.2.2.2.2.2.2 k (by omega), ev_bnd, (hW.same q).2.1]
    by_cases c1 : lg_cmp (V k) 1 < 0
    · rw [ite2_p c1]
    · rw [ite2_n c1]
      by_cases c2 : 0 < lg_cmp (V k) ((nI E).toInt64)
      · rw [ite2_p c2]
      · rw [ite2_n c2]
        have k0 : ¬ k = 0 := fun e => bad ⟨c1, c2, fun w => by omega⟩
        obtain ⟨k', rfl⟩ : ∃ k', k = k' + 1 := ⟨k - 1, by omega⟩
        have c3 : ¬ 0 < lg_cmp (V (k' + 1)) (V k') := fun w => bad ⟨c1, c2, fun _ => w⟩
        have hin2 : ns_in (nI (40 * s + k')) (ns_ln 68) := ns_inI (show 40 * s + k' < 320 by omega) (by decide)
        rw [ite2_n (nI_nle (by omega) (by omega)), ev_drf, gk_68, show 40 * s + (k' + 1) = 40 * s + k' + 1 from rfl, nI_pred, grd_t hin2, ns_ixI (by omega), hS'.2.2.2.2.2.2.2 k' (by omega), ite2_n c3]
  | succ r ih =>
    intro k f hf hk
    obtain ⟨f, rfl⟩ : ∃ q, f = q + 1 := ⟨f - 1, by omega⟩
    rw [num75_step hW q hs hS hn (by omega) (ok k (by omega))]
    exact ih (k + 1) f (by omega) (by omega)
/-- whether it would be seen so -/
def wsn (F G : Nat → Bool) : Nat → Nat → Bool
  | 0, _ => true
  | r + 1, k => if F k = G (k + 1) then wsn F G r (k + 1) else false
theorem yn_eq (a b : Bool) : (yn (a = true) = yn (b = true)) ↔ a = b := by
  cases a <;> cases b <;> decide
theorem e_wbs27 {th : Nat → Int32} {E L e c : Nat} {g1 g2 : Option Nat} {x : Int64} {G : Nat → Bool} (h60 : E ≤ 60) (hL : L ≤ E) (he : e ≤ 64) (hc : c < 2 ^ 27) (hx : ∀ p, p < 64 → gb x p = G p) : ∀ (r k f : Nat) (τ : ns_St), r < f → k + r = L → τ.2.2 = ns_rg g1 g2 → GR τ 2 th E → τ.1 46 0 = nI 0 → τ.1 46 7 = nI (wtK 0) → τ.1 46 1 = nI (jr th 0 0 e c k).1 → τ.1 46 2 = nI (0 + k) → τ.1 46 3 = nI (jr th 0 0 e c k).2 →
    ∃ τ', g_N_wouldBeSeen_27 f τ 0 x (nI L) (nI (k + 1)) = some (yn (wsn (js th 0 0 e c) G r k = true), τ') ∧ On 46 τ τ' := by
  intro r
  induction r with
  | zero =>
    intro k f τ hf hk hR hG h0 h7 h1 h2 h3
    obtain ⟨f, rfl⟩ : ∃ q, f = q + 1 := ⟨f - 1, by omega⟩
    refine ⟨τ, ?_, On.rfl _ _⟩
    rw [g_N_wouldBeSeen_27, ite2_p (nI_lt (by omega) (by omega))]
    rfl
  | succ r ih =>
    intro k f τ hf hk hR hG h0 h7 h1 h2 h3
    obtain ⟨f, rfl⟩ : ∃ q, f = q + 1 := ⟨f - 1, by omega⟩
    have bN := jr_N (th := th) (K := 0) (A := 0) (C := c) he k
    have bC := jr_C (th := th) (K := 0) (A := 0) (N := e) (C := c) k
    obtain ⟨t1, t2, t3, t4⟩ := hG.bits (p := 0 + k + 1) (by omega)
    have hs := e_makeStep (σ := τ) (a := 46) (g := 2) (K := 0) (N := (jr th 0 0 e c k).1) (p := 0 + k) (C := (jr th 0 0 e c k).2) (b := 0) kd_46 kd_2 (by omega) (by omega) (by omega) (by omega) (by omega) h0 h1 h2 h3 h7
    rw [t1, t2, t3] at hs
    have hs' : g_Mule_makeStep τ 46 2 (0 : Int32) = some (yn (js th 0 0 e c k = true), s3 τ 46 1 (nI (jr th 0 0 e c (k + 1)).1) (nI (0 + (k + 1))) (nI (jr th 0 0 e c (k + 1)).2)) := hs
    rw [g_N_wouldBeSeen_27, ite2_n (nI_nlt (by omega) (by omega)), hR, rg_0_8, ev_drf, gk_46, rg_0_0, ev_drf, gk_1, rg_1_0, ev_drf, gk_2, hs', ev_cl2, e_isIn (by omega), ev_cl2, hx _ (by omega), wsn]
    generalize hτ' : s3 τ 46 1 (nI (jr th 0 0 e c (k + 1)).1) (nI (0 + (k + 1))) (nI (jr th 0 0 e c (k + 1)).2) = τ'
    have on : On 46 τ τ' := by rw [← hτ']; exact On.s3
    by_cases q : js th 0 0 e c k = G (k + 1)
    · obtain ⟨τ2, e2, on2⟩ := ih (k + 1) f τ' (by omega) (by omega) (by rw [on.1]; exact hR) (hG.cong (on.2 2 (by decide)) (by rw [on.1])) (by rw [← hτ', s3_go _ _ _ _ _ _ (by omega)]; exact h0) (by rw [← hτ', s3_go _ _ _ _ _ _ (by omega)]; exact h7) (by rw [← hτ']; exact s3_g1 _ _ _ _ _ _) (by rw [← hτ']; exact s3_g2 _ _ _ _ _ _) (by rw [← hτ']; exact s3_g3 _ _ _ _ _ _)
      refine ⟨τ2, ?_, on.trans on2⟩
      rw [ite2_p ((yn_eq _ _).mpr q), ev_bnd, ← nI_succ, if_pos q]
      exact e2
    · refine ⟨τ', ?_, on⟩
      rw [ite2_n (fun w => q ((yn_eq _ _).mp w)), if_neg q, yn_f (by decide)]
theorem e_wouldBe {σ τ : ns_St} (hI : Irf σ) (s : Same σ τ) {E L e c : Nat} {x : Int64} {G : Nat → Bool} (hG : GR σ 2 (σ.1 69) E) (hL : L ≤ E) (he : e ≤ 64) (hc : c < 2 ^ 27) (hx : ∀ p, p < 64 → gb x p = G p) (hl : G L = true) (hh : ∀ p, L < p → p < 64 → G p = false) : ∃ τ', g_N_wouldBeSeen τ 0 (nI e) (nI c) x = some (yn (wsn (js (σ.1 69) 0 0 e c) G L 0 = true), τ') ∧ Same σ τ' := by
  obtain ⟨g1, g2, hR⟩ := s.2.2.2 hI
  have h60 := hG.2.2.1
  obtain ⟨τ1, e1, on1, mu⟩ := e_become (σ := τ) (c := 46) (K := 0) (N := e) (O := 0) kd_46 (by omega)
  obtain ⟨u0, u1, u2, u3, u4, u5, u6, u7⟩ := mu
  have hR1 : τ1.2.2 = ns_rg g1 g2 := by rw [on1.1]; exact hR
  have on2 : On 46 τ (ns_pI τ1 46 3 (nI c)) := on1.trans On.pI
  have el := e_lastOf (σ := ns_pI τ1 46 3 (nI c)) (x := x) (k := L) (by omega) (by rw [hx L (by omega)]; exact hl) (fun i h1 h2 => by rw [hx i h2]; exact hh i h1 h2)
  have hGt : GR τ 2 (σ.1 69) E := hG.cong (s.lo (by omega)) (s.2.2.1 2 (nscr_w1 (by omega)))
  obtain ⟨τ2, e2, on3⟩ := e_wbs27 (th := σ.1 69) (E := E) (L := L) (e := e) (c := c) (g1 := g1) (g2 := g2) (x := x) (G := G) h60 hL he hc hx L 0 ns_F (ns_pI τ1 46 3 (nI c)) (by show L < 10000; omega) (by omega) hR1 (hGt.cong (on2.2 2 (by decide)) (by rw [on2.1])) (by rw [pI_st _ _ _ (by decide)]; exact u0) (by rw [pI_st _ _ _ (by decide)]; exact u7) (by rw [pI_st _ _ _ (by decide)]; exact u1) (by rw [pI_st _ _ _ (by decide)]; exact u2) (pI_at _ _ _ _)
  refine ⟨τ2, ?_, s.trans ((on2.trans on3).same scr46)⟩
  have e1' : g_Mule_become τ 46 (0 : Int32) (nI e) (0 : Int32) = some ((), τ1) := e1
  unfold g_N_wouldBeSeen
  rw [gk_0, hR, rg_0_8, ev_drf, gk_46, e1', ev_cl2, hR1, rg_0_8, ev_drf, gk_46, ev_bnd, el, ev_cl2]
  exact e2
/-- all pairs of a NUMBER, all NUMBERS -/
def p19 (W : Nat → Nat → Bool) (e : Nat) : Nat → Nat → Int32 × Int32 → Int32 × Int32
  | 0, _, a => a
  | r + 1, c, a => p19 W e r (c + 1) (if W e c = true then (a.1 + 1, a.2 ||| ((1 : Int32) <<< (nI e &&& 31))) else a)
def p9 (W : Nat → Nat → Bool) : Nat → Nat → Int32 × Int32 → Int32 × Int32
  | 0, _, a => a
  | r + 1, e, a => p9 W r (e + 1) (p19 W e e 0 a)
theorem e_pairs19 {σ : ns_St} (hI : Irf σ) {E L e : Nat} {x : Int64} {G : Nat → Bool} {W : Nat → Nat → Bool} (hW : ∀ e c, W e c = wsn (js (σ.1 69) 0 0 e c) G L 0) (hG : GR σ 2 (σ.1 69) E) (hL : L ≤ E) (he : e ≤ 13) (hx : ∀ p, p < 64 → gb x p = G p) (hl : G L = true) (hh : ∀ p, L < p → p < 64 → G p = false) (b : Int32) (kh : ns_St → Nat → Int64 → Int32 → Int32 → Int32 → Int32 → Option (Int32 × ns_St)) : ∀ (r c f : Nat) (τ : ns_St) (a : Int32 × Int32), r < f → c + r = e → Same σ τ → ∃ τ', g_N_pairsBy_19 kh f τ 0 x b a.1 a.2 (nI e) (nI c) = kh τ' 0 x b (p19 W e r c a).1 (p19 W e r c a).2 (nI (e + 1)) ∧ Same σ τ' := by
  intro r
  induction r with
  | zero =>
    intro c f τ a hf hc s
    obtain ⟨f, rfl⟩ : ∃ q, f = q + 1 := ⟨f - 1, by omega⟩
    refine ⟨τ, ?_, s⟩
    rw [g_N_pairsBy_19, ite2_p (nI_le (by omega) (by omega)), ev_bnd, ← nI_succ]
    rfl
  | succ r ih =>
    intro c f τ a hf hc s
    obtain ⟨f, rfl⟩ : ∃ q, f = q + 1 := ⟨f - 1, by omega⟩
    obtain ⟨τ1, e1, s1⟩ := e_wouldBe hI s (e := e) (c := c) hG hL (by omega) (by omega) hx hl hh
    rw [← hW] at e1
    rw [g_N_pairsBy_19, ite2_n (nI_ge (by omega) (by omega)), e1, ev_cl2, p19]
    cases hw : W e c with
    | false =>
      rw [ite2_z (by decide), ev_bnd, ← nI_succ, if_neg (by decide)]
      exact ih (c + 1) f τ1 a (by omega) (by omega) s1
    | true =>
      rw [ite2_y (Eq.refl true), ev_bnd, ev_bnd, ev_bnd, ← nI_succ, if_pos rfl]
      exact ih (c + 1) f τ1 (a.1 + 1, a.2 ||| ((1 : Int32) <<< (nI e &&& 31))) (by omega) (by omega) s1
theorem e_pairs9 {σ : ns_St} (hI : Irf σ) {E L : Nat} {x : Int64} {G : Nat → Bool} {W : Nat → Nat → Bool} (hW : ∀ e c, W e c = wsn (js (σ.1 69) 0 0 e c) G L 0) (hG : GR σ 2 (σ.1 69) E) (hL : L ≤ E) (hx : ∀ p, p < 64 → gb x p = G p) (hl : G L = true) (hh : ∀ p, L < p → p < 64 → G p = false) (b : Int32) : ∀ (r e f : Nat) (τ : ns_St) (a : Int32 × Int32), r < f → e + r = 14 → Same σ τ → ∃ τ', g_N_pairsBy_9 f τ 0 x b a.1 a.2 (nI e) = some (if b = 0 then (p9 W r e a).1 else (p9 W r e a).2, τ') ∧ Same σ τ' := by
  intro r
  induction r with
  | zero =>
    intro e f τ a hf he s
    obtain ⟨f, rfl⟩ : ∃ q, f = q + 1 := ⟨f - 1, by omega⟩
    refine ⟨τ, ?_, s⟩
    rw [g_N_pairsBy_9, ite2_p (show (13 : Int32) < nI e from nI_lt (a := 13) (by omega) (by omega))]
    by_cases b0 : b = 0
    · rw [ite2_p b0, if_pos b0]; rfl
    · rw [ite2_n b0, if_neg b0]; rfl
  | succ r ih =>
    intro e f τ a hf he s
    obtain ⟨f, rfl⟩ : ∃ q, f = q + 1 := ⟨f - 1, by omega⟩
    obtain ⟨τ1, e1, s1⟩ := e_pairs19 hI hW hG hL (e := e) (by omega) hx hl hh b (g_N_pairsBy_9 f) e 0 ns_F τ a (by show e < 10000; omega) (by omega) s
    obtain ⟨τ2, e2, s2⟩ := ih (e + 1) f τ1 (p19 W e e 0 a) (by omega) (by omega) s1
    refine ⟨τ2, ?_, s2⟩
    have e1' : g_N_pairsBy_19 (g_N_pairsBy_9 f) ns_F τ 0 x b a.1 a.2 (nI e) (0 : Int32) = _ := e1
    rw [g_N_pairsBy_9, ite2_n (show ¬ (13 : Int32) < nI e from nI_nlt (a := 13) (by omega) (by decide)), e1', p9]
    exact e2
theorem e_num205 {σ : ns_St} {s z sz n : Nat} {V : Nat → Int64} (hs : s < 8) (hS : SR σ s z sz V) (hn : n ≤ sz) (hn1 : 0 < n) {E e c L : Nat} (hJ : JC σ E 0 0 e c) (ok : ∀ i, i < n → okv V E i) (hL : L = qv V (n - 1)) (x3 x5 x6 x7 x8 : Int32) (kh160 : ns_St → Nat → Int32 → Int32 → Int32 → Int32 → Int32 → Int32 → Option (Int32 × ns_St)) (kh170 : ns_St → Nat → Int32 → Int32 → Int32 → Int32 → Int32 → Int32 → Int32 → Option (Int32 × ns_St)) : ∀ (r k i f : Nat) (τ : ns_St), r + 1 < f → k + r = L → i ≤ n → (∀ i', i' < i → qv V i' ≤ k) → (i < n → k < qv V i) → At σ τ 0 0 e c k →
    ∃ τ', g_M_numbers_205 kh160 kh170 f τ 65 (nI s) (nI n) x3 x5 x6 x7 x8 (nI i) 1 = g_M_numbers_276 kh160 kh170 τ' 65 (nI s) (nI n) x3 x5 x6 x7 x8 (yn (wsn (js (σ.1 69) 0 0 e c) (sn (qv V) n) r k = true)) ∧ Th σ τ' := by
  have hsz := hS.2.2.2.2.2.1
  have h60 := hJ.2.2.1
  obtain ⟨g1, g2, hR⟩ := hJ.1
  have up : ∀ d i, i + d < n → qv V i + d ≤ qv V (i + d) := by
    intro d
    induction d with
    | zero => intro i _; exact Nat.le_refl _
    | succ d ihd =>
      intro i hi
      have := ihd i (by omega)
      have := (ok (i + d + 1) (by omega)).s h60 (ok (i + d) (by omega))
      show qv V i + (d + 1) ≤ qv V (i + d + 1)
      omega
  have lt : ∀ i j, i < j → j < n → qv V i < qv V j := fun i j h1 h2 => by
    have := up (j - i) i (by omega)
    rw [show i + (j - i) = j by omega] at this
    omega
  have hLE : L ≤ E := by rw [hL]; exact ((ok (n - 1) (by omega)).b h60).2.2
  intro r
  induction r with
  | zero =>
    intro k i f τ hf hk hin h1 h2 hA
    obtain ⟨f, rfl⟩ : ∃ q, f = q + 1 := ⟨f - 1, by omega⟩
    have hi : i = n := by
      rcases Nat.lt_or_ge i n with g | g
      · exfalso
        have := h2 g
        by_cases e' : i = n - 1
        · subst e'; omega
        · have := lt i (n - 1) (by omega) (by omega); omega
      · omega
    refine ⟨τ, ?_, hA.1⟩
    rw [g_M_numbers_205, ite2_n (by decide), ite2_p (nI_le (by omega) (by omega))]
    rfl
  | succ r ih =>
    intro k i f τ hf hk hin h1 h2 hA
    obtain ⟨f, rfl⟩ : ∃ q, f = q + 1 + 1 := ⟨f - 2, by omega⟩
    have hi : i < n := by
      rcases Nat.lt_or_ge i n with g | g
      · exact g
      · exfalso; have := h1 (n - 1) (by omega); omega
    obtain ⟨τ1, e1, hA1⟩ := hA.go hJ (by omega)
    have hin68 : ns_in (nI (40 * s + i)) (ns_ln 68) := ns_inI (show 40 * s + i < 320 by omega) (by decide)
    have p1 : τ1.1 65 27 = nI (0 + k + 1) := hA1.2.2.2.1
    have v1 : τ1.2.1 68 (40 * s + i) = V i := by rw [hA1.1.1]; exact hS.2.2.2.2.2.2.2 _ (by omega)
    obtain ⟨ev, b1, b2⟩ := (ok i hi).b h60
    have hki := h2 hi
    have hsn : sn (qv V) n (k + 1) = decide (qv V i = k + 1) := by
      by_cases q : qv V i = k + 1
      · rw [decide_eq_true q]; exact sn_t.mpr ⟨i, hi, q.symm⟩
      · rw [decide_eq_false q]
        cases hh : sn (qv V) n (k + 1) with
        | false => rfl
        | true =>
          exfalso
          obtain ⟨i', h3, h4⟩ := sn_t.mp hh
          rcases Nat.lt_trichotomy i' i with g | g | g
          · have := h1 i' g; omega
          · subst g; exact q h4.symm
          · have := lt i i' g h3; omega
    have hcmp : lg_cmp (V i) ((nI (0 + k + 1)).toInt64) = 0 ↔ qv V i = k + 1 := by
      rw [lg_cmp_eq, nI_l (by omega), ev, pk_lEQ (by omega) (by omega), qv_of (V := V) (i := i) (k := qv V i) (by omega) ev]
      omega
    rw [g_M_numbers_205, ite2_n (by decide), ite2_n (nI_ge (by omega) (by omega)), e1, ev_cl2, hA1.1.R hR, rg_65_2, ev_drf, gk_68, ix40, grd_t hin68, ns_ixI (by omega), v1, p1, wsn, hsn]
    have stop : ∀ (i2 : Int32), g_M_numbers_205 kh160 kh170 (f + 1) τ1 65 (nI s) (nI n) x3 x5 x6 x7 x8 i2 0 = g_M_numbers_276 kh160 kh170 τ1 65 (nI s) (nI n) x3 x5 x6 x7 x8 (yn (false = true)) := fun i2 => by
      rw [g_M_numbers_205, ite2_p rfl]; rfl
    by_cases q : qv V i = k + 1
    · rw [ite2_p (hcmp.mpr q), decide_eq_true q]
      unfold g_M_numbers_249
      cases hj : js (σ.1 69) 0 0 e c k with
      | true =>
        obtain ⟨τ2, e2, t2⟩ := ih (k + 1) (i + 1) (f + 1) τ1 (by omega) (by omega) (by omega) (fun i' hi' => by
          by_cases e' : i' = i
          · subst e'; omega
          · have := h1 i' (by omega); omega) (fun h => by have := lt i (i + 1) (by omega) h; omega) hA1
        refine ⟨τ2, ?_, t2⟩
        rw [ite2_p (show yn (true = true) = (1 : Int32) from rfl), if_pos rfl]
        unfold g_M_numbers_263
        rw [ite2_n (by decide), ev_bnd, ← nI_succ]
        exact e2
      | false =>
        refine ⟨τ1, ?_, hA1.1⟩
        rw [ite2_n (show ¬ yn (false = true) = (1 : Int32) by decide), if_neg (by decide)]
        unfold g_M_numbers_263
        rw [ite2_n (by decide), ev_bnd]
        exact stop _
    · rw [ite2_n (fun w => q (hcmp.mp w)), decide_eq_false q]
      unfold g_M_numbers_249
      cases hj : js (σ.1 69) 0 0 e c k with
      | true =>
        refine ⟨τ1, ?_, hA1.1⟩
        rw [ite2_n (show ¬ yn (true = true) = (0 : Int32) by decide), if_neg (by decide)]
        unfold g_M_numbers_263
        rw [ite2_p rfl]
        exact stop _
      | false =>
        obtain ⟨τ2, e2, t2⟩ := ih (k + 1) i (f + 1) τ1 (by omega) (by omega) (by omega) (fun i' hi' => by have := h1 i' hi'; omega) (fun h => by have := h2 h; omega) hA1
        refine ⟨τ2, ?_, t2⟩
        rw [ite2_p (show yn (false = true) = (0 : Int32) from rfl), if_pos rfl]
        unfold g_M_numbers_263
        rw [ite2_p rfl]
        exact e2
theorem e_num170 {B : Nat} {σ : ns_St} {E H : Nat} (hW : PW B σ E H) {s z sz n : Nat} {V : Nat → Int64} (hs : s < 8) (hS : SR σ s z sz V) (hn : n ≤ sz) (hn1 : 0 < n) {e L : Nat} {W : Nat → Nat → Bool} (hWf : ∀ e c, W e c = wsn (js (σ.1 69) 0 0 e c) (sn (qv V) n) L 0) (ok : ∀ i, i < n → okv V E i) (hL : L = qv V (n - 1)) (he : e ≤ 13) (x3 : Int32) (kh : ns_St → Nat → Int32 → Int32 → Int32 → Int32 → Int32 → Int32 → Option (Int32 × ns_St)) : ∀ (r c f : Nat) (τ : ns_St) (a : Int32 × Int32), r < f → c + r = e → Same σ τ → ∃ τ', g_M_numbers_170 kh f τ 65 (nI s) (nI n) x3 a.1 a.2 (nI e) (nI c) = kh τ' 65 (nI s) (nI n) x3 (p19 W e r c a).1 (p19 W e r c a).2 (nI (e + 1)) ∧ Same σ τ' := by
  have h60 := hW.h60
  intro r
  induction r with
  | zero =>
    intro c f τ a hf hc q
    obtain ⟨f, rfl⟩ : ∃ q, f = q + 1 := ⟨f - 1, by omega⟩
    refine ⟨τ, ?_, q⟩
    rw [g_M_numbers_170, ite2_p (nI_le (by omega) (by omega)), ev_bnd, ← nI_succ]
    rfl
  | succ r ih =>
    intro c f τ a hf hc q
    obtain ⟨f, rfl⟩ : ∃ q, f = q + 1 := ⟨f - 1, by omega⟩
    have hLE : L ≤ E := by rw [hL]; exact ((ok (n - 1) (by omega)).b h60).2.2
    have hJ : JC τ E 0 0 e c := ⟨(hW.same q).1, (hW.same q).2.1, h60, by omega, by omega, by omega, by omega⟩
    have hA : At τ (ns_pI (ns_pI (ns_pI (ns_pI τ 65 25 0) 65 26 (nI e)) 65 27 0) 65 28 (nI c)) 0 0 e c 0 := by
      refine ⟨(((Th.pI (by omega)).trans (Th.pI (by omega))).trans (Th.pI (by omega))).trans (Th.pI (by omega)), ?_, ?_, ?_, ?_⟩
      · rw [pI_st _ _ _ (by decide), pI_st _ _ _ (by decide), pI_st _ _ _ (by decide), pI_at]; rfl
      · rw [pI_st _ _ _ (by decide), pI_st _ _ _ (by decide), pI_at]; rfl
      · rw [pI_st _ _ _ (by decide), pI_at]; rfl
      · rw [pI_at]; rfl
    obtain ⟨τ1, e1, t1⟩ := e_num205 hs (hS.same hs q) hn hn1 hJ ok hL x3 a.1 a.2 (nI e) (nI c) kh (g_M_numbers_170 kh f) L 0 0 ns_F _ (by show L + 1 < 10000; omega) (by omega) (by omega) (fun i' hi' => absurd hi' (by omega)) (fun _ => ((ok 0 hn1).b h60).2.1) hA
    rw [q.mi (a := 69) (by omega), ← hWf] at e1
    have q1 := q.trans t1.same
    have e1' : g_M_numbers_205 kh (g_M_numbers_170 kh f) ns_F (ns_pI (ns_pI (ns_pI (ns_pI τ 65 25 0) 65 26 (nI e)) 65 27 0) 65 28 (nI c)) 65 (nI s) (nI n) x3 a.1 a.2 (nI e) (nI c) (0 : Int32) 1 = _ := e1
    rw [g_M_numbers_170, ite2_n (nI_ge (by omega) (by omega)), ev_bnd, ev_bnd, ev_bnd, ev_bnd, e1', p19]
    unfold g_M_numbers_276
    cases hw : W e c with
    | false =>
      rw [ite2_z (by decide), ev_bnd, ← nI_succ, if_neg (by decide)]
      exact ih (c + 1) f τ1 a (by omega) (by omega) q1
    | true =>
      rw [ite2_y (Eq.refl true), ev_bnd, ev_bnd, ev_bnd, ← nI_succ, if_pos rfl]
      exact ih (c + 1) f τ1 (a.1 + 1, a.2 ||| ((1 : Int32) <<< (nI e &&& 31))) (by omega) (by omega) q1
theorem e_num160 {B : Nat} {σ : ns_St} {E H : Nat} (hW : PW B σ E H) {s z sz n : Nat} {V : Nat → Int64} (hs : s < 8) (hS : SR σ s z sz V) (hn : n ≤ sz) (hn1 : 0 < n) {L : Nat} {W : Nat → Nat → Bool} (hWf : ∀ e c, W e c = wsn (js (σ.1 69) 0 0 e c) (sn (qv V) n) L 0) (ok : ∀ i, i < n → okv V E i) (hL : L = qv V (n - 1)) (b : Int32) : ∀ (r e f : Nat) (τ : ns_St) (a : Int32 × Int32), r < f → e + r = 14 → Same σ τ → ∃ τ', g_M_numbers_160 f τ 65 (nI s) (nI n) b a.1 a.2 (nI e) = some (if b = 0 then (p9 W r e a).1 else (p9 W r e a).2, τ') ∧ Same σ τ' := by
  intro r
  induction r with
  | zero =>
    intro e f τ a hf he q
    obtain ⟨f, rfl⟩ : ∃ q, f = q + 1 := ⟨f - 1, by omega⟩
    refine ⟨τ, ?_, q⟩
    rw [g_M_numbers_160, ite2_p (show (14 : Int32) ≤ nI e from nI_le (a := 14) (by omega) (by omega))]
    by_cases b0 : b = 0
    · rw [ite2_p b0, if_pos b0]; rfl
    · rw [ite2_n b0, if_neg b0]; rfl
  | succ r ih =>
    intro e f τ a hf he q
    obtain ⟨f, rfl⟩ : ∃ q, f = q + 1 := ⟨f - 1, by omega⟩
    obtain ⟨τ1, e1, s1⟩ := e_num170 hW hs hS hn hn1 hWf ok hL (e := e) (by omega) b (g_M_numbers_160 f) e 0 ns_F τ a (by show e < 10000; omega) (by omega) q
    obtain ⟨τ2, e2, s2⟩ := ih (e + 1) f τ1 (p19 W e e 0 a) (by omega) (by omega) s1
    refine ⟨τ2, ?_, s2⟩
    have e1' : g_M_numbers_170 (g_M_numbers_160 f) ns_F τ 65 (nI s) (nI n) b a.1 a.2 (nI e) (0 : Int32) = _ := e1
    rw [g_M_numbers_160, ite2_n (show ¬ (14 : Int32) ≤ nI e from nI_ge (b := 14) (by omega) (by decide)), e1', p9]
    exact e2
theorem k_numbers {B : Nat} {σ : ns_St} (h : Inv B σ) (hB : B < 2 ^ 26) (x y w : Int32) : both B (g_N_numbers σ 0 x y w) (fun σ => g_M_numbers σ 65 x y w) := by
  obtain ⟨g1, g2, hR⟩ := h.1
  obtain ⟨E, H, hW⟩ := PW.of h hB
  have h60 := hW.h60
  rcases sh_cases x with ⟨s, hs, rfl, hx⟩ | hx
  · have hks := kd_sh s hs
    have b1 := (h.2.2.2.1 s hs).1
    have in67 : ns_in (nI s) (ns_ln 67) := ns_inI hs (by decide)
    rcases r1_cases y (n := 40) (by omega) with ⟨n, hn1, hn, rfl, hy⟩ | hy
    · have hy' : (1 : Int32) ≤ nI n ∧ nI n ≤ (40 : Int32) := hy
      by_cases hw : (0 : Int32) ≤ w ∧ w ≤ (1 : Int32)
      · have hN0 : g_N_numbers σ 0 (nI s) (nI n) w = ite2 (trb (σ.1 66 s) = 0) (cl2 (g_N_placesTold σ 0 (49 + 2 * s) (nI n)) fun r48 σ47 => ite2 ((lg_cmp r48 (0 : Int64)) = 0) (cl2 (g_N_refuse σ47 0 (-2 : Int32)) fun r56 σ55 => some (r56, σ55)) (ite2 (w = (1 : Int32)) (cl2 (g_N_pairsBy σ47 0 r48 (1 : Int32)) fun r54 σ53 => some (r54, σ53)) (cl2 (g_N_pairsBy σ47 0 r48 (0 : Int32)) fun r52 σ51 => some (r52, σ51)))) (cl2 (g_N_refuse σ 0 (trb (σ.1 66 s))) fun r58 σ57 => some (r58, σ57)) := by
          unfold g_N_numbers
          rw [gk_0, e_shelfAt hR hs hx, ev_cl2, ev_ons, grd_t hks, e_isWithin, ev_cl2, ite2_y hy', e_isWithin, ev_cl2, ite2_y hw, e_trb hs, ev_cl2, b1]
        by_cases ht : trb (σ.1 66 s) = 0
        · obtain ⟨z, sz, hS⟩ := h.sr hs ht
          have hsz := hS.2.2.2.2.2.1
          have hM0 : ∀ τ : ns_St, τ.2.2 = ns_rg g1 g2 → τ.1 66 s = σ.1 66 s → τ.1 67 s = nI sz → g_M_numbers τ 65 (nI s) (nI n) w = ite2 (nI n ≤ nI sz) (g_M_numbers_75 ns_F τ 65 (nI s) (nI n) w (0 : Int32)) (cl2 (g_M_no τ 65 (-2 : Int32)) fun r70 σ69 => some (r70, σ69)) := fun τ q1 q3 q4 => by
            unfold g_M_numbers
            rw [gk_65, e_within, ev_cl2, ite2_y hx, e_within, ev_cl2, ite2_y hy', e_within, ev_cl2, ite2_y hw, e_noRow q1 hs hx (by rw [q3]; exact h.hd hs), ev_cl2, q3, ht, ite2_p (by decide), q1, rg_65_1, ev_drf, gk_67, grd_t in67, ns_ixI (by omega), q4]
          have f66 : (rfN σ 0).1 66 s = σ.1 66 s := by rw [rfN, pI_ne _ _ _ (by decide)]
          have f67 : (rfN σ 0).1 67 s = nI sz := by rw [rfN, pI_ne _ _ _ (by decide)]; exact hS.2.2.2.2.1
          by_cases hnz : n ≤ sz
          · by_cases hok : ∀ i, i < n → okv (fun i => σ.2.1 68 (40 * s + i)) E i
            · obtain ⟨m, e1, hm⟩ := ptold_all hW hs hS hnz hok n 0 ns_F 0 (by show n < 10000; omega) (by omega) (fun p hp => by rw [gb_0]; rfl)
              have eT : g_N_placesTold σ 0 (49 + 2 * s) (nI n) = some (m, σ) := by
                unfold g_N_placesTold
                rw [gk_0, grd_t hks, hS.2.2.2.1, ite2_p (nI_le hnz (by omega))]
                exact e1
              obtain ⟨ev, bq1, bq2⟩ := (hok (n - 1) (by omega)).b h60
              have lt : ∀ d i, i + d < n → qv (fun i => σ.2.1 68 (40 * s + i)) i + d ≤ qv (fun i => σ.2.1 68 (40 * s + i)) (i + d) := by
                intro d
                induction d with
                | zero => intro i _; exact Nat.le_refl _
                | succ d ihd =>
                  intro i hi
                  have := ihd i (by omega)
                  have := (hok (i + d + 1) (by omega)).s h60 (hok (i + d) (by omega))
                  show _ + (d + 1) ≤ qv _ (i + d + 1)
                  omega
              have hl : sn (qv (fun i => σ.2.1 68 (40 * s + i))) n (qv (fun i => σ.2.1 68 (40 * s + i)) (n - 1)) = true := sn_t.mpr ⟨n - 1, by omega, rfl⟩
              have hh : ∀ p, qv (fun i => σ.2.1 68 (40 * s + i)) (n - 1) < p → p < 64 → sn (qv (fun i => σ.2.1 68 (40 * s + i))) n p = false := fun p h1 _ => by
                cases hc : sn (qv (fun i => σ.2.1 68 (40 * s + i))) n p with
                | false => rfl
                | true =>
                  exfalso
                  obtain ⟨i, h3, h4⟩ := sn_t.mp hc
                  have := lt (n - 1 - i) i (by omega)
                  rw [show i + (n - 1 - i) = n - 1 by omega] at this
                  omega
              have mnz : ¬ lg_cmp m 0 = 0 := fun q => by
                have := gb_zc.mp q (qv (fun i => σ.2.1 68 (40 * s + i)) (n - 1)) (by omega)
                rw [hm _ (by omega), hl] at this
                cases this
              have main : ∀ b : Int32, (w = 1 ↔ b = 1) → (b = 0 ∨ b = 1) → ∃ r τ1 τ2, g_N_pairsBy σ 0 m b = some (r, τ1) ∧ g_M_numbers τ1 65 (nI s) (nI n) w = some (r, τ2) ∧ Same σ τ2 := by
                intro b hb hb01
                obtain ⟨τ1, e2, s2⟩ := e_pairs9 h.1 (fun e c => rfl) hW.2.2.2.2.1 (L := qv (fun i => σ.2.1 68 (40 * s + i)) (n - 1)) bq2 hm hl hh b 12 2 ns_F σ (0, 0) (by show 12 < 10000; omega) (by omega) (Same.rfl σ)
                obtain ⟨τ2, e3, s3⟩ := e_num160 hW hs hS hnz (by omega) (fun e c => rfl) hok rfl w 12 2 ns_F τ1 (0, 0) (by show 12 < 10000; omega) (by omega) s2
                obtain ⟨g3, g4, hR1⟩ := (hW.same s2).1
                have e75 := num75_all hW s2 (w := w) hs hS hnz hok n 0 ns_F (by show n < 10000; omega) (by omega)
                have hwb : (w = 0) ↔ (b = 0) := by
                  have w01 : w = 0 ∨ w = 1 := by
                    obtain ⟨j, hj1, hj2⟩ := ns_rng (x := w) (n := 1) (by omega) hw
                    rcases (by omega : j = 0 ∨ j = 1) with rfl | rfl
                    · exact Or.inl hj2
                    · exact Or.inr hj2
                  rcases w01 with rfl | rfl
                  · rcases hb01 with rfl | rfl
                    · exact ⟨fun _ => rfl, fun _ => rfl⟩
                    · exact absurd (hb.mpr rfl) (by decide)
                  · rcases hb01 with rfl | rfl
                    · exact absurd (hb.mp rfl) (by decide)
                    · exact ⟨fun q => absurd q (by decide), fun q => absurd q (by decide)⟩
                refine ⟨_, τ1, τ2, ?_, Eq.trans ?_ e3, s3⟩
                · unfold g_N_pairsBy
                  rw [gk_0]
                  refine Eq.trans e2 ?_
                  by_cases b0 : b = 0
                  · rw [if_pos b0, if_pos (hwb.mpr b0)]
                  · rw [if_neg b0, if_neg (fun q => b0 (hwb.mp q))]
                · unfold g_M_numbers
                  rw [gk_65, e_within, ev_cl2, ite2_y hx, e_within, ev_cl2, ite2_y hy', e_within, ev_cl2, ite2_y hw, e_noRow hR1 hs hx (by rw [s2.mi (by omega)]; exact h.hd hs), ev_cl2, s2.mi (a := 66) (by omega), ht, ite2_p (by decide), hR1, rg_65_1, ev_drf, gk_67, grd_t in67, ns_ixI (by omega), s2.mi (a := 67) (by omega), hS.2.2.2.2.1, ite2_p (nI_le hnz (by omega))]
                  exact e75
              by_cases w1 : w = 1
              · obtain ⟨r, τ1, τ2, q1, q2, q3⟩ := main 1 ⟨fun _ => rfl, fun _ => w1⟩ (Or.inr rfl)
                refine ⟨r, τ1, τ2, ?_, q2, h.same q3⟩
                rw [hN0, ite2_p ht, eT, ev_cl2, ite2_n mnz, ite2_p w1, q1, ev_cl2]
              · obtain ⟨r, τ1, τ2, q1, q2, q3⟩ := main 0 ⟨fun q => absurd q w1, fun q => absurd q (by decide)⟩ (Or.inl rfl)
                refine ⟨r, τ1, τ2, ?_, q2, h.same q3⟩
                rw [hN0, ite2_p ht, eT, ev_cl2, ite2_n mnz, ite2_n w1, q1, ev_cl2]
            · obtain ⟨k0, hk0, hbad, hfirst⟩ : ∃ k0, k0 < n ∧ ¬ okv (fun i => σ.2.1 68 (40 * s + i)) E k0 ∧ ∀ i, i < k0 → okv (fun i => σ.2.1 68 (40 * s + i)) E i := by
                obtain ⟨k0, p1, p2⟩ := pk_least (fun i => i < n ∧ ¬ okv (fun i => σ.2.1 68 (40 * s + i)) E i) (Classical.byContradiction fun hno => hok fun i hi => Classical.byContradiction fun hb => hno ⟨i, hi, hb⟩)
                exact ⟨k0, p1.1, p1.2, fun i hi => Classical.byContradiction fun hb => p2 i hi ⟨by omega, hb⟩⟩
              have e1 := ptold_bad hW hs hS hnz hk0 hfirst hbad k0 0 ns_F 0 (by show k0 < 10000; omega) (by omega)
              have eT : g_N_placesTold σ 0 (49 + 2 * s) (nI n) = some (0, σ) := by
                unfold g_N_placesTold
                rw [gk_0, grd_t hks, hS.2.2.2.1, ite2_p (nI_le hnz (by omega))]
                exact e1
              refine both.bad h hR (z := 0) (by decide) (c := -2) (by decide) (by decide) ?_ ?_
              · rw [hN0, ite2_p ht, eT, ev_cl2, ite2_p ((lg_cmp_eq _ _).mpr rfl)]
              · show g_M_numbers (rfN σ 0) 65 (nI s) (nI n) w = _
                have hWr : PW B (rfN σ 0) E H := hW.torfN
                have hSr : SR (rfN σ 0) s z sz (fun i => σ.2.1 68 (40 * s + i)) := by
                  obtain ⟨h1, h2, h3, h4, h5, h6, h7, h8⟩ := hS
                  have k : ∀ a, a ≠ 48 → (rfN σ 0).1 a = σ.1 a := fun a ha => by rw [rfN, pI_ne _ _ _ ha]
                  exact ⟨h1, by rw [k _ (by omega)]; exact h2, by rw [k _ (by omega)]; exact h3, by rw [k _ (by omega)]; exact h4, by rw [k _ (by omega)]; exact h5, h6, h7, h8⟩
                rw [hM0 (rfN σ 0) hR f66 f67, ite2_p (nI_le hnz (by omega))]
                exact num75_bad hWr (Same.rfl _) hs hSr hnz hk0 hfirst hbad k0 0 ns_F (by show k0 < 10000; omega) (by omega)
          · have eT : g_N_placesTold σ 0 (49 + 2 * s) (nI n) = some (0, σ) := by
              unfold g_N_placesTold
              rw [gk_0, grd_t hks, hS.2.2.2.1, ite2_n (nI_ge (by omega) (by omega))]
            refine both.bad h hR (z := 0) (by decide) (c := -2) (by decide) (by decide) ?_ ?_
            · rw [hN0, ite2_p ht, eT, ev_cl2, ite2_p ((lg_cmp_eq _ _).mpr rfl)]
            · show g_M_numbers (rfN σ 0) 65 (nI s) (nI n) w = _
              rw [hM0 (rfN σ 0) hR f66 f67, ite2_n (nI_ge (by omega) (by omega))]
        · refine both.trb h hR hs ht (by rw [hN0, ite2_n ht]) (fun z => ?_)
          have f66 : (rfN σ z).1 66 = σ.1 66 := by rw [rfN, pI_ne _ _ _ (by decide)]
          show g_M_numbers (rfN σ z) 65 (nI s) (nI n) w = _
          unfold g_M_numbers
          rw [gk_65, e_within, ev_cl2, ite2_y hx, e_within, ev_cl2, ite2_y hy', e_within, ev_cl2, ite2_y hw, e_noRow (σ := rfN σ z) hR hs hx (by rw [f66]; exact h.hd hs), ev_cl2, f66, ite2_n (trb_neg (h.hd hs) ht)]
      · refine both.bad h hR (z := 0) (by decide) (c := -2) (by decide) (by decide) ?_ ?_
        · unfold g_N_numbers
          rw [gk_0, e_shelfAt hR hs hx, ev_cl2, ev_ons, grd_t hks, e_isWithin, ev_cl2, ite2_y hy', e_isWithin, ev_cl2, ite2_z hw]
        · show g_M_numbers (rfN σ 0) 65 (nI s) (nI n) w = _
          unfold g_M_numbers
          rw [gk_65, e_within, ev_cl2, ite2_y hx, e_within, ev_cl2, ite2_y hy', e_within, ev_cl2, ite2_z hw]
    · have hy' : ¬ ((1 : Int32) ≤ y ∧ y ≤ (40 : Int32)) := hy
      refine both.bad h hR (z := 0) (by decide) (c := -2) (by decide) (by decide) ?_ ?_
      · unfold g_N_numbers
        rw [gk_0, e_shelfAt hR hs hx, ev_cl2, ev_ons, grd_t hks, e_isWithin, ev_cl2, ite2_z hy']
      · show g_M_numbers (rfN σ 0) 65 (nI s) y w = _
        unfold g_M_numbers
        rw [gk_65, e_within, ev_cl2, ite2_y hx, e_within, ev_cl2, ite2_z hy']
  · refine both.bad h hR (z := 0) (by decide) (c := -2) (by decide) (by decide) ?_ ?_
    · unfold g_N_numbers
      rw [gk_0, e_shelfAtN hx, ev_cl2, ev_onn]
    · show g_M_numbers (rfN σ 0) 65 x y w = _
      unfold g_M_numbers
      rw [gk_65, e_within, ev_cl2, ite2_z hx]
