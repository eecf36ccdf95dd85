/-! the pass, and what is no part of the world there is -/
def Fr (σ σ' : ns_St) : Prop := (∀ c, (c = 0 ∨ 10 ≤ c ∧ c < 19 ∨ 28 ≤ c ∧ c ≤ 30 ∨ 48 ≤ c ∧ c ≤ 68 ∧ c ≠ 65 ∨ 76 ≤ c ∧ c ≤ 78) → σ'.1 c = σ.1 c) ∧ (∀ c, (c = 11 ∨ 49 ≤ c ∧ c ≤ 68) → σ'.2.1 c = σ.2.1 c) ∧ σ'.1 65 15 = σ.1 65 15 ∧ σ'.1 65 22 = σ.1 65 22
theorem Inv.wld {B B' : Nat} {σ σ' : ns_St} (h : Inv B σ) (hB : B ≤ B') (hr : Irf σ') (hW : Wnow σ' B') (fr : Fr σ σ') (h5 : (σ.1 65 5).toNatClampNeg ≤ (σ'.1 65 5).toNatClampNeg) : Inv B' σ' := by
  obtain ⟨hrf, hw, him, hsh, htp, hrs⟩ := Inv.mono hB h
  obtain ⟨f1, f2, f3, f4⟩ := fr
  refine ⟨hr, hW, him.cong (by rw [f1 0 (by omega)]) f4 (fun c _ _ => f1 c (by omega)) (f2 11 (by omega)) (f1 78 (by omega)), ?_, htp.cong (f1 29 (by omega)) (f1 30 (by omega)) (f1 76 (by omega)) f3, hrs.cong (f1 48 (by omega)) (f1 77 (by omega))⟩
  intro s hs
  obtain ⟨b1, b2, b3, b4, b5⟩ := hsh s hs
  rw [f1 (49 + 2 * s) (by omega), f1 66 (by omega), f1 67 (by omega), f2 (50 + 2 * s) (by omega), f2 68 (by omega)]
  exact ⟨b1, b2, b3, b4.imp id (fun q => q.imp id (fun ⟨j, q1, q2⟩ => ⟨j, q1, by omega⟩)), b5⟩
theorem pI_id {σ : ns_St} {a k : Nat} {v : Int32} (h : σ.1 a k = v) : ns_pI σ a k v = σ := by
  have : va_up σ.1 a (va_up (σ.1 a) k v) = σ.1 := by
    funext b
    by_cases hb : b = a
    · subst hb
      rw [va_up_self]
      funext j
      by_cases hj : j = k
      · subst hj; rw [va_up_self, h]
      · rw [va_up_ne _ _ hj]
    · rw [va_up_ne _ _ hb]
  show (_, σ.2.1, σ.2.2) = σ
  rw [this]
/-- what is at a PLACE, by numbers -/
theorem tb16 : ∀ v, v < 16 → ∀ w, w < 4 → tb (nI v) (nI (2 ^ w)) = v.testBit w := by decide +kernel
theorem tb16x : ∀ v, v < 16 → ∀ w, w < 4 → ∀ u, u < 4 → tb (nI v ^^^ nI (2 ^ w)) (nI (2 ^ u)) = (tb (nI v) (nI (2 ^ u)) != decide (u = w)) := by decide +kernel
theorem tb16o : ∀ v, v < 16 → ∀ w, w < 4 → ∀ u, u < 4 → tb (nI v ||| nI (2 ^ w)) (nI (2 ^ u)) = (tb (nI v) (nI (2 ^ u)) || decide (u = w)) := by decide +kernel
theorem x16 : ∀ v, v < 16 → ∀ w, w < 4 → nI v ^^^ nI (2 ^ w) = nI (v ^^^ 2 ^ w) ∧ v ^^^ 2 ^ w < 16 ∧ nI v ||| nI (2 ^ w) = nI (v ||| 2 ^ w) ∧ v ||| 2 ^ w < 16 := by decide +kernel
theorem z16 : ∀ v, v < 16 → (nI v = 0 ↔ (tb (nI v) 1 = false ∧ tb (nI v) 2 = false ∧ tb (nI v) 4 = false ∧ tb (nI v) 8 = false)) := by decide +kernel
theorem sh16 : ∀ w, w < 4 → (1 : Int32) <<< (nI w &&& 31) = nI (2 ^ w) := by decide +kernel
theorem GR.w {σ : ns_St} {g E : Nat} {th : Nat → Int32} (h : GR σ g th E) {w p : Nat} (hw : w < 4) (hp : p < 64) : gb (σ.2.1 g (w + 1)) p = (decide (p ≤ E) && tb (th p) (nI (2 ^ w))) := by
  have := h.2.2.2.1 p hp
  rcases (by omega : w = 0 ∨ w = 1 ∨ w = 2 ∨ w = 3) with rfl | rfl | rfl | rfl
  · exact this.1
  · exact this.2.1
  · exact this.2.2.1
  · exact this.2.2.2
theorem GR.wi {σ : ns_St} {g E : Nat} {th : Nat → Int32} (h : GR σ g th E) {w p : Nat} (hw : w < 4) (hp : p ≤ E) : gb (σ.2.1 g (w + 1)) p = tb (th p) (nI (2 ^ w)) := by
  rw [h.w hw (by have := h.2.2.1; omega), decide_eq_true hp, Bool.true_and]
theorem GR.mk {σ : ns_St} {g E : Nat} {th : Nat → Int32} (h0 : σ.1 g 0 = nI E) (h1 : 1 ≤ E) (h2 : E ≤ 60) (h3 : ∀ w p, w < 4 → p < 64 → gb (σ.2.1 g (w + 1)) p = (decide (p ≤ E) && tb (th p) (nI (2 ^ w)))) (h4 : ∀ p, p ≤ 60 → (∃ v, v < 16 ∧ th p = nI v) ∧ (E < p → th p = 0)) : GR σ g th E :=
  ⟨h0, h1, h2, fun p hp => ⟨h3 0 p (by omega) hp, h3 1 p (by omega) hp, h3 2 p (by omega) hp, h3 3 p (by omega) hp⟩, h4⟩
theorem e_allOf {σ : ns_St} {g w : Nat} (hg : ns_kd g = 1) (hw : w < 4) : g_Ground_allOf σ g (nI w) = some (σ.2.1 g (w + 1), σ) := by
  unfold g_Ground_allOf
  rw [grd_t hg]
  rcases (by omega : w = 0 ∨ w = 1 ∨ w = 2 ∨ w = 3) with rfl | rfl | rfl | rfl
  · rw [ite2_p (by decide)]
  · rw [ite2_n (by decide), ite2_p (by decide)]
  · rw [ite2_n (by decide), ite2_n (by decide), ite2_p (by decide)]
  · rw [ite2_n (by decide), ite2_n (by decide), ite2_n (by decide)]
theorem e_bit {σ : ns_St} (x : Int32) : g_N_bit σ x = some ((1 : Int64) <<< (x.toInt64 &&& 63), σ) := rfl
/-- mark: the mask's bit, and nothing else -/
def mkJ (σ : ns_St) (g w p : Nat) (b : Bool) : ns_St := ns_pJ σ g (w + 1) (if b = true then σ.2.1 g (w + 1) ||| (1 : Int64) <<< ((nI p).toInt64 &&& 63) else σ.2.1 g (w + 1) &&& (((1 : Int64) <<< ((nI p).toInt64 &&& 63)) ^^^ (-1)))
theorem e_mark {σ : ns_St} {g w p : Nat} (hg : ns_kd g = 1) (hw : w < 4) (b : Bool) : g_Ground_mark σ g (nI w) (nI p) (yn (b = true)) = some ((), mkJ σ g w p b) := by
  have h31 : ∀ v, g_Ground_mark_31 σ v g (nI w) = some ((), ns_pJ σ g (w + 1) v) := fun v => by
    unfold g_Ground_mark_31
    rcases (by omega : w = 0 ∨ w = 1 ∨ w = 2 ∨ w = 3) with rfl | rfl | rfl | rfl
    · rw [ite2_p (by decide), ev_bnd]
    · rw [ite2_n (by decide), ite2_p (by decide), ev_bnd]
    · rw [ite2_n (by decide), ite2_n (by decide), ite2_p (by decide), ev_bnd]
    · rw [ite2_n (by decide), ite2_n (by decide), ite2_n (by decide), ev_bnd]
  unfold g_Ground_mark mkJ
  simp only [grd_t hg, e_allOf hg hw, ev_cl2, e_bit, h31]
  cases b with
  | false => rw [ite2_z (by decide), if_neg (by decide)]
  | true => rw [ite2_y (Eq.refl true), if_pos (Eq.refl true)]
theorem mkJ_w {σ : ns_St} {g w p : Nat} (b : Bool) (hp : p < 64) {u q : Nat} (hq : q < 64) : gb ((mkJ σ g w p b).2.1 g (u + 1)) q = if u = w ∧ q = p then b else gb (σ.2.1 g (u + 1)) q := by
  unfold mkJ
  by_cases hu : u = w
  · subst hu
    rw [pJ_at]
    cases b with
    | false =>
      rw [if_neg (show ¬ false = true by decide), gb_and, gb_not _ hq, gb_bit hp]
      by_cases hqp : q = p
      · rw [if_pos (show u = u ∧ q = p from ⟨rfl, hqp⟩), decide_eq_true hqp]; simp
      · rw [if_neg (show ¬ (u = u ∧ q = p) from fun e => hqp e.2), decide_eq_false hqp]; simp
    | true =>
      rw [if_pos (Eq.refl true), gb_or, gb_bit hp]
      by_cases hqp : q = p
      · rw [if_pos (show u = u ∧ q = p from ⟨rfl, hqp⟩), decide_eq_true hqp]; simp
      · rw [if_neg (show ¬ (u = u ∧ q = p) from fun e => hqp e.2), decide_eq_false hqp]; simp
  · rw [if_neg (show ¬ (u = w ∧ q = p) from fun e => hu e.1), pJ_st _ _ _ (by omega)]
theorem mkJ_I {σ : ns_St} {g w p : Nat} {b : Bool} : (mkJ σ g w p b).1 = σ.1 := rfl
theorem mkJ_R {σ : ns_St} {g w p : Nat} {b : Bool} : (mkJ σ g w p b).2.2 = σ.2.2 := rfl
theorem mkJ_ne {σ : ns_St} {g w p : Nat} {b : Bool} {c : Nat} (h : c ≠ g) : (mkJ σ g w p b).2.1 c = σ.2.1 c := pJ_ne _ _ _ h
/-- forbids and canBe -/
def fbd (th : Nat → Int32) (w p : Nat) : Bool := (decide (w = 2) && tb (th p) 8) || (decide (w = 3) && tb (th p) 4)
theorem e_forbids {σ : ns_St} {g E w p : Nat} {th : Nat → Int32} (hg : ns_kd g = 1) (hG : GR σ g th E) (hw : w < 4) (hp : p ≤ E) : g_Ground_forbids σ g (nI w) (nI p) = some (yn (fbd th w p = true), σ) := by
  have h60 := hG.2.2.1
  have b4 := hG.wi (w := 3) (by omega) hp
  have b3 := hG.wi (w := 2) (by omega) hp
  rw [show nI (2 ^ 3) = (8 : Int32) from rfl] at b4
  rw [show nI (2 ^ 2) = (4 : Int32) from rfl] at b3
  unfold g_Ground_forbids g_Ground_forbids_16
  rw [grd_t hg]
  rcases (by omega : w = 0 ∨ w = 1 ∨ w = 2 ∨ w = 3) with rfl | rfl | rfl | rfl
  · rw [ite2_n (by decide), ite2_n (by decide)]; rfl
  · rw [ite2_n (by decide), ite2_n (by decide)]; rfl
  · rw [ite2_p (by decide), e_isIn (by omega), ev_cl2, b4]
    cases hb : tb (th p) 8 with
    | false => rw [ite2_z (by decide), ite2_n (by decide), yn_f (by simp [fbd, hb])]
    | true => rw [ite2_y (Eq.refl true), yn_t (by simp [fbd, hb])]
  · rw [ite2_n (by decide), ite2_p (by decide), e_isIn (by omega), ev_cl2, b3]
    cases hb : tb (th p) 4 with
    | false => rw [ite2_z (by decide), yn_f (by simp [fbd, hb])]
    | true => rw [ite2_y (Eq.refl true), yn_t (by simp [fbd, hb])]
theorem e_canBe {σ : ns_St} {g1 g2 : Option Nat} (hR : σ.2.2 = ns_rg g1 g2) {w p : Nat} (hw : w < 4) (hp : p ≤ 60) : g_M_canBe σ 65 (nI p) (nI (2 ^ w)) = some (yn (¬ fbd (σ.1 69) w p = true), σ) := by
  unfold g_M_canBe
  rw [gk_65]
  rcases (by omega : w = 0 ∨ w = 1 ∨ w = 2 ∨ w = 3) with rfl | rfl | rfl | rfl
  · rw [ite2_n (by decide), ite2_n (by decide)]; rfl
  · rw [ite2_n (by decide), ite2_n (by decide)]; rfl
  · rw [ite2_p (by decide), e_isThere hR hp, ev_cl2]
    cases hb : tb (σ.1 69 p) 8 with
    | false => rw [ite2_z (by decide), yn_t (by simp [fbd, hb])]
    | true => rw [ite2_y (Eq.refl true), yn_f (by simp [fbd, hb])]
  · rw [ite2_n (by decide), ite2_p (by decide), e_isThere hR hp, ev_cl2]
    cases hb : tb (σ.1 69 p) 4 with
    | false => rw [ite2_z (by decide), yn_t (by simp [fbd, hb])]
    | true => rw [ite2_y (Eq.refl true), yn_f (by simp [fbd, hb])]
/-! placeOf -/
theorem pl16 : ∀ v, v < 16 → (let a := if tb (nI v) (nI (2 ^ 0)) = true then (0 : Int32) ||| nI (2 ^ 0) else 0; let b := if tb (nI v) (nI (2 ^ 1)) = true then a ||| nI (2 ^ 1) else a; let c := if tb (nI v) (nI (2 ^ 2)) = true then b ||| nI (2 ^ 2) else b; if tb (nI v) (nI (2 ^ 3)) = true then c ||| nI (2 ^ 3) else c) = nI v := by decide +kernel
theorem e_pl19 {σ : ns_St} {g1 g2 : Option Nat} (hR : σ.2.2 = ns_rg g1 g2) {E p w f : Nat} {th : Nat → Int32} (hG : GR σ 2 th E) (hp : p ≤ E) (hw : w < 4) (x : Int32) : g_N_placeOf_19 (f + 1) σ 0 (nI p) x (nI w) = g_N_placeOf_19 f σ 0 (nI p) (if tb (th p) (nI (2 ^ w)) = true then x ||| nI (2 ^ w) else x) (nI (w + 1)) := by
  have h60 := hG.2.2.1
  rw [g_N_placeOf_19, ite2_n (show ¬ (4 : Int32) ≤ nI w from nI_ge (b := 4) hw (by decide)), hR, rg_0_0, ev_drf, gk_1, rg_1_0, ev_drf, gk_2, e_allOf kd_2 hw, ev_cl2, e_isIn (by omega), ev_cl2, hG.wi hw hp]
  cases hb : tb (th p) (nI (2 ^ w)) with
  | false => rw [ite2_z (by decide), if_neg (by decide), ev_bnd, nI_succ]
  | true => rw [ite2_y (Eq.refl true), if_pos (Eq.refl true), ev_bnd, ev_bnd, nI_succ, sh16 w hw]
theorem k_placeOf {B : Nat} {σ : ns_St} (h : Inv B σ) (x : Int32) : both B (g_N_placeOf σ 0 x) (fun σ => g_M_placeOf σ 65 x) := by
  obtain ⟨g1, g2, hR⟩ := h.1
  obtain ⟨E, H, a1, a2, a3, hG, a5, a6⟩ := h.2.1.get
  have h60 := hG.2.2.1
  rcases rn_cases x (n := E) (by omega) with ⟨p, hp, rfl, hx⟩ | hx
  · obtain ⟨⟨v, v1, v2⟩, _⟩ := hG.2.2.2.2 p (by omega)
    have hin : ns_in (nI p) (ns_ln 69) := ns_inI (show p < 61 by omega) (by decide)
    refine ⟨nI v, σ, σ, ?_, ?_, h⟩
    · unfold g_N_placeOf
      rw [gk_0, e_isPlace hR, ev_cl2, hG.1, ite2_y hx]
      show g_N_placeOf_19 (9995 + 1 + 1 + 1 + 1 + 1) σ 0 (nI p) 0 (nI 0) = _
      rw [e_pl19 hR hG hp (by omega), e_pl19 hR hG hp (by omega), e_pl19 hR hG hp (by omega), e_pl19 hR hG hp (by omega), g_N_placeOf_19, ite2_p (by decide), v2]
      have := pl16 v v1
      simp only at this
      rw [this]
    · show g_M_placeOf σ 65 (nI p) = _
      unfold g_M_placeOf
      rw [gk_65, e_isPlaceM, ev_cl2, a1, ite2_y hx, hR, rg_65_4, ev_drf, gk_69, grd_t hin, ns_ixI (by omega), v2]
  · refine both.bad h hR (z := 0) (by decide) (c := -2) (by decide) (by decide) ?_ ?_
    · unfold g_N_placeOf
      rw [gk_0, e_isPlace hR, ev_cl2, hG.1, ite2_z hx]
    · show g_M_placeOf (rfN σ 0) 65 x = _
      have e3 : (rfN σ 0).1 65 3 = nI E := by rw [rfN, pI_ne _ _ _ (by decide)]; exact a1
      unfold g_M_placeOf
      rw [gk_65, e_isPlaceM, ev_cl2, e3, ite2_z hx]
/-- the pass changes, in both; the MULES don't -/
theorem Wnow.gnd {B : Nat} {σ σ' : ns_St} (h : Wnow σ B) {E' : Nat} (hE : σ'.1 65 3 = nI E') (hG : GR σ' 2 (σ'.1 69) E') (hm : nI E' = σ.1 65 3 ∨ σ.1 65 5 = 0) (h1 : ∀ c, (c = 1 ∨ 3 ≤ c ∧ c < 10 ∨ 70 ≤ c ∧ c ≤ 75) → σ'.1 c = σ.1 c) (h65 : ∀ k, (k = 5 ∨ 12 ≤ k ∧ k ≤ 14) → σ'.1 65 k = σ.1 65 k) : Wnow σ' B := by
  obtain ⟨E, H, a1, a2, a3, a4, a5, a6, a7, a8, a9, a10⟩ := h
  refine ⟨E', H, hE, by rw [h65 5 (by omega)]; exact a2, a3, hG, by rw [h1 1 (by omega)]; exact a5, by rw [h1 1 (by omega), h65 12 (by omega)]; exact a6, by rw [h65 12 (by omega)]; exact a7, by rw [h1 1 (by omega), h65 13 (by omega)]; exact a8, by rw [h1 1 (by omega), h65 14 (by omega)]; exact a9, fun j hj => ?_⟩
  rcases hm with hm | hm
  · have e : E' = E := (nI_eq (by have := hG.2.2.1; omega) (by have := a4.2.2.1; omega)).mp (hm.trans a1)
    subst e
    obtain ⟨K, N, A, C, O, b1, b2, b3⟩ := a10 j hj
    rw [h1 70 (by omega), h1 71 (by omega), h1 72 (by omega), h1 73 (by omega), h1 74 (by omega), h1 75 (by omega)]
    exact ⟨K, N, A, C, O, b1, b2.cong (h1 _ (by omega)), b3⟩
  · rw [a2] at hm
    have : H = 0 := (nI_eq (b := 0) (by omega) (by decide)).mp hm
    omega
theorem yn01 (b : Bool) {x : Int32} (hx : x = 0 ∨ x = 1) : (yn (b = true) = x) ↔ b = decide (x = 1) := by
  rcases hx with rfl | rfl <;> cases b <;> decide
theorem k_put {B : Nat} {σ : ns_St} (h : Inv B σ) (x y z : Int32) (hz : z = 0 ∨ z = 1) : both B (g_N_put σ 0 x y z) (fun σ => g_M_put σ 65 x y z) := by
  obtain ⟨g1, g2, hR⟩ := h.1
  obtain ⟨E, H, a1, a2, a3, hG, a5, a6⟩ := h.2.1.get
  have h60 := hG.2.2.1
  rcases rn_cases x (n := E) (by omega) with ⟨p, hp, rfl, hx⟩ | hx
  · rcases rn_cases y (n := 3) (by decide) with ⟨w, hw, rfl, hy⟩ | hy
    · have hw4 : w < 4 := by omega
      have hy' : (0 : Int32) ≤ nI w ∧ nI w ≤ (3 : Int32) := hy
      have hin : ns_in (nI p) (ns_ln 69) := ns_inI (show p < 61 by omega) (by decide)
      obtain ⟨⟨v, v1, v2⟩, _⟩ := hG.2.2.2.2 p (by omega)
      have p50 : both B (g_N_put_50 σ 0 (nI p) (nI w) z) (fun σ => g_M_put_50 σ 65 (nI p) z (nI (2 ^ w))) := by
        have bN : g_N_put_50 σ 0 (nI p) (nI w) z = ite2 (yn (tb (σ.1 69 p) (nI (2 ^ w)) = true) = z) (some ((0 : Int32), σ)) (cl2 (g_Ground_mark σ 2 (nI w) (nI p) z) fun r40 σ39 => some ((1 : Int32), σ39)) := by
          unfold g_N_put_50
          simp only [hR, rg_0_0, rg_1_0, ev_drf, gk_1, gk_2, e_allOf kd_2 hw4, ev_cl2, e_isIn (show p < 64 by omega), hG.wi hw4 hp]
        have bM : ∀ τ : ns_St, τ.2.2 = ns_rg g1 g2 → τ.1 69 = σ.1 69 → g_M_put_50 τ 65 (nI p) z (nI (2 ^ w)) = ite2 (yn (tb (σ.1 69 p) (nI (2 ^ w)) = true) = z) (some ((0 : Int32), τ)) (some (1, ns_pI τ 69 p (σ.1 69 p ^^^ nI (2 ^ w)))) := fun τ t1 t2 => by
          unfold g_M_put_50
          rw [e_isThere t1 (by omega), ev_cl2, t1, rg_65_4, ev_drf, gk_69, grd_t hin, grd_t hin, ev_bnd, ns_ixI (by omega), t2]
        by_cases hs : yn (tb (σ.1 69 p) (nI (2 ^ w)) = true) = z
        · refine ⟨0, σ, σ, ?_, ?_, h⟩
          · rw [bN, ite2_p hs]
          · show g_M_put_50 σ 65 (nI p) z (nI (2 ^ w)) = _
            rw [bM σ hR rfl, ite2_p hs]
        · have hb : tb (σ.1 69 p) (nI (2 ^ w)) = !decide (z = 1) := by
            rw [yn01 _ hz] at hs
            cases hq : tb (σ.1 69 p) (nI (2 ^ w)) <;> cases hq2 : decide (z = 1) <;> simp_all
          have hzb : z = yn (decide (z = 1) = true) := by rcases hz with rfl | rfl <;> decide
          refine ⟨1, mkJ σ 2 w p (decide (z = 1)), ns_pI (mkJ σ 2 w p (decide (z = 1))) 69 p (σ.1 69 p ^^^ nI (2 ^ w)), ?_, ?_, ?_⟩
          · rw [bN, ite2_n hs]
            conv => lhs; rw [hzb]
            rw [e_mark kd_2 hw4, ev_cl2]
          · show g_M_put_50 (mkJ σ 2 w p (decide (z = 1))) 65 (nI p) z (nI (2 ^ w)) = _
            rw [bM (mkJ σ 2 w p (decide (z = 1))) hR rfl, ite2_n hs]
          · have i1 : ∀ c, c ≠ 69 → (ns_pI (mkJ σ 2 w p (decide (z = 1))) 69 p (σ.1 69 p ^^^ nI (2 ^ w))).1 c = σ.1 c := fun c hc => by rw [pI_ne _ _ _ hc, mkJ_I]
            have g' : GR (ns_pI (mkJ σ 2 w p (decide (z = 1))) 69 p (σ.1 69 p ^^^ nI (2 ^ w))) 2 ((ns_pI (mkJ σ 2 w p (decide (z = 1))) 69 p (σ.1 69 p ^^^ nI (2 ^ w))).1 69) E := by
              refine GR.mk (by rw [i1 2 (by decide)]; exact hG.1) hG.2.1 h60 ?_ ?_
              · intro u q hu hq
                rw [pI_J, mkJ_w _ (by omega) hq]
                by_cases hqp : q = p
                · subst hqp
                  rw [pI_at, decide_eq_true hp, Bool.true_and, v2, tb16x v v1 w hw4 u hu, ← v2]
                  by_cases huw : u = w
                  · subst huw
                    rw [if_pos ⟨rfl, rfl⟩, hb, decide_eq_true (Eq.refl u)]
                    cases decide (z = 1) <;> rfl
                  · rw [if_neg (fun e => huw e.1), decide_eq_false huw, hG.wi hu hp]; simp
                · rw [if_neg (fun e => hqp e.2), pI_st _ _ _ hqp]
                  exact hG.w hu hq
              · intro q hq
                by_cases hqp : q = p
                · subst hqp
                  rw [pI_at, v2, (x16 v v1 w hw4).1]
                  exact ⟨⟨_, (x16 v v1 w hw4).2.1, rfl⟩, fun e => by omega⟩
                · rw [pI_st _ _ _ hqp]
                  exact hG.2.2.2.2 q hq
            refine h.wld (Nat.le_refl _) ⟨g1, g2, hR⟩ (h.2.1.gnd (by rw [i1 65 (by decide)]; exact a1) g' (Or.inl a1.symm) (fun c hc => i1 c (by omega)) (fun k _ => by rw [i1 65 (by decide)])) ⟨fun c hc => i1 c (by omega), fun c hc => by rw [pI_J, mkJ_ne (by omega)], by rw [i1 65 (by decide)], by rw [i1 65 (by decide)]⟩ (by rw [i1 65 (by decide)]; exact Nat.le_refl _)
      have hN : g_N_put σ 0 (nI p) (nI w) z = ite2 (z = 0) (g_N_put_50 σ 0 (nI p) (nI w) z) (ite2 (yn (fbd (σ.1 69) w p = true) = 0) (g_N_put_50 σ 0 (nI p) (nI w) z) (cl2 (g_N_refuse σ 0 (-5 : Int32)) fun r σ' => some (r, σ'))) := by
        unfold g_N_put
        simp only [gk_0, e_isPlace hR, ev_cl2, hG.1, ite2_y hx, e_isWithin, ite2_y hy', hR, rg_0_0, rg_1_0, ev_drf, gk_1, gk_2, e_forbids kd_2 hG hw4 hp]
      have hM : ∀ τ : ns_St, τ.2.2 = ns_rg g1 g2 → τ.1 69 = σ.1 69 → τ.1 65 3 = nI E → g_M_put τ 65 (nI p) (nI w) z = ite2 (z = 0) (g_M_put_50 τ 65 (nI p) z (nI (2 ^ w))) (ite2 (yn (¬ fbd (σ.1 69) w p = true) = 0) (cl2 (g_M_no τ 65 (-5 : Int32)) fun r σ' => some (r, σ')) (g_M_put_50 τ 65 (nI p) z (nI (2 ^ w)))) := fun τ t1 t2 t3 => by
        unfold g_M_put
        simp only [gk_65, e_isPlaceM, ev_cl2, t3, ite2_y hx, e_within, ite2_y hy', ev_bnd, sh16 w hw4, e_canBe t1 hw4 (show p ≤ 60 by omega), t2]
      obtain ⟨r, σ1, σ2, q1, q2, q3⟩ := p50
      have q2' : g_M_put_50 σ1 65 (nI p) z (nI (2 ^ w)) = some (r, σ2) := q2
      -- the class's state behind put_50 still has the reference's cells
      have keep : σ1.2.2 = ns_rg g1 g2 ∧ σ1.1 = σ.1 := by
        unfold g_N_put_50 at q1
        simp only [hR, rg_0_0, rg_1_0, ev_drf, gk_1, gk_2, e_allOf kd_2 hw4, ev_cl2, e_isIn (show p < 64 by omega), hG.wi hw4 hp] at q1
        by_cases hs : yn (tb (σ.1 69 p) (nI (2 ^ w)) = true) = z
        · rw [ite2_p hs] at q1
          cases q1
          exact ⟨hR, rfl⟩
        · have hzb : z = yn (decide (z = 1) = true) := by rcases hz with rfl | rfl <;> decide
          rw [ite2_n hs, hzb, e_mark kd_2 hw4, ev_cl2] at q1
          cases q1
          exact ⟨hR, rfl⟩
      have m1 := hM σ1 keep.1 (by rw [keep.2]) (by rw [keep.2]; exact a1)
      by_cases z0 : z = 0
      · refine ⟨r, σ1, σ2, ?_, ?_, q3⟩
        · rw [hN, ite2_p z0]; exact q1
        · show g_M_put σ1 65 (nI p) (nI w) z = _
          rw [m1, ite2_p z0]; exact q2'
      · by_cases hf : fbd (σ.1 69) w p = true
        · refine both.bad h hR (z := 3) (by decide) (c := -5) (by decide) (by decide) ?_ ?_
          · rw [hN, ite2_n z0, ite2_y hf]
          · show g_M_put (rfN σ 3) 65 (nI p) (nI w) z = _
            rw [hM (rfN σ 3) hR (by rw [rfN, pI_ne _ _ _ (by decide)]) (by rw [rfN, pI_ne _ _ _ (by decide)]; exact a1), ite2_n z0, ite2_z (fun q => q hf)]
        · refine ⟨r, σ1, σ2, ?_, ?_, q3⟩
          · rw [hN, ite2_n z0, ite2_z hf]; exact q1
          · show g_M_put σ1 65 (nI p) (nI w) z = _
            rw [m1, ite2_n z0, ite2_y hf]; exact q2'
    · refine both.bad h hR (z := 0) (by decide) (c := -2) (by decide) (by decide) ?_ ?_
      · unfold g_N_put
        rw [gk_0, e_isPlace hR, ev_cl2, hG.1, ite2_y hx, e_isWithin, ev_cl2]
        have hy' : ¬ ((0 : Int32) ≤ y ∧ y ≤ (3 : Int32)) := hy
        rw [ite2_z hy']
      · show g_M_put (rfN σ 0) 65 (nI p) y z = _
        have e3 : (rfN σ 0).1 65 3 = nI E := by rw [rfN, pI_ne _ _ _ (by decide)]; exact a1
        have hy' : ¬ ((0 : Int32) ≤ y ∧ y ≤ (3 : Int32)) := hy
        unfold g_M_put
        rw [gk_65, e_isPlaceM, ev_cl2, e3, ite2_y hx, e_within, ev_cl2, ite2_z hy']
  · refine both.bad h hR (z := 0) (by decide) (c := -2) (by decide) (by decide) ?_ ?_
    · unfold g_N_put
      rw [gk_0, e_isPlace hR, ev_cl2, hG.1, ite2_z hx]
    · show g_M_put (rfN σ 0) 65 x y z = _
      have e3 : (rfN σ 0).1 65 3 = nI E := by rw [rfN, pI_ne _ _ _ (by decide)]; exact a1
      unfold g_M_put
      rw [gk_65, e_isPlaceM, ev_cl2, e3, ite2_z hx]
