theorem both.mono {α : Type} {B B' : Nat} {x : Option (α × ns_St)} {y : ns_St → Option (α × ns_St)} (hB : B ≤ B') (h : both B x y) : both B' x y := by
  obtain ⟨r, σ1, σ2, h1, h2, h3⟩ := h
  exact ⟨r, σ1, σ2, h1, h2, h3.mono hB⟩
theorem At.tm {σ τ : ns_St} {K A N C : Nat} (j : Nat) (h : At σ τ K A N C 0) : TM σ τ j K N A C (σ.1 74 j) (σ.1 65 13) (σ.1 65 14) :=
  ⟨h.1.1, fun a _ h2 => h.1.2.1 a h2, fun i _ => by rw [h.1.2.1 74 (by decide)], by rw [h.1.2.1 74 (by decide)], fun k h1 _ _ => h.1.2.2 k h1, h.1.2.2 13 (by omega), h.1.2.2 14 (by omega), h.2.1, h.2.2.1, h.2.2.2.1, h.2.2.2.2⟩
theorem MV.nc {E B K N A C O : Nat} (h : MV E B K N A C O) : NC K N C := ⟨h.2.1, h.2.2.1, h.2.2.2.2.2.2.1, h.2.2.2.2.2.2.2⟩
/-- NUMBER, COUNT, RESTED, FELL behind k STEPS: the class -/
def TNk (σ τ : ns_St) (j K R A : Nat) (t : Nat → Nat × Nat × Int32 × Int32) (se : Int32) (k : Nat) : Prop := TN σ τ j K R (t k).1 (A + k) (t k).2.1 (t k).2.2.1 (t k).2.2.2 se
def TMk (σ τ : ns_St) (j K A : Nat) (t : Nat → Nat × Nat × Int32 × Int32) (se : Int32) (k : Nat) : Prop := TM σ τ j K (t k).1 (A + k) (t k).2.1 (t k).2.2.1 (t k).2.2.2 se
theorem TNk.go {σ τ : ns_St} {g1 g2 : Option Nat} (hR : σ.2.2 = ns_rg g1 g2) {E : Nat} {th : Nat → Int32} (hG : GR σ 2 th E) {j K R A N C k : Nat} {b : Nat → Nat} {re fe se : Int32} (hj : j < 6) (hK : K ≤ 5) (hb : ∀ n, b n ≤ 1) (hnc : NC K N C) (hC : C < 2 ^ 27) (hp : A + k < E) (h : TNk σ τ j K R A (tr th K A R b N C re fe) se k) :
    ∃ τ', g_World_stepInTruth τ 1 (4 + j) (nI (b k)) = some ((), τ') ∧ TNk σ τ' j K R A (tr th K A R b N C re fe) se (k + 1) := by
  have ok := tr_ok (th := th) (A := A) (R := R) (re := re) (fe := fe) hb hnc k
  have h60 := hG.2.2.1
  exact TN.step hR hG hj hK ok.1.2.1 (by omega) (hb k) hp h
theorem TMk.go {σ τ : ns_St} {g1 g2 : Option Nat} (hR : σ.2.2 = ns_rg g1 g2) {E j K O A N C k : Nat} {b : Nat → Nat} {re fe se : Int32} (hE : E ≤ 60) (hj : j < 6) (hK : K ≤ 5) (hb : ∀ n, b n ≤ 1) (hnc : NC K N C) (hC : C < 2 ^ 27) (hp : A + k < E) (m0 : σ.1 70 j = nI K) (m5 : σ.1 75 j = nI O) (h : TMk σ τ j K A (tr (σ.1 69) K A (rt K O) b N C re fe) se k) :
    ∃ (τ1 : ns_St) (st : Bool), g_M_stepped τ 65 (nI (b k)) = some (yn (st = true), τ1) ∧ (st = false → TMk σ τ1 j K A (tr (σ.1 69) K A (rt K O) b N C re fe) se (k + 1)) ∧ (st = true → ∃ τ', g_M_rests τ1 65 (nI j) = some ((), τ') ∧ TMk σ τ' j K A (tr (σ.1 69) K A (rt K O) b N C re fe) se (k + 1)) := by
  have ok := tr_ok (th := σ.1 69) (A := A) (R := rt K O) (re := re) (fe := fe) hb hnc k
  have hbk := hb k
  obtain ⟨τ1, e1, f1, f2⟩ := TM.step hR hE hj hK ok.1.2.1 (by omega) (show b k = 0 ∨ b k = 1 by omega) hp m0 m5 h
  refine ⟨τ1, _, e1, fun q => ?_, fun q => ?_⟩
  · have := f1 q
    show TM σ τ1 j K _ (A + k + 1) _ (rr _ _ _) (ff _ _) se
    rw [q]
    exact this
  · obtain ⟨τ', e2, t2⟩ := f2 q
    refine ⟨τ', e2, ?_⟩
    show TM σ τ' j K _ (A + k + 1) _ (rr _ _ _) (ff _ _) se
    rw [q]
    exact t2
theorem e_goesN {σ : ns_St} {g1 g2 : Option Nat} (hR : σ.2.2 = ns_rg g1 g2) {E : Nat} {th : Nat → Int32} (hG : GR σ 2 th E) {j K R A N C n m : Nat} {re fe se : Int32} (hj : j < 6) (hK : K ≤ 5) (hnc : NC K N C) (hC : C < 2 ^ 27) (hA : A ≤ E) (hn : n ≤ 60) (hm : m = min n (E - A)) : ∀ (r k f : Nat) (τ : ns_St), r < f → k + r = m → TNk σ τ j K R A (tr th K A R (fun _ => 0) N C re fe) se k →
    ∃ τ', g_N_goes_33 f τ 0 (nI n) (4 + j) (nI k) = some (nI (A + m), τ') ∧ TNk σ τ' j K R A (tr th K A R (fun _ => 0) N C re fe) se m := by
  have h60 := hG.2.2.1
  intro r
  induction r with
  | zero =>
    intro k f τ hf hk h
    obtain ⟨f, rfl⟩ : ∃ q, f = q + 1 := ⟨f - 1, by omega⟩
    have hkm : k = m := by omega
    subst hkm
    refine ⟨τ, ?_, h⟩
    have hRτ : τ.2.2 = ns_rg g1 g2 := by rw [h.1]; exact hR
    have p2 : τ.1 (4 + j) 2 = nI (A + k) := h.2.2.2.2.2.2.2.1
    have pE : τ.1 2 0 = nI E := by rw [h.2.1 2 (by omega) (by omega)]; exact hG.1
    rw [g_N_goes_33, p2]
    by_cases q : n ≤ k
    · rw [ite2_p (nI_le q (by omega))]
    · rw [ite2_n (nI_ge (by omega) (by omega)), hRτ, rg_0_0, ev_drf, gk_1, rg_1_0, ev_drf, gk_2, pE, ite2_p (nI_le (by omega) (by omega))]
  | succ r ih =>
    intro k f τ hf hk h
    obtain ⟨f, rfl⟩ : ∃ q, f = q + 1 := ⟨f - 1, by omega⟩
    have hRτ : τ.2.2 = ns_rg g1 g2 := by rw [h.1]; exact hR
    have p2 : τ.1 (4 + j) 2 = nI (A + k) := h.2.2.2.2.2.2.2.1
    have pE : τ.1 2 0 = nI E := by rw [h.2.1 2 (by omega) (by omega)]; exact hG.1
    obtain ⟨τ1, e1, t1⟩ := TNk.go hR hG hj hK (fun _ => Nat.zero_le _) hnc hC (by omega) h
    have e1' : g_World_stepInTruth τ 1 (4 + j) (0 : Int32) = some ((), τ1) := e1
    obtain ⟨τ2, e2, t2⟩ := ih (k + 1) f τ1 (by omega) (by omega) t1
    refine ⟨τ2, ?_, t2⟩
    rw [g_N_goes_33, p2, ite2_n (nI_ge (by omega) (by omega)), hRτ, rg_0_0, ev_drf, gk_1, rg_1_0, ev_drf, gk_2, pE, ite2_n (nI_ge (by omega) (by omega)), ev_drf, gk_1, e1', ev_cl2, ev_bnd, ← nI_succ]
    exact e2
theorem e_goesM {σ : ns_St} {g1 g2 : Option Nat} (hR : σ.2.2 = ns_rg g1 g2) {E j K O A N C n m : Nat} {re fe se : Int32} (hE : σ.1 65 3 = nI E) (h60 : E ≤ 60) (hj : j < 6) (hK : K ≤ 5) (hnc : NC K N C) (hC : C < 2 ^ 27) (hA : A ≤ E) (hn : n ≤ 60) (hm : m = min n (E - A)) (m0 : σ.1 70 j = nI K) (m5 : σ.1 75 j = nI O) : ∀ (r k f : Nat) (τ : ns_St), r < f → k + r = m → TMk σ τ j K A (tr (σ.1 69) K A (rt K O) (fun _ => 0) N C re fe) se k →
    ∃ τ', g_M_goes_32 f τ 65 (nI j) (nI n) (nI k) = g_M_goes_67 τ' 65 (nI j) ∧ TMk σ τ' j K A (tr (σ.1 69) K A (rt K O) (fun _ => 0) N C re fe) se m := by
  intro r
  induction r with
  | zero =>
    intro k f τ hf hk h
    obtain ⟨f, rfl⟩ : ∃ q, f = q + 1 := ⟨f - 1, by omega⟩
    have hkm : k = m := by omega
    subst hkm
    refine ⟨τ, ?_, h⟩
    have p2 : τ.1 65 27 = nI (A + k) := h.2.2.2.2.2.2.2.2.2.1
    have pE : τ.1 65 3 = nI E := by rw [h.2.2.2.2.1 3 (by omega) (by omega) (by omega)]; exact hE
    rw [g_M_goes_32]
    by_cases q : n ≤ k
    · rw [ite2_p (nI_le q (by omega))]
    · rw [ite2_n (nI_ge (by omega) (by omega)), pE, p2, ite2_p (nI_le (by omega) (by omega))]
  | succ r ih =>
    intro k f τ hf hk h
    obtain ⟨f, rfl⟩ : ∃ q, f = q + 1 := ⟨f - 1, by omega⟩
    have p2 : τ.1 65 27 = nI (A + k) := h.2.2.2.2.2.2.2.2.2.1
    have pE : τ.1 65 3 = nI E := by rw [h.2.2.2.2.1 3 (by omega) (by omega) (by omega)]; exact hE
    obtain ⟨τ1, st, e1, f1, f2⟩ := TMk.go hR h60 hj hK (fun _ => Nat.zero_le _) hnc hC (show A + k < E by omega) m0 m5 h
    have e1' : g_M_stepped τ 65 (0 : Int32) = some (yn (st = true), τ1) := e1
    rw [g_M_goes_32, ite2_n (nI_ge (by omega) (by omega)), pE, p2, ite2_n (nI_ge (by omega) (by omega)), e1', ev_cl2]
    cases st with
    | false =>
      obtain ⟨τ2, e2, t2⟩ := ih (k + 1) f τ1 (by omega) (by omega) (f1 rfl)
      refine ⟨τ2, ?_, t2⟩
      rw [ite2_z (by decide), ev_bnd, ← nI_succ]
      exact e2
    | true =>
      obtain ⟨τ0, e0, t0⟩ := f2 rfl
      obtain ⟨τ2, e2, t2⟩ := ih (k + 1) f τ0 (by omega) (by omega) t0
      refine ⟨τ2, ?_, t2⟩
      rw [ite2_y (Eq.refl true), e0, ev_cl2, ev_bnd, ← nI_succ]
      exact e2
theorem r1_cases (x : Int32) {n : Nat} (hn : n < 2 ^ 31) : (∃ j, 1 ≤ j ∧ j ≤ n ∧ x = nI j ∧ (1 ≤ x ∧ x ≤ nI n)) ∨ ¬ (1 ≤ x ∧ x ≤ nI n) := by
  by_cases h : 1 ≤ x ∧ x ≤ nI n
  · obtain ⟨j, h1, h2⟩ := ns_rng (x := x) (n := n) hn ⟨Int32.le_trans (by decide) h.1, h.2⟩
    refine Or.inl ⟨j, ?_, h1, h2, h⟩
    have := h.1
    rw [h2] at this
    exact (nI_leI (a := 1) (by decide) (by omega)).mp this
  · exact Or.inr h
theorem k_goes {B : Nat} {σ : ns_St} (h : Inv B σ) (hB : B < 2 ^ 26) (x y : Int32) : both (B + 180) (g_N_goes σ 0 x y) (fun σ => g_M_goes σ 65 x y) := by
  obtain ⟨g1, g2, hR⟩ := h.1
  obtain ⟨E, H, hW⟩ := PW.of h hB
  have a2 := hW.2.2.1
  have a3 := hW.2.2.2.1
  have a5 := hW.2.2.2.2.2.1
  have h60 := hW.h60
  have e5 : (rfN σ 0).1 65 5 = nI H := by rw [rfN, pI_ne _ _ _ (by decide)]; exact a2
  obtain ⟨f1, f2, f3, f4⟩ := h.2.1.fs
  rcases mu_cases x a3 with ⟨j, hj, rfl, hx⟩ | ⟨hx, hx2⟩
  · have hj6 : j < 6 := by omega
    have hk := kd_m4 j hj6
    rcases r1_cases y (n := 60) (by omega) with ⟨n, hn1, hn, rfl, hy⟩ | hy
    · have hy' : (1 : Int32) ≤ nI n ∧ nI n ≤ (60 : Int32) := hy
      have m := hW.m hj
      have hAE := m.1.2.2.2.1
      have hC : gm σ 73 j < 2 ^ 27 := by have := m.1.2.2.2.2.1; omega
      have hnc := m.1.nc
      obtain ⟨τ1, e1, t1⟩ := e_goesN hR hW.2.2.2.2.1 (j := j) (K := gm σ 70 j) (R := rt (gm σ 70 j) (gm σ 75 j)) (A := gm σ 72 j) (n := n) (re := σ.1 74 j) (fe := σ.1 1 4) (se := σ.1 1 5) hj6 m.1.1 hnc hC hAE hn rfl (min n (E - gm σ 72 j)) 0 ns_F σ (by show min n (E - _) < 10000; omega) (by omega) m.tn
      have q : ∀ a, 10 ≤ a → τ1.1 a = σ.1 a := fun a ha => t1.2.1 a (by omega) (by omega)
      have hR1 : τ1.2.2 = ns_rg g1 g2 := by rw [t1.1]; exact hR
      obtain ⟨τ2, e2, hA2⟩ := e_begins (σ := τ1) hR1 hj6 (by rw [q 70 (by omega)]; exact m.2.2.1) (by rw [q 71 (by omega)]; exact m.2.2.2.1) (by rw [q 72 (by omega)]; exact m.2.2.2.2.1) (by rw [q 73 (by omega)]; exact m.2.2.2.2.2.1)
      have hA3 := hA2.tm j
      rw [q 74 (by omega), q 65 (by omega), ← f3] at hA3
      obtain ⟨τ3, e3, t3⟩ := e_goesM (σ := τ1) hR1 (j := j) (K := gm σ 70 j) (O := gm σ 75 j) (A := gm σ 72 j) (n := n) (re := σ.1 74 j) (fe := σ.1 1 4) (se := σ.1 65 14) (by rw [q 65 (by omega)]; exact hW.2.1) h60 hj6 m.1.1 hnc hC hAE hn rfl (by rw [q 70 (by omega)]; exact m.2.2.1) (by rw [q 75 (by omega)]; exact m.2.2.2.2.2.2) (min n (E - gm σ 72 j)) 0 ns_F τ2 (by show min n (E - _) < 10000; omega) (by omega) hA3
      rw [q 69 (by omega)] at t3
      have hR3 : τ3.2.2 = ns_rg g1 g2 := by rw [t3.1]; exact hR1
      obtain ⟨τ4, e4, s2, sa, si, s71, s72, s73⟩ := e_stays hR3 hj6
      have ok := tr_ok (th := σ.1 69) (A := gm σ 72 j) (R := rt (gm σ 70 j) (gm σ 75 j)) (b := fun _ => 0) (re := σ.1 74 j) (fe := σ.1 1 4) (fun _ => Nat.zero_le _) hnc (min n (E - gm σ 72 j))
      have p27 : τ3.1 65 27 = nI (gm σ 72 j + min n (E - gm σ 72 j)) := t3.2.2.2.2.2.2.2.2.2.1
      refine ⟨nI (gm σ 72 j + min n (E - gm σ 72 j)), τ1, τ4, ?_, ?_, ?_⟩
      · unfold g_N_goes
        rw [gk_0, hR, rg_0_0, ev_drf, gk_1, e_muleAt hR a3 a5 hj, ev_cl2, ev_ons, grd_t hk, e_isWithin, ev_cl2, ite2_y hy']
        exact e1
      · show g_M_goes τ1 65 (nI j) (nI n) = _
        unfold g_M_goes
        rw [gk_65, e_isMule, ev_cl2, q 65 (by omega), a2, ite2_y hx, e_within, ev_cl2, ite2_y hy', e2, ev_cl2]
        refine Eq.trans e3 ?_
        unfold g_M_goes_67
        rw [e4, ev_cl2, sa 65 (by omega), p27]
      · have hCB := m.1.2.2.2.2.1
        exact h.way (by omega) hW hj t1 t3 s2 sa si (by rw [s71]; exact t3.2.2.2.2.2.2.2.2.1) (by rw [s72]; exact p27) (by rw [s73]; exact t3.2.2.2.2.2.2.2.2.2.2) ok.1 (by omega) (by omega)
    · have hy' : ¬ ((1 : Int32) ≤ y ∧ y ≤ (60 : Int32)) := hy
      refine (both.bad h hR (z := 0) (by decide) (c := -2) (by decide) (by decide) ?_ ?_).mono (by omega)
      · unfold g_N_goes
        rw [gk_0, hR, rg_0_0, ev_drf, gk_1, e_muleAt hR a3 a5 hj, ev_cl2, ev_ons, grd_t hk, e_isWithin, ev_cl2, ite2_z hy']
      · show g_M_goes (rfN σ 0) 65 (nI j) y = _
        unfold g_M_goes
        rw [gk_65, e_isMule, ev_cl2, e5, ite2_y hx, e_within, ev_cl2, ite2_z hy']
  · refine (both.bad h hR (z := 0) (by decide) (c := -2) (by decide) (by decide) ?_ ?_).mono (by omega)
    · unfold g_N_goes
      rw [gk_0, hR, rg_0_0, ev_drf, gk_1, e_muleAtN a5 hx2, ev_cl2, ev_onn]
    · show g_M_goes (rfN σ 0) 65 x y = _
      unfold g_M_goes
      rw [gk_65, e_isMule, ev_cl2, e5, ite2_z hx]
/-! a TURN -/
def tst (K N C : Nat) (cl : Bool) : Bool := decide (N ≤ C + 1) && !(decide (K = 3) && cl)
def tct (K N C : Nat) (cl : Bool) : Nat := if tst K N C cl = true then 0 else C + 1
theorem e_makeTurn {σ : ns_St} {a g : Nat} (hk : ns_kd a = 2) (hg : ns_kd g = 1) {K N p C : Nat} (hK : K ≤ 5) (hp : p < 64) (hN : N < 2 ^ 29) (hC : C < 2 ^ 28) (h0 : σ.1 a 0 = nI K) (h1 : σ.1 a 1 = nI N) (h2 : σ.1 a 2 = nI p) (h3 : σ.1 a 3 = nI C) : g_Mule_makeTurn σ a g = some (yn (tst K N C (gb (σ.2.1 g 3) p) = true), s3 σ a 1 (nI N) (nI p) (nI (tct K N C (gb (σ.2.1 g 3) p)))) := by
  unfold g_Mule_makeTurn
  rw [grd_t hk, grd_t hg, ev_bnd, h3, ← nI_succ, s3_i3 (i := 1) h1 h2 h3]
  have em := e_mayStop (σ := s3 σ a 1 (nI N) (nI p) (nI (C + 1))) (a := a) (g := g) hk hg hK hp hN (C := C + 1) (by omega) (by rw [s3_go _ _ _ _ _ _ (by omega)]; exact h0) (s3_g1 _ _ _ _ _ _) (s3_g2 _ _ _ _ _ _) (s3_g3 _ _ _ _ _ _)
  have em' : g_Mule_mayStop (s3 σ a 1 (nI N) (nI p) (nI (C + 1))) a g = some (yn (tst K N C (gb (σ.2.1 g 3) p) = true), s3 σ a 1 (nI N) (nI p) (nI (C + 1))) := em
  rw [em', ev_cl2]
  unfold tct
  cases hst : tst K N C (gb (σ.2.1 g 3) p) with
  | false => rw [ite2_z (by decide), grd_y, if_neg (by decide)]
  | true => rw [ite2_y (Eq.refl true), ev_bnd, grd_y, (s3_put σ a 1 (nI N) (nI p) (nI (C + 1)) 0).2.2, if_pos rfl]; rfl
theorem nc_turn {K N C : Nat} {cl : Bool} (h : NC K N C) : NC K N (tct K N C cl) ∧ tct K N C cl ≤ C + 1 := by
  obtain ⟨h1, h2, h3, h4⟩ := h
  refine ⟨⟨h1, h2, fun k3 => ?_, h4⟩, by unfold tct; split <;> omega⟩
  unfold tct
  by_cases q : tst K N C cl = true
  · rw [if_pos q]; omega
  · rw [if_neg q]
    have : ¬ N ≤ C + 1 := fun hn => q (by unfold tst; simp [hn, k3])
    omega
theorem k_turn {B : Nat} {σ : ns_St} (h : Inv B σ) (hB : B < 2 ^ 26) (x : Int32) : both (B + 180) (g_N_turn σ 0 x) (fun σ => g_M_turn σ 65 x) := by
  obtain ⟨g1, g2, hR⟩ := h.1
  obtain ⟨E, H, hW⟩ := PW.of h hB
  have a2 := hW.2.2.1
  have a3 := hW.2.2.2.1
  have a5 := hW.2.2.2.2.2.1
  have h60 := hW.h60
  have hG := hW.2.2.2.2.1
  have e5 : (rfN σ 0).1 65 5 = nI H := by rw [rfN, pI_ne _ _ _ (by decide)]; exact a2
  obtain ⟨f1, f2, f3, f4⟩ := h.2.1.fs
  rcases mu_cases x a3 with ⟨j, hj, rfl, hx⟩ | ⟨hx, hx2⟩
  · have hj6 : j < 6 := by omega
    have hk := kd_m4 j hj6
    have m := hW.m hj
    have hAE := m.1.2.2.2.1
    have hCB := m.1.2.2.2.2.1
    have hN64 := m.1.2.2.1
    obtain ⟨u0, u1, u2, u3, u4, u5, u6, u7⟩ := m.2.1
    have i8 : ns_in (nI j) (ns_ln 72) := ns_inI (show j < 6 by omega) (by decide)
    by_cases hA : gm σ 72 j < E
    · have hnc := m.1.nc
      obtain ⟨b1, b2, b3, b4⟩ := hG.bits (p := gm σ 72 j) (by omega)
      have em := e_makeTurn (σ := σ) (a := 4 + j) (g := 2) (K := gm σ 70 j) (N := gm σ 71 j) (p := gm σ 72 j) (C := gm σ 73 j) hk kd_2 m.1.1 (by omega) (by omega) (by omega) u0 u1 u2 u3
      rw [b3] at em
      have nct := nc_turn (cl := tb (σ.1 69 (gm σ 72 j)) 4) hnc
      generalize hC' : tct (gm σ 70 j) (gm σ 71 j) (gm σ 73 j) (tb (σ.1 69 (gm σ 72 j)) 4) = C' at *
      -- the class
      have hcls : ∃ τ, g_World_turnInTruth σ 1 (4 + j) = some (yn (tst (gm σ 70 j) (gm σ 71 j) (gm σ 73 j) (tb (σ.1 69 (gm σ 72 j)) 4) = true), τ) ∧ TN σ τ j (gm σ 70 j) (rt (gm σ 70 j) (gm σ 75 j)) (gm σ 71 j) (gm σ 72 j) C' (rr (tst (gm σ 70 j) (gm σ 71 j) (gm σ 73 j) (tb (σ.1 69 (gm σ 72 j)) 4)) (rt (gm σ 70 j) (gm σ 75 j)) (σ.1 74 j)) (ff (tst (gm σ 70 j) (gm σ 71 j) (gm σ 73 j) (tb (σ.1 69 (gm σ 72 j)) 4) && tb (σ.1 69 (gm σ 72 j)) 4) (σ.1 1 4)) (σ.1 1 5) := by
        generalize hT : s3 σ (4 + j) 1 (nI (gm σ 71 j)) (nI (gm σ 72 j)) (nI C') = T at em
        have T2 : T.2 = σ.2 := by rw [← hT]; rfl
        have Ta : ∀ a, a ≠ 4 + j → T.1 a = σ.1 a := fun a ha => by rw [← hT]; exact s3_ne _ _ _ _ _ ha
        have To : ∀ k, (k < 1 ∨ 3 < k) → T.1 (4 + j) k = σ.1 (4 + j) k := fun k hk => by rw [← hT]; exact s3_go _ _ _ _ _ _ (by omega)
        have T1 : T.1 (4 + j) 1 = nI (gm σ 71 j) := by rw [← hT]; exact s3_g1 _ _ _ _ _ _
        have Tp : T.1 (4 + j) 2 = nI (gm σ 72 j) := by rw [← hT]; exact s3_g2 _ _ _ _ _ _
        have T3 : T.1 (4 + j) 3 = nI C' := by rw [← hT]; exact s3_g3 _ _ _ _ _ _
        unfold g_World_turnInTruth
        rw [gk_1, grd_t hk, hR, rg_1_0, ev_drf, gk_2, em, ev_cl2]
        cases hst : tst (gm σ 70 j) (gm σ 71 j) (gm σ 73 j) (tb (σ.1 69 (gm σ 72 j)) 4) with
        | false =>
          rw [ite2_z (by decide), grd_y]
          exact ⟨T, rfl, T2, fun a h1 _ => Ta a h1, fun k _ _ => by rw [Ta 1 (by omega)], by rw [Ta 1 (by omega)]; rfl, by rw [Ta 1 (by omega)], by rw [To 0 (by omega)]; exact u0, T1, Tp, T3, by rw [To 4 (by omega)]; exact u4, To 5 (by omega), by rw [To 6 (by omega)]; exact u6, by rw [To 7 (by omega)]; exact u7⟩
        | true =>
          obtain ⟨U, v1, v2, v3, v4, v5, v6, v7⟩ := e_restN (σ := T) (g1 := g1) (g2 := g2) (by rw [T2]; exact hR) hj6 (p := gm σ 72 j) (by omega) Tp
          rw [ite2_y (Eq.refl true), v1, ev_cl2, grd_y]
          refine ⟨U, rfl, v2.trans T2, fun a h1 h2 => by rw [v3 a h1 h2, Ta a h1], fun k h1 _ => by rw [v4 k h1, Ta 1 (by omega)], ?_, by rw [v4 5 (by decide), Ta 1 (by omega)], by rw [v6 0 (by decide), To 0 (by omega)]; exact u0, by rw [v6 1 (by decide)]; exact T1, by rw [v6 2 (by decide)]; exact Tp, by rw [v6 3 (by decide)]; exact T3, ?_, by rw [v6 5 (by decide), To 5 (by omega)], by rw [v6 6 (by decide), To 6 (by omega)]; exact u6, by rw [v6 7 (by decide), To 7 (by omega)]; exact u7⟩
          · rw [v5, T2, b3, Ta 1 (by omega), Bool.true_and]
          · rw [v7, To 4 (by omega), To 6 (by omega), u4, u6]; rfl
      obtain ⟨τ1, e1, t1⟩ := hcls
      have q : ∀ a, 10 ≤ a → τ1.1 a = σ.1 a := fun a ha => t1.2.1 a (by omega) (by omega)
      have hR1 : τ1.2.2 = ns_rg g1 g2 := by rw [t1.1]; exact hR
      have q70 : τ1.1 70 j = nI (gm σ 70 j) := by rw [q 70 (by omega)]; exact m.2.2.1
      have q75 : τ1.1 75 j = nI (gm σ 75 j) := by rw [q 75 (by omega)]; exact m.2.2.2.2.2.2
      obtain ⟨τ2, e2, hA2⟩ := e_begins (σ := τ1) hR1 hj6 q70 (by rw [q 71 (by omega)]; exact m.2.2.2.1) (by rw [q 72 (by omega)]; exact m.2.2.2.2.1) (by rw [q 73 (by omega)]; exact m.2.2.2.2.2.1)
      have hA3 := hA2.tm j
      rw [q 74 (by omega), q 65 (by omega), ← f3] at hA3
      obtain ⟨r2, ra, r74, rre, r65, rfe, rse, d5, d6, d7, d8⟩ := hA3
      -- the reference
      have href : ∃ τ, (cl2 (g_M_stopsHere (ns_pI τ2 65 28 (nI (gm σ 73 j + 1))) 65) fun r35 σ34 => ite2 (r35 = 0) (g_M_turn_64 σ34 65 (nI j) r35) (cl2 (g_M_rests σ34 65 (nI j)) fun _ σ37 => g_M_turn_64 σ37 65 (nI j) r35)) = g_M_turn_64 τ 65 (nI j) (yn (tst (gm σ 70 j) (gm σ 71 j) (gm σ 73 j) (tb (σ.1 69 (gm σ 72 j)) 4) = true)) ∧ TM τ1 τ j (gm σ 70 j) (gm σ 71 j) (gm σ 72 j) C' (rr (tst (gm σ 70 j) (gm σ 71 j) (gm σ 73 j) (tb (σ.1 69 (gm σ 72 j)) 4)) (rt (gm σ 70 j) (gm σ 75 j)) (σ.1 74 j)) (ff (tst (gm σ 70 j) (gm σ 71 j) (gm σ 73 j) (tb (σ.1 69 (gm σ 72 j)) 4) && tb (σ.1 69 (gm σ 72 j)) 4) (σ.1 1 4)) (σ.1 65 14) := by
        have hR2 : τ2.2.2 = ns_rg g1 g2 := by rw [r2]; exact hR1
        have es := e_stopsHere (σ := ns_pI τ2 65 28 (nI (gm σ 73 j + 1))) hR2 (K := gm σ 70 j) (N := gm σ 71 j) (p := gm σ 72 j) (C := gm σ 73 j + 1) m.1.1 (by omega) (by omega) (by omega) (by rw [pI_st _ _ _ (by decide)]; exact d5) (by rw [pI_st _ _ _ (by decide)]; exact d6) (by rw [pI_st _ _ _ (by decide)]; exact d7) (pI_at _ _ _ _)
        have t69 : (ns_pI τ2 65 28 (nI (gm σ 73 j + 1))).1 69 = σ.1 69 := by rw [pI_ne _ _ _ (by decide), ra 69 (by decide) (by decide), q 69 (by omega)]
        rw [t69] at es
        have es' : g_M_stopsHere (ns_pI τ2 65 28 (nI (gm σ 73 j + 1))) 65 = some (yn (tst (gm σ 70 j) (gm σ 71 j) (gm σ 73 j) (tb (σ.1 69 (gm σ 72 j)) 4) = true), s3 (ns_pI τ2 65 28 (nI (gm σ 73 j + 1))) 65 26 (nI (gm σ 71 j)) (nI (gm σ 72 j)) (nI (tct (gm σ 70 j) (gm σ 71 j) (gm σ 73 j) (tb (σ.1 69 (gm σ 72 j)) 4)))) := es
        rw [hC'] at es'
        generalize hT : s3 (ns_pI τ2 65 28 (nI (gm σ 73 j + 1))) 65 26 (nI (gm σ 71 j)) (nI (gm σ 72 j)) (nI C') = T at es'
        have T2 : T.2 = τ1.2 := by rw [← hT]; exact r2
        have Ta : ∀ a, a ≠ 65 → T.1 a = τ2.1 a := fun a ha => by rw [← hT, s3_ne _ _ _ _ _ ha, pI_ne _ _ _ ha]
        have To : ∀ k, (k < 26 ∨ 28 < k) → T.1 65 k = τ2.1 65 k := fun k hk => by rw [← hT, s3_go _ _ _ _ _ _ (by omega), pI_st _ _ _ (by omega)]
        have T6 : T.1 65 26 = nI (gm σ 71 j) := by rw [← hT]; exact s3_g1 _ _ _ _ _ _
        have T7 : T.1 65 27 = nI (gm σ 72 j) := by rw [← hT]; exact s3_g2 _ _ _ _ _ _
        have T8 : T.1 65 28 = nI C' := by rw [← hT]; exact s3_g3 _ _ _ _ _ _
        rw [es', ev_cl2]
        cases hst : tst (gm σ 70 j) (gm σ 71 j) (gm σ 73 j) (tb (σ.1 69 (gm σ 72 j)) 4) with
        | false =>
          rw [ite2_z (by decide)]
          exact ⟨T, rfl, T2, fun a h1 h3 => by rw [Ta a h3]; exact ra a h1 h3, fun i hi => by rw [Ta 74 (by decide)]; exact r74 i hi, by rw [Ta 74 (by decide)]; exact rre, fun k h1 h3 h4 => by rw [To k (by omega)]; exact r65 k h1 h3 h4, by rw [To 13 (by omega)]; exact rfe, by rw [To 14 (by omega)]; exact rse, by rw [To 25 (by omega)]; exact d5, T6, T7, T8⟩
        | true =>
          obtain ⟨U, v1, v2, v3, v4, v5, v6, v7⟩ := e_restsM (σ := T) (g1 := g1) (g2 := g2) (by rw [T2]; exact hR1) hj6 m.1.1 (p := gm σ 72 j) (O := gm σ 75 j) (by omega) T7 (by rw [Ta 70 (by decide), ra 70 (by decide) (by decide)]; exact q70) (by rw [Ta 75 (by decide), ra 75 (by decide) (by decide)]; exact q75)
          rw [ite2_y (Eq.refl true), v1, ev_cl2]
          refine ⟨U, rfl, v2.trans T2, fun a h1 h3 => by rw [v3 a h1 h3, Ta a h3]; exact ra a h1 h3, fun i hi => by rw [v4 i hi, Ta 74 (by decide)]; exact r74 i hi, by rw [v5, Ta 74 (by decide), rre]; rfl, fun k h1 h3 h4 => by rw [v6 k h3, To k (by omega)]; exact r65 k h1 h3 h4, ?_, by rw [v6 14 (by decide), To 14 (by omega)]; exact rse, by rw [v6 25 (by decide), To 25 (by omega)]; exact d5, by rw [v6 26 (by decide)]; exact T6, by rw [v6 27 (by decide)]; exact T7, by rw [v6 28 (by decide)]; exact T8⟩
          rw [v7, Ta 69 (by decide), ra 69 (by decide) (by decide), q 69 (by omega), To 13 (by omega), rfe, Bool.true_and]
      obtain ⟨τ3, e3, t3⟩ := href
      have hR3 : τ3.2.2 = ns_rg g1 g2 := by rw [t3.1]; exact hR1
      obtain ⟨τ4, e4, s2, sa, si, s71, s72, s73⟩ := e_stays hR3 hj6
      refine ⟨if tst (gm σ 70 j) (gm σ 71 j) (gm σ 73 j) (tb (σ.1 69 (gm σ 72 j)) 4) = true then 1 else 0, τ1, τ4, ?_, ?_, ?_⟩
      · unfold g_N_turn
        rw [gk_0, hR, rg_0_0, ev_drf, gk_1, e_muleAt hR a3 a5 hj, ev_cl2, ev_ons, grd_t hk, hR, rg_0_0, ev_drf, gk_1, rg_1_0, ev_drf, gk_2, u2, hG.1, ite2_p (nI_lt hA (by omega)), ev_drf, gk_1, e1, ev_cl2]
        cases hst : tst (gm σ 70 j) (gm σ 71 j) (gm σ 73 j) (tb (σ.1 69 (gm σ 72 j)) 4) with
        | false => rw [ite2_z (by decide), if_neg (by decide)]
        | true => rw [ite2_y (Eq.refl true), if_pos rfl]
      · show g_M_turn τ1 65 (nI j) = _
        unfold g_M_turn
        have p1 : τ1.1 72 j = nI (gm σ 72 j) := by rw [q 72 (by omega)]; exact m.2.2.2.2.1
        have p28 : τ2.1 65 28 = nI (gm σ 73 j) := d8
        rw [gk_65, e_isMule, ev_cl2, q 65 (by omega), a2, ite2_y hx, hR1, rg_65_8, ev_drf, gk_72, grd_t i8, ns_ixI (by omega), p1, hW.2.1, ite2_n (fun e => by have := (nI_eq (by omega) (by omega)).mp e; omega), e2, ev_cl2, ev_bnd, p28, ← nI_succ]
        refine Eq.trans e3 ?_
        unfold g_M_turn_64
        rw [e4, ev_cl2]
        cases hst : tst (gm σ 70 j) (gm σ 71 j) (gm σ 73 j) (tb (σ.1 69 (gm σ 72 j)) 4) with
        | false => rw [ite2_z (by decide), if_neg (by decide)]
        | true => rw [ite2_y (Eq.refl true), if_pos rfl]
      · exact h.way (by omega) hW hj t1 t3 s2 sa si (by rw [s71]; exact t3.2.2.2.2.2.2.2.2.1) (by rw [s72]; exact t3.2.2.2.2.2.2.2.2.2.1) (by rw [s73]; exact t3.2.2.2.2.2.2.2.2.2.2) nct.1 (by omega) (by omega)
    · have hAE2 : gm σ 72 j = E := by omega
      refine (both.bad h hR (z := 3) (by decide) (c := -5) (by decide) (by decide) ?_ ?_).mono (by omega)
      · unfold g_N_turn
        rw [gk_0, hR, rg_0_0, ev_drf, gk_1, e_muleAt hR a3 a5 hj, ev_cl2, ev_ons, grd_t hk, hR, rg_0_0, ev_drf, gk_1, rg_1_0, ev_drf, gk_2, u2, hG.1, ite2_n (nI_nlt (by omega) (by omega))]
      · show g_M_turn (rfN σ 3) 65 (nI j) = _
        have k65 : (rfN σ 3).1 65 = σ.1 65 := by rw [rfN, pI_ne _ _ _ (by decide)]
        have p1 : (rfN σ 3).1 72 j = nI (gm σ 72 j) := by rw [rfN, pI_ne _ _ _ (by decide)]; exact m.2.2.2.2.1
        unfold g_M_turn
        rw [gk_65, e_isMule, ev_cl2, k65, a2, ite2_y hx, rfN_R, hR, rg_65_8, ev_drf, gk_72, grd_t i8, ns_ixI (by omega), p1, hW.2.1, ite2_p (by rw [hAE2])]
  · refine (both.bad h hR (z := 0) (by decide) (c := -2) (by decide) (by decide) ?_ ?_).mono (by omega)
    · unfold g_N_turn
      rw [gk_0, hR, rg_0_0, ev_drf, gk_1, e_muleAtN a5 hx2, ev_cl2, ev_onn]
    · show g_M_turn (rfN σ 0) 65 x = _
      unfold g_M_turn
      rw [gk_65, e_isMule, ev_cl2, e5, ite2_z hx]
