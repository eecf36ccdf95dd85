/-! A JOURNEY, by numbers -/
def sg (th : Nat → Int32) (K N C p b : Nat) : Nat × Nat × Bool := stN K N C (tb (th p) 1) (tb (th p) 2) (tb (th p) 4) b
/-- NUMBER and COUNT behind n STEPS from A on -/
def jr (th : Nat → Int32) (K A N C : Nat) : Nat → Nat × Nat
  | 0 => (N, C)
  | n + 1 => ((sg th K (jr th K A N C n).1 (jr th K A N C n).2 (A + n + 1) 0).1, (sg th K (jr th K A N C n).1 (jr th K A N C n).2 (A + n + 1) 0).2.1)
/-- whether it STOPS at A + n + 1 -/
def js (th : Nat → Int32) (K A N C n : Nat) : Bool := (sg th K (jr th K A N C n).1 (jr th K A N C n).2 (A + n + 1) 0).2.2
theorem wtK_le (K : Nat) : wtK K ≤ 1 := by unfold wtK; split <;> omega
theorem stN_N {K N C b : Nat} {s i c : Bool} (h : N ≤ 64) : (stN K N C s i c b).1 ≤ 64 := by
  unfold stN; dsimp only; split
  · split <;> omega
  · exact h
theorem stN_N2 {K N C b : Nat} {s i c : Bool} (h : 2 ≤ N) : 2 ≤ (stN K N C s i c b).1 := by
  unfold stN; dsimp only; split
  · split <;> omega
  · exact h
theorem stN_C {K N C b : Nat} {s i c : Bool} : (stN K N C s i c b).2.1 ≤ C + 2 + b := by
  have hw := wtK_le K
  have h : cnN K C s b ≤ C + 2 + b := by unfold cnN; split <;> omega
  unfold stN; dsimp only; split
  · omega
  · exact h
theorem jr_N {th : Nat → Int32} {K A N C : Nat} (h : N ≤ 64) (n : Nat) : (jr th K A N C n).1 ≤ 64 := by
  induction n with
  | zero => exact h
  | succ n ih => rw [jr]; show (stN K (jr th K A N C n).1 (jr th K A N C n).2 (tb (th (A + n + 1)) 1) (tb (th (A + n + 1)) 2) (tb (th (A + n + 1)) 4) 0).1 ≤ 64; exact stN_N ih
theorem jr_C {th : Nat → Int32} {K A N C : Nat} (n : Nat) : (jr th K A N C n).2 ≤ C + 2 * n := by
  induction n with
  | zero => exact Nat.le_refl _
  | succ n ih =>
    rw [jr]
    have := stN_C (K := K) (N := (jr th K A N C n).1) (C := (jr th K A N C n).2) (b := 0) (s := tb (th (A + n + 1)) 1) (i := tb (th (A + n + 1)) 2) (c := tb (th (A + n + 1)) 4)
    show (stN K _ _ _ _ _ 0).2.1 ≤ _
    omega
/-- memories that differ in one cell of ints -/
def On (c : Nat) (σ σ' : ns_St) : Prop := σ'.2 = σ.2 ∧ ∀ b, b ≠ c → σ'.1 b = σ.1 b
theorem On.rfl (c : Nat) (σ : ns_St) : On c σ σ := ⟨Eq.refl _, fun _ _ => Eq.refl _⟩
theorem On.trans {c : Nat} {x y z : ns_St} (h1 : On c x y) (h2 : On c y z) : On c x z := ⟨h2.1.trans h1.1, fun b hb => (h2.2 b hb).trans (h1.2 b hb)⟩
theorem On.s3 {c i : Nat} {σ : ns_St} {v1 v2 v3 : Int32} : On c σ (s3 σ c i v1 v2 v3) := ⟨Eq.refl _, fun b hb => s3_ne σ i v1 v2 v3 hb⟩
theorem On.pI {c k : Nat} {σ : ns_St} {v : Int32} : On c σ (ns_pI σ c k v) := ⟨Eq.refl _, fun b hb => pI_ne σ k v hb⟩
theorem On.same {c : Nat} {σ σ' : ns_St} (h : On c σ σ') (hc : scr c) : Same σ σ' := by
  refine ⟨fun a ha _ => h.2 a (fun e => ha (e ▸ hc)), fun k _ => ?_, fun a _ => by rw [h.1], fun ⟨g1, g2, q⟩ => ⟨g1, g2, by rw [h.1]; exact q⟩⟩
  rw [h.2 65 (fun e => by subst e; rcases hc with hc | hc | hc <;> omega)]
theorem GR.bits {σ : ns_St} {g E : Nat} {th : Nat → Int32} (h : GR σ g th E) {p : Nat} (hp : p ≤ E) : gb (σ.2.1 g 1) p = tb (th p) 1 ∧ gb (σ.2.1 g 2) p = tb (th p) 2 ∧ gb (σ.2.1 g 3) p = tb (th p) 4 ∧ gb (σ.2.1 g 4) p = tb (th p) 8 := by
  have h1 := h.2.2.2.1 p (by have := h.2.2.1; omega)
  simp only [hp, decide_true, Bool.true_and] at h1
  exact h1
/-- the mask of STOPS, as the loop makes it: r STEPS from the k-th on -/
def mka (th : Nat → Int32) (K A N C : Nat) : Nat → Nat → Int64 → Int64
  | 0, _, x => x
  | r + 1, k, x => mka th K A N C r (k + 1) (if js th K A N C k = true then x ||| ((1 : Int64) <<< ((nI (A + k + 1)).toInt64 &&& 63)) else x)
theorem e_sb27 {th : Nat → Int32} {K A N C E : Nat} {g1 g2 : Option Nat} (hK : K ≤ 5) (hE : E ≤ 60) (hN : N ≤ 64) (hC : C < 2 ^ 27) : ∀ (r k f : Nat) (τ : ns_St) (x : Int64), r < f → A + k + r = E → τ.2.2 = ns_rg g1 g2 → GR τ 2 th E → τ.1 46 0 = nI K → τ.1 46 7 = nI (wtK K) → τ.1 46 1 = nI (jr th K A N C k).1 → τ.1 46 2 = nI (A + k) → τ.1 46 3 = nI (jr th K A N C k).2 →
    ∃ τ', g_N_stopsBy_27 f τ 0 x (nI (A + k + 1)) = some (mka th K A N C r k x, τ') ∧ On 46 τ τ' := by
  intro r
  induction r with
  | zero =>
    intro k f τ x hf hEk hR hG h0 h7 h1 h2 h3
    obtain ⟨f, rfl⟩ : ∃ q, f = q + 1 := ⟨f - 1, by omega⟩
    refine ⟨τ, ?_, On.rfl _ _⟩
    rw [g_N_stopsBy_27]
    simp only [hR, rg_0_0, ev_drf, gk_1, rg_1_0, gk_2]
    rw [ite2_p (by rw [hG.1]; exact nI_lt (by omega) (by omega))]
    rfl
  | succ r ih =>
    intro k f τ x hf hEk hR hG h0 h7 h1 h2 h3
    obtain ⟨f, rfl⟩ : ∃ q, f = q + 1 := ⟨f - 1, by omega⟩
    have bN := jr_N (th := th) (K := K) (A := A) (C := C) hN k
    have bC := jr_C (th := th) (K := K) (A := A) (N := N) (C := C) k
    obtain ⟨t1, t2, t3, t4⟩ := hG.bits (p := A + k + 1) (by omega)
    have hs := e_makeStep (σ := τ) (a := 46) (g := 2) (K := K) (N := (jr th K A N C k).1) (p := A + k) (C := (jr th K A N C k).2) (b := 0) kd_46 kd_2 hK (by omega) (by omega) (by omega) (by omega) h0 h1 h2 h3 h7
    rw [t1, t2, t3] at hs
    rw [g_N_stopsBy_27]
    simp only [hR, rg_0_0, ev_drf, gk_1, rg_1_0, gk_2]
    rw [ite2_n (by rw [hG.1]; exact nI_nlt (by omega) (by omega))]
    simp only [rg_0_8, ev_drf, gk_46]
    rw [show nI 0 = (0 : Int32) from rfl] at hs
    rw [hs, ev_cl2]
    generalize hτ' : s3 τ 46 1 (nI (stN K (jr th K A N C k).1 (jr th K A N C k).2 (tb (th (A + k + 1)) 1) (tb (th (A + k + 1)) 2) (tb (th (A + k + 1)) 4) 0).1) (nI (A + k + 1)) (nI (stN K (jr th K A N C k).1 (jr th K A N C k).2 (tb (th (A + k + 1)) 1) (tb (th (A + k + 1)) 2) (tb (th (A + k + 1)) 4) 0).2.1) = τ'
    have on : On 46 τ τ' := by rw [← hτ']; exact On.s3
    have q0 : τ'.1 46 0 = nI K := by rw [← hτ', s3_go _ _ _ _ _ _ (by omega)]; exact h0
    have q7 : τ'.1 46 7 = nI (wtK K) := by rw [← hτ', s3_go _ _ _ _ _ _ (by omega)]; exact h7
    have q1 : τ'.1 46 1 = nI (jr th K A N C (k + 1)).1 := by rw [← hτ']; exact s3_g1 _ _ _ _ _ _
    have q2 : τ'.1 46 2 = nI (A + (k + 1)) := by rw [← hτ']; exact s3_g2 _ _ _ _ _ _
    have q3 : τ'.1 46 3 = nI (jr th K A N C (k + 1)).2 := by rw [← hτ']; exact s3_g3 _ _ _ _ _ _
    have qR : τ'.2.2 = ns_rg g1 g2 := by rw [on.1]; exact hR
    have qG : GR τ' 2 th E := hG.cong (on.2 2 (by decide)) (by rw [on.1])
    have step : ∀ y : Int64, ∃ τ'', g_N_stopsBy_27 f τ' 0 y (nI (A + k + 1) + 1) = some (mka th K A N C r (k + 1) y, τ'') ∧ On 46 τ τ'' := by
      intro y
      obtain ⟨τ'', e1, e2⟩ := ih (k + 1) f τ' y (by omega) (by omega) qR qG q0 q7 q1 q2 q3
      refine ⟨τ'', ?_, on.trans e2⟩
      rw [← nI_succ]
      exact e1
    have hjs : (stN K (jr th K A N C k).1 (jr th K A N C k).2 (tb (th (A + k + 1)) 1) (tb (th (A + k + 1)) 2) (tb (th (A + k + 1)) 4) 0).2.2 = js th K A N C k := rfl
    rw [hjs, mka]
    cases hj : js th K A N C k with
    | false =>
      rw [ite2_z (by decide), ev_bnd, if_neg (by decide)]
      exact step x
    | true =>
      rw [ite2_y (Eq.refl true), if_pos (Eq.refl true)]
      unfold g_N_bit
      rw [ev_cl2, ev_bnd, ev_bnd]
      exact step _
theorem e_takeFrom {σ : ns_St} {a c : Nat} (ha : ns_kd a = 2) (hc : ns_kd c = 2) (hne : c ≠ a) : ∃ τ, g_Mule_takeFrom σ a c = some ((), τ) ∧ On a σ τ ∧ ∀ k, k < 8 → τ.1 a k = σ.1 c k := by
  unfold g_Mule_takeFrom
  rw [grd_t ha, grd_t hc]
  simp only [ev_bnd]
  refine ⟨_, rfl, ?_, ?_⟩
  · exact (((((((On.pI.trans On.pI).trans On.pI).trans On.pI).trans On.pI).trans On.pI).trans On.pI).trans On.pI)
  · intro k hk
    have key : ∀ (σ : ns_St) (i : Nat) (v : Int32), (ns_pI σ a i v).1 c = σ.1 c := fun σ i v => pI_ne σ i v hne
    simp only [key]
    rcases (by omega : k = 0 ∨ k = 1 ∨ k = 2 ∨ k = 3 ∨ k = 4 ∨ k = 5 ∨ k = 6 ∨ k = 7) with rfl | rfl | rfl | rfl | rfl | rfl | rfl | rfl <;> simp [pI_1]
theorem e_standAt {σ : ns_St} {a : Nat} (ha : ns_kd a = 2) (x y z : Int32) : g_Mule_standAt σ a x y z = some ((), s3 σ a 1 z x y) := by
  unfold g_Mule_standAt
  rw [grd_t ha]
  simp only [ev_bnd]
  rw [s3_i2 (i := 1) (Eq.refl _) (Eq.refl _) (Eq.refl _), (s3_put _ _ _ _ _ _ _).2.2, (s3_put _ _ _ _ _ _ _).1]
/-- stopsBy: the STOPS of a JOURNEY from a PLACE on, with a NUMBER and a COUNT -/
theorem e_stopsBy {σ : ns_St} {g1 g2 : Option Nat} (hR : σ.2.2 = ns_rg g1 g2) {th : Nat → Int32} {E : Nat} (hG : GR σ 2 th E) {c K A N C : Nat} (hc : ns_kd c = 2) (hc46 : c ≠ 46) (hK : K ≤ 5) (hN : N ≤ 64) (hC : C < 2 ^ 27) (hA : A ≤ E) (h0 : σ.1 c 0 = nI K) (h7 : σ.1 c 7 = nI (wtK K)) :
    ∃ τ, g_N_stopsBy σ 0 c (nI A) (nI N) (nI C) = some (mka th K A N C (E - A) 0 0, τ) ∧ On 46 σ τ := by
  obtain ⟨τ1, e1, on1, c1⟩ := e_takeFrom (σ := σ) kd_46 hc hc46
  have hE := hG.2.2.1
  have on2 : On 46 σ (s3 τ1 46 1 (nI N) (nI A) (nI C)) := on1.trans On.s3
  obtain ⟨τ3, e3, on3⟩ := e_sb27 (th := th) (K := K) (A := A) (N := N) (C := C) (E := E) (g1 := g1) (g2 := g2) hK hE hN hC (E - A) 0 ns_F (s3 τ1 46 1 (nI N) (nI A) (nI C)) 0 (by show E - A < 10000; omega) (by omega) (by rw [on2.1]; exact hR) (hG.cong (on2.2 2 (by decide)) (by rw [on2.1])) (by rw [s3_go _ _ _ _ _ _ (by omega), c1 0 (by omega)]; exact h0) (by rw [s3_go _ _ _ _ _ _ (by omega), c1 7 (by omega)]; exact h7) (s3_g1 _ _ _ _ _ _) (s3_g2 _ _ _ _ _ _) (s3_g3 _ _ _ _ _ _)
  refine ⟨τ3, ?_, on2.trans on3⟩
  unfold g_N_stopsBy
  rw [gk_0, grd_t hc, hR, rg_0_8, ev_drf, gk_46, e1, ev_cl2, on1.1, hR, rg_0_8, ev_drf, gk_46, e_standAt kd_46, ev_cl2, ev_bnd, ← nI_succ]
  exact e3
