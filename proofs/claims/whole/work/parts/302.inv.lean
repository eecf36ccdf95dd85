/-! what holds between the class's cells and the reference's, between two calls -/
def gb (m : Int64) (p : Nat) : Bool := m.toBitVec.getLsbD p
def tb (x b : Int32) : Bool := decide (¬ x &&& b = 0)
/-- a MULE's cell -/
def MU (σ : ns_St) (c K N A C O : Nat) (re : Int32) : Prop :=
  σ.1 c 0 = nI K ∧ σ.1 c 1 = nI N ∧ σ.1 c 2 = nI A ∧ σ.1 c 3 = nI C ∧ σ.1 c 4 = re ∧ σ.1 c 5 = nI O ∧ σ.1 c 6 = nI (if K = 1 ∨ K = 3 then 1 + O else 1) ∧ σ.1 c 7 = nI (if K = 2 ∨ K = 5 then 0 else 1)
def MV (E B K N A C O : Nat) : Prop := K ≤ 5 ∧ 2 ≤ N ∧ N ≤ 64 ∧ A ≤ E ∧ C ≤ B ∧ O ≤ 9 ∧ (K ≠ 3 → C < N) ∧ (K ≠ 4 → N ≤ 13)
/-- a pass: the class's masks, the reference's row -/
def GR (σ : ns_St) (g : Nat) (th : Nat → Int32) (E : Nat) : Prop :=
  σ.1 g 0 = nI E ∧ 1 ≤ E ∧ E ≤ 60 ∧ (∀ p, p < 64 → gb (σ.2.1 g 1) p = (decide (p ≤ E) && tb (th p) 1) ∧ gb (σ.2.1 g 2) p = (decide (p ≤ E) && tb (th p) 2) ∧ gb (σ.2.1 g 3) p = (decide (p ≤ E) && tb (th p) 4) ∧ gb (σ.2.1 g 4) p = (decide (p ≤ E) && tb (th p) 8)) ∧
  ∀ p, p ≤ 60 → (∃ v, v < 16 ∧ th p = nI v) ∧ (E < p → th p = 0)
/-- a world of the class, whose first cell is w, and what the reference has of it -/
def WR (σ : ns_St) (w B : Nat) (e : Int32) (th : Nat → Int32) (h : Int32) (k nu pl ct re ow : Nat → Int32) (sl fe se : Int32) : Prop :=
  ∃ E H : Nat, e = nI E ∧ h = nI H ∧ H ≤ 6 ∧ GR σ (w + 1) th E ∧ σ.1 w 2 = nI H ∧ σ.1 w 3 = sl ∧ (0 ≤ sl ∧ sl ≤ 1000) ∧ σ.1 w 4 = fe ∧ σ.1 w 5 = se ∧
  ∀ j, j < H → ∃ K N A C O : Nat, MV E B K N A C O ∧ MU σ (w + 3 + j) K N A C O (re j) ∧ k j = nI K ∧ nu j = nI N ∧ pl j = nI A ∧ ct j = nI C ∧ ow j = nI O
def Wnow (σ : ns_St) (B : Nat) : Prop := WR σ 1 B (σ.1 65 3) (σ.1 69) (σ.1 65 5) (σ.1 70) (σ.1 71) (σ.1 72) (σ.1 73) (σ.1 74) (σ.1 75) (σ.1 65 12) (σ.1 65 13) (σ.1 65 14)
def Wold (σ : ns_St) (B : Nat) : Prop := WR σ 10 B (σ.1 78 97) (σ.1 78) (σ.1 78 98) (fun m => σ.1 78 (61 + m)) (fun m => σ.1 78 (67 + m)) (fun m => σ.1 78 (73 + m)) (fun m => σ.1 78 (79 + m)) (fun m => σ.1 78 (85 + m)) (fun m => σ.1 78 (91 + m)) (σ.1 78 99) (σ.1 78 100) (σ.1 78 101)
def Ish (σ : ns_St) : Prop := ∀ s, s < 8 → σ.1 (49 + 2 * s) 0 = σ.1 66 s ∧ σ.1 (49 + 2 * s) 1 = σ.1 67 s ∧ (∃ z, z ≤ 40 ∧ σ.1 67 s = nI z) ∧ (σ.1 66 s = -1 ∨ (∃ z, z ≤ 4 ∧ σ.1 66 s = nI z) ∨ ∃ j, σ.1 66 s = nI (10 + j) ∧ j < (σ.1 65 5).toNatClampNeg) ∧ ∀ i, i < 40 → σ.2.1 (50 + 2 * s) i = σ.2.1 68 (40 * s + i)
def Itp (σ : ns_St) : Prop := ∃ z, z ≤ 250 ∧ σ.1 29 1 = nI z ∧ σ.1 65 15 = nI z ∧ ∀ i, i < z → ∃ v, v < 256 ∧ σ.1 30 i = nI v ∧ σ.1 76 i = nI v
def Irs (σ : ns_St) : Prop := ∀ k, k < 5 → σ.1 48 k = σ.1 77 (k + 2)
def Iim (σ : ns_St) (B : Nat) : Prop := σ.1 0 11 = σ.1 65 22 ∧ (σ.1 65 22 = 0 ∨ σ.1 65 22 = 1 ∧ Wold σ B)
def Irf (σ : ns_St) : Prop := ∃ g1 g2 : Option Nat, σ.2.2 = ns_rg g1 g2
def Inv (B : Nat) (σ : ns_St) : Prop := Irf σ ∧ Wnow σ B ∧ Iim σ B ∧ Ish σ ∧ Itp σ ∧ Irs σ
theorem MU.cong {σ σ' : ns_St} {c K N A C O : Nat} {re : Int32} (h : σ'.1 c = σ.1 c) (hm : MU σ c K N A C O re) : MU σ' c K N A C O re := by
  unfold MU at *; rw [h]; exact hm
theorem GR.cong {σ σ' : ns_St} {g E : Nat} {th : Nat → Int32} (h1 : σ'.1 g = σ.1 g) (h2 : σ'.2.1 g = σ.2.1 g) (hm : GR σ g th E) : GR σ' g th E := by
  unfold GR at *; rw [h1, h2]; exact hm
theorem WR.cong {σ σ' : ns_St} {w B : Nat} {e : Int32} {th : Nat → Int32} {h : Int32} {k nu pl ct re ow : Nat → Int32} {sl fe se : Int32} (h1 : ∀ c, w ≤ c → c < w + 9 → σ'.1 c = σ.1 c) (h2 : σ'.2.1 (w + 1) = σ.2.1 (w + 1)) (hw : WR σ w B e th h k nu pl ct re ow sl fe se) : WR σ' w B e th h k nu pl ct re ow sl fe se := by
  obtain ⟨E, H, a1, a2, a3, a4, a5, a6, a7, a8, a9, a10⟩ := hw
  have hww := h1 w (by omega) (by omega)
  refine ⟨E, H, a1, a2, a3, a4.cong (h1 _ (by omega) (by omega)) h2, by rw [hww]; exact a5, by rw [hww]; exact a6, a7, by rw [hww]; exact a8, by rw [hww]; exact a9, fun j hj => ?_⟩
  obtain ⟨K, N, A, C, O, b1, b2, b3⟩ := a10 j hj
  exact ⟨K, N, A, C, O, b1, b2.cong (h1 _ (by omega) (by omega)), b3⟩
theorem MV.mono {E B B' K N A C O : Nat} (h : B ≤ B') (hm : MV E B K N A C O) : MV E B' K N A C O := by
  obtain ⟨a, b, c, d, e, f⟩ := hm
  exact ⟨a, b, c, d, by omega, f⟩
theorem WR.mono {σ : ns_St} {w B B' : Nat} {e : Int32} {th : Nat → Int32} {h : Int32} {k nu pl ct re ow : Nat → Int32} {sl fe se : Int32} (hB : B ≤ B') (hw : WR σ w B e th h k nu pl ct re ow sl fe se) : WR σ w B' e th h k nu pl ct re ow sl fe se := by
  obtain ⟨E, H, a1, a2, a3, a4, a5, a6, a7, a8, a9, a10⟩ := hw
  refine ⟨E, H, a1, a2, a3, a4, a5, a6, a7, a8, a9, fun j hj => ?_⟩
  obtain ⟨K, N, A, C, O, b1, b2⟩ := a10 j hj
  exact ⟨K, N, A, C, O, b1.mono hB, b2⟩
theorem Inv.mono {B B' : Nat} {σ : ns_St} (hB : B ≤ B') (h : Inv B σ) : Inv B' σ := by
  obtain ⟨a, b, ⟨c1, c2⟩, d⟩ := h
  exact ⟨a, WR.mono hB b, ⟨c1, c2.imp id (fun h => ⟨h.1, WR.mono hB h.2⟩)⟩, d⟩
/-- the cells that only a call in thought uses -/
def scr (a : Nat) : Prop := (19 ≤ a ∧ a ≤ 27) ∨ (31 ≤ a ∧ a ≤ 47) ∨ 79 ≤ a
def scf (k : Nat) : Prop := (17 ≤ k ∧ k ≤ 20) ∨ (25 ≤ k ∧ k ≤ 28)
/-- two memories that differ only there -/
def Same (σ σ' : ns_St) : Prop := (∀ a, ¬ scr a → a ≠ 65 → σ'.1 a = σ.1 a) ∧ (∀ k, ¬ scf k → σ'.1 65 k = σ.1 65 k) ∧ (∀ a, ¬ scr a → σ'.2.1 a = σ.2.1 a) ∧ (Irf σ → Irf σ')
theorem Same.rfl (σ : ns_St) : Same σ σ := ⟨fun _ _ _ => Eq.refl _, fun _ _ => Eq.refl _, fun _ _ => Eq.refl _, id⟩
theorem Same.trans {a b c : ns_St} (h1 : Same a b) (h2 : Same b c) : Same a c :=
  ⟨fun x hx hy => (h2.1 x hx hy).trans (h1.1 x hx hy), fun k hk => (h2.2.1 k hk).trans (h1.2.1 k hk), fun x hx => (h2.2.2.1 x hx).trans (h1.2.2.1 x hx), fun h => h2.2.2.2 (h1.2.2.2 h)⟩
theorem Same.pI {σ : ns_St} {a k : Nat} {v : Int32} (h : scr a) : Same σ (ns_pI σ a k v) := by
  refine ⟨fun x hx _ => pI_ne σ k v (fun e => hx (e ▸ h)), fun j _ => ?_, fun _ _ => Eq.refl _, id⟩
  rw [pI_ne σ k v (fun e => by subst e; rcases h with h | h | h <;> omega)]
theorem Same.pI65 {σ : ns_St} {k : Nat} {v : Int32} (h : scf k) : Same σ (ns_pI σ 65 k v) := by
  refine ⟨fun x _ hx => pI_ne σ k v hx, fun j hj => ?_, fun _ _ => Eq.refl _, id⟩
  rw [pI_1, if_pos (Eq.refl _), if_neg (show ¬ j = k from fun e => hj (e ▸ h))]
theorem Same.pJ {σ : ns_St} {a k : Nat} {v : Int64} (h : scr a) : Same σ (ns_pJ σ a k v) :=
  ⟨fun _ _ _ => Eq.refl _, fun _ _ => Eq.refl _, fun x hx => pJ_ne σ k v (fun e => hx (e ▸ h)), id⟩
theorem Same.pR1 {σ : ns_St} {v : Option Nat} : Same σ (ns_pR σ 31 3 v) := by
  refine ⟨fun _ _ _ => Eq.refl _, fun _ _ => Eq.refl _, fun _ _ => Eq.refl _, fun ⟨g1, g2, h⟩ => ⟨v, g2, ?_⟩⟩
  show va_up σ.2.2 31 (va_up (σ.2.2 31) 3 v) = _
  rw [h]; exact rg_p1 g1 g2 v
theorem Same.pR2 {σ : ns_St} {v : Option Nat} : Same σ (ns_pR σ 35 7 v) := by
  refine ⟨fun _ _ _ => Eq.refl _, fun _ _ => Eq.refl _, fun _ _ => Eq.refl _, fun ⟨g1, g2, h⟩ => ⟨g1, v, ?_⟩⟩
  show va_up σ.2.2 35 (va_up (σ.2.2 35) 7 v) = _
  rw [h]; exact rg_p2 g1 g2 v
theorem nscr_w1 {c : Nat} (h : c < 19) : ¬ scr c := by unfold scr; omega
theorem nscr_r {c : Nat} (h : 28 ≤ c ∧ c ≤ 30 ∨ 48 ≤ c ∧ c ≤ 78) : ¬ scr c := by unfold scr; omega
theorem Inv.same {B : Nat} {σ σ' : ns_St} (h : Inv B σ) (hs : Same σ σ') : Inv B σ' := by
  obtain ⟨hrf, hw, ⟨i1, i2⟩, hsh, htp, hrs⟩ := h
  obtain ⟨s1, s2, s3, s4⟩ := hs
  have f : ∀ k, ¬ scf k → σ'.1 65 k = σ.1 65 k := s2
  have lo : ∀ c, c < 19 → σ'.1 c = σ.1 c := fun c hc => s1 c (nscr_w1 hc) (by omega)
  have mi : ∀ c, (28 ≤ c ∧ c ≤ 30 ∨ 48 ≤ c ∧ c ≤ 78) → c ≠ 65 → σ'.1 c = σ.1 c := fun c hc hn => s1 c (nscr_r hc) hn
  refine ⟨s4 hrf, ?_, ⟨?_, ?_⟩, ?_, ?_, ?_⟩
  · unfold Wnow
    rw [f 3 (by unfold scf; omega), f 5 (by unfold scf; omega), f 12 (by unfold scf; omega), f 13 (by unfold scf; omega), f 14 (by unfold scf; omega), mi 69 (by omega) (by omega), mi 70 (by omega) (by omega), mi 71 (by omega) (by omega), mi 72 (by omega) (by omega), mi 73 (by omega) (by omega), mi 74 (by omega) (by omega), mi 75 (by omega) (by omega)]
    exact WR.cong (fun c _ h => lo c (by omega)) (s3 2 (nscr_w1 (by omega))) hw
  · rw [lo 0 (by omega), f 22 (by unfold scf; omega)]; exact i1
  · rw [f 22 (by unfold scf; omega)]
    refine i2.imp id (fun h => ⟨h.1, ?_⟩)
    unfold Wold
    rw [mi 78 (by omega) (by omega)]
    exact WR.cong (fun c _ h => lo c (by omega)) (s3 11 (nscr_w1 (by omega))) h.2
  · intro s hsl
    have := hsh s hsl
    rw [mi (49 + 2 * s) (by omega) (by omega), mi 66 (by omega) (by omega), mi 67 (by omega) (by omega), f 5 (by unfold scf; omega), s3 (50 + 2 * s) (nscr_r (by omega)), s3 68 (nscr_r (by omega))]
    exact this
  · unfold Itp
    rw [mi 29 (by omega) (by omega), mi 30 (by omega) (by omega), mi 76 (by omega) (by omega), f 15 (by unfold scf; omega)]
    exact htp
  · unfold Irs
    rw [mi 48 (by omega) (by omega), mi 77 (by omega) (by omega)]
    exact hrs
theorem Wnow.cong {B : Nat} {σ σ' : ns_St} (h : Wnow σ B) (h1 : ∀ c, 1 ≤ c → c < 10 → σ'.1 c = σ.1 c) (h2 : σ'.2.1 2 = σ.2.1 2) (h3 : σ'.1 65 3 = σ.1 65 3) (h5 : σ'.1 65 5 = σ.1 65 5) (h12 : σ'.1 65 12 = σ.1 65 12) (h13 : σ'.1 65 13 = σ.1 65 13) (h14 : σ'.1 65 14 = σ.1 65 14) (hm : ∀ c, 69 ≤ c → c ≤ 75 → σ'.1 c = σ.1 c) : Wnow σ' B := by
  unfold Wnow
  rw [h3, h5, h12, h13, h14, hm 69 (by omega) (by omega), hm 70 (by omega) (by omega), hm 71 (by omega) (by omega), hm 72 (by omega) (by omega), hm 73 (by omega) (by omega), hm 74 (by omega) (by omega), hm 75 (by omega) (by omega)]
  exact WR.cong (fun c a b => h1 c a (by omega)) h2 h
theorem Iim.cong {B : Nat} {σ σ' : ns_St} (h : Iim σ B) (h0 : σ'.1 0 11 = σ.1 0 11) (h22 : σ'.1 65 22 = σ.1 65 22) (h1 : ∀ c, 10 ≤ c → c < 19 → σ'.1 c = σ.1 c) (h2 : σ'.2.1 11 = σ.2.1 11) (h78 : σ'.1 78 = σ.1 78) : Iim σ' B := by
  unfold Iim
  rw [h0, h22]
  refine ⟨h.1, h.2.imp id (fun q => ⟨q.1, ?_⟩)⟩
  unfold Wold
  rw [h78]
  exact WR.cong (fun c a b => h1 c a (by omega)) h2 q.2
theorem Ish.cong {σ σ' : ns_St} (h : Ish σ) (h1 : ∀ c, 49 ≤ c → c < 65 → σ'.1 c = σ.1 c) (h2 : ∀ c, 49 ≤ c → c < 65 → σ'.2.1 c = σ.2.1 c) (h66 : σ'.1 66 = σ.1 66) (h67 : σ'.1 67 = σ.1 67) (h68 : σ'.2.1 68 = σ.2.1 68) (h5 : σ'.1 65 5 = σ.1 65 5) : Ish σ' := by
  intro s hs
  have := h s hs
  rw [h1 (49 + 2 * s) (by omega) (by omega), h2 (50 + 2 * s) (by omega) (by omega), h66, h67, h68, h5]
  exact this
theorem Itp.cong {σ σ' : ns_St} (h : Itp σ) (h29 : σ'.1 29 = σ.1 29) (h30 : σ'.1 30 = σ.1 30) (h76 : σ'.1 76 = σ.1 76) (h15 : σ'.1 65 15 = σ.1 65 15) : Itp σ' := by
  unfold Itp; rw [h29, h30, h76, h15]; exact h
theorem Irs.cong {σ σ' : ns_St} (h : Irs σ) (h48 : σ'.1 48 = σ.1 48) (h77 : σ'.1 77 = σ.1 77) : Irs σ' := by
  unfold Irs; rw [h48, h77]; exact h
