/-! TURNS: the fewest, by numbers -/
/-- NUMBER k STEPS on -/
def nbk (th : Nat → Int32) (K A N : Nat) : Nat → Nat
  | 0 => N
  | k + 1 => if (tb (th (A + k + 1)) 2 && decide (K = 4)) = true then (if 2 * nbk th K A N k < 64 then 2 * nbk th K A N k else 64) else nbk th K A N k
theorem nbk_sg (th : Nat → Int32) (K A N k c : Nat) : (sg th K (nbk th K A N k) c (A + k + 1) 0).1 = nbk th K A N (k + 1) := rfl
theorem nbk_b {th : Nat → Int32} {K A N : Nat} (h1 : 2 ≤ N) (h2 : N ≤ 64) : ∀ k, 2 ≤ nbk th K A N k ∧ nbk th K A N k ≤ 64
  | 0 => ⟨h1, h2⟩
  | k + 1 => by
    have := nbk_b (th := th) (K := K) (A := A) h1 h2 k
    rw [nbk]
    split
    · split <;> omega
    · exact this
theorem nbk_3 {th : Nat → Int32} {K A N : Nat} (hK : K ≠ 4) : ∀ k, nbk th K A N k = N
  | 0 => rfl
  | k + 1 => by rw [nbk, if_neg (by simp [hK])]; exact nbk_3 hK k
theorem nbk_jr {th : Nat → Int32} {K A N C : Nat} : ∀ k, (jr th K A N C k).1 = nbk th K A N k
  | 0 => rfl
  | k + 1 => by
    have e := nbk_jr (th := th) (K := K) (A := A) (N := N) (C := C) k
    show (sg th K (jr th K A N C k).1 (jr th K A N C k).2 (A + k + 1) 0).1 = _
    rw [e]; rfl
def seen (th : Nat → Int32) (A k c : Nat) : Bool := decide (k = 0) || decide (c = 0) || !tb (th (A + k)) 8
def opv (th : Nat → Int32) (K A N k : Nat) (G : Nat → Nat) (i c : Nat) (h : Bool) : Nat := if (h && !((sg th K (nbk th K A N k) c (A + k + 1) 0).2.2 && tb (th (A + k + 1)) 4)) = true then min 1000 (i + G (sg th K (nbk th K A N k) c (A + k + 1) 0).2.1) else 1000
def nw (th : Nat → Int32) (K A N k : Nat) (G : Nat → Nat) : Nat → Nat → Nat → Bool → Nat
  | 0, i, c, h => opv th K A N k G i c h
  | j + 1, i, c, h => if tst K (nbk th K A N k) c (tb (th (A + k)) 4) = true then (if tb (th (A + k)) 4 = true then 1000 else nw th K A N k G j (i + 1) 0 true) else nw th K A N k G j (i + 1) (c + 1) h
def mn (th : Nat → Int32) (K A N k : Nat) (G : Nat → Nat) : Nat → Nat → Nat → Bool → Nat
  | 0, i, c, h => opv th K A N k G i c h
  | j + 1, i, c, h => min (opv th K A N k G i c h) (if tst K (nbk th K A N k) c (tb (th (A + k)) 4) = true then (if tb (th (A + k)) 4 = true then 1000 else mn th K A N k G j (i + 1) 0 true) else mn th K A N k G j (i + 1) (c + 1) h)
def Mv (th : Nat → Int32) (K A N : Nat) : Nat → Nat → Nat → Nat
  | 0, k, c => if seen th A k c = true then 0 else 1000
  | r + 1, k, c => mn th K A N k (Mv th K A N r (k + 1)) 3 0 c (seen th A k c)
/-- COUNT behind j TURNS and a STEP -/
def nct (th : Nat → Int32) (K A N k : Nat) : Nat → Nat → Nat
  | 0, c => (sg th K (nbk th K A N k) c (A + k + 1) 0).2.1
  | j + 1, c => if tst K (nbk th K A N k) c (tb (th (A + k)) 4) = true then nct th K A N k j 0 else nct th K A N k j (c + 1)
theorem mn_s (th : Nat → Int32) (K A N k : Nat) (G : Nat → Nat) (j i c : Nat) (h : Bool) : mn th K A N k G (j + 1) i c h = min (opv th K A N k G i c h) (if tst K (nbk th K A N k) c (tb (th (A + k)) 4) = true then (if tb (th (A + k)) 4 = true then 1000 else mn th K A N k G j (i + 1) 0 true) else mn th K A N k G j (i + 1) (c + 1) h) := rfl
theorem nw_s (th : Nat → Int32) (K A N k : Nat) (G : Nat → Nat) (j i c : Nat) (h : Bool) : nw th K A N k G (j + 1) i c h = if tst K (nbk th K A N k) c (tb (th (A + k)) 4) = true then (if tb (th (A + k)) 4 = true then 1000 else nw th K A N k G j (i + 1) 0 true) else nw th K A N k G j (i + 1) (c + 1) h := rfl
theorem mn_nw {th : Nat → Int32} {K A N k : Nat} {G : Nat → Nat} : ∀ j i c h, mn th K A N k G (j + 1) i c h = min (mn th K A N k G j i c h) (nw th K A N k G (j + 1) i c h)
  | 0, i, c, h => rfl
  | j + 1, i, c, h => by
    rw [mn_s th K A N k G (j + 1) i c h, nw_s th K A N k G (j + 1) i c h, mn_s th K A N k G j i c h]
    by_cases q : tst K (nbk th K A N k) c (tb (th (A + k)) 4) = true
    · rw [if_pos q, if_pos q, if_pos q]
      by_cases q2 : tb (th (A + k)) 4 = true
      · rw [if_pos q2, if_pos q2, if_pos q2]; omega
      · rw [if_neg q2, if_neg q2, if_neg q2, mn_nw j]; omega
    · rw [if_neg q, if_neg q, if_neg q, mn_nw j]; omega
theorem opv_ge {th : Nat → Int32} {K A N k : Nat} {G : Nat → Nat} (i c : Nat) (h : Bool) : min i 1000 ≤ opv th K A N k G i c h := by
  unfold opv; split <;> omega
theorem nw_ge {th : Nat → Int32} {K A N k : Nat} {G : Nat → Nat} : ∀ j i c h, min (i + j) 1000 ≤ nw th K A N k G j i c h
  | 0, i, c, h => opv_ge i c h
  | j + 1, i, c, h => by
    have a := nw_ge (th := th) (K := K) (A := A) (N := N) (k := k) (G := G) j (i + 1) 0 true
    have b := nw_ge (th := th) (K := K) (A := A) (N := N) (k := k) (G := G) j (i + 1) (c + 1) h
    rw [nw]
    split
    · split <;> omega
    · omega
theorem opv_le {th : Nat → Int32} {K A N k : Nat} {G : Nat → Nat} (i c : Nat) (h : Bool) : opv th K A N k G i c h ≤ 1000 := by
  unfold opv; split <;> omega
theorem nw_le {th : Nat → Int32} {K A N k : Nat} {G : Nat → Nat} : ∀ j i c h, nw th K A N k G j i c h ≤ 1000
  | 0, i, c, h => opv_le i c h
  | j + 1, i, c, h => by
    have a := nw_le (th := th) (K := K) (A := A) (N := N) (k := k) (G := G) j (i + 1) 0 true
    have b := nw_le (th := th) (K := K) (A := A) (N := N) (k := k) (G := G) j (i + 1) (c + 1) h
    rw [nw]
    split
    · split <;> omega
    · omega
theorem mn_le {th : Nat → Int32} {K A N k : Nat} {G : Nat → Nat} : ∀ j i c h, mn th K A N k G j i c h ≤ 1000
  | 0, i, c, h => opv_le i c h
  | j + 1, i, c, h => by
    have a := opv_le (th := th) (K := K) (A := A) (N := N) (k := k) (G := G) i c h
    rw [mn]; omega
theorem Mv_le {th : Nat → Int32} {K A N : Nat} (r k c : Nat) : Mv th K A N r k c ≤ 1000 := by
  cases r with
  | zero => rw [Mv]; split <;> omega
  | succ r => rw [Mv]; exact mn_le _ _ _ _
/-- small, or none -/
def sml (v b : Nat) : Prop := v = 1000 ∨ v ≤ b
theorem sml_opv {th : Nat → Int32} {K A N k b : Nat} {G : Nat → Nat} (hG : ∀ c, sml (G c) b) (i c : Nat) (h : Bool) : sml (opv th K A N k G i c h) (i + b) := by
  unfold opv
  split
  · rcases hG (sg th K (nbk th K A N k) c (A + k + 1) 0).2.1 with q | q
    · left; rw [q]; omega
    · right; omega
  · left; rfl
theorem sml_mn {th : Nat → Int32} {K A N k b : Nat} {G : Nat → Nat} (hG : ∀ c, sml (G c) b) : ∀ j i c h, sml (mn th K A N k G j i c h) (i + j + b)
  | 0, i, c, h => by have := sml_opv (th := th) (K := K) (A := A) (N := N) (k := k) hG i c h; exact this
  | j + 1, i, c, h => by
    have o := sml_opv (th := th) (K := K) (A := A) (N := N) (k := k) hG i c h
    have a := sml_mn (th := th) (K := K) (A := A) (N := N) (k := k) hG j (i + 1) 0 true
    have b' := sml_mn (th := th) (K := K) (A := A) (N := N) (k := k) hG j (i + 1) (c + 1) h
    unfold sml at *
    rw [mn]
    by_cases q : tst K (nbk th K A N k) c (tb (th (A + k)) 4) = true
    · rw [if_pos q]
      by_cases q2 : tb (th (A + k)) 4 = true
      · rw [if_pos q2]; omega
      · rw [if_neg q2]; omega
    · rw [if_neg q]; omega
theorem Mv_sml {th : Nat → Int32} {K A N : Nat} : ∀ r k c, sml (Mv th K A N r k c) (3 * r)
  | 0, k, c => by rw [Mv]; unfold sml; split <;> omega
  | r + 1, k, c => by
    have := sml_mn (th := th) (K := K) (A := A) (N := N) (k := k) (Mv_sml (th := th) (K := K) (A := A) (N := N) r (k + 1)) 3 0 c (seen th A k c)
    rw [Mv]
    unfold sml at *
    omega
/-- which TURNS come first -/
def chs (f : Nat → Nat) (m : Nat) : Nat := if f 0 = m then 0 else if f 1 = m then 1 else if f 2 = m then 2 else 3
theorem chs_ok {th : Nat → Int32} {K A N k : Nat} {G : Nat → Nat} {c : Nat} {h : Bool} : nw th K A N k G (chs (fun j => nw th K A N k G j 0 c h) (mn th K A N k G 3 0 c h)) 0 c h = mn th K A N k G 3 0 c h := by
  have e1 : mn th K A N k G 1 0 c h = min (mn th K A N k G 0 0 c h) (nw th K A N k G 1 0 c h) := mn_nw 0 0 c h
  have e2 : mn th K A N k G 2 0 c h = min (mn th K A N k G 1 0 c h) (nw th K A N k G 2 0 c h) := mn_nw 1 0 c h
  have e3 : mn th K A N k G 3 0 c h = min (mn th K A N k G 2 0 c h) (nw th K A N k G 3 0 c h) := mn_nw 2 0 c h
  have e0 : mn th K A N k G 0 0 c h = nw th K A N k G 0 0 c h := rfl
  unfold chs
  dsimp only
  by_cases q0 : nw th K A N k G 0 0 c h = mn th K A N k G 3 0 c h
  · rw [if_pos q0]; exact q0
  · rw [if_neg q0]
    by_cases q1 : nw th K A N k G 1 0 c h = mn th K A N k G 3 0 c h
    · rw [if_pos q1]; exact q1
    · rw [if_neg q1]
      by_cases q2 : nw th K A N k G 2 0 c h = mn th K A N k G 3 0 c h
      · rw [if_pos q2]; exact q2
      · rw [if_neg q2]
        omega
theorem nw_fin {th : Nat → Int32} {K A N k : Nat} {G : Nat → Nat} : ∀ j i c h, nw th K A N k G j i c h < 1000 → nw th K A N k G j i c h = i + j + G (nct th K A N k j c)
  | 0, i, c, h, q => by
    rw [nw] at *
    unfold opv at *
    by_cases g : (h && !((sg th K (nbk th K A N k) c (A + k + 1) 0).2.2 && tb (th (A + k + 1)) 4)) = true
    · rw [if_pos g] at q ⊢; rw [nct]; omega
    · rw [if_neg g] at q; omega
  | j + 1, i, c, h, q => by
    rw [nw] at q ⊢
    rw [nct]
    by_cases g : tst K (nbk th K A N k) c (tb (th (A + k)) 4) = true
    · rw [if_pos g] at q ⊢
      rw [if_pos g]
      by_cases g2 : tb (th (A + k)) 4 = true
      · rw [if_pos g2] at q; omega
      · rw [if_neg g2] at q ⊢
        rw [nw_fin j (i + 1) 0 true q]; omega
    · rw [if_neg g] at q ⊢
      rw [if_neg g, nw_fin j (i + 1) (c + 1) h q]; omega
/-! COUNT at NUMBER or above is all one for a SHY one -/
def Eq' (K n c c' : Nat) : Prop := c = c' ∨ (K = 3 ∧ n ≤ c ∧ n ≤ c')
theorem Eq'.rfl {K n c : Nat} : Eq' K n c c := Or.inl (Eq.refl _)
theorem Eq'.symm {K n c c' : Nat} (h : Eq' K n c c') : Eq' K n c' c := h.imp Eq.symm (fun q => ⟨q.1, q.2.2, q.2.1⟩)
theorem Eq'.trans {K n a b c : Nat} (h1 : Eq' K n a b) (h2 : Eq' K n b c) : Eq' K n a c := by
  rcases h1 with rfl | ⟨k, x, y⟩
  · exact h2
  · rcases h2 with rfl | ⟨_, z, w⟩
    · exact Or.inr ⟨k, x, y⟩
    · exact Or.inr ⟨k, x, w⟩
theorem eq_sg {th : Nat → Int32} {K n c c' p : Nat} (h : Eq' K n c c') : (sg th K n c p 0).2.2 = (sg th K n c' p 0).2.2 ∧ Eq' K (sg th K n c p 0).1 (sg th K n c p 0).2.1 (sg th K n c' p 0).2.1 := by
  rcases h with rfl | ⟨k3, h1, h2⟩
  · exact ⟨Eq.refl _, Eq'.rfl⟩
  · have c1 : n ≤ cnN K c (tb (th p) 1) 0 := by unfold cnN; omega
    have c2 : n ≤ cnN K c' (tb (th p) 1) 0 := by unfold cnN; omega
    have s1 : (sg th K n c p 0).2.2 = !tb (th p) 4 := by
      show stopN K n (cnN K c (tb (th p) 1) 0) (tb (th p) 2) (tb (th p) 4) = _
      unfold stopN; rw [decide_eq_true c1, decide_eq_true k3, decide_eq_false (show ¬ K = 5 by omega)]; simp
    have s2 : (sg th K n c' p 0).2.2 = !tb (th p) 4 := by
      show stopN K n (cnN K c' (tb (th p) 1) 0) (tb (th p) 2) (tb (th p) 4) = _
      unfold stopN; rw [decide_eq_true c2, decide_eq_true k3, decide_eq_false (show ¬ K = 5 by omega)]; simp
    refine ⟨s1.trans s2.symm, ?_⟩
    have n1 : (sg th K n c p 0).1 = n := by
      show (if (tb (th p) 2 && decide (K = 4)) = true then (if 2 * n < 64 then 2 * n else 64) else n) = n
      rw [if_neg (by simp [k3])]
    have v1 : (sg th K n c p 0).2.1 = if (sg th K n c p 0).2.2 = true then 0 else cnN K c (tb (th p) 1) 0 := Eq.refl _
    have v2 : (sg th K n c' p 0).2.1 = if (sg th K n c' p 0).2.2 = true then 0 else cnN K c' (tb (th p) 1) 0 := Eq.refl _
    rw [v1, v2, s1, s2, n1]
    by_cases q : (!tb (th p) 4) = true
    · rw [if_pos q, if_pos q]; exact Eq'.rfl
    · rw [if_neg q, if_neg q]; exact Or.inr ⟨k3, c1, c2⟩
theorem eq_tst {K n c c' : Nat} {cl : Bool} (h : Eq' K n c c') : tst K n c cl = tst K n c' cl ∧ Eq' K n (c + 1) (c' + 1) := by
  rcases h with rfl | ⟨k3, h1, h2⟩
  · exact ⟨Eq.refl _, Eq'.rfl⟩
  · refine ⟨?_, Or.inr ⟨k3, by omega, by omega⟩⟩
    unfold tst
    rw [decide_eq_true (show n ≤ c + 1 by omega), decide_eq_true (show n ≤ c' + 1 by omega)]
def Res (K n : Nat) (G : Nat → Nat) : Prop := ∀ c c', Eq' K n c c' → G c = G c'
theorem opv_eq {th : Nat → Int32} {K A N k : Nat} {G : Nat → Nat} (hG : Res K (nbk th K A N (k + 1)) G) {c c' : Nat} (h : Eq' K (nbk th K A N k) c c') (i : Nat) (b : Bool) : opv th K A N k G i c b = opv th K A N k G i c' b := by
  obtain ⟨s, e⟩ := eq_sg (th := th) (p := A + k + 1) h
  unfold opv
  rw [s, hG _ _ e]
theorem nw_eq {th : Nat → Int32} {K A N k : Nat} {G : Nat → Nat} (hG : Res K (nbk th K A N (k + 1)) G) : ∀ j {c c' : Nat} (_ : Eq' K (nbk th K A N k) c c') (i : Nat) (b : Bool), nw th K A N k G j i c b = nw th K A N k G j i c' b
  | 0, _, _, h, i, b => opv_eq hG h i b
  | j + 1, c, c', h, i, b => by
    obtain ⟨s, e⟩ := eq_tst (cl := tb (th (A + k)) 4) h
    rw [nw, nw, s, nw_eq hG j e]
theorem mn_eq {th : Nat → Int32} {K A N k : Nat} {G : Nat → Nat} (hG : Res K (nbk th K A N (k + 1)) G) : ∀ j {c c' : Nat} (_ : Eq' K (nbk th K A N k) c c') (i : Nat) (b : Bool), mn th K A N k G j i c b = mn th K A N k G j i c' b
  | 0, _, _, h, i, b => opv_eq hG h i b
  | j + 1, c, c', h, i, b => by
    obtain ⟨s, e⟩ := eq_tst (cl := tb (th (A + k)) 4) h
    rw [mn, mn, s, mn_eq hG j e, opv_eq hG h]
theorem nct_eq {th : Nat → Int32} {K A N k : Nat} : ∀ j {c c' : Nat} (_ : Eq' K (nbk th K A N k) c c'), Eq' K (nbk th K A N (k + 1)) (nct th K A N k j c) (nct th K A N k j c')
  | 0, _, _, h => (eq_sg (th := th) (p := A + k + 1) h).2
  | j + 1, c, c', h => by
    obtain ⟨s, e⟩ := eq_tst (cl := tb (th (A + k)) 4) h
    rw [nct, nct, s]
    split
    · exact Eq'.rfl
    · exact nct_eq j e
theorem seen_eq {th : Nat → Int32} {K A n k c c' : Nat} (hn : 1 ≤ n) (h : Eq' K n c c') : seen th A k c = seen th A k c' := by
  rcases h with rfl | ⟨k3, h1, h2⟩
  · exact Eq.refl _
  · unfold seen
    rw [decide_eq_false (show ¬ c = 0 by omega), decide_eq_false (show ¬ c' = 0 by omega)]
theorem Mv_eq {th : Nat → Int32} {K A N : Nat} (h1 : 2 ≤ N) (h2 : N ≤ 64) : ∀ r k, Res K (nbk th K A N k) (Mv th K A N r k)
  | 0, k, c, c', h => by
    rw [Mv, Mv, seen_eq (by have := (nbk_b (th := th) (K := K) (A := A) h1 h2 k).1; omega) h]
  | r + 1, k, c, c', h => by
    rw [Mv, Mv, seen_eq (by have := (nbk_b (th := th) (K := K) (A := A) h1 h2 k).1; omega) h]
    exact mn_eq (Mv_eq h1 h2 r (k + 1)) 3 h 0 _
/-- behind a STEP: COUNT is below NUMBER, but for a SHY one; 0 just if it STOPS -/
theorem stN_nc {K N C b : Nat} {s i c : Bool} (h1 : 2 ≤ N) (h2 : N ≤ 64) (k3 : K ≠ 3) : (stN K N C s i c b).2.1 < (stN K N C s i c b).1 := by
  have hge : N ≤ (stN K N C s i c b).1 := by
    unfold stN; dsimp only; split
    · split <;> omega
    · omega
  by_cases q : stopN K N (cnN K C s b) i c = true
  · have : (stN K N C s i c b).2.1 = 0 := by unfold stN; dsimp only; rw [if_pos q]
    omega
  · have e : (stN K N C s i c b).2.1 = cnN K C s b := by unfold stN; dsimp only; rw [if_neg q]
    have : ¬ N ≤ cnN K C s b := fun hn => q (by unfold stopN; simp [hn, k3])
    omega
theorem stN_0 {K N C b : Nat} {s i c : Bool} : (stN K N C s i c b).2.2 = decide ((stN K N C s i c b).2.1 = 0) := by
  by_cases q : stopN K N (cnN K C s b) i c = true
  · have e : (stN K N C s i c b).2.1 = 0 := by unfold stN; dsimp only; rw [if_pos q]
    rw [e, decide_eq_true rfl]; exact q
  · have e : (stN K N C s i c b).2.1 = cnN K C s b := by unfold stN; dsimp only; rw [if_neg q]
    have : cnN K C s b ≠ 0 := by unfold cnN; omega
    rw [e, decide_eq_false this]
    show stopN K N (cnN K C s b) i c = false
    cases hq : stopN K N (cnN K C s b) i c with
    | false => rfl
    | true => exact absurd hq q
/-- what is looked up -/
def cap (n c : Nat) : Nat := min c (min n 63)
theorem cap_eq {K n c : Nat} (hn : n ≤ 64) (hc : K ≠ 3 → c < n) (h13 : K = 3 → n ≤ 13) : Eq' K n (cap n c) c := by
  unfold cap
  by_cases k3 : K = 3
  · have := h13 k3
    by_cases q : n ≤ c
    · exact Or.inr ⟨k3, by omega, q⟩
    · left; omega
  · have := hc k3
    left; omega
theorem nct_nc {th : Nat → Int32} {K A N k : Nat} (h1 : 2 ≤ N) (h2 : N ≤ 64) (k3 : K ≠ 3) : ∀ j c, nct th K A N k j c < nbk th K A N (k + 1)
  | 0, c => stN_nc (nbk_b h1 h2 k).1 (nbk_b h1 h2 k).2 k3
  | j + 1, c => by
    rw [nct]
    split
    · exact nct_nc h1 h2 k3 j 0
    · exact nct_nc h1 h2 k3 j (c + 1)
theorem nct_le {th : Nat → Int32} {K A N k : Nat} : ∀ j c, nct th K A N k j c ≤ c + j + 2
  | 0, c => stN_C
  | j + 1, c => by
    rw [nct]
    split
    · have := nct_le (th := th) (K := K) (A := A) (N := N) (k := k) j 0; omega
    · have := nct_le (th := th) (K := K) (A := A) (N := N) (k := k) j (c + 1); omega
