/-! what holds at the start -/
theorem st_rf : ns_rg (ns_R0 31 3) (ns_R0 35 7) = ns_R0 := by
  unfold ns_rg
  have e1 : va_up (ns_R0 31) 3 (ns_R0 31 3) = ns_R0 31 := by
    funext k
    by_cases h : k = 3
    · subst h; rw [va_up_self]
    · rw [va_up_ne _ _ h]
  have e2 : va_up (ns_R0 35) 7 (ns_R0 35 7) = ns_R0 35 := by
    funext k
    by_cases h : k = 7
    · subst h; rw [va_up_self]
    · rw [va_up_ne _ _ h]
  rw [e1, e2]
  funext c
  by_cases h : c = 35
  · subst h; rw [va_up_self]
  · rw [va_up_ne _ _ h]
    by_cases h2 : c = 31
    · subst h2; rw [va_up_self]
    · rw [va_up_ne _ _ h2]
theorem st_a : ns_S0.1 65 3 = nI (ns_S0.1 65 3).toNatClampNeg ∧ ns_S0.1 2 0 = ns_S0.1 65 3 ∧ 1 ≤ (ns_S0.1 65 3).toNatClampNeg ∧ (ns_S0.1 65 3).toNatClampNeg ≤ 60 ∧ ns_S0.1 65 5 = 0 ∧ ns_S0.1 1 2 = 0 ∧ ns_S0.1 1 3 = ns_S0.1 65 12 ∧ (0 ≤ ns_S0.1 65 12 ∧ ns_S0.1 65 12 ≤ 1000) ∧ ns_S0.1 1 4 = ns_S0.1 65 13 ∧ ns_S0.1 1 5 = ns_S0.1 65 14 ∧ ns_S0.1 0 11 = ns_S0.1 65 22 ∧ ns_S0.1 65 22 = 0 ∧ ns_S0.1 29 1 = 0 ∧ ns_S0.1 65 15 = 0 := by decide +kernel
theorem st_b : ns_S0.2.1 2 1 = 0 ∧ ns_S0.2.1 2 2 = 0 ∧ ns_S0.2.1 2 3 = 0 ∧ ns_S0.2.1 2 4 = 0 := by decide +kernel
theorem st_c : ∀ p, p < 61 → ns_S0.1 69 p = 0 := by decide +kernel
theorem st_d : ∀ k, k < 5 → ns_S0.1 48 k = ns_S0.1 77 (k + 2) := by decide +kernel
theorem st_e : ∀ s, s < 8 → ns_S0.1 (49 + 2 * s) 0 = ns_S0.1 66 s ∧ ns_S0.1 (49 + 2 * s) 1 = ns_S0.1 67 s ∧ ns_S0.1 67 s = 0 ∧ ns_S0.1 66 s = -1 := by decide +kernel
theorem st_f : ∀ s, s < 8 → ∀ i, i < 40 → ns_S0.2.1 (50 + 2 * s) i = ns_S0.2.1 68 (40 * s + i) := by decide +kernel
theorem st_inv : Inv 64 ns_S0 := by
  obtain ⟨a1, a2, a3, a4, a5, a6, a7, a8, a9, a10, a11, a12, a13, a14⟩ := st_a
  obtain ⟨b1, b2, b3, b4⟩ := st_b
  refine ⟨⟨ns_R0 31 3, ns_R0 35 7, st_rf.symm⟩, ⟨(ns_S0.1 65 3).toNatClampNeg, 0, a1, a5, by omega, ⟨by rw [a2]; exact a1, a3, a4, fun p hp => ?_, fun p hp => ⟨⟨0, by omega, st_c p (by omega)⟩, fun _ => st_c p (by omega)⟩⟩, a6, a7, a8, a9, a10, fun j hj => absurd hj (by omega)⟩, ⟨a11, Or.inl a12⟩, fun s hs => ?_, ⟨0, by omega, a13, a14, fun i hi => absurd hi (by omega)⟩, st_d⟩
  · have z : ∀ b, tb (ns_S0.1 69 p) b = false ∨ 61 ≤ p := fun b => by
      by_cases q : p < 61
      · left
        rw [st_c p q]
        unfold tb
        exact decide_eq_false (fun h => h (Int32.zero_and))
      · right; omega
    have e : ∀ b, (decide (p ≤ (ns_S0.1 65 3).toNatClampNeg) && tb (ns_S0.1 69 p) b) = false := fun b => by
      rcases z b with q | q
      · rw [q]; simp
      · rw [decide_eq_false (by omega)]; rfl
    show gb (ns_S0.2.1 2 1) p = _ ∧ gb (ns_S0.2.1 2 2) p = _ ∧ gb (ns_S0.2.1 2 3) p = _ ∧ gb (ns_S0.2.1 2 4) p = _
    rw [b1, b2, b3, b4, gb_0, e 1, e 2, e 4, e 8]
    exact ⟨rfl, rfl, rfl, rfl⟩
  · obtain ⟨c1, c2, c3, c4⟩ := st_e s hs
    exact ⟨c1, c2, ⟨0, by omega, c3⟩, Or.inl c4, fun i hi => st_f s hs i hi⟩
