/-! the memory behind the two constructors -/
def ns_Z0 : ns_St := ((fun _ _ => 0), (fun _ _ => 0), (fun _ _ => none))
def ns_I1 : Option (Nat × ns_St) := g_N_init (0 + 1) (ns_z ns_Z0 0) 0
def ns_S1 : ns_St := (ns_I1.getD (0, ns_Z0)).2
def ns_I2 : Option (Nat × ns_St) := g_M_init (65 + 1) (ns_z ns_S1 65) 65
def ns_S0 : ns_St := (ns_I2.getD (0, ns_Z0)).2
theorem ns_I1_n : ns_I1.map (fun q => q.1) = some 65 := by decide +kernel
theorem ns_I2_n : ns_I2.map (fun q => q.1) = some 82 := by decide +kernel
theorem ns_I1_eq : ns_I1 = some (65, ns_S1) := by
  have h := ns_I1_n
  unfold ns_S1
  cases hI : ns_I1 with
  | none => rw [hI] at h; cases h
  | some q =>
    rw [hI] at h
    obtain ⟨a, b⟩ := q
    have h1 : a = 65 := Option.some.inj h
    subst h1
    rfl
theorem ns_I2_eq : ns_I2 = some (82, ns_S0) := by
  have h := ns_I2_n
  unfold ns_S0
  cases hI : ns_I2 with
  | none => rw [hI] at h; cases h
  | some q =>
    rw [hI] at h
    obtain ⟨a, b⟩ := q
    have h1 : a = 82 := Option.some.inj h
    subst h1
    rfl
/-- the law behind its start -/
theorem ns_law0 (xs : Nat → Int32) (L : Nat) : g_law xs L ((fun _ _ => 0), (fun _ _ => 0), (fun _ _ => none)) = g_law_18 xs L ns_F ns_S0 0 65 0 := by
  have h1 : g_N_init (0 + 1) (ns_z ns_Z0 0) 0 = some (65, ns_S1) := ns_I1_eq
  have h2 : g_M_init (65 + 1) (ns_z ns_S1 65) 65 = some (82, ns_S0) := ns_I2_eq
  have h3 : ns_kd 0 = 8 ∧ 0 < ns_N := by decide
  have h4 : ns_kd 65 = 9 ∧ 65 < ns_N := by decide
  have h5 : (82 : Nat) = ns_N ∧ 0 < 65 := by decide
  show g_law xs L ns_Z0 = _
  unfold g_law
  rw [grd, if_pos h3, bnd, h1, cl2, Option.bind_some]
  show grd (ns_kd 65 = 9 ∧ 65 < ns_N) _ = _
  rw [grd, if_pos h4, bnd, h2, cl2, Option.bind_some]
  show grd ((82 : Nat) = ns_N ∧ 0 < 65) _ = _
  rw [grd, if_pos h5]
/-! references never change but the two grounds -/
def ns_R0 : Nat → Nat → Option Nat := ns_S0.2.2
def ns_rg (g1 g2 : Option Nat) : Nat → Nat → Option Nat := va_up (va_up ns_R0 31 (va_up (ns_R0 31) 3 g1)) 35 (va_up (ns_R0 35) 7 g2)
theorem ns_rg_ne (g1 g2 : Option Nat) {a : Nat} (h1 : a ≠ 31) (h2 : a ≠ 35) : ns_rg g1 g2 a = ns_R0 a := by
  unfold ns_rg; rw [va_up_ne _ _ h2, va_up_ne _ _ h1]
theorem ns_R0_0 : ∀ k, k < 11 → ns_R0 0 k = ([some 1, some 10, some 19, some 28, some 29, some 31, some 35, some 43, some 46, some 47, some 48] : List (Option Nat)).getD k none := by decide +kernel
theorem ns_R0_w : ∀ w, w < 3 → (ns_R0 (9 * w + 1) 0 = some (9 * w + 2) ∧ ns_R0 (9 * w + 1) 1 = some (9 * w + 3) ∧ ∀ k, k < 6 → ns_R0 (9 * w + 3) k = some (9 * w + 4 + k)) := by decide +kernel
theorem ns_R0_s : ∀ k, k < 8 → (ns_R0 28 k = some (49 + 2 * k) ∧ ns_R0 (49 + 2 * k) 2 = some (50 + 2 * k)) := by decide +kernel
theorem ns_R0_t : ns_R0 29 0 = some 30 ∧ ns_R0 31 0 = some 32 ∧ ns_R0 31 1 = some 33 ∧ ns_R0 31 2 = some 34 ∧ ns_R0 35 0 = some 36 ∧ ns_R0 35 1 = some 37 ∧ ns_R0 35 2 = some 38 ∧ ns_R0 35 3 = some 39 ∧ ns_R0 35 4 = some 40 ∧ ns_R0 35 5 = some 41 ∧ ns_R0 35 6 = some 42 ∧ ns_R0 43 0 = some 44 ∧ ns_R0 43 1 = some 45 := by decide +kernel
theorem ns_R0_m : ns_R0 65 0 = some 66 ∧ ns_R0 65 1 = some 67 ∧ ns_R0 65 2 = some 68 ∧ ns_R0 65 4 = some 69 ∧ ns_R0 65 6 = some 70 ∧ ns_R0 65 7 = some 71 ∧ ns_R0 65 8 = some 72 ∧ ns_R0 65 9 = some 73 ∧ ns_R0 65 10 = some 74 ∧ ns_R0 65 11 = some 75 ∧ ns_R0 65 16 = some 76 ∧ ns_R0 65 21 = some 77 ∧ ns_R0 65 23 = some 78 ∧ ns_R0 65 24 = some 79 ∧ ns_R0 65 29 = some 80 ∧ ns_R0 65 30 = some 81 := by decide +kernel
