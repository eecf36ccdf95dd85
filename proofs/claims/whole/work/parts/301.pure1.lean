theorem kd_0 : ns_kd 0 = 8 := rfl
theorem kd_1 : ns_kd 1 = 7 := rfl
theorem kd_2 : ns_kd 2 = 1 := rfl
theorem kd_3 : ns_kd 3 = 12 := rfl
theorem ln_3 : ns_ln 3 = 6 := rfl
theorem kd_4 : ns_kd 4 = 2 := rfl
theorem kd_5 : ns_kd 5 = 2 := rfl
theorem kd_6 : ns_kd 6 = 2 := rfl
theorem kd_7 : ns_kd 7 = 2 := rfl
theorem kd_8 : ns_kd 8 = 2 := rfl
theorem kd_9 : ns_kd 9 = 2 := rfl
theorem kd_10 : ns_kd 10 = 7 := rfl
theorem kd_11 : ns_kd 11 = 1 := rfl
theorem kd_12 : ns_kd 12 = 12 := rfl
theorem ln_12 : ns_ln 12 = 6 := rfl
theorem kd_13 : ns_kd 13 = 2 := rfl
theorem kd_14 : ns_kd 14 = 2 := rfl
theorem kd_15 : ns_kd 15 = 2 := rfl
theorem kd_16 : ns_kd 16 = 2 := rfl
theorem kd_17 : ns_kd 17 = 2 := rfl
theorem kd_18 : ns_kd 18 = 2 := rfl
theorem kd_19 : ns_kd 19 = 7 := rfl
theorem kd_20 : ns_kd 20 = 1 := rfl
theorem kd_21 : ns_kd 21 = 12 := rfl
theorem ln_21 : ns_ln 21 = 6 := rfl
theorem kd_22 : ns_kd 22 = 2 := rfl
theorem kd_23 : ns_kd 23 = 2 := rfl
theorem kd_24 : ns_kd 24 = 2 := rfl
theorem kd_25 : ns_kd 25 = 2 := rfl
theorem kd_26 : ns_kd 26 = 2 := rfl
theorem kd_27 : ns_kd 27 = 2 := rfl
theorem kd_28 : ns_kd 28 = 13 := rfl
theorem ln_28 : ns_ln 28 = 8 := rfl
theorem kd_29 : ns_kd 29 = 5 := rfl
theorem kd_30 : ns_kd 30 = 10 := rfl
theorem ln_30 : ns_ln 30 = 250 := rfl
theorem kd_31 : ns_kd 31 = 6 := rfl
theorem kd_32 : ns_kd 32 = 10 := rfl
theorem ln_32 : ns_ln 32 = 3904 := rfl
theorem kd_33 : ns_kd 33 = 10 := rfl
theorem ln_33 : ns_ln 33 = 61 := rfl
theorem kd_34 : ns_kd 34 = 2 := rfl
theorem kd_35 : ns_kd 35 = 4 := rfl
theorem kd_36 : ns_kd 36 = 11 := rfl
theorem ln_36 : ns_ln 36 = 61 := rfl
theorem kd_37 : ns_kd 37 = 11 := rfl
theorem ln_37 : ns_ln 37 = 61 := rfl
theorem kd_38 : ns_kd 38 = 10 := rfl
theorem ln_38 : ns_ln 38 = 61 := rfl
theorem kd_39 : ns_kd 39 = 2 := rfl
theorem kd_40 : ns_kd 40 = 2 := rfl
theorem kd_41 : ns_kd 41 = 2 := rfl
theorem kd_42 : ns_kd 42 = 2 := rfl
theorem kd_43 : ns_kd 43 = 0 := rfl
theorem kd_44 : ns_kd 44 = 10 := rfl
theorem ln_44 : ns_ln 44 = 65 := rfl
theorem kd_45 : ns_kd 45 = 10 := rfl
theorem ln_45 : ns_ln 45 = 65 := rfl
theorem kd_46 : ns_kd 46 = 2 := rfl
theorem kd_47 : ns_kd 47 = 10 := rfl
theorem ln_47 : ns_ln 47 = 61 := rfl
theorem kd_48 : ns_kd 48 = 10 := rfl
theorem ln_48 : ns_ln 48 = 5 := rfl
theorem kd_49 : ns_kd 49 = 3 := rfl
theorem kd_50 : ns_kd 50 = 11 := rfl
theorem ln_50 : ns_ln 50 = 40 := rfl
theorem kd_51 : ns_kd 51 = 3 := rfl
theorem kd_52 : ns_kd 52 = 11 := rfl
theorem ln_52 : ns_ln 52 = 40 := rfl
theorem kd_53 : ns_kd 53 = 3 := rfl
theorem kd_54 : ns_kd 54 = 11 := rfl
theorem ln_54 : ns_ln 54 = 40 := rfl
theorem kd_55 : ns_kd 55 = 3 := rfl
theorem kd_56 : ns_kd 56 = 11 := rfl
theorem ln_56 : ns_ln 56 = 40 := rfl
theorem kd_57 : ns_kd 57 = 3 := rfl
theorem kd_58 : ns_kd 58 = 11 := rfl
theorem ln_58 : ns_ln 58 = 40 := rfl
theorem kd_59 : ns_kd 59 = 3 := rfl
theorem kd_60 : ns_kd 60 = 11 := rfl
theorem ln_60 : ns_ln 60 = 40 := rfl
theorem kd_61 : ns_kd 61 = 3 := rfl
theorem kd_62 : ns_kd 62 = 11 := rfl
theorem ln_62 : ns_ln 62 = 40 := rfl
theorem kd_63 : ns_kd 63 = 3 := rfl
theorem kd_64 : ns_kd 64 = 11 := rfl
theorem ln_64 : ns_ln 64 = 40 := rfl
theorem kd_65 : ns_kd 65 = 9 := rfl
theorem kd_66 : ns_kd 66 = 10 := rfl
theorem ln_66 : ns_ln 66 = 8 := rfl
theorem kd_67 : ns_kd 67 = 10 := rfl
theorem ln_67 : ns_ln 67 = 8 := rfl
theorem kd_68 : ns_kd 68 = 11 := rfl
theorem ln_68 : ns_ln 68 = 320 := rfl
theorem kd_69 : ns_kd 69 = 10 := rfl
theorem ln_69 : ns_ln 69 = 61 := rfl
theorem kd_70 : ns_kd 70 = 10 := rfl
theorem ln_70 : ns_ln 70 = 6 := rfl
theorem kd_71 : ns_kd 71 = 10 := rfl
theorem ln_71 : ns_ln 71 = 6 := rfl
theorem kd_72 : ns_kd 72 = 10 := rfl
theorem ln_72 : ns_ln 72 = 6 := rfl
theorem kd_73 : ns_kd 73 = 10 := rfl
theorem ln_73 : ns_ln 73 = 6 := rfl
theorem kd_74 : ns_kd 74 = 10 := rfl
theorem ln_74 : ns_ln 74 = 6 := rfl
theorem kd_75 : ns_kd 75 = 10 := rfl
theorem ln_75 : ns_ln 75 = 6 := rfl
theorem kd_76 : ns_kd 76 = 10 := rfl
theorem ln_76 : ns_ln 76 = 250 := rfl
theorem kd_77 : ns_kd 77 = 10 := rfl
theorem ln_77 : ns_ln 77 = 7 := rfl
theorem kd_78 : ns_kd 78 = 10 := rfl
theorem ln_78 : ns_ln 78 = 102 := rfl
theorem kd_79 : ns_kd 79 = 10 := rfl
theorem ln_79 : ns_ln 79 = 102 := rfl
theorem kd_80 : ns_kd 80 = 10 := rfl
theorem ln_80 : ns_ln 80 = 8000 := rfl
theorem kd_81 : ns_kd 81 = 10 := rfl
theorem ln_81 : ns_ln 81 = 61 := rfl
theorem kd_sh : ∀ j, j < 8 → ns_kd (49 + 2 * j) = 3 := by decide +kernel
theorem kd_sc : ∀ j, j < 8 → ns_kd (50 + 2 * j) = 11 := by decide +kernel
theorem ln_sc : ∀ j, j < 8 → ns_ln (50 + 2 * j) = 40 := by decide +kernel
theorem kd_m4 : ∀ j, j < 6 → ns_kd (4 + j) = 2 := by decide +kernel
theorem kd_m13 : ∀ j, j < 6 → ns_kd (13 + j) = 2 := by decide +kernel
theorem kd_m22 : ∀ j, j < 6 → ns_kd (22 + j) = 2 := by decide +kernel
theorem rg_0_0 (g1 g2 : Option Nat) : ns_rg g1 g2 0 0 = some 1 := by rw [ns_rg_ne g1 g2 (by decide) (by decide)]; exact ns_R0_0 0 (by decide)
theorem rg_0_1 (g1 g2 : Option Nat) : ns_rg g1 g2 0 1 = some 10 := by rw [ns_rg_ne g1 g2 (by decide) (by decide)]; exact ns_R0_0 1 (by decide)
theorem rg_0_2 (g1 g2 : Option Nat) : ns_rg g1 g2 0 2 = some 19 := by rw [ns_rg_ne g1 g2 (by decide) (by decide)]; exact ns_R0_0 2 (by decide)
theorem rg_0_3 (g1 g2 : Option Nat) : ns_rg g1 g2 0 3 = some 28 := by rw [ns_rg_ne g1 g2 (by decide) (by decide)]; exact ns_R0_0 3 (by decide)
theorem rg_0_4 (g1 g2 : Option Nat) : ns_rg g1 g2 0 4 = some 29 := by rw [ns_rg_ne g1 g2 (by decide) (by decide)]; exact ns_R0_0 4 (by decide)
theorem rg_0_5 (g1 g2 : Option Nat) : ns_rg g1 g2 0 5 = some 31 := by rw [ns_rg_ne g1 g2 (by decide) (by decide)]; exact ns_R0_0 5 (by decide)
theorem rg_0_6 (g1 g2 : Option Nat) : ns_rg g1 g2 0 6 = some 35 := by rw [ns_rg_ne g1 g2 (by decide) (by decide)]; exact ns_R0_0 6 (by decide)
theorem rg_0_7 (g1 g2 : Option Nat) : ns_rg g1 g2 0 7 = some 43 := by rw [ns_rg_ne g1 g2 (by decide) (by decide)]; exact ns_R0_0 7 (by decide)
theorem rg_0_8 (g1 g2 : Option Nat) : ns_rg g1 g2 0 8 = some 46 := by rw [ns_rg_ne g1 g2 (by decide) (by decide)]; exact ns_R0_0 8 (by decide)
theorem rg_0_9 (g1 g2 : Option Nat) : ns_rg g1 g2 0 9 = some 47 := by rw [ns_rg_ne g1 g2 (by decide) (by decide)]; exact ns_R0_0 9 (by decide)
theorem rg_0_10 (g1 g2 : Option Nat) : ns_rg g1 g2 0 10 = some 48 := by rw [ns_rg_ne g1 g2 (by decide) (by decide)]; exact ns_R0_0 10 (by decide)
theorem rg_1_0 (g1 g2 : Option Nat) : ns_rg g1 g2 1 0 = some 2 := by rw [ns_rg_ne g1 g2 (by decide) (by decide)]; exact (ns_R0_w 0 (by decide)).1
theorem rg_1_1 (g1 g2 : Option Nat) : ns_rg g1 g2 1 1 = some 3 := by rw [ns_rg_ne g1 g2 (by decide) (by decide)]; exact (ns_R0_w 0 (by decide)).2.1
theorem rg_ml3 (g1 g2 : Option Nat) {k : Nat} (h : k < 6) : ns_rg g1 g2 3 k = some (4 + k) := by rw [ns_rg_ne g1 g2 (by decide) (by decide)]; exact (ns_R0_w 0 (by decide)).2.2 k h
theorem rg_10_0 (g1 g2 : Option Nat) : ns_rg g1 g2 10 0 = some 11 := by rw [ns_rg_ne g1 g2 (by decide) (by decide)]; exact (ns_R0_w 1 (by decide)).1
theorem rg_10_1 (g1 g2 : Option Nat) : ns_rg g1 g2 10 1 = some 12 := by rw [ns_rg_ne g1 g2 (by decide) (by decide)]; exact (ns_R0_w 1 (by decide)).2.1
theorem rg_ml12 (g1 g2 : Option Nat) {k : Nat} (h : k < 6) : ns_rg g1 g2 12 k = some (13 + k) := by rw [ns_rg_ne g1 g2 (by decide) (by decide)]; exact (ns_R0_w 1 (by decide)).2.2 k h
theorem rg_19_0 (g1 g2 : Option Nat) : ns_rg g1 g2 19 0 = some 20 := by rw [ns_rg_ne g1 g2 (by decide) (by decide)]; exact (ns_R0_w 2 (by decide)).1
theorem rg_19_1 (g1 g2 : Option Nat) : ns_rg g1 g2 19 1 = some 21 := by rw [ns_rg_ne g1 g2 (by decide) (by decide)]; exact (ns_R0_w 2 (by decide)).2.1
theorem rg_ml21 (g1 g2 : Option Nat) {k : Nat} (h : k < 6) : ns_rg g1 g2 21 k = some (22 + k) := by rw [ns_rg_ne g1 g2 (by decide) (by decide)]; exact (ns_R0_w 2 (by decide)).2.2 k h
theorem rg_28 (g1 g2 : Option Nat) {k : Nat} (h : k < 8) : ns_rg g1 g2 28 k = some (49 + 2 * k) := by rw [ns_rg_ne g1 g2 (by decide) (by decide)]; exact (ns_R0_s k h).1
theorem rg_sh (g1 g2 : Option Nat) {k : Nat} (h : k < 8) : ns_rg g1 g2 (49 + 2 * k) 2 = some (50 + 2 * k) := by rw [ns_rg_ne g1 g2 (by omega) (by omega)]; exact (ns_R0_s k h).2
theorem rg_29_0 (g1 g2 : Option Nat) : ns_rg g1 g2 29 0 = some 30 := by rw [ns_rg_ne g1 g2 (by decide) (by decide)]; exact ns_R0_t.1
theorem rg_31_0 (g1 g2 : Option Nat) : ns_rg g1 g2 31 0 = some 32 := by unfold ns_rg; rw [va_up_ne _ _ (by decide : (31:Nat) ≠ 35), va_up_self, va_up_ne _ _ (by decide : (0:Nat) ≠ 3)]; exact ns_R0_t.2.1
theorem rg_31_1 (g1 g2 : Option Nat) : ns_rg g1 g2 31 1 = some 33 := by unfold ns_rg; rw [va_up_ne _ _ (by decide : (31:Nat) ≠ 35), va_up_self, va_up_ne _ _ (by decide : (1:Nat) ≠ 3)]; exact ns_R0_t.2.2.1
theorem rg_31_2 (g1 g2 : Option Nat) : ns_rg g1 g2 31 2 = some 34 := by unfold ns_rg; rw [va_up_ne _ _ (by decide : (31:Nat) ≠ 35), va_up_self, va_up_ne _ _ (by decide : (2:Nat) ≠ 3)]; exact ns_R0_t.2.2.2.1
theorem rg_35_0 (g1 g2 : Option Nat) : ns_rg g1 g2 35 0 = some 36 := by unfold ns_rg; rw [va_up_self, va_up_ne _ _ (by decide : (0:Nat) ≠ 7)]; exact ns_R0_t.2.2.2.2.1
theorem rg_35_1 (g1 g2 : Option Nat) : ns_rg g1 g2 35 1 = some 37 := by unfold ns_rg; rw [va_up_self, va_up_ne _ _ (by decide : (1:Nat) ≠ 7)]; exact ns_R0_t.2.2.2.2.2.1
theorem rg_35_2 (g1 g2 : Option Nat) : ns_rg g1 g2 35 2 = some 38 := by unfold ns_rg; rw [va_up_self, va_up_ne _ _ (by decide : (2:Nat) ≠ 7)]; exact ns_R0_t.2.2.2.2.2.2.1
theorem rg_35_3 (g1 g2 : Option Nat) : ns_rg g1 g2 35 3 = some 39 := by unfold ns_rg; rw [va_up_self, va_up_ne _ _ (by decide : (3:Nat) ≠ 7)]; exact ns_R0_t.2.2.2.2.2.2.2.1
theorem rg_35_4 (g1 g2 : Option Nat) : ns_rg g1 g2 35 4 = some 40 := by unfold ns_rg; rw [va_up_self, va_up_ne _ _ (by decide : (4:Nat) ≠ 7)]; exact ns_R0_t.2.2.2.2.2.2.2.2.1
theorem rg_35_5 (g1 g2 : Option Nat) : ns_rg g1 g2 35 5 = some 41 := by unfold ns_rg; rw [va_up_self, va_up_ne _ _ (by decide : (5:Nat) ≠ 7)]; exact ns_R0_t.2.2.2.2.2.2.2.2.2.1
theorem rg_35_6 (g1 g2 : Option Nat) : ns_rg g1 g2 35 6 = some 42 := by unfold ns_rg; rw [va_up_self, va_up_ne _ _ (by decide : (6:Nat) ≠ 7)]; exact ns_R0_t.2.2.2.2.2.2.2.2.2.2.1
theorem rg_43_0 (g1 g2 : Option Nat) : ns_rg g1 g2 43 0 = some 44 := by rw [ns_rg_ne g1 g2 (by decide) (by decide)]; exact ns_R0_t.2.2.2.2.2.2.2.2.2.2.2.1
theorem rg_43_1 (g1 g2 : Option Nat) : ns_rg g1 g2 43 1 = some 45 := by rw [ns_rg_ne g1 g2 (by decide) (by decide)]; exact ns_R0_t.2.2.2.2.2.2.2.2.2.2.2.2
theorem rg_31_3 (g1 g2 : Option Nat) : ns_rg g1 g2 31 3 = g1 := by unfold ns_rg; rw [va_up_ne _ _ (by decide : (31:Nat) ≠ 35), va_up_self, va_up_self]
theorem rg_35_7 (g1 g2 : Option Nat) : ns_rg g1 g2 35 7 = g2 := by unfold ns_rg; rw [va_up_self, va_up_self]
theorem rg_65_0 (g1 g2 : Option Nat) : ns_rg g1 g2 65 0 = some 66 := by rw [ns_rg_ne g1 g2 (by decide) (by decide)]; exact ns_R0_m.1
theorem rg_65_1 (g1 g2 : Option Nat) : ns_rg g1 g2 65 1 = some 67 := by rw [ns_rg_ne g1 g2 (by decide) (by decide)]; exact ns_R0_m.2.1
theorem rg_65_2 (g1 g2 : Option Nat) : ns_rg g1 g2 65 2 = some 68 := by rw [ns_rg_ne g1 g2 (by decide) (by decide)]; exact ns_R0_m.2.2.1
theorem rg_65_4 (g1 g2 : Option Nat) : ns_rg g1 g2 65 4 = some 69 := by rw [ns_rg_ne g1 g2 (by decide) (by decide)]; exact ns_R0_m.2.2.2.1
theorem rg_65_6 (g1 g2 : Option Nat) : ns_rg g1 g2 65 6 = some 70 := by rw [ns_rg_ne g1 g2 (by decide) (by decide)]; exact ns_R0_m.2.2.2.2.1
theorem rg_65_7 (g1 g2 : Option Nat) : ns_rg g1 g2 65 7 = some 71 := by rw [ns_rg_ne g1 g2 (by decide) (by decide)]; exact ns_R0_m.2.2.2.2.2.1
theorem rg_65_8 (g1 g2 : Option Nat) : ns_rg g1 g2 65 8 = some 72 := by rw [ns_rg_ne g1 g2 (by decide) (by decide)]; exact ns_R0_m.2.2.2.2.2.2.1
theorem rg_65_9 (g1 g2 : Option Nat) : ns_rg g1 g2 65 9 = some 73 := by rw [ns_rg_ne g1 g2 (by decide) (by decide)]; exact ns_R0_m.2.2.2.2.2.2.2.1
theorem rg_65_10 (g1 g2 : Option Nat) : ns_rg g1 g2 65 10 = some 74 := by rw [ns_rg_ne g1 g2 (by decide) (by decide)]; exact ns_R0_m.2.2.2.2.2.2.2.2.1
theorem rg_65_11 (g1 g2 : Option Nat) : ns_rg g1 g2 65 11 = some 75 := by rw [ns_rg_ne g1 g2 (by decide) (by decide)]; exact ns_R0_m.2.2.2.2.2.2.2.2.2.1
theorem rg_65_16 (g1 g2 : Option Nat) : ns_rg g1 g2 65 16 = some 76 := by rw [ns_rg_ne g1 g2 (by decide) (by decide)]; exact ns_R0_m.2.2.2.2.2.2.2.2.2.2.1
theorem rg_65_21 (g1 g2 : Option Nat) : ns_rg g1 g2 65 21 = some 77 := by rw [ns_rg_ne g1 g2 (by decide) (by decide)]; exact ns_R0_m.2.2.2.2.2.2.2.2.2.2.2.1
theorem rg_65_23 (g1 g2 : Option Nat) : ns_rg g1 g2 65 23 = some 78 := by rw [ns_rg_ne g1 g2 (by decide) (by decide)]; exact ns_R0_m.2.2.2.2.2.2.2.2.2.2.2.2.1
theorem rg_65_24 (g1 g2 : Option Nat) : ns_rg g1 g2 65 24 = some 79 := by rw [ns_rg_ne g1 g2 (by decide) (by decide)]; exact ns_R0_m.2.2.2.2.2.2.2.2.2.2.2.2.2.1
theorem rg_65_29 (g1 g2 : Option Nat) : ns_rg g1 g2 65 29 = some 80 := by rw [ns_rg_ne g1 g2 (by decide) (by decide)]; exact ns_R0_m.2.2.2.2.2.2.2.2.2.2.2.2.2.2.1
theorem rg_65_30 (g1 g2 : Option Nat) : ns_rg g1 g2 65 30 = some 81 := by rw [ns_rg_ne g1 g2 (by decide) (by decide)]; exact ns_R0_m.2.2.2.2.2.2.2.2.2.2.2.2.2.2.2
theorem rg_p1 (g1 g2 x : Option Nat) : va_up (ns_rg g1 g2) 31 (va_up (ns_rg g1 g2 31) 3 x) = ns_rg x g2 := by
  funext a
  by_cases h35 : a = 35
  · subst h35; rw [va_up_ne _ _ (by decide : (35:Nat) ≠ 31)]; unfold ns_rg; rw [va_up_self, va_up_self]
  · by_cases h31 : a = 31
    · subst h31; rw [va_up_self]; unfold ns_rg; rw [va_up_ne _ _ h35, va_up_self, va_up_ne _ _ h35, va_up_self]
      funext k
      by_cases hk : k = 3
      · subst hk; rw [va_up_self, va_up_self]
      · rw [va_up_ne _ _ hk, va_up_ne _ _ hk, va_up_ne _ _ hk]
    · rw [va_up_ne _ _ h31]; rw [ns_rg_ne _ _ h31 h35, ns_rg_ne _ _ h31 h35]
theorem rg_p2 (g1 g2 x : Option Nat) : va_up (ns_rg g1 g2) 35 (va_up (ns_rg g1 g2 35) 7 x) = ns_rg g1 x := by
  funext a
  by_cases h35 : a = 35
  · subst h35; rw [va_up_self]; unfold ns_rg; rw [va_up_self, va_up_self]
    funext k
    by_cases hk : k = 7
    · subst hk; rw [va_up_self, va_up_self]
    · rw [va_up_ne _ _ hk, va_up_ne _ _ hk, va_up_ne _ _ hk]
  · rw [va_up_ne _ _ h35]; unfold ns_rg; rw [va_up_ne _ _ h35, va_up_ne _ _ h35]
theorem ev_grd {β : Type} {c : Prop} [Decidable c] {f : Option β} : grd c f = if c then f else none := rfl
theorem ev_ite2 {β : Type} {c : Prop} [Decidable c] {a b : Option β} : ite2 c a b = if c then a else b := rfl
theorem ev_bnd {α β : Type} {v : α} {f : α → Option β} : bnd v f = f v := rfl
theorem ev_cl2 {α β : Type} {a : α} {b : ns_St} {f : α → ns_St → Option β} : cl2 (some (a, b)) f = f a b := rfl
theorem ev_drf {β : Type} {b : Nat} {f : Nat → Option β} : drf (some b) f = f b := rfl
theorem ev_onn {β : Type} {a : Option β} {f : Nat → Option β} : onul none a f = a := rfl
theorem ev_ons {β : Type} {a : Option β} {b : Nat} {f : Nat → Option β} : onul (some b) a f = f b := rfl
theorem pI_R (σ : ns_St) (a k : Nat) (v : Int32) : (ns_pI σ a k v).2.2 = σ.2.2 := rfl
theorem pI_J (σ : ns_St) (a k : Nat) (v : Int32) : (ns_pI σ a k v).2.1 = σ.2.1 := rfl
theorem pJ_R (σ : ns_St) (a k : Nat) (v : Int64) : (ns_pJ σ a k v).2.2 = σ.2.2 := rfl
theorem pJ_I (σ : ns_St) (a k : Nat) (v : Int64) : (ns_pJ σ a k v).1 = σ.1 := rfl
theorem pR_I (σ : ns_St) (a k : Nat) (v : Option Nat) : (ns_pR σ a k v).1 = σ.1 := rfl
theorem pR_J (σ : ns_St) (a k : Nat) (v : Option Nat) : (ns_pR σ a k v).2.1 = σ.2.1 := rfl
theorem pI_1 (σ : ns_St) (a k b j : Nat) (v : Int32) : (ns_pI σ a k v).1 b j = if b = a then (if j = k then v else σ.1 a j) else σ.1 b j := by
  by_cases h : b = a
  · subst h; simp [ns_pI, va_up]
  · simp [ns_pI, va_up, h]
theorem pJ_1 (σ : ns_St) (a k b j : Nat) (v : Int64) : (ns_pJ σ a k v).2.1 b j = if b = a then (if j = k then v else σ.2.1 a j) else σ.2.1 b j := by
  by_cases h : b = a
  · subst h; simp [ns_pJ, va_up]
  · simp [ns_pJ, va_up, h]
theorem pI_ne (σ : ns_St) {a b : Nat} (k : Nat) (v : Int32) (h : b ≠ a) : (ns_pI σ a k v).1 b = σ.1 b := va_up_ne _ _ h
theorem pJ_ne (σ : ns_St) {a b : Nat} (k : Nat) (v : Int64) (h : b ≠ a) : (ns_pJ σ a k v).2.1 b = σ.2.1 b := va_up_ne _ _ h
/-- yes and no -/
def yn (p : Prop) [Decidable p] : Int32 := if p then 1 else 0
theorem yn_t {p : Prop} [Decidable p] (h : p) : yn p = 1 := if_pos h
theorem yn_f {p : Prop} [Decidable p] (h : ¬ p) : yn p = 0 := if_neg h
theorem yn_0 {p : Prop} [Decidable p] : yn p = 0 ↔ ¬ p := by
  unfold yn; by_cases h : p
  · simp [h]
  · simp [h]
theorem yn_01 {p : Prop} [Decidable p] : yn p = 0 ∨ yn p = 1 := by
  unfold yn; by_cases h : p
  · simp [h]
  · simp [h]
theorem e_isWithin (σ : ns_St) (v lo hi : Int32) : g_N_isWithin σ v lo hi = some (yn (lo ≤ v ∧ v ≤ hi), σ) := by
  unfold g_N_isWithin
  simp only [ev_ite2]
  by_cases h1 : v < lo
  · rw [if_pos h1, yn_f (fun h => absurd h1 (Int32.not_lt.mpr h.1))]
  · rw [if_neg h1]
    by_cases h2 : hi < v
    · rw [if_pos h2, yn_f (fun h => absurd h2 (Int32.not_lt.mpr h.2))]
    · rw [if_neg h2, yn_t ⟨Int32.not_lt.mp h1, Int32.not_lt.mp h2⟩]
theorem e_within (σ : ns_St) (v lo hi : Int32) : g_M_within σ v lo hi = some (yn (lo ≤ v ∧ v ≤ hi), σ) := by
  unfold g_M_within
  simp only [ev_ite2]
  by_cases h1 : v < lo
  · rw [if_pos h1, yn_f (fun h => absurd h1 (Int32.not_lt.mpr h.1))]
  · rw [if_neg h1]
    by_cases h2 : hi < v
    · rw [if_pos h2, yn_f (fun h => absurd h2 (Int32.not_lt.mpr h.2))]
    · rw [if_neg h2, yn_t ⟨Int32.not_lt.mp h1, Int32.not_lt.mp h2⟩]

theorem grd_t {β : Type} {c : Prop} {_ : Decidable c} {f : Option β} (h : c) : grd c f = f := if_pos h
theorem ite2_p {β : Type} {c : Prop} {_ : Decidable c} {a b : Option β} (h : c) : ite2 c a b = a := if_pos h
theorem ite2_n {β : Type} {c : Prop} {_ : Decidable c} {a b : Option β} (h : ¬ c) : ite2 c a b = b := if_neg h
theorem ite2_y {β : Type} {p : Prop} {_ : Decidable p} {_ : Decidable (yn p = 0)} {a b : Option β} (h : p) : ite2 (yn p = 0) a b = b := if_neg (fun e => yn_0.mp e h)
theorem ite2_z {β : Type} {p : Prop} {_ : Decidable p} {_ : Decidable (yn p = 0)} {a b : Option β} (h : ¬ p) : ite2 (yn p = 0) a b = a := if_pos (yn_0.mpr h)
theorem grd_y {β : Type} {p : Prop} {_ : Decidable p} {_ : Decidable (yn p = 0 ∨ yn p = 1)} {f : Option β} : grd (yn p = 0 ∨ yn p = 1) f = f := if_pos yn_01
theorem pI_at (σ : ns_St) (a k : Nat) (v : Int32) : (ns_pI σ a k v).1 a k = v := by rw [pI_1, if_pos (Eq.refl _), if_pos (Eq.refl _)]
theorem pI_st (σ : ns_St) (a : Nat) {k j : Nat} (v : Int32) (h : j ≠ k) : (ns_pI σ a k v).1 a j = σ.1 a j := by rw [pI_1, if_pos (Eq.refl _), if_neg h]
theorem pJ_at (σ : ns_St) (a k : Nat) (v : Int64) : (ns_pJ σ a k v).2.1 a k = v := by rw [pJ_1, if_pos (Eq.refl _), if_pos (Eq.refl _)]
theorem pJ_st (σ : ns_St) (a : Nat) {k j : Nat} (v : Int64) (h : j ≠ k) : (ns_pJ σ a k v).2.1 a j = σ.2.1 a j := by rw [pJ_1, if_pos (Eq.refl _), if_neg h]
theorem gk_0 {β : Type} {f : Option β} : grd (ns_kd 0 = 8) f = f := grd_t kd_0
theorem gk_1 {β : Type} {f : Option β} : grd (ns_kd 1 = 7) f = f := grd_t kd_1
theorem gk_2 {β : Type} {f : Option β} : grd (ns_kd 2 = 1) f = f := grd_t kd_2
theorem gk_3 {β : Type} {f : Option β} : grd (ns_kd 3 = 12) f = f := grd_t kd_3
theorem gk_4 {β : Type} {f : Option β} : grd (ns_kd 4 = 2) f = f := grd_t kd_4
theorem gk_5 {β : Type} {f : Option β} : grd (ns_kd 5 = 2) f = f := grd_t kd_5
theorem gk_6 {β : Type} {f : Option β} : grd (ns_kd 6 = 2) f = f := grd_t kd_6
theorem gk_7 {β : Type} {f : Option β} : grd (ns_kd 7 = 2) f = f := grd_t kd_7
theorem gk_8 {β : Type} {f : Option β} : grd (ns_kd 8 = 2) f = f := grd_t kd_8
theorem gk_9 {β : Type} {f : Option β} : grd (ns_kd 9 = 2) f = f := grd_t kd_9
theorem gk_10 {β : Type} {f : Option β} : grd (ns_kd 10 = 7) f = f := grd_t kd_10
theorem gk_11 {β : Type} {f : Option β} : grd (ns_kd 11 = 1) f = f := grd_t kd_11
theorem gk_12 {β : Type} {f : Option β} : grd (ns_kd 12 = 12) f = f := grd_t kd_12
theorem gk_13 {β : Type} {f : Option β} : grd (ns_kd 13 = 2) f = f := grd_t kd_13
theorem gk_14 {β : Type} {f : Option β} : grd (ns_kd 14 = 2) f = f := grd_t kd_14
theorem gk_15 {β : Type} {f : Option β} : grd (ns_kd 15 = 2) f = f := grd_t kd_15
theorem gk_16 {β : Type} {f : Option β} : grd (ns_kd 16 = 2) f = f := grd_t kd_16
theorem gk_17 {β : Type} {f : Option β} : grd (ns_kd 17 = 2) f = f := grd_t kd_17
theorem gk_18 {β : Type} {f : Option β} : grd (ns_kd 18 = 2) f = f := grd_t kd_18
theorem gk_19 {β : Type} {f : Option β} : grd (ns_kd 19 = 7) f = f := grd_t kd_19
theorem gk_20 {β : Type} {f : Option β} : grd (ns_kd 20 = 1) f = f := grd_t kd_20
theorem gk_21 {β : Type} {f : Option β} : grd (ns_kd 21 = 12) f = f := grd_t kd_21
theorem gk_22 {β : Type} {f : Option β} : grd (ns_kd 22 = 2) f = f := grd_t kd_22
theorem gk_23 {β : Type} {f : Option β} : grd (ns_kd 23 = 2) f = f := grd_t kd_23
theorem gk_24 {β : Type} {f : Option β} : grd (ns_kd 24 = 2) f = f := grd_t kd_24
theorem gk_25 {β : Type} {f : Option β} : grd (ns_kd 25 = 2) f = f := grd_t kd_25
theorem gk_26 {β : Type} {f : Option β} : grd (ns_kd 26 = 2) f = f := grd_t kd_26
theorem gk_27 {β : Type} {f : Option β} : grd (ns_kd 27 = 2) f = f := grd_t kd_27
theorem gk_28 {β : Type} {f : Option β} : grd (ns_kd 28 = 13) f = f := grd_t kd_28
theorem gk_29 {β : Type} {f : Option β} : grd (ns_kd 29 = 5) f = f := grd_t kd_29
theorem gk_30 {β : Type} {f : Option β} : grd (ns_kd 30 = 10) f = f := grd_t kd_30
theorem gk_31 {β : Type} {f : Option β} : grd (ns_kd 31 = 6) f = f := grd_t kd_31
theorem gk_32 {β : Type} {f : Option β} : grd (ns_kd 32 = 10) f = f := grd_t kd_32
theorem gk_33 {β : Type} {f : Option β} : grd (ns_kd 33 = 10) f = f := grd_t kd_33
theorem gk_34 {β : Type} {f : Option β} : grd (ns_kd 34 = 2) f = f := grd_t kd_34
theorem gk_35 {β : Type} {f : Option β} : grd (ns_kd 35 = 4) f = f := grd_t kd_35
theorem gk_36 {β : Type} {f : Option β} : grd (ns_kd 36 = 11) f = f := grd_t kd_36
theorem gk_37 {β : Type} {f : Option β} : grd (ns_kd 37 = 11) f = f := grd_t kd_37
theorem gk_38 {β : Type} {f : Option β} : grd (ns_kd 38 = 10) f = f := grd_t kd_38
theorem gk_39 {β : Type} {f : Option β} : grd (ns_kd 39 = 2) f = f := grd_t kd_39
theorem gk_40 {β : Type} {f : Option β} : grd (ns_kd 40 = 2) f = f := grd_t kd_40
theorem gk_41 {β : Type} {f : Option β} : grd (ns_kd 41 = 2) f = f := grd_t kd_41
theorem gk_42 {β : Type} {f : Option β} : grd (ns_kd 42 = 2) f = f := grd_t kd_42
theorem gk_43 {β : Type} {f : Option β} : grd (ns_kd 43 = 0) f = f := grd_t kd_43
theorem gk_44 {β : Type} {f : Option β} : grd (ns_kd 44 = 10) f = f := grd_t kd_44
theorem gk_45 {β : Type} {f : Option β} : grd (ns_kd 45 = 10) f = f := grd_t kd_45
theorem gk_46 {β : Type} {f : Option β} : grd (ns_kd 46 = 2) f = f := grd_t kd_46
theorem gk_47 {β : Type} {f : Option β} : grd (ns_kd 47 = 10) f = f := grd_t kd_47
theorem gk_48 {β : Type} {f : Option β} : grd (ns_kd 48 = 10) f = f := grd_t kd_48
theorem gk_49 {β : Type} {f : Option β} : grd (ns_kd 49 = 3) f = f := grd_t kd_49
theorem gk_50 {β : Type} {f : Option β} : grd (ns_kd 50 = 11) f = f := grd_t kd_50
theorem gk_51 {β : Type} {f : Option β} : grd (ns_kd 51 = 3) f = f := grd_t kd_51
theorem gk_52 {β : Type} {f : Option β} : grd (ns_kd 52 = 11) f = f := grd_t kd_52
theorem gk_53 {β : Type} {f : Option β} : grd (ns_kd 53 = 3) f = f := grd_t kd_53
theorem gk_54 {β : Type} {f : Option β} : grd (ns_kd 54 = 11) f = f := grd_t kd_54
theorem gk_55 {β : Type} {f : Option β} : grd (ns_kd 55 = 3) f = f := grd_t kd_55
theorem gk_56 {β : Type} {f : Option β} : grd (ns_kd 56 = 11) f = f := grd_t kd_56
theorem gk_57 {β : Type} {f : Option β} : grd (ns_kd 57 = 3) f = f := grd_t kd_57
theorem gk_58 {β : Type} {f : Option β} : grd (ns_kd 58 = 11) f = f := grd_t kd_58
theorem gk_59 {β : Type} {f : Option β} : grd (ns_kd 59 = 3) f = f := grd_t kd_59
theorem gk_60 {β : Type} {f : Option β} : grd (ns_kd 60 = 11) f = f := grd_t kd_60
theorem gk_61 {β : Type} {f : Option β} : grd (ns_kd 61 = 3) f = f := grd_t kd_61
theorem gk_62 {β : Type} {f : Option β} : grd (ns_kd 62 = 11) f = f := grd_t kd_62
theorem gk_63 {β : Type} {f : Option β} : grd (ns_kd 63 = 3) f = f := grd_t kd_63
theorem gk_64 {β : Type} {f : Option β} : grd (ns_kd 64 = 11) f = f := grd_t kd_64
theorem gk_65 {β : Type} {f : Option β} : grd (ns_kd 65 = 9) f = f := grd_t kd_65
theorem gk_66 {β : Type} {f : Option β} : grd (ns_kd 66 = 10) f = f := grd_t kd_66
theorem gk_67 {β : Type} {f : Option β} : grd (ns_kd 67 = 10) f = f := grd_t kd_67
theorem gk_68 {β : Type} {f : Option β} : grd (ns_kd 68 = 11) f = f := grd_t kd_68
theorem gk_69 {β : Type} {f : Option β} : grd (ns_kd 69 = 10) f = f := grd_t kd_69
theorem gk_70 {β : Type} {f : Option β} : grd (ns_kd 70 = 10) f = f := grd_t kd_70
theorem gk_71 {β : Type} {f : Option β} : grd (ns_kd 71 = 10) f = f := grd_t kd_71
theorem gk_72 {β : Type} {f : Option β} : grd (ns_kd 72 = 10) f = f := grd_t kd_72
theorem gk_73 {β : Type} {f : Option β} : grd (ns_kd 73 = 10) f = f := grd_t kd_73
theorem gk_74 {β : Type} {f : Option β} : grd (ns_kd 74 = 10) f = f := grd_t kd_74
theorem gk_75 {β : Type} {f : Option β} : grd (ns_kd 75 = 10) f = f := grd_t kd_75
theorem gk_76 {β : Type} {f : Option β} : grd (ns_kd 76 = 10) f = f := grd_t kd_76
theorem gk_77 {β : Type} {f : Option β} : grd (ns_kd 77 = 10) f = f := grd_t kd_77
theorem gk_78 {β : Type} {f : Option β} : grd (ns_kd 78 = 10) f = f := grd_t kd_78
theorem gk_79 {β : Type} {f : Option β} : grd (ns_kd 79 = 10) f = f := grd_t kd_79
theorem gk_80 {β : Type} {f : Option β} : grd (ns_kd 80 = 10) f = f := grd_t kd_80
theorem gk_81 {β : Type} {f : Option β} : grd (ns_kd 81 = 10) f = f := grd_t kd_81
