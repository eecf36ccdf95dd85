/-! the law's loop -/
theorem lw_lt {L a : Nat} (hL : L ≤ 3072) (ha : a ≤ 4000) : ((Int32.ofNat L) - (6 : Int32) < nI a) ↔ L < a + 6 := by
  by_cases c : 6 ≤ L
  · have e : (Int32.ofNat L) - (6 : Int32) = nI (L - 6) := nsub (a := 6) (b := L) c
    rw [e, nI_ltI (by omega) (by omega)]
    omega
  · have n : (Int32.ofNat L) - (6 : Int32) < 0 := by
      rcases (by omega : L = 0 ∨ L = 1 ∨ L = 2 ∨ L = 3 ∨ L = 4 ∨ L = 5) with rfl | rfl | rfl | rfl | rfl | rfl <;> decide
    refine ⟨fun _ => by omega, fun _ => ?_⟩
    rw [Int32.lt_iff_toInt_lt] at n ⊢
    have z := Int32.le_iff_toInt_le.mp (nI_pos' (show a < 2 ^ 31 by omega))
    omega
theorem lw_loop {xs : Nat → Int32} {L : Nat} (hL : L ≤ 3072) : ∀ (f a : Nat) (σ : ns_St), L - a < f → a ≤ 3078 → Inv (64 + 30 * a) σ → ∃ σ', g_law_18 xs L f σ 0 65 (nI a) = some ((), σ') := by
  intro f
  induction f with
  | zero => intro a σ hf; omega
  | succ f ih =>
    intro a σ hf ha hI
    by_cases c : L < a + 6
    · exact ⟨σ, by rw [g_law_18, ite2_p ((lw_lt hL (by omega)).mpr c)]⟩
    · have hin : ns_in (nI a) L := ns_inI (by omega) (by omega)
      have h64 : 64 ≤ 64 + 30 * a := by omega
      have hB : 64 + 30 * a < 2 ^ 26 := by omega
      have go : ∀ x : Option (Unit × ns_St), (∃ σ2, Inv (64 + 30 * a + 180) σ2 ∧ x = g_law_18 xs L f σ2 0 65 (nI (a + 6))) → ∃ σ', x = some ((), σ') := fun x ⟨σ2, h2, e⟩ => by
        rw [e]
        exact ih (a + 6) σ2 (by omega) (by omega) (by rw [show 64 + 30 * (a + 6) = 64 + 30 * a + 180 by omega]; exact h2)
      have hm : Inv (64 + 30 * a + 180) σ := Inv.mono (by omega) hI
      have ha6 : a + 6 ≤ L := by omega
      rw [g_law_18, ite2_n (fun q => c ((lw_lt hL (by omega)).mp q)), grd_t hin, ev_bnd]
      generalize xs (ns_ix (nI a)) &&& (63 : Int32) = v
      by_cases h0 : v = 0
      · rw [ite2_p h0]; exact go _ (L_228 hI h64 hB ha6 hL)
      rw [ite2_n h0]
      by_cases h1 : v = 1
      · rw [ite2_p h1]; exact go _ (L_271 hI h64 hB ha6 hL)
      rw [ite2_n h1]
      by_cases h2 : v = 2
      · rw [ite2_p h2]; exact go _ (L_344 hI h64 hB ha6 hL)
      rw [ite2_n h2]
      by_cases h3 : v = 3
      · rw [ite2_p h3]; exact go _ (L_407 hI h64 hB ha6 hL)
      rw [ite2_n h3]
      by_cases h4 : v = 4
      · rw [ite2_p h4]; exact go _ (L_441 hI h64 hB ha6 hL)
      rw [ite2_n h4]
      by_cases h5 : v = 5
      · rw [ite2_p h5]; exact go _ (L_464 hI h64 hB ha6 hL)
      rw [ite2_n h5]
      by_cases h6 : v = 6
      · rw [ite2_p h6]; exact go _ (L_497 hI h64 hB ha6 hL)
      rw [ite2_n h6]
      by_cases h7 : v = 7
      · rw [ite2_p h7]; exact go _ (L_530 hI h64 hB ha6 hL)
      rw [ite2_n h7]
      by_cases h8 : v = 8
      · rw [ite2_p h8]; exact go _ (L_553 hI h64 hB ha6 hL)
      rw [ite2_n h8]
      by_cases h9 : v = 9
      · rw [ite2_p h9]; exact go _ (L_612 hI h64 hB ha6 hL)
      rw [ite2_n h9]
      by_cases h10 : v = 10
      · rw [ite2_p h10]; exact go _ (L_655 hI h64 hB ha6 hL)
      rw [ite2_n h10]
      by_cases h11 : v = 11
      · rw [ite2_p h11]; exact go _ (L_698 hI h64 hB ha6 hL)
      rw [ite2_n h11]
      by_cases h12 : v = 12
      · rw [ite2_p h12]; exact go _ (L_731 hI h64 hB ha6 hL)
      rw [ite2_n h12]
      by_cases h13 : v = 13
      · rw [ite2_p h13]; exact go _ (L_754 hI h64 hB ha6 hL)
      rw [ite2_n h13]
      by_cases h14 : v = 14
      · rw [ite2_p h14]; exact go _ (L_777 hI h64 hB ha6 hL)
      rw [ite2_n h14]
      by_cases h15 : v = 15
      · rw [ite2_p h15]; exact go _ (L_790 hI h64 hB ha6 hL)
      rw [ite2_n h15]
      by_cases h16 : v = 16
      · rw [ite2_p h16]; exact go _ (L_803 hI h64 hB ha6 hL)
      rw [ite2_n h16]
      by_cases h17 : v = 17
      · rw [ite2_p h17]; exact go _ (L_836 hI h64 hB ha6 hL)
      rw [ite2_n h17]
      by_cases h18 : v = 18
      · rw [ite2_p h18]; exact go _ (L_859 hI h64 hB ha6 hL)
      rw [ite2_n h18]
      by_cases h19 : v = 19
      · rw [ite2_p h19]; exact go _ (L_892 hI h64 hB ha6 hL)
      rw [ite2_n h19]
      by_cases h20 : v = 20
      · rw [ite2_p h20]; exact go _ (L_915 hI h64 hB ha6 hL)
      rw [ite2_n h20]
      by_cases h21 : v = 21
      · rw [ite2_p h21]; exact go _ (L_948 hI h64 hB ha6 hL)
      rw [ite2_n h21]
      by_cases h22 : v = 22
      · rw [ite2_p h22]; exact go _ (L_971 hI h64 hB ha6 hL)
      rw [ite2_n h22]
      by_cases h23 : v = 23
      · rw [ite2_p h23]; exact go _ (L_994 hI h64 hB ha6 hL)
      rw [ite2_n h23]
      by_cases h24 : v = 24
      · rw [ite2_p h24]; exact go _ (L_1017 hI h64 hB ha6 hL)
      rw [ite2_n h24]
      by_cases h25 : v = 25
      · rw [ite2_p h25]; exact go _ (L_1050 hI h64 hB ha6 hL)
      rw [ite2_n h25]
      by_cases h26 : v = 26
      · rw [ite2_p h26]; exact go _ (L_1093 hI h64 hB ha6 hL)
      rw [ite2_n h26]
      by_cases h27 : v = 27
      · rw [ite2_p h27]; exact go _ (L_1126 hI h64 hB ha6 hL)
      rw [ite2_n h27]
      by_cases h28 : v = 28
      · rw [ite2_p h28]; exact go _ (L_1139 hI h64 hB ha6 hL)
      rw [ite2_n h28]
      by_cases h29 : v = 29
      · rw [ite2_p h29]; exact go _ (L_1172 hI h64 hB ha6 hL)
      rw [ite2_n h29]
      by_cases h30 : v = 30
      · rw [ite2_p h30]; exact go _ (L_1195 hI h64 hB ha6 hL)
      rw [ite2_n h30]
      by_cases h31 : v = 31
      · rw [ite2_p h31]; exact go _ (L_1218 hI h64 hB ha6 hL)
      rw [ite2_n h31]
      by_cases h32 : v = 32
      · rw [ite2_p h32]; exact go _ (L_1241 hI h64 hB ha6 hL)
      rw [ite2_n h32]
      by_cases h33 : v = 33
      · rw [ite2_p h33]; exact go _ (L_1284 hI h64 hB ha6 hL)
      rw [ite2_n h33]
      by_cases h34 : v = 34
      · rw [ite2_p h34]; exact go _ (L_1317 hI h64 hB ha6 hL)
      rw [ite2_n h34]
      by_cases h35 : v = 35
      · rw [ite2_p h35]; exact go _ (L_1360 hI h64 hB ha6 hL)
      rw [ite2_n h35]
      by_cases h36 : v = 36
      · rw [ite2_p h36]; exact go _ (L_1373 hI h64 hB ha6 hL)
      rw [ite2_n h36]
      by_cases h37 : v = 37
      · rw [ite2_p h37]; exact go _ (L_1396 hI h64 hB ha6 hL)
      rw [ite2_n h37]
      by_cases h38 : v = 38
      · rw [ite2_p h38]; exact go _ (L_1429 hI h64 hB ha6 hL)
      rw [ite2_n h38]
      by_cases h39 : v = 39
      · rw [ite2_p h39]; exact go _ (L_1452 hI h64 hB ha6 hL)
      rw [ite2_n h39]
      by_cases h40 : v = 40
      · rw [ite2_p h40]; exact go _ (L_1465 hI h64 hB ha6 hL)
      rw [ite2_n h40]
      by_cases h41 : v = 41
      · rw [ite2_p h41]; exact go _ (L_1478 hI h64 hB ha6 hL)
      rw [ite2_n h41]
      by_cases h42 : v = 42
      · rw [ite2_p h42]; exact go _ (L_1501 hI h64 hB ha6 hL)
      rw [ite2_n h42]
      by_cases h43 : v = 43
      · rw [ite2_p h43]; exact go _ (L_1514 hI h64 hB ha6 hL)
      rw [ite2_n h43]
      by_cases h44 : v = 44
      · rw [ite2_p h44]; exact go _ (L_1527 hI h64 hB ha6 hL)
      rw [ite2_n h44]
      rw [ev_bnd, lw_6]
      exact go _ ⟨σ, hm, rfl⟩
