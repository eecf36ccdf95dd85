/-! the law, call by call -/
theorem lw_in {a L k : Nat} (h : a + k < L) (hL : L ≤ 3072) {x : Int32} (hx : x = nI k) : ns_in (nI a + x) L := by
  rw [hx, nI_add]; exact ns_inI h (by omega)
theorem lw_6 (a : Nat) : nI a + 6 = nI (a + 6) := nI_add a 6
theorem L_228 {xs : Nat → Int32} {L a B : Nat} {kh : ns_St → Nat → Nat → Int32 → Option (Unit × ns_St)} {σ : ns_St} (h : Inv B σ) (h64 : 64 ≤ B) (hB : B < 2 ^ 26) (ha : a + 6 ≤ L) (hL : L ≤ 3072) : ∃ σ2, Inv (B + 180) σ2 ∧ g_law_228 xs L kh σ 0 65 (nI a) = kh σ2 0 65 (nI (a + 6)) := by
  have i1 : ns_in (nI a + (1 : Int32)) L := lw_in (k := 1) (by omega) hL rfl
  have i2 : ns_in (nI a + (2 : Int32)) L := lw_in (k := 2) (by omega) hL rfl
  have i3 : ns_in (nI a + (3 : Int32)) L := lw_in (k := 3) (by omega) hL rfl
  obtain ⟨r, σ1, σ2, e1, e2, hI⟩ := (both.mono (Nat.le_add_right B 180) (k_row h (xs (ns_ix (nI a + (1 : Int32)))) (xs (ns_ix (nI a + (2 : Int32)))) (xs (ns_ix (nI a + (3 : Int32))))))
  have e2' : g_M_row σ1 65 (xs (ns_ix (nI a + (1 : Int32)))) (xs (ns_ix (nI a + (2 : Int32)))) (xs (ns_ix (nI a + (3 : Int32)))) = some (r, σ2) := e2
  refine ⟨σ2, hI, ?_⟩
  unfold g_law_228
  rw [grd_t i1, grd_t i2, grd_t i3, e1, ev_cl2, grd_t i1, grd_t i2, grd_t i3, e2', ev_cl2, ite2_p (Eq.refl _), ev_bnd, lw_6]
theorem L_271 {xs : Nat → Int32} {L a B : Nat} {kh : ns_St → Nat → Nat → Int32 → Option (Unit × ns_St)} {σ : ns_St} (h : Inv B σ) (h64 : 64 ≤ B) (hB : B < 2 ^ 26) (ha : a + 6 ≤ L) (hL : L ≤ 3072) : ∃ σ2, Inv (B + 180) σ2 ∧ g_law_271 xs L kh σ 0 65 (nI a) = kh σ2 0 65 (nI (a + 6)) := by
  have i1 : ns_in (nI a + (1 : Int32)) L := lw_in (k := 1) (by omega) hL rfl
  have i2 : ns_in (nI a + (2 : Int32)) L := lw_in (k := 2) (by omega) hL rfl
  have i3 : ns_in (nI a + (3 : Int32)) L := lw_in (k := 3) (by omega) hL rfl
  have i4 : ns_in (nI a + (4 : Int32)) L := lw_in (k := 4) (by omega) hL rfl
  obtain ⟨r, σ1, σ2, e1, e2, hI⟩ := (both.mono (Nat.le_add_right B 180) (k_set h (xs (ns_ix (nI a + (1 : Int32)))) (xs (ns_ix (nI a + (2 : Int32)))) ((((xs (ns_ix (nI a + (3 : Int32)))).toInt64) <<< ((32 : Int32).toInt64 &&& 63)) ||| (((xs (ns_ix (nI a + (4 : Int32)))).toInt64) &&& (4294967295 : Int64)))))
  have e2' : g_M_set σ1 65 (xs (ns_ix (nI a + (1 : Int32)))) (xs (ns_ix (nI a + (2 : Int32)))) ((((xs (ns_ix (nI a + (3 : Int32)))).toInt64) <<< ((32 : Int32).toInt64 &&& 63)) ||| (((xs (ns_ix (nI a + (4 : Int32)))).toInt64) &&& (4294967295 : Int64))) = some (r, σ2) := e2
  refine ⟨σ2, hI, ?_⟩
  unfold g_law_271
  rw [grd_t i1, grd_t i2, grd_t i3, grd_t i4, e1, ev_cl2, grd_t i1, grd_t i2, grd_t i3, grd_t i4, e2', ev_cl2, ite2_p (Eq.refl _), ev_bnd, lw_6]
theorem L_344 {xs : Nat → Int32} {L a B : Nat} {kh : ns_St → Nat → Nat → Int32 → Option (Unit × ns_St)} {σ : ns_St} (h : Inv B σ) (h64 : 64 ≤ B) (hB : B < 2 ^ 26) (ha : a + 6 ≤ L) (hL : L ≤ 3072) : ∃ σ2, Inv (B + 180) σ2 ∧ g_law_344 xs L kh σ 0 65 (nI a) = kh σ2 0 65 (nI (a + 6)) := by
  have i1 : ns_in (nI a + (1 : Int32)) L := lw_in (k := 1) (by omega) hL rfl
  have i2 : ns_in (nI a + (2 : Int32)) L := lw_in (k := 2) (by omega) hL rfl
  have i3 : ns_in (nI a + (3 : Int32)) L := lw_in (k := 3) (by omega) hL rfl
  have i4 : ns_in (nI a + (4 : Int32)) L := lw_in (k := 4) (by omega) hL rfl
  have i5 : ns_in (nI a + (5 : Int32)) L := lw_in (k := 5) (by omega) hL rfl
  obtain ⟨r, σ1, σ2, e1, e2, hI⟩ := (both.mono (Nat.le_add_right B 180) (k_copy h (xs (ns_ix (nI a + (1 : Int32)))) (xs (ns_ix (nI a + (2 : Int32)))) (xs (ns_ix (nI a + (3 : Int32)))) (xs (ns_ix (nI a + (4 : Int32)))) (xs (ns_ix (nI a + (5 : Int32))))))
  have e2' : g_M_copy σ1 65 (xs (ns_ix (nI a + (1 : Int32)))) (xs (ns_ix (nI a + (2 : Int32)))) (xs (ns_ix (nI a + (3 : Int32)))) (xs (ns_ix (nI a + (4 : Int32)))) (xs (ns_ix (nI a + (5 : Int32)))) = some (r, σ2) := e2
  refine ⟨σ2, hI, ?_⟩
  unfold g_law_344
  rw [grd_t i1, grd_t i2, grd_t i3, grd_t i4, grd_t i5, e1, ev_cl2, grd_t i1, grd_t i2, grd_t i3, grd_t i4, grd_t i5, e2', ev_cl2, ite2_p (Eq.refl _), ev_bnd, lw_6]
theorem L_407 {xs : Nat → Int32} {L a B : Nat} {kh : ns_St → Nat → Nat → Int32 → Option (Unit × ns_St)} {σ : ns_St} (h : Inv B σ) (h64 : 64 ≤ B) (hB : B < 2 ^ 26) (ha : a + 6 ≤ L) (hL : L ≤ 3072) : ∃ σ2, Inv (B + 180) σ2 ∧ g_law_407 xs L kh σ 0 65 (nI a) = kh σ2 0 65 (nI (a + 6)) := by
  have i1 : ns_in (nI a + (1 : Int32)) L := lw_in (k := 1) (by omega) hL rfl
  have i2 : ns_in (nI a + (2 : Int32)) L := lw_in (k := 2) (by omega) hL rfl
  obtain ⟨r, σ1, σ2, e1, e2, hI⟩ := (both.mono (Nat.le_add_right B 180) (k_element h (xs (ns_ix (nI a + (1 : Int32)))) (xs (ns_ix (nI a + (2 : Int32))))))
  have e2' : g_M_element σ1 65 (xs (ns_ix (nI a + (1 : Int32)))) (xs (ns_ix (nI a + (2 : Int32)))) = some (r, σ2) := e2
  refine ⟨σ2, hI, ?_⟩
  unfold g_law_407
  rw [grd_t i1, grd_t i2, e1, ev_cl2, grd_t i1, grd_t i2, e2', ev_cl2, ite2_p ((lg_cmp_eq _ _).mpr (Eq.refl _)), ev_bnd, lw_6]
theorem L_441 {xs : Nat → Int32} {L a B : Nat} {kh : ns_St → Nat → Nat → Int32 → Option (Unit × ns_St)} {σ : ns_St} (h : Inv B σ) (h64 : 64 ≤ B) (hB : B < 2 ^ 26) (ha : a + 6 ≤ L) (hL : L ≤ 3072) : ∃ σ2, Inv (B + 180) σ2 ∧ g_law_441 xs L kh σ 0 65 (nI a) = kh σ2 0 65 (nI (a + 6)) := by
  have i1 : ns_in (nI a + (1 : Int32)) L := lw_in (k := 1) (by omega) hL rfl
  obtain ⟨r, σ1, σ2, e1, e2, hI⟩ := (both.mono (Nat.le_add_right B 180) (k_holds h (xs (ns_ix (nI a + (1 : Int32))))))
  have e2' : g_M_holds σ1 65 (xs (ns_ix (nI a + (1 : Int32)))) = some (r, σ2) := e2
  refine ⟨σ2, hI, ?_⟩
  unfold g_law_441
  rw [grd_t i1, e1, ev_cl2, grd_t i1, e2', ev_cl2, ite2_p (Eq.refl _), ev_bnd, lw_6]
theorem L_464 {xs : Nat → Int32} {L a B : Nat} {kh : ns_St → Nat → Nat → Int32 → Option (Unit × ns_St)} {σ : ns_St} (h : Inv B σ) (h64 : 64 ≤ B) (hB : B < 2 ^ 26) (ha : a + 6 ≤ L) (hL : L ≤ 3072) : ∃ σ2, Inv (B + 180) σ2 ∧ g_law_464 xs L kh σ 0 65 (nI a) = kh σ2 0 65 (nI (a + 6)) := by
  have i1 : ns_in (nI a + (1 : Int32)) L := lw_in (k := 1) (by omega) hL rfl
  have i2 : ns_in (nI a + (2 : Int32)) L := lw_in (k := 2) (by omega) hL rfl
  obtain ⟨r, σ1, σ2, e1, e2, hI⟩ := (both.mono (Nat.le_add_right B 180) (k_show h (xs (ns_ix (nI a + (1 : Int32)))) (xs (ns_ix (nI a + (2 : Int32))))))
  have e2' : g_M_show σ1 65 (xs (ns_ix (nI a + (1 : Int32)))) (xs (ns_ix (nI a + (2 : Int32)))) = some (r, σ2) := e2
  refine ⟨σ2, hI, ?_⟩
  unfold g_law_464
  rw [grd_t i1, grd_t i2, e1, ev_cl2, grd_t i1, grd_t i2, e2', ev_cl2, ite2_p (Eq.refl _), ev_bnd, lw_6]
theorem L_497 {xs : Nat → Int32} {L a B : Nat} {kh : ns_St → Nat → Nat → Int32 → Option (Unit × ns_St)} {σ : ns_St} (h : Inv B σ) (h64 : 64 ≤ B) (hB : B < 2 ^ 26) (ha : a + 6 ≤ L) (hL : L ≤ 3072) : ∃ σ2, Inv (B + 180) σ2 ∧ g_law_497 xs L kh σ 0 65 (nI a) = kh σ2 0 65 (nI (a + 6)) := by
  have i1 : ns_in (nI a + (1 : Int32)) L := lw_in (k := 1) (by omega) hL rfl
  have i2 : ns_in (nI a + (2 : Int32)) L := lw_in (k := 2) (by omega) hL rfl
  obtain ⟨r, σ1, σ2, e1, e2, hI⟩ := (both.mono (Nat.le_add_right B 180) (k_says h (xs (ns_ix (nI a + (1 : Int32)))) (xs (ns_ix (nI a + (2 : Int32))))))
  have e2' : g_M_says σ1 65 (xs (ns_ix (nI a + (1 : Int32)))) (xs (ns_ix (nI a + (2 : Int32)))) = some (r, σ2) := e2
  refine ⟨σ2, hI, ?_⟩
  unfold g_law_497
  rw [grd_t i1, grd_t i2, e1, ev_cl2, grd_t i1, grd_t i2, e2', ev_cl2, ite2_p (Eq.refl _), ev_bnd, lw_6]
theorem L_530 {xs : Nat → Int32} {L a B : Nat} {kh : ns_St → Nat → Nat → Int32 → Option (Unit × ns_St)} {σ : ns_St} (h : Inv B σ) (h64 : 64 ≤ B) (hB : B < 2 ^ 26) (ha : a + 6 ≤ L) (hL : L ≤ 3072) : ∃ σ2, Inv (B + 180) σ2 ∧ g_law_530 xs L kh σ 0 65 (nI a) = kh σ2 0 65 (nI (a + 6)) := by
  have i1 : ns_in (nI a + (1 : Int32)) L := lw_in (k := 1) (by omega) hL rfl
  obtain ⟨r, σ1, σ2, e1, e2, hI⟩ := (both.mono (Nat.le_add_right B 180) (k_length h (xs (ns_ix (nI a + (1 : Int32))))))
  have e2' : g_M_length σ1 65 (xs (ns_ix (nI a + (1 : Int32)))) = some (r, σ2) := e2
  refine ⟨σ2, hI, ?_⟩
  unfold g_law_530
  rw [grd_t i1, e1, ev_cl2, grd_t i1, e2', ev_cl2, ite2_p (Eq.refl _), ev_bnd, lw_6]
theorem L_612 {xs : Nat → Int32} {L a B : Nat} {kh : ns_St → Nat → Nat → Int32 → Option (Unit × ns_St)} {σ : ns_St} (h : Inv B σ) (h64 : 64 ≤ B) (hB : B < 2 ^ 26) (ha : a + 6 ≤ L) (hL : L ≤ 3072) : ∃ σ2, Inv (B + 180) σ2 ∧ g_law_612 xs L kh σ 0 65 (nI a) = kh σ2 0 65 (nI (a + 6)) := by
  have i1 : ns_in (nI a + (1 : Int32)) L := lw_in (k := 1) (by omega) hL rfl
  have i2 : ns_in (nI a + (2 : Int32)) L := lw_in (k := 2) (by omega) hL rfl
  have i3 : ns_in (nI a + (3 : Int32)) L := lw_in (k := 3) (by omega) hL rfl
  obtain ⟨r, σ1, σ2, e1, e2, hI⟩ := (both.mono (Nat.le_add_right B 180) (k_mule h (xs (ns_ix (nI a + (1 : Int32)))) (xs (ns_ix (nI a + (2 : Int32)))) (xs (ns_ix (nI a + (3 : Int32))))))
  have e2' : g_M_mule σ1 65 (xs (ns_ix (nI a + (1 : Int32)))) (xs (ns_ix (nI a + (2 : Int32)))) (xs (ns_ix (nI a + (3 : Int32)))) = some (r, σ2) := e2
  refine ⟨σ2, hI, ?_⟩
  unfold g_law_612
  rw [grd_t i1, grd_t i2, grd_t i3, e1, ev_cl2, grd_t i1, grd_t i2, grd_t i3, e2', ev_cl2, ite2_p (Eq.refl _), ev_bnd, lw_6]
theorem L_655 {xs : Nat → Int32} {L a B : Nat} {kh : ns_St → Nat → Nat → Int32 → Option (Unit × ns_St)} {σ : ns_St} (h : Inv B σ) (h64 : 64 ≤ B) (hB : B < 2 ^ 26) (ha : a + 6 ≤ L) (hL : L ≤ 3072) : ∃ σ2, Inv (B + 180) σ2 ∧ g_law_655 xs L kh σ 0 65 (nI a) = kh σ2 0 65 (nI (a + 6)) := by
  have i1 : ns_in (nI a + (1 : Int32)) L := lw_in (k := 1) (by omega) hL rfl
  have i2 : ns_in (nI a + (2 : Int32)) L := lw_in (k := 2) (by omega) hL rfl
  have i3 : ns_in (nI a + (3 : Int32)) L := lw_in (k := 3) (by omega) hL rfl
  obtain ⟨r, σ1, σ2, e1, e2, hI⟩ := (both.mono (Nat.le_add_right B 180) (k_stand h h64 (xs (ns_ix (nI a + (1 : Int32)))) (xs (ns_ix (nI a + (2 : Int32)))) (xs (ns_ix (nI a + (3 : Int32))))))
  have e2' : g_M_stand σ1 65 (xs (ns_ix (nI a + (1 : Int32)))) (xs (ns_ix (nI a + (2 : Int32)))) (xs (ns_ix (nI a + (3 : Int32)))) = some (r, σ2) := e2
  refine ⟨σ2, hI, ?_⟩
  unfold g_law_655
  rw [grd_t i1, grd_t i2, grd_t i3, e1, ev_cl2, grd_t i1, grd_t i2, grd_t i3, e2', ev_cl2, ite2_p (Eq.refl _), ev_bnd, lw_6]
theorem L_698 {xs : Nat → Int32} {L a B : Nat} {kh : ns_St → Nat → Nat → Int32 → Option (Unit × ns_St)} {σ : ns_St} (h : Inv B σ) (h64 : 64 ≤ B) (hB : B < 2 ^ 26) (ha : a + 6 ≤ L) (hL : L ≤ 3072) : ∃ σ2, Inv (B + 180) σ2 ∧ g_law_698 xs L kh σ 0 65 (nI a) = kh σ2 0 65 (nI (a + 6)) := by
  have i1 : ns_in (nI a + (1 : Int32)) L := lw_in (k := 1) (by omega) hL rfl
  have i2 : ns_in (nI a + (2 : Int32)) L := lw_in (k := 2) (by omega) hL rfl
  obtain ⟨r, σ1, σ2, e1, e2, hI⟩ := (both.mono (Nat.le_add_right B 180) (k_teach h (xs (ns_ix (nI a + (1 : Int32)))) (xs (ns_ix (nI a + (2 : Int32))))))
  have e2' : g_M_teach σ1 65 (xs (ns_ix (nI a + (1 : Int32)))) (xs (ns_ix (nI a + (2 : Int32)))) = some (r, σ2) := e2
  refine ⟨σ2, hI, ?_⟩
  unfold g_law_698
  rw [grd_t i1, grd_t i2, e1, ev_cl2, grd_t i1, grd_t i2, e2', ev_cl2, ite2_p (Eq.refl _), ev_bnd, lw_6]
theorem L_731 {xs : Nat → Int32} {L a B : Nat} {kh : ns_St → Nat → Nat → Int32 → Option (Unit × ns_St)} {σ : ns_St} (h : Inv B σ) (h64 : 64 ≤ B) (hB : B < 2 ^ 26) (ha : a + 6 ≤ L) (hL : L ≤ 3072) : ∃ σ2, Inv (B + 180) σ2 ∧ g_law_731 xs L kh σ 0 65 (nI a) = kh σ2 0 65 (nI (a + 6)) := by
  have i1 : ns_in (nI a + (1 : Int32)) L := lw_in (k := 1) (by omega) hL rfl
  obtain ⟨r, σ1, σ2, e1, e2, hI⟩ := (both.mono (Nat.le_add_right B 180) (k_slip h (xs (ns_ix (nI a + (1 : Int32))))))
  have e2' : g_M_slip σ1 65 (xs (ns_ix (nI a + (1 : Int32)))) = some (r, σ2) := e2
  refine ⟨σ2, hI, ?_⟩
  unfold g_law_731
  rw [grd_t i1, e1, ev_cl2, grd_t i1, e2', ev_cl2, ite2_p (Eq.refl _), ev_bnd, lw_6]
theorem L_754 {xs : Nat → Int32} {L a B : Nat} {kh : ns_St → Nat → Nat → Int32 → Option (Unit × ns_St)} {σ : ns_St} (h : Inv B σ) (h64 : 64 ≤ B) (hB : B < 2 ^ 26) (ha : a + 6 ≤ L) (hL : L ≤ 3072) : ∃ σ2, Inv (B + 180) σ2 ∧ g_law_754 xs L kh σ 0 65 (nI a) = kh σ2 0 65 (nI (a + 6)) := by
  have i1 : ns_in (nI a + (1 : Int32)) L := lw_in (k := 1) (by omega) hL rfl
  obtain ⟨r, σ1, σ2, e1, e2, hI⟩ := (both.mono (Nat.le_add_right B 180) (k_feed h (xs (ns_ix (nI a + (1 : Int32))))))
  have e2' : g_M_feed σ1 65 (xs (ns_ix (nI a + (1 : Int32)))) = some (r, σ2) := e2
  refine ⟨σ2, hI, ?_⟩
  unfold g_law_754
  rw [grd_t i1, e1, ev_cl2, grd_t i1, e2', ev_cl2, ite2_p (Eq.refl _), ev_bnd, lw_6]
theorem L_777 {xs : Nat → Int32} {L a B : Nat} {kh : ns_St → Nat → Nat → Int32 → Option (Unit × ns_St)} {σ : ns_St} (h : Inv B σ) (h64 : 64 ≤ B) (hB : B < 2 ^ 26) (ha : a + 6 ≤ L) (hL : L ≤ 3072) : ∃ σ2, Inv (B + 180) σ2 ∧ g_law_777 xs L kh σ 0 65 (nI a) = kh σ2 0 65 (nI (a + 6)) := by
  obtain ⟨r, σ1, σ2, e1, e2, hI⟩ := (both.mono (Nat.le_add_right B 180) (k_wipe h ))
  have e2' : g_M_wipe σ1 65  = some (r, σ2) := e2
  refine ⟨σ2, hI, ?_⟩
  unfold g_law_777
  rw [e1, ev_cl2, e2', ev_cl2, ite2_p (Eq.refl _), ev_bnd, lw_6]
theorem L_790 {xs : Nat → Int32} {L a B : Nat} {kh : ns_St → Nat → Nat → Int32 → Option (Unit × ns_St)} {σ : ns_St} (h : Inv B σ) (h64 : 64 ≤ B) (hB : B < 2 ^ 26) (ha : a + 6 ≤ L) (hL : L ≤ 3072) : ∃ σ2, Inv (B + 180) σ2 ∧ g_law_790 xs L kh σ 0 65 (nI a) = kh σ2 0 65 (nI (a + 6)) := by
  obtain ⟨r, σ1, σ2, e1, e2, hI⟩ := (both.mono (Nat.le_add_right B 180) (k_pass h h64 ))
  have e2' : g_M_pass σ1 65  = some (r, σ2) := e2
  refine ⟨σ2, hI, ?_⟩
  unfold g_law_790
  rw [e1, ev_cl2, e2', ev_cl2, ite2_p (Eq.refl _), ev_bnd, lw_6]
theorem L_803 {xs : Nat → Int32} {L a B : Nat} {kh : ns_St → Nat → Nat → Int32 → Option (Unit × ns_St)} {σ : ns_St} (h : Inv B σ) (h64 : 64 ≤ B) (hB : B < 2 ^ 26) (ha : a + 6 ≤ L) (hL : L ≤ 3072) : ∃ σ2, Inv (B + 180) σ2 ∧ g_law_803 xs L kh σ 0 65 (nI a) = kh σ2 0 65 (nI (a + 6)) := by
  have i1 : ns_in (nI a + (1 : Int32)) L := lw_in (k := 1) (by omega) hL rfl
  have i2 : ns_in (nI a + (2 : Int32)) L := lw_in (k := 2) (by omega) hL rfl
  obtain ⟨r, σ1, σ2, e1, e2, hI⟩ := (both.mono (Nat.le_add_right B 180) (k_muleOf h (xs (ns_ix (nI a + (1 : Int32)))) (xs (ns_ix (nI a + (2 : Int32))))))
  have e2' : g_M_muleOf σ1 65 (xs (ns_ix (nI a + (1 : Int32)))) (xs (ns_ix (nI a + (2 : Int32)))) = some (r, σ2) := e2
  refine ⟨σ2, hI, ?_⟩
  unfold g_law_803
  rw [grd_t i1, grd_t i2, e1, ev_cl2, grd_t i1, grd_t i2, e2', ev_cl2, ite2_p (Eq.refl _), ev_bnd, lw_6]
theorem L_836 {xs : Nat → Int32} {L a B : Nat} {kh : ns_St → Nat → Nat → Int32 → Option (Unit × ns_St)} {σ : ns_St} (h : Inv B σ) (h64 : 64 ≤ B) (hB : B < 2 ^ 26) (ha : a + 6 ≤ L) (hL : L ≤ 3072) : ∃ σ2, Inv (B + 180) σ2 ∧ g_law_836 xs L kh σ 0 65 (nI a) = kh σ2 0 65 (nI (a + 6)) := by
  have i1 : ns_in (nI a + (1 : Int32)) L := lw_in (k := 1) (by omega) hL rfl
  obtain ⟨r, σ1, σ2, e1, e2, hI⟩ := (both.mono (Nat.le_add_right B 180) (k_placeOf h (xs (ns_ix (nI a + (1 : Int32))))))
  have e2' : g_M_placeOf σ1 65 (xs (ns_ix (nI a + (1 : Int32)))) = some (r, σ2) := e2
  refine ⟨σ2, hI, ?_⟩
  unfold g_law_836
  rw [grd_t i1, e1, ev_cl2, grd_t i1, e2', ev_cl2, ite2_p (Eq.refl _), ev_bnd, lw_6]
theorem L_859 {xs : Nat → Int32} {L a B : Nat} {kh : ns_St → Nat → Nat → Int32 → Option (Unit × ns_St)} {σ : ns_St} (h : Inv B σ) (h64 : 64 ≤ B) (hB : B < 2 ^ 26) (ha : a + 6 ≤ L) (hL : L ≤ 3072) : ∃ σ2, Inv (B + 180) σ2 ∧ g_law_859 xs L kh σ 0 65 (nI a) = kh σ2 0 65 (nI (a + 6)) := by
  have i1 : ns_in (nI a + (1 : Int32)) L := lw_in (k := 1) (by omega) hL rfl
  have i2 : ns_in (nI a + (2 : Int32)) L := lw_in (k := 2) (by omega) hL rfl
  obtain ⟨r, σ1, σ2, e1, e2, hI⟩ := (both.mono (Nat.le_add_right B 180) (k_stops h hB (xs (ns_ix (nI a + (1 : Int32)))) (xs (ns_ix (nI a + (2 : Int32))))))
  have e2' : g_M_stops σ1 65 (xs (ns_ix (nI a + (1 : Int32)))) (xs (ns_ix (nI a + (2 : Int32)))) = some (r, σ2) := e2
  refine ⟨σ2, hI, ?_⟩
  unfold g_law_859
  rw [grd_t i1, grd_t i2, e1, ev_cl2, grd_t i1, grd_t i2, e2', ev_cl2, ite2_p (Eq.refl _), ev_bnd, lw_6]
theorem L_892 {xs : Nat → Int32} {L a B : Nat} {kh : ns_St → Nat → Nat → Int32 → Option (Unit × ns_St)} {σ : ns_St} (h : Inv B σ) (h64 : 64 ≤ B) (hB : B < 2 ^ 26) (ha : a + 6 ≤ L) (hL : L ≤ 3072) : ∃ σ2, Inv (B + 180) σ2 ∧ g_law_892 xs L kh σ 0 65 (nI a) = kh σ2 0 65 (nI (a + 6)) := by
  have i1 : ns_in (nI a + (1 : Int32)) L := lw_in (k := 1) (by omega) hL rfl
  obtain ⟨r, σ1, σ2, e1, e2, hI⟩ := (both.mono (Nat.le_add_right B 180) (k_minutes h hB (xs (ns_ix (nI a + (1 : Int32))))))
  have e2' : g_M_minutes σ1 65 (xs (ns_ix (nI a + (1 : Int32)))) = some (r, σ2) := e2
  refine ⟨σ2, hI, ?_⟩
  unfold g_law_892
  rw [grd_t i1, e1, ev_cl2, grd_t i1, e2', ev_cl2, ite2_p (Eq.refl _), ev_bnd, lw_6]
theorem L_915 {xs : Nat → Int32} {L a B : Nat} {kh : ns_St → Nat → Nat → Int32 → Option (Unit × ns_St)} {σ : ns_St} (h : Inv B σ) (h64 : 64 ≤ B) (hB : B < 2 ^ 26) (ha : a + 6 ≤ L) (hL : L ≤ 3072) : ∃ σ2, Inv (B + 180) σ2 ∧ g_law_915 xs L kh σ 0 65 (nI a) = kh σ2 0 65 (nI (a + 6)) := by
  have i1 : ns_in (nI a + (1 : Int32)) L := lw_in (k := 1) (by omega) hL rfl
  have i2 : ns_in (nI a + (2 : Int32)) L := lw_in (k := 2) (by omega) hL rfl
  obtain ⟨r, σ1, σ2, e1, e2, hI⟩ := (both.mono (Nat.le_add_right B 180) (k_after h hB (xs (ns_ix (nI a + (1 : Int32)))) (xs (ns_ix (nI a + (2 : Int32))))))
  have e2' : g_M_after σ1 65 (xs (ns_ix (nI a + (1 : Int32)))) (xs (ns_ix (nI a + (2 : Int32)))) = some (r, σ2) := e2
  refine ⟨σ2, hI, ?_⟩
  unfold g_law_915
  rw [grd_t i1, grd_t i2, e1, ev_cl2, grd_t i1, grd_t i2, e2', ev_cl2, ite2_p (Eq.refl _), ev_bnd, lw_6]
theorem L_948 {xs : Nat → Int32} {L a B : Nat} {kh : ns_St → Nat → Nat → Int32 → Option (Unit × ns_St)} {σ : ns_St} (h : Inv B σ) (h64 : 64 ≤ B) (hB : B < 2 ^ 26) (ha : a + 6 ≤ L) (hL : L ≤ 3072) : ∃ σ2, Inv (B + 180) σ2 ∧ g_law_948 xs L kh σ 0 65 (nI a) = kh σ2 0 65 (nI (a + 6)) := by
  have i1 : ns_in (nI a + (1 : Int32)) L := lw_in (k := 1) (by omega) hL rfl
  obtain ⟨r, σ1, σ2, e1, e2, hI⟩ := (both.mono (Nat.le_add_right B 180) (k_good h hB (xs (ns_ix (nI a + (1 : Int32))))))
  have e2' : g_M_good σ1 65 (xs (ns_ix (nI a + (1 : Int32)))) = some (r, σ2) := e2
  refine ⟨σ2, hI, ?_⟩
  unfold g_law_948
  rw [grd_t i1, e1, ev_cl2, grd_t i1, e2', ev_cl2, ite2_p (Eq.refl _), ev_bnd, lw_6]
theorem L_971 {xs : Nat → Int32} {L a B : Nat} {kh : ns_St → Nat → Nat → Int32 → Option (Unit × ns_St)} {σ : ns_St} (h : Inv B σ) (h64 : 64 ≤ B) (hB : B < 2 ^ 26) (ha : a + 6 ≤ L) (hL : L ≤ 3072) : ∃ σ2, Inv (B + 180) σ2 ∧ g_law_971 xs L kh σ 0 65 (nI a) = kh σ2 0 65 (nI (a + 6)) := by
  have i1 : ns_in (nI a + (1 : Int32)) L := lw_in (k := 1) (by omega) hL rfl
  obtain ⟨r, σ1, σ2, e1, e2, hI⟩ := (both.mono (Nat.le_add_right B 180) (k_falls h hB (xs (ns_ix (nI a + (1 : Int32))))))
  have e2' : g_M_falls σ1 65 (xs (ns_ix (nI a + (1 : Int32)))) = some (r, σ2) := e2
  refine ⟨σ2, hI, ?_⟩
  unfold g_law_971
  rw [grd_t i1, e1, ev_cl2, grd_t i1, e2', ev_cl2, ite2_p (Eq.refl _), ev_bnd, lw_6]
theorem L_994 {xs : Nat → Int32} {L a B : Nat} {kh : ns_St → Nat → Nat → Int32 → Option (Unit × ns_St)} {σ : ns_St} (h : Inv B σ) (h64 : 64 ≤ B) (hB : B < 2 ^ 26) (ha : a + 6 ≤ L) (hL : L ≤ 3072) : ∃ σ2, Inv (B + 180) σ2 ∧ g_law_994 xs L kh σ 0 65 (nI a) = kh σ2 0 65 (nI (a + 6)) := by
  have i1 : ns_in (nI a + (1 : Int32)) L := lw_in (k := 1) (by omega) hL rfl
  obtain ⟨r, σ1, σ2, e1, e2, hI⟩ := (both.mono (Nat.le_add_right B 180) (k_missed h hB (xs (ns_ix (nI a + (1 : Int32))))))
  have e2' : g_M_missed σ1 65 (xs (ns_ix (nI a + (1 : Int32)))) = some (r, σ2) := e2
  refine ⟨σ2, hI, ?_⟩
  unfold g_law_994
  rw [grd_t i1, e1, ev_cl2, grd_t i1, e2', ev_cl2, ite2_p (Eq.refl _), ev_bnd, lw_6]
theorem L_1017 {xs : Nat → Int32} {L a B : Nat} {kh : ns_St → Nat → Nat → Int32 → Option (Unit × ns_St)} {σ : ns_St} (h : Inv B σ) (h64 : 64 ≤ B) (hB : B < 2 ^ 26) (ha : a + 6 ≤ L) (hL : L ≤ 3072) : ∃ σ2, Inv (B + 180) σ2 ∧ g_law_1017 xs L kh σ 0 65 (nI a) = kh σ2 0 65 (nI (a + 6)) := by
  have i1 : ns_in (nI a + (1 : Int32)) L := lw_in (k := 1) (by omega) hL rfl
  have i2 : ns_in (nI a + (2 : Int32)) L := lw_in (k := 2) (by omega) hL rfl
  obtain ⟨r, σ1, σ2, e1, e2, hI⟩ := (both.mono (Nat.le_add_right B 180) (k_turns h hB (xs (ns_ix (nI a + (1 : Int32)))) (xs (ns_ix (nI a + (2 : Int32))))))
  have e2' : g_M_turns σ1 65 (xs (ns_ix (nI a + (1 : Int32)))) (xs (ns_ix (nI a + (2 : Int32)))) = some (r, σ2) := e2
  refine ⟨σ2, hI, ?_⟩
  unfold g_law_1017
  rw [grd_t i1, grd_t i2, e1, ev_cl2, grd_t i1, grd_t i2, e2', ev_cl2, ite2_p (Eq.refl _), ev_bnd, lw_6]
theorem L_1050 {xs : Nat → Int32} {L a B : Nat} {kh : ns_St → Nat → Nat → Int32 → Option (Unit × ns_St)} {σ : ns_St} (h : Inv B σ) (h64 : 64 ≤ B) (hB : B < 2 ^ 26) (ha : a + 6 ≤ L) (hL : L ≤ 3072) : ∃ σ2, Inv (B + 180) σ2 ∧ g_law_1050 xs L kh σ 0 65 (nI a) = kh σ2 0 65 (nI (a + 6)) := by
  have i1 : ns_in (nI a + (1 : Int32)) L := lw_in (k := 1) (by omega) hL rfl
  have i2 : ns_in (nI a + (2 : Int32)) L := lw_in (k := 2) (by omega) hL rfl
  have i3 : ns_in (nI a + (3 : Int32)) L := lw_in (k := 3) (by omega) hL rfl
  obtain ⟨r, σ1, σ2, e1, e2, hI⟩ := (both.mono (Nat.le_add_right B 180) (k_roped h hB (xs (ns_ix (nI a + (1 : Int32)))) (xs (ns_ix (nI a + (2 : Int32)))) (xs (ns_ix (nI a + (3 : Int32))))))
  have e2' : g_M_roped σ1 65 (xs (ns_ix (nI a + (1 : Int32)))) (xs (ns_ix (nI a + (2 : Int32)))) (xs (ns_ix (nI a + (3 : Int32)))) = some (r, σ2) := e2
  refine ⟨σ2, hI, ?_⟩
  unfold g_law_1050
  rw [grd_t i1, grd_t i2, grd_t i3, e1, ev_cl2, grd_t i1, grd_t i2, grd_t i3, e2', ev_cl2, ite2_p (Eq.refl _), ev_bnd, lw_6]
theorem L_1093 {xs : Nat → Int32} {L a B : Nat} {kh : ns_St → Nat → Nat → Int32 → Option (Unit × ns_St)} {σ : ns_St} (h : Inv B σ) (h64 : 64 ≤ B) (hB : B < 2 ^ 26) (ha : a + 6 ≤ L) (hL : L ≤ 3072) : ∃ σ2, Inv (B + 180) σ2 ∧ g_law_1093 xs L kh σ 0 65 (nI a) = kh σ2 0 65 (nI (a + 6)) := by
  have i1 : ns_in (nI a + (1 : Int32)) L := lw_in (k := 1) (by omega) hL rfl
  have i2 : ns_in (nI a + (2 : Int32)) L := lw_in (k := 2) (by omega) hL rfl
  obtain ⟨r, σ1, σ2, e1, e2, hI⟩ := (both.mono (Nat.le_add_right B 180) (k_meets h hB (xs (ns_ix (nI a + (1 : Int32)))) (xs (ns_ix (nI a + (2 : Int32))))))
  have e2' : g_M_meets σ1 65 (xs (ns_ix (nI a + (1 : Int32)))) (xs (ns_ix (nI a + (2 : Int32)))) = some (r, σ2) := e2
  refine ⟨σ2, hI, ?_⟩
  unfold g_law_1093
  rw [grd_t i1, grd_t i2, e1, ev_cl2, grd_t i1, grd_t i2, e2', ev_cl2, ite2_p (Eq.refl _), ev_bnd, lw_6]
theorem L_1126 {xs : Nat → Int32} {L a B : Nat} {kh : ns_St → Nat → Nat → Int32 → Option (Unit × ns_St)} {σ : ns_St} (h : Inv B σ) (h64 : 64 ≤ B) (hB : B < 2 ^ 26) (ha : a + 6 ≤ L) (hL : L ≤ 3072) : ∃ σ2, Inv (B + 180) σ2 ∧ g_law_1126 xs L kh σ 0 65 (nI a) = kh σ2 0 65 (nI (a + 6)) := by
  obtain ⟨r, σ1, σ2, e1, e2, hI⟩ := (both.mono (Nat.le_add_right B 180) (k_last h hB ))
  have e2' : g_M_last σ1 65  = some (r, σ2) := e2
  refine ⟨σ2, hI, ?_⟩
  unfold g_law_1126
  rw [e1, ev_cl2, e2', ev_cl2, ite2_p (Eq.refl _), ev_bnd, lw_6]
theorem L_1139 {xs : Nat → Int32} {L a B : Nat} {kh : ns_St → Nat → Nat → Int32 → Option (Unit × ns_St)} {σ : ns_St} (h : Inv B σ) (h64 : 64 ≤ B) (hB : B < 2 ^ 26) (ha : a + 6 ≤ L) (hL : L ≤ 3072) : ∃ σ2, Inv (B + 180) σ2 ∧ g_law_1139 xs L kh σ 0 65 (nI a) = kh σ2 0 65 (nI (a + 6)) := by
  have i1 : ns_in (nI a + (1 : Int32)) L := lw_in (k := 1) (by omega) hL rfl
  have i2 : ns_in (nI a + (2 : Int32)) L := lw_in (k := 2) (by omega) hL rfl
  obtain ⟨r, σ1, σ2, e1, e2, hI⟩ := (both.mono (Nat.le_add_right B 180) (k_train h hB (xs (ns_ix (nI a + (1 : Int32)))) (xs (ns_ix (nI a + (2 : Int32))))))
  have e2' : g_M_train σ1 65 (xs (ns_ix (nI a + (1 : Int32)))) (xs (ns_ix (nI a + (2 : Int32)))) = some (r, σ2) := e2
  refine ⟨σ2, hI, ?_⟩
  unfold g_law_1139
  rw [grd_t i1, grd_t i2, e1, ev_cl2, grd_t i1, grd_t i2, e2', ev_cl2, ite2_p (Eq.refl _), ev_bnd, lw_6]
theorem L_1172 {xs : Nat → Int32} {L a B : Nat} {kh : ns_St → Nat → Nat → Int32 → Option (Unit × ns_St)} {σ : ns_St} (h : Inv B σ) (h64 : 64 ≤ B) (hB : B < 2 ^ 26) (ha : a + 6 ≤ L) (hL : L ≤ 3072) : ∃ σ2, Inv (B + 180) σ2 ∧ g_law_1172 xs L kh σ 0 65 (nI a) = kh σ2 0 65 (nI (a + 6)) := by
  have i1 : ns_in (nI a + (1 : Int32)) L := lw_in (k := 1) (by omega) hL rfl
  obtain ⟨r, σ1, σ2, e1, e2, hI⟩ := (both.mono (Nat.le_add_right B 180) (k_crowd h hB (xs (ns_ix (nI a + (1 : Int32))))))
  have e2' : g_M_crowd σ1 65 (xs (ns_ix (nI a + (1 : Int32)))) = some (r, σ2) := e2
  refine ⟨σ2, hI, ?_⟩
  unfold g_law_1172
  rw [grd_t i1, e1, ev_cl2, grd_t i1, e2', ev_cl2, ite2_p (Eq.refl _), ev_bnd, lw_6]
theorem L_1195 {xs : Nat → Int32} {L a B : Nat} {kh : ns_St → Nat → Nat → Int32 → Option (Unit × ns_St)} {σ : ns_St} (h : Inv B σ) (h64 : 64 ≤ B) (hB : B < 2 ^ 26) (ha : a + 6 ≤ L) (hL : L ≤ 3072) : ∃ σ2, Inv (B + 180) σ2 ∧ g_law_1195 xs L kh σ 0 65 (nI a) = kh σ2 0 65 (nI (a + 6)) := by
  have i1 : ns_in (nI a + (1 : Int32)) L := lw_in (k := 1) (by omega) hL rfl
  obtain ⟨r, σ1, σ2, e1, e2, hI⟩ := (both.mono (Nat.le_add_right B 180) (k_best h hB (xs (ns_ix (nI a + (1 : Int32))))))
  have e2' : g_M_best σ1 65 (xs (ns_ix (nI a + (1 : Int32)))) = some (r, σ2) := e2
  refine ⟨σ2, hI, ?_⟩
  unfold g_law_1195
  rw [grd_t i1, e1, ev_cl2, grd_t i1, e2', ev_cl2, ite2_p (Eq.refl _), ev_bnd, lw_6]
theorem L_1218 {xs : Nat → Int32} {L a B : Nat} {kh : ns_St → Nat → Nat → Int32 → Option (Unit × ns_St)} {σ : ns_St} (h : Inv B σ) (h64 : 64 ≤ B) (hB : B < 2 ^ 26) (ha : a + 6 ≤ L) (hL : L ≤ 3072) : ∃ σ2, Inv (B + 180) σ2 ∧ g_law_1218 xs L kh σ 0 65 (nI a) = kh σ2 0 65 (nI (a + 6)) := by
  have i1 : ns_in (nI a + (1 : Int32)) L := lw_in (k := 1) (by omega) hL rfl
  obtain ⟨r, σ1, σ2, e1, e2, hI⟩ := (both.mono (Nat.le_add_right B 180) (k_stones h hB (xs (ns_ix (nI a + (1 : Int32))))))
  have e2' : g_M_stones σ1 65 (xs (ns_ix (nI a + (1 : Int32)))) = some (r, σ2) := e2
  refine ⟨σ2, hI, ?_⟩
  unfold g_law_1218
  rw [grd_t i1, e1, ev_cl2, grd_t i1, e2', ev_cl2, ite2_p (Eq.refl _), ev_bnd, lw_6]
theorem L_1241 {xs : Nat → Int32} {L a B : Nat} {kh : ns_St → Nat → Nat → Int32 → Option (Unit × ns_St)} {σ : ns_St} (h : Inv B σ) (h64 : 64 ≤ B) (hB : B < 2 ^ 26) (ha : a + 6 ≤ L) (hL : L ≤ 3072) : ∃ σ2, Inv (B + 180) σ2 ∧ g_law_1241 xs L kh σ 0 65 (nI a) = kh σ2 0 65 (nI (a + 6)) := by
  have i1 : ns_in (nI a + (1 : Int32)) L := lw_in (k := 1) (by omega) hL rfl
  have i2 : ns_in (nI a + (2 : Int32)) L := lw_in (k := 2) (by omega) hL rfl
  have i3 : ns_in (nI a + (3 : Int32)) L := lw_in (k := 3) (by omega) hL rfl
  obtain ⟨r, σ1, σ2, e1, e2, hI⟩ := (both.mono (Nat.le_add_right B 180) (k_numbers h hB (xs (ns_ix (nI a + (1 : Int32)))) (xs (ns_ix (nI a + (2 : Int32)))) (xs (ns_ix (nI a + (3 : Int32))))))
  have e2' : g_M_numbers σ1 65 (xs (ns_ix (nI a + (1 : Int32)))) (xs (ns_ix (nI a + (2 : Int32)))) (xs (ns_ix (nI a + (3 : Int32)))) = some (r, σ2) := e2
  refine ⟨σ2, hI, ?_⟩
  unfold g_law_1241
  rw [grd_t i1, grd_t i2, grd_t i3, e1, ev_cl2, grd_t i1, grd_t i2, grd_t i3, e2', ev_cl2, ite2_p (Eq.refl _), ev_bnd, lw_6]
theorem L_1284 {xs : Nat → Int32} {L a B : Nat} {kh : ns_St → Nat → Nat → Int32 → Option (Unit × ns_St)} {σ : ns_St} (h : Inv B σ) (h64 : 64 ≤ B) (hB : B < 2 ^ 26) (ha : a + 6 ≤ L) (hL : L ≤ 3072) : ∃ σ2, Inv (B + 180) σ2 ∧ g_law_1284 xs L kh σ 0 65 (nI a) = kh σ2 0 65 (nI (a + 6)) := by
  have i1 : ns_in (nI a + (1 : Int32)) L := lw_in (k := 1) (by omega) hL rfl
  have i2 : ns_in (nI a + (2 : Int32)) L := lw_in (k := 2) (by omega) hL rfl
  obtain ⟨r, σ1, σ2, e1, e2, hI⟩ := (both.mono (Nat.le_add_right B 180) (k_sure h hB (xs (ns_ix (nI a + (1 : Int32)))) (xs (ns_ix (nI a + (2 : Int32))))))
  have e2' : g_M_sure σ1 65 (xs (ns_ix (nI a + (1 : Int32)))) (xs (ns_ix (nI a + (2 : Int32)))) = some (r, σ2) := e2
  refine ⟨σ2, hI, ?_⟩
  unfold g_law_1284
  rw [grd_t i1, grd_t i2, e1, ev_cl2, grd_t i1, grd_t i2, e2', ev_cl2, ite2_p (Eq.refl _), ev_bnd, lw_6]
theorem L_1317 {xs : Nat → Int32} {L a B : Nat} {kh : ns_St → Nat → Nat → Int32 → Option (Unit × ns_St)} {σ : ns_St} (h : Inv B σ) (h64 : 64 ≤ B) (hB : B < 2 ^ 26) (ha : a + 6 ≤ L) (hL : L ≤ 3072) : ∃ σ2, Inv (B + 180) σ2 ∧ g_law_1317 xs L kh σ 0 65 (nI a) = kh σ2 0 65 (nI (a + 6)) := by
  have i1 : ns_in (nI a + (1 : Int32)) L := lw_in (k := 1) (by omega) hL rfl
  have i2 : ns_in (nI a + (2 : Int32)) L := lw_in (k := 2) (by omega) hL rfl
  have i3 : ns_in (nI a + (3 : Int32)) L := lw_in (k := 3) (by omega) hL rfl
  obtain ⟨r, σ1, σ2, e1, e2, hI⟩ := (both.mono (Nat.le_add_right B 180) (k_judge h hB (xs (ns_ix (nI a + (1 : Int32)))) (xs (ns_ix (nI a + (2 : Int32)))) (xs (ns_ix (nI a + (3 : Int32))))))
  have e2' : g_M_judge σ1 65 (xs (ns_ix (nI a + (1 : Int32)))) (xs (ns_ix (nI a + (2 : Int32)))) (xs (ns_ix (nI a + (3 : Int32)))) = some (r, σ2) := e2
  refine ⟨σ2, hI, ?_⟩
  unfold g_law_1317
  rw [grd_t i1, grd_t i2, grd_t i3, e1, ev_cl2, grd_t i1, grd_t i2, grd_t i3, e2', ev_cl2, ite2_p (Eq.refl _), ev_bnd, lw_6]
theorem L_1360 {xs : Nat → Int32} {L a B : Nat} {kh : ns_St → Nat → Nat → Int32 → Option (Unit × ns_St)} {σ : ns_St} (h : Inv B σ) (h64 : 64 ≤ B) (hB : B < 2 ^ 26) (ha : a + 6 ≤ L) (hL : L ≤ 3072) : ∃ σ2, Inv (B + 180) σ2 ∧ g_law_1360 xs L kh σ 0 65 (nI a) = kh σ2 0 65 (nI (a + 6)) := by
  obtain ⟨r, σ1, σ2, e1, e2, hI⟩ := (both.mono (Nat.le_add_right B 180) (k_worst h hB ))
  have e2' : g_M_worst σ1 65  = some (r, σ2) := e2
  refine ⟨σ2, hI, ?_⟩
  unfold g_law_1360
  rw [e1, ev_cl2, e2', ev_cl2, ite2_p (Eq.refl _), ev_bnd, lw_6]
theorem L_1373 {xs : Nat → Int32} {L a B : Nat} {kh : ns_St → Nat → Nat → Int32 → Option (Unit × ns_St)} {σ : ns_St} (h : Inv B σ) (h64 : 64 ≤ B) (hB : B < 2 ^ 26) (ha : a + 6 ≤ L) (hL : L ≤ 3072) : ∃ σ2, Inv (B + 180) σ2 ∧ g_law_1373 xs L kh σ 0 65 (nI a) = kh σ2 0 65 (nI (a + 6)) := by
  have i1 : ns_in (nI a + (1 : Int32)) L := lw_in (k := 1) (by omega) hL rfl
  obtain ⟨r, σ1, σ2, e1, e2, hI⟩ := (both.mono (Nat.le_add_right B 180) (k_lucky h hB (xs (ns_ix (nI a + (1 : Int32))))))
  have e2' : g_M_lucky σ1 65 (xs (ns_ix (nI a + (1 : Int32)))) = some (r, σ2) := e2
  refine ⟨σ2, hI, ?_⟩
  unfold g_law_1373
  rw [grd_t i1, e1, ev_cl2, grd_t i1, e2', ev_cl2, ite2_p (Eq.refl _), ev_bnd, lw_6]
theorem L_1396 {xs : Nat → Int32} {L a B : Nat} {kh : ns_St → Nat → Nat → Int32 → Option (Unit × ns_St)} {σ : ns_St} (h : Inv B σ) (h64 : 64 ≤ B) (hB : B < 2 ^ 26) (ha : a + 6 ≤ L) (hL : L ≤ 3072) : ∃ σ2, Inv (B + 180) σ2 ∧ g_law_1396 xs L kh σ 0 65 (nI a) = kh σ2 0 65 (nI (a + 6)) := by
  have i1 : ns_in (nI a + (1 : Int32)) L := lw_in (k := 1) (by omega) hL rfl
  have i2 : ns_in (nI a + (2 : Int32)) L := lw_in (k := 2) (by omega) hL rfl
  obtain ⟨r, σ1, σ2, e1, e2, hI⟩ := (k_goes h hB (xs (ns_ix (nI a + (1 : Int32)))) (xs (ns_ix (nI a + (2 : Int32)))))
  have e2' : g_M_goes σ1 65 (xs (ns_ix (nI a + (1 : Int32)))) (xs (ns_ix (nI a + (2 : Int32)))) = some (r, σ2) := e2
  refine ⟨σ2, hI, ?_⟩
  unfold g_law_1396
  rw [grd_t i1, grd_t i2, e1, ev_cl2, grd_t i1, grd_t i2, e2', ev_cl2, ite2_p (Eq.refl _), ev_bnd, lw_6]
theorem L_1429 {xs : Nat → Int32} {L a B : Nat} {kh : ns_St → Nat → Nat → Int32 → Option (Unit × ns_St)} {σ : ns_St} (h : Inv B σ) (h64 : 64 ≤ B) (hB : B < 2 ^ 26) (ha : a + 6 ≤ L) (hL : L ≤ 3072) : ∃ σ2, Inv (B + 180) σ2 ∧ g_law_1429 xs L kh σ 0 65 (nI a) = kh σ2 0 65 (nI (a + 6)) := by
  have i1 : ns_in (nI a + (1 : Int32)) L := lw_in (k := 1) (by omega) hL rfl
  obtain ⟨r, σ1, σ2, e1, e2, hI⟩ := (k_turn h hB (xs (ns_ix (nI a + (1 : Int32)))))
  have e2' : g_M_turn σ1 65 (xs (ns_ix (nI a + (1 : Int32)))) = some (r, σ2) := e2
  refine ⟨σ2, hI, ?_⟩
  unfold g_law_1429
  rw [grd_t i1, e1, ev_cl2, grd_t i1, e2', ev_cl2, ite2_p (Eq.refl _), ev_bnd, lw_6]
theorem L_1452 {xs : Nat → Int32} {L a B : Nat} {kh : ns_St → Nat → Nat → Int32 → Option (Unit × ns_St)} {σ : ns_St} (h : Inv B σ) (h64 : 64 ≤ B) (hB : B < 2 ^ 26) (ha : a + 6 ≤ L) (hL : L ≤ 3072) : ∃ σ2, Inv (B + 180) σ2 ∧ g_law_1452 xs L kh σ 0 65 (nI a) = kh σ2 0 65 (nI (a + 6)) := by
  obtain ⟨r, σ1, σ2, e1, e2, hI⟩ := (k_day h hB )
  have e2' : g_M_day σ1 65  = some (r, σ2) := e2
  refine ⟨σ2, hI, ?_⟩
  unfold g_law_1452
  rw [e1, ev_cl2, e2', ev_cl2, ite2_p (Eq.refl _), ev_bnd, lw_6]
theorem L_1465 {xs : Nat → Int32} {L a B : Nat} {kh : ns_St → Nat → Nat → Int32 → Option (Unit × ns_St)} {σ : ns_St} (h : Inv B σ) (h64 : 64 ≤ B) (hB : B < 2 ^ 26) (ha : a + 6 ≤ L) (hL : L ≤ 3072) : ∃ σ2, Inv (B + 180) σ2 ∧ g_law_1465 xs L kh σ 0 65 (nI a) = kh σ2 0 65 (nI (a + 6)) := by
  obtain ⟨r, σ1, σ2, e1, e2, hI⟩ := (both.mono (Nat.le_add_right B 180) (k_home h ))
  have e2' : g_M_home σ1 65  = some (r, σ2) := e2
  refine ⟨σ2, hI, ?_⟩
  unfold g_law_1465
  rw [e1, ev_cl2, e2', ev_cl2, ite2_p (Eq.refl _), ev_bnd, lw_6]
theorem L_1478 {xs : Nat → Int32} {L a B : Nat} {kh : ns_St → Nat → Nat → Int32 → Option (Unit × ns_St)} {σ : ns_St} (h : Inv B σ) (h64 : 64 ≤ B) (hB : B < 2 ^ 26) (ha : a + 6 ≤ L) (hL : L ≤ 3072) : ∃ σ2, Inv (B + 180) σ2 ∧ g_law_1478 xs L kh σ 0 65 (nI a) = kh σ2 0 65 (nI (a + 6)) := by
  have i1 : ns_in (nI a + (1 : Int32)) L := lw_in (k := 1) (by omega) hL rfl
  obtain ⟨r, σ1, σ2, e1, e2, hI⟩ := (both.mono (Nat.le_add_right B 180) (k_seed h (xs (ns_ix (nI a + (1 : Int32))))))
  have e2' : g_M_seed σ1 65 (xs (ns_ix (nI a + (1 : Int32)))) = some (r, σ2) := e2
  refine ⟨σ2, hI, ?_⟩
  unfold g_law_1478
  rw [grd_t i1, e1, ev_cl2, grd_t i1, e2', ev_cl2, ite2_p (Eq.refl _), ev_bnd, lw_6]
theorem L_1501 {xs : Nat → Int32} {L a B : Nat} {kh : ns_St → Nat → Nat → Int32 → Option (Unit × ns_St)} {σ : ns_St} (h : Inv B σ) (h64 : 64 ≤ B) (hB : B < 2 ^ 26) (ha : a + 6 ≤ L) (hL : L ≤ 3072) : ∃ σ2, Inv (B + 180) σ2 ∧ g_law_1501 xs L kh σ 0 65 (nI a) = kh σ2 0 65 (nI (a + 6)) := by
  obtain ⟨r, σ1, σ2, e1, e2, hI⟩ := (both.mono (Nat.le_add_right B 180) (k_image h ))
  have e2' : g_M_image σ1 65  = some (r, σ2) := e2
  refine ⟨σ2, hI, ?_⟩
  unfold g_law_1501
  rw [e1, ev_cl2, e2', ev_cl2, ite2_p (Eq.refl _), ev_bnd, lw_6]
theorem L_1514 {xs : Nat → Int32} {L a B : Nat} {kh : ns_St → Nat → Nat → Int32 → Option (Unit × ns_St)} {σ : ns_St} (h : Inv B σ) (h64 : 64 ≤ B) (hB : B < 2 ^ 26) (ha : a + 6 ≤ L) (hL : L ≤ 3072) : ∃ σ2, Inv (B + 180) σ2 ∧ g_law_1514 xs L kh σ 0 65 (nI a) = kh σ2 0 65 (nI (a + 6)) := by
  obtain ⟨r, σ1, σ2, e1, e2, hI⟩ := (both.mono (Nat.le_add_right B 180) (k_back h ))
  have e2' : g_M_back σ1 65  = some (r, σ2) := e2
  refine ⟨σ2, hI, ?_⟩
  unfold g_law_1514
  rw [e1, ev_cl2, e2', ev_cl2, ite2_p (Eq.refl _), ev_bnd, lw_6]
theorem L_1527 {xs : Nat → Int32} {L a B : Nat} {kh : ns_St → Nat → Nat → Int32 → Option (Unit × ns_St)} {σ : ns_St} (h : Inv B σ) (h64 : 64 ≤ B) (hB : B < 2 ^ 26) (ha : a + 6 ≤ L) (hL : L ≤ 3072) : ∃ σ2, Inv (B + 180) σ2 ∧ g_law_1527 xs L kh σ 0 65 (nI a) = kh σ2 0 65 (nI (a + 6)) := by
  have i1 : ns_in (nI a + (1 : Int32)) L := lw_in (k := 1) (by omega) hL rfl
  obtain ⟨r, σ1, σ2, e1, e2, hI⟩ := (both.mono (Nat.le_add_right B 180) (k_status h (xs (ns_ix (nI a + (1 : Int32))))))
  have e2' : g_M_status σ1 65 (xs (ns_ix (nI a + (1 : Int32)))) = some (r, σ2) := e2
  refine ⟨σ2, hI, ?_⟩
  unfold g_law_1527
  rw [grd_t i1, e1, ev_cl2, grd_t i1, e2', ev_cl2, ite2_p (Eq.refl _), ev_bnd, lw_6]
theorem L_553 {xs : Nat → Int32} {L a B : Nat} {kh : ns_St → Nat → Nat → Int32 → Option (Unit × ns_St)} {σ : ns_St} (h : Inv B σ) (h64 : 64 ≤ B) (hB : B < 2 ^ 26) (ha : a + 6 ≤ L) (hL : L ≤ 3072) : ∃ σ2, Inv (B + 180) σ2 ∧ g_law_553 xs L kh σ 0 65 (nI a) = kh σ2 0 65 (nI (a + 6)) := by
  have i1 : ns_in (nI a + (1 : Int32)) L := lw_in (k := 1) (by omega) hL rfl
  have i2 : ns_in (nI a + (2 : Int32)) L := lw_in (k := 2) (by omega) hL rfl
  have i3 : ns_in (nI a + (3 : Int32)) L := lw_in (k := 3) (by omega) hL rfl
  by_cases c : xs (ns_ix (nI a + (3 : Int32))) = 0
  · obtain ⟨r, σ1, σ2, e1, e2, hI⟩ := (both.mono (Nat.le_add_right B 180) (k_put h (xs (ns_ix (nI a + (1 : Int32)))) (xs (ns_ix (nI a + (2 : Int32)))) 0 (Or.inl rfl)))
    have e2' : g_M_put σ1 65 (xs (ns_ix (nI a + (1 : Int32)))) (xs (ns_ix (nI a + (2 : Int32)))) 0 = some (r, σ2) := e2
    refine ⟨σ2, hI, ?_⟩
    unfold g_law_553 g_law_577 g_law_604
    rw [grd_t i1, grd_t i2, grd_t i3, ite2_p c, e1, ev_cl2, grd_t i1, grd_t i2, grd_t i3, ite2_p c, e2', ev_cl2, ite2_p (Eq.refl _), ev_bnd, lw_6]
  · obtain ⟨r, σ1, σ2, e1, e2, hI⟩ := (both.mono (Nat.le_add_right B 180) (k_put h (xs (ns_ix (nI a + (1 : Int32)))) (xs (ns_ix (nI a + (2 : Int32)))) 1 (Or.inr rfl)))
    have e2' : g_M_put σ1 65 (xs (ns_ix (nI a + (1 : Int32)))) (xs (ns_ix (nI a + (2 : Int32)))) 1 = some (r, σ2) := e2
    refine ⟨σ2, hI, ?_⟩
    unfold g_law_553 g_law_577 g_law_604
    rw [grd_t i1, grd_t i2, grd_t i3, ite2_n c, e1, ev_cl2, grd_t i1, grd_t i2, grd_t i3, ite2_n c, e2', ev_cl2, ite2_p (Eq.refl _), ev_bnd, lw_6]
