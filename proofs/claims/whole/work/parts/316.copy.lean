/-- copy -/
theorem cp_w {x5 x3 : Int32} {n i sz : Nat} (h5 : x5 = nI n) (hn : n < 2 ^ 31) (h3 : x3 = nI i) (hi : i < 2 ^ 31) (hs : sz ≤ 40) : (0 ≤ x3 ∧ x3 ≤ nI sz - x5) ↔ i + n ≤ sz := by
  subst h5; subst h3
  rw [sub_le hi hs hn]
  exact ⟨fun h => h.2, fun h => ⟨nI_pos' hi, h⟩⟩
theorem cp_gt {n i sz : Nat} (hn : n < 2 ^ 31) (hi : i < 2 ^ 31) (hs : sz ≤ 40) : lg_cmp ((nI i).toInt64 + (nI n).toInt64) ((nI sz).toInt64) ≤ 0 ↔ i + n ≤ sz := by
  rw [nI_l hn, nI_l hi, nI_l (show sz < 2 ^ 31 by omega), lN_add, lg_cmp_le, pk_lLE (by omega) (by omega)]
theorem cp_gt2 {n i sz : Nat} (hn : n < 2 ^ 31) (hi : i < 2 ^ 31) (hs : sz ≤ 40) : 0 < lg_cmp ((nI i).toInt64 + (nI n).toInt64) ((nI sz).toInt64) ↔ sz < i + n := by
  rw [nI_l hn, nI_l hi, nI_l (show sz < 2 ^ 31 by omega), lN_add, lg_cmp_gt, pk_lLT (by omega) (by omega)]
theorem k_copy {B : Nat} {σ : ns_St} (h : Inv B σ) (x y x3 x4 x5 : Int32) : both B (g_N_copy σ 0 x y x3 x4 x5) (fun σ => g_M_copy σ 65 x y x3 x4 x5) := by
  obtain ⟨g1, g2, hR⟩ := h.1
  rcases sh_cases x with ⟨p, hp, rfl, hx⟩ | hx
  · rcases sh_cases y with ⟨q, hq, rfl, hy⟩ | hy
    · obtain ⟨b1, b2, ⟨n1, b3, b3'⟩, b4, b5⟩ := h.2.2.2.1 p hp
      obtain ⟨c1, c2, ⟨n2, c3, c3'⟩, c4, c5⟩ := h.2.2.2.1 q hq
      have ip66 : ns_in (nI p) (ns_ln 66) := ns_inI hp (by decide)
      have iq66 : ns_in (nI q) (ns_ln 66) := ns_inI hq (by decide)
      have ip67 : ns_in (nI p) (ns_ln 67) := ns_inI hp (by decide)
      have iq67 : ns_in (nI q) (ns_ln 67) := ns_inI hq (by decide)
      have ixp : ns_ix (nI p) = p := ns_ixI (by omega)
      have ixq : ns_ix (nI q) = q := ns_ixI (by omega)
      have hpair : g_N_troubleAsPair σ (49 + 2 * p) (49 + 2 * q) = ite2 (trb (σ.1 66 p) = (-3 : Int32)) (some ((-3 : Int32), σ)) (ite2 (trb (σ.1 66 q) = (-3 : Int32)) (some ((-3 : Int32), σ)) (ite2 (trb (σ.1 66 p) = (-4 : Int32)) (some ((-4 : Int32), σ)) (ite2 (trb (σ.1 66 q) = (-4 : Int32)) (some ((-4 : Int32), σ)) (ite2 (σ.1 66 p = σ.1 66 q) (some ((0 : Int32), σ)) (some ((-3 : Int32), σ)))))) := by
        unfold g_N_troubleAsPair
        rw [grd_t (kd_sh p hp), grd_t (kd_sh q hq), e_trb hp, ev_cl2, e_trb hq, ev_cl2, b1, c1]
      have hNr : ∀ r : Int32, r ≠ 0 → g_N_troubleAsPair σ (49 + 2 * p) (49 + 2 * q) = some (r, σ) → g_N_copy σ 0 (nI p) (nI q) x3 x4 x5 = cl2 (g_N_refuse σ 0 r) fun r σ' => some (r, σ') := fun r r0 e => by
        unfold g_N_copy
        rw [gk_0, e_shelfAt hR hp hx, ev_cl2, ev_ons, grd_t (kd_sh p hp), e_shelfAt hR hq hy, ev_cl2, ev_ons, grd_t (kd_sh q hq), e, ev_cl2, ite2_n r0]
      have hM : ∀ τ : ns_St, τ.2.2 = ns_rg g1 g2 → τ.1 66 = σ.1 66 → g_M_copy τ 65 (nI p) (nI q) x3 x4 x5 = ite2 ((4 : Int32) < σ.1 66 p) (cl2 (g_M_no τ 65 (-3 : Int32)) fun r σ' => some (r, σ')) (ite2 ((4 : Int32) < σ.1 66 q) (cl2 (g_M_no τ 65 (-3 : Int32)) fun r σ' => some (r, σ')) (ite2 (yn (0 ≤ σ.1 66 p ∧ σ.1 66 p ≤ 4) = 0) (g_M_copy_85 τ 65 (nI p) (nI q) x3 x4 x5) (ite2 (yn (0 ≤ σ.1 66 q ∧ σ.1 66 q ≤ 4) = 0) (g_M_copy_85 τ 65 (nI p) (nI q) x3 x4 x5) (ite2 (σ.1 66 p = σ.1 66 q) (g_M_copy_85 τ 65 (nI p) (nI q) x3 x4 x5) (cl2 (g_M_no τ 65 (-3 : Int32)) fun r σ' => some (r, σ')))))) := fun τ t1 t2 => by
        unfold g_M_copy
        simp only [gk_65, e_within, ev_cl2, ite2_y hx, ite2_y hy, t1, rg_65_0, ev_drf, gk_66, grd_t ip66, grd_t iq66, e_isRow t1 hp, e_isRow t1 hq, ixp, ixq, t2]
      have hM85 : ∀ τ : ns_St, τ.2.2 = ns_rg g1 g2 → τ.1 66 = σ.1 66 → τ.1 67 = σ.1 67 → g_M_copy_85 τ 65 (nI p) (nI q) x3 x4 x5 = ite2 (σ.1 66 p < 0) (cl2 (g_M_no τ 65 (-4 : Int32)) fun r σ' => some (r, σ')) (ite2 (0 ≤ σ.1 66 q) (ite2 (x5 < 0) (cl2 (g_M_no τ 65 (-2 : Int32)) fun r σ' => some (r, σ')) (ite2 (x3 < 0) (cl2 (g_M_no τ 65 (-2 : Int32)) fun r σ' => some (r, σ')) (ite2 (x4 < 0) (cl2 (g_M_no τ 65 (-2 : Int32)) fun r σ' => some (r, σ')) (ite2 (0 < lg_cmp (x3.toInt64 + x5.toInt64) ((nI n1).toInt64)) (cl2 (g_M_no τ 65 (-2 : Int32)) fun r σ' => some (r, σ')) (ite2 (lg_cmp (x4.toInt64 + x5.toInt64) ((nI n2).toInt64) ≤ 0) (ite2 (nI p = nI q) (ite2 (x4 ≤ x3) (g_M_copy_229 ns_F τ 65 (nI p) (nI q) x3 x4 x5 0) (g_M_copy_183 ns_F τ 65 (nI p) (nI q) x3 x4 x5 (x5 - 1))) (g_M_copy_229 ns_F τ 65 (nI p) (nI q) x3 x4 x5 0)) (cl2 (g_M_no τ 65 (-2 : Int32)) fun r σ' => some (r, σ'))))))) (cl2 (g_M_no τ 65 (-4 : Int32)) fun r σ' => some (r, σ'))) := fun τ t1 t2 t3 => by
        unfold g_M_copy_85 g_M_copy_226
        simp only [t1, rg_65_0, rg_65_1, ev_drf, gk_66, gk_67, grd_t ip66, grd_t iq66, grd_t ip67, grd_t iq67, ixp, ixq, t2, t3, b3', c3', ev_bnd]
      have f66 : ∀ z, (rfN σ z).1 66 = σ.1 66 := fun z => by rw [rfN, pI_ne _ _ _ (by decide)]
      have f67 : ∀ z, (rfN σ z).1 67 = σ.1 67 := fun z => by rw [rfN, pI_ne _ _ _ (by decide)]
      have n4z : ∀ z, z ≤ 4 → ¬ (4 : Int32) < nI z := fun z hz => nI_nlt (a := z) (b := z) (Nat.le_refl _) (by omega) |> fun _ => (Int32.not_lt.mpr (show nI z ≤ (4 : Int32) from nI_le (b := 4) hz (by decide)))
      rcases hd_row (h.hd hp) with ⟨t1, t2, z, hz, t3⟩ | ⟨t1, t2, t3⟩ | ⟨t1, t2, j, hj, t3⟩
      · rcases hd_row (h.hd hq) with ⟨u1, u2, w, hw, u3⟩ | ⟨u1, u2, u3⟩ | ⟨u1, u2, j, hj, u3⟩
        · by_cases eq : σ.1 66 p = σ.1 66 q
          · have hpr : g_N_troubleAsPair σ (49 + 2 * p) (49 + 2 * q) = some (0, σ) := by
              rw [hpair, t1, u1, ite2_n (by decide), ite2_n (by decide), ite2_n (by decide), ite2_n (by decide), ite2_p eq]
            have hN0 : g_N_copy σ 0 (nI p) (nI q) x3 x4 x5 = ite2 (x5 < 0) (cl2 (g_N_refuse σ 0 (-2 : Int32)) fun r σ' => some (r, σ')) (ite2 (yn (0 ≤ x3 ∧ x3 ≤ nI n1 - x5) = 0) (cl2 (g_N_refuse σ 0 (-2 : Int32)) fun r σ' => some (r, σ')) (ite2 (yn (0 ≤ x4 ∧ x4 ≤ nI n2 - x5) = 0) (cl2 (g_N_refuse σ 0 (-2 : Int32)) fun r σ' => some (r, σ')) (grd (¬ x3 < 0 ∧ ¬ x4 < 0 ∧ ¬ x5 < 0 ∧ ns_ix x3 + ns_ix x5 ≤ ns_ln (50 + 2 * p) ∧ ns_ix x4 + ns_ix x5 ≤ ns_ln (50 + 2 * q)) <| some (x5, ns_cpJ σ (50 + 2 * p) (ns_ix x3) (50 + 2 * q) (ns_ix x4) (ns_ix x5))))) := by
              unfold g_N_copy
              rw [gk_0, e_shelfAt hR hp hx, ev_cl2, ev_ons, grd_t (kd_sh p hp), e_shelfAt hR hq hy, ev_cl2, ev_ons, grd_t (kd_sh q hq), hpr, ev_cl2, ite2_p (Eq.refl 0)]
              simp only [e_isWithin, ev_cl2, hR, rg_sh g1 g2 hp, rg_sh g1 g2 hq, ev_drf, grd_t (kd_sc p hp), grd_t (kd_sc q hq), ev_bnd]
              rw [b2, b3', c2, c3']
            have hMe : ∀ τ : ns_St, τ.2.2 = ns_rg g1 g2 → τ.1 66 = σ.1 66 → τ.1 67 = σ.1 67 → g_M_copy τ 65 (nI p) (nI q) x3 x4 x5 = _ := fun τ q1 q2 q3 => by
              rw [hM τ q1 q2, ite2_n (by rw [t3]; exact n4z z hz), ite2_n (by rw [u3]; exact n4z w hw), ite2_y t2, ite2_y u2, ite2_p eq, hM85 τ q1 q2 q3, ite2_n (Int32.not_lt.mpr t2.1), ite2_p u2.1]
            by_cases h5 : x5 < 0
            · refine both.bad h hR (z := 0) (by decide) (c := -2) (by decide) (by decide) ?_ ?_
              · rw [hN0, ite2_p h5]
              · show g_M_copy (rfN σ 0) 65 (nI p) (nI q) x3 x4 x5 = _
                rw [hMe (rfN σ 0) hR (f66 0) (f67 0), ite2_p h5]
            · obtain ⟨n, hn, hn5⟩ := nI_of h5
              by_cases hok : (0 ≤ x3 ∧ x3 ≤ nI n1 - x5) ∧ (0 ≤ x4 ∧ x4 ≤ nI n2 - x5)
              · have k3 : ¬ x3 < 0 := Int32.not_lt.mpr hok.1.1
                have k4 : ¬ x4 < 0 := Int32.not_lt.mpr hok.2.1
                obtain ⟨i, hi, hi3⟩ := nI_of k3
                obtain ⟨j, hj, hj4⟩ := nI_of k4
                have w1 := (cp_w hn5 hn hi3 hi b3).mp hok.1
                have w2 := (cp_w hn5 hn hj4 hj c3).mp hok.2
                have g229 : ∀ hsafe : (∀ k m, m < k → k < n → 40 * p + i + k ≠ 40 * q + j + m), ∃ τ', g_M_copy_229 ns_F (ns_cpJ σ (50 + 2 * p) i (50 + 2 * q) j n) 65 (nI p) (nI q) (nI i) (nI j) (nI n) 0 = some (nI n, τ') ∧ OnJ 68 (ns_cpJ σ (50 + 2 * p) i (50 + 2 * q) j n) τ' ∧ ∀ m, τ'.2.1 68 m = if 40 * q + j ≤ m ∧ m < 40 * q + j + n then σ.2.1 68 (40 * p + i + (m - (40 * q + j))) else σ.2.1 68 m := fun hsafe =>
                  e_cp229 (g1 := g1) (g2 := g2) hp hq (by omega) (by omega) hsafe (σ.2.1 68) n 0 ns_F (ns_cpJ σ (50 + 2 * p) i (50 + 2 * q) j n) (by show n < 10000; omega) (by omega) hR (fun m => by
                    rw [if_neg (by omega)]
                    show va_up σ.2.1 (50 + 2 * q) _ 68 m = _
                    rw [va_up_ne _ _ (by omega)])
                have fin : ∃ τ', g_M_copy (ns_cpJ σ (50 + 2 * p) i (50 + 2 * q) j n) 65 (nI p) (nI q) x3 x4 x5 = some (nI n, τ') ∧ OnJ 68 (ns_cpJ σ (50 + 2 * p) i (50 + 2 * q) j n) τ' ∧ ∀ m, τ'.2.1 68 m = if 40 * q + j ≤ m ∧ m < 40 * q + j + n then σ.2.1 68 (40 * p + i + (m - (40 * q + j))) else σ.2.1 68 m := by
                  rw [hMe (ns_cpJ σ (50 + 2 * p) i (50 + 2 * q) j n) hR rfl rfl, ite2_n h5, ite2_n k3, ite2_n k4, hi3, hj4, hn5, ite2_n (fun e => by have := (cp_gt2 hn hi b3).mp e; omega), ite2_p ((cp_gt hn hj c3).mpr w2)]
                  by_cases epq : p = q
                  · subst epq
                    rw [ite2_p rfl]
                    by_cases hij : j ≤ i
                    · rw [ite2_p (nI_le hij hi)]
                      exact g229 (fun k m a b => by omega)
                    · rw [ite2_n (nI_ge (by omega) hj), Int32.sub_eq_add_neg]
                      exact e_cp183 (g1 := g1) (g2 := g2) hp hp (by omega) (by omega) (fun k m a b => by omega) (σ.2.1 68) n ns_F (ns_cpJ σ (50 + 2 * p) i (50 + 2 * p) j n) (by show n < 10000; omega) (Nat.le_refl _) hR (fun m => by
                        rw [if_neg (by omega)]
                        show va_up σ.2.1 (50 + 2 * p) _ 68 m = _
                        rw [va_up_ne _ _ (by omega)])
                  · rw [ite2_n (fun e => epq ((nI_eq (by omega) (by omega)).mp e))]
                    exact g229 (fun k m a b => by omega)
                obtain ⟨τ', e, on, v⟩ := fin
                refine ⟨nI n, ns_cpJ σ (50 + 2 * p) i (50 + 2 * q) j n, τ', ?_, e, ?_⟩
                · rw [hN0, ite2_n h5, ite2_y hok.1, ite2_y hok.2, hi3, hj4, hn5, ns_ixI hi, ns_ixI hj, ns_ixI hn]
                  rw [grd_t ⟨nI_pos hi, nI_pos hj, nI_pos hn, by rw [ln_sc p hp]; omega, by rw [ln_sc q hq]; omega⟩]
                · have i1 : τ'.1 = σ.1 := on.1
                  refine h.shelf hq on.2.1 (fun c _ _ _ => by rw [i1]) (fun _ _ => by rw [i1]) (fun _ _ => by rw [i1]) ?_ ?_ ?_
                  · intro c p1 q1
                    rw [on.2.2 c q1]
                    show va_up σ.2.1 (50 + 2 * q) _ c = _
                    rw [va_up_ne _ _ p1]
                  · intro m hm
                    rw [v m, if_neg (by omega)]
                  · unfold Sh1
                    rw [i1]
                    refine ⟨c1, c2, ⟨n2, c3, c3'⟩, c4, fun m hm => ?_⟩
                    rw [v, on.2.2 _ (by omega)]
                    show va_up σ.2.1 (50 + 2 * q) (va_cpy (σ.2.1 (50 + 2 * p)) (σ.2.1 (50 + 2 * q)) i j n) (50 + 2 * q) m = _
                    rw [va_up_self]
                    by_cases hm2 : j ≤ m ∧ m < j + n
                    · rw [pk_cpy_in hm2.1 hm2.2, if_pos (by omega), b5 _ (by omega)]
                      exact congrArg (σ.2.1 68) (by omega)
                    · rw [pk_cpy_out (by omega), if_neg (by omega), c5 m hm]
              · refine both.bad h hR (z := 0) (by decide) (c := -2) (by decide) (by decide) ?_ ?_
                · rw [hN0, ite2_n h5]
                  by_cases w1 : (0 ≤ x3 ∧ x3 ≤ nI n1 - x5)
                  · rw [ite2_y w1, ite2_z (fun w2 => hok ⟨w1, w2⟩)]
                  · rw [ite2_z w1]
                · show g_M_copy (rfN σ 0) 65 (nI p) (nI q) x3 x4 x5 = _
                  rw [hMe (rfN σ 0) hR (f66 0) (f67 0), ite2_n h5]
                  by_cases k3 : x3 < 0
                  · rw [ite2_p k3]
                  · by_cases k4 : x4 < 0
                    · rw [ite2_n k3, ite2_p k4]
                    · obtain ⟨i, hi, hi3⟩ := nI_of k3
                      obtain ⟨j, hj, hj4⟩ := nI_of k4
                      have w1 := cp_w hn5 hn hi3 hi b3
                      have w2 := cp_w hn5 hn hj4 hj c3
                      rw [w1, w2] at hok
                      rw [ite2_n k3, ite2_n k4, hi3, hj4, hn5]
                      by_cases o1 : i + n ≤ n1
                      · rw [ite2_n (fun e => by have := (cp_gt2 hn hi b3).mp e; omega), ite2_n (fun e => hok ⟨o1, (cp_gt hn hj c3).mp e⟩)]
                      · rw [ite2_p ((cp_gt2 hn hi b3).mpr (by omega))]
          · refine both.bad h hR (z := 1) (by decide) (c := -3) (by decide) (by decide) ?_ ?_
            · refine hNr (-3) (by decide) ?_
              rw [hpair, t1, u1, ite2_n (by decide), ite2_n (by decide), ite2_n (by decide), ite2_n (by decide), ite2_n eq]
            · show g_M_copy (rfN σ 1) 65 (nI p) (nI q) x3 x4 x5 = _
              rw [hM (rfN σ 1) hR (f66 1), ite2_n (by rw [t3]; exact n4z z hz), ite2_n (by rw [u3]; exact n4z w hw), ite2_y t2, ite2_y u2, ite2_n eq]
        · refine both.bad h hR (z := 2) (by decide) (c := -4) (by decide) (by decide) ?_ ?_
          · refine hNr (-4) (by decide) ?_
            rw [hpair, t1, u1, ite2_n (by decide), ite2_n (by decide), ite2_n (by decide), ite2_p (by decide)]
          · show g_M_copy (rfN σ 2) 65 (nI p) (nI q) x3 x4 x5 = _
            rw [hM (rfN σ 2) hR (f66 2), ite2_n (by rw [t3]; exact n4z z hz), ite2_n (by rw [u2]; decide), ite2_y t2, ite2_z u3, hM85 (rfN σ 2) hR (f66 2) (f67 2), ite2_n (Int32.not_lt.mpr t2.1), ite2_n (by rw [u2]; decide)]
        · refine both.bad h hR (z := 1) (by decide) (c := -3) (by decide) (by decide) ?_ ?_
          · refine hNr (-3) (by decide) ?_
            rw [hpair, t1, u1, ite2_n (by decide), ite2_p (by decide)]
          · show g_M_copy (rfN σ 1) 65 (nI p) (nI q) x3 x4 x5 = _
            rw [hM (rfN σ 1) hR (f66 1), ite2_n (by rw [t3]; exact n4z z hz), ite2_p (by rw [u3]; exact nI_lt (a := 4) (by omega) (by omega))]
      · rcases hd_row (h.hd hq) with ⟨u1, u2, w, hw, u3⟩ | ⟨u1, u2, u3⟩ | ⟨u1, u2, j, hj, u3⟩
        · refine both.bad h hR (z := 2) (by decide) (c := -4) (by decide) (by decide) ?_ ?_
          · refine hNr (-4) (by decide) ?_
            rw [hpair, t1, u1, ite2_n (by decide), ite2_n (by decide), ite2_p (by decide)]
          · show g_M_copy (rfN σ 2) 65 (nI p) (nI q) x3 x4 x5 = _
            rw [hM (rfN σ 2) hR (f66 2), ite2_n (by rw [t2]; decide), ite2_n (by rw [u3]; exact n4z w hw), ite2_z t3, hM85 (rfN σ 2) hR (f66 2) (f67 2), ite2_p (by rw [t2]; decide)]
        · refine both.bad h hR (z := 2) (by decide) (c := -4) (by decide) (by decide) ?_ ?_
          · refine hNr (-4) (by decide) ?_
            rw [hpair, t1, u1, ite2_n (by decide), ite2_n (by decide), ite2_p (by decide)]
          · show g_M_copy (rfN σ 2) 65 (nI p) (nI q) x3 x4 x5 = _
            rw [hM (rfN σ 2) hR (f66 2), ite2_n (by rw [t2]; decide), ite2_n (by rw [u2]; decide), ite2_z t3, hM85 (rfN σ 2) hR (f66 2) (f67 2), ite2_p (by rw [t2]; decide)]
        · refine both.bad h hR (z := 1) (by decide) (c := -3) (by decide) (by decide) ?_ ?_
          · refine hNr (-3) (by decide) ?_
            rw [hpair, t1, u1, ite2_n (by decide), ite2_p (by decide)]
          · show g_M_copy (rfN σ 1) 65 (nI p) (nI q) x3 x4 x5 = _
            rw [hM (rfN σ 1) hR (f66 1), ite2_n (by rw [t2]; decide), ite2_p (by rw [u3]; exact nI_lt (a := 4) (by omega) (by omega))]
      · refine both.bad h hR (z := 1) (by decide) (c := -3) (by decide) (by decide) ?_ ?_
        · refine hNr (-3) (by decide) ?_
          rw [hpair, t1, ite2_p (by decide)]
        · show g_M_copy (rfN σ 1) 65 (nI p) (nI q) x3 x4 x5 = _
          rw [hM (rfN σ 1) hR (f66 1), ite2_p (by rw [t3]; exact nI_lt (a := 4) (by omega) (by omega))]
    · refine both.bad h hR (z := 0) (by decide) (c := -2) (by decide) (by decide) ?_ ?_
      · unfold g_N_copy
        rw [gk_0, e_shelfAt hR hp hx, ev_cl2, ev_ons, grd_t (kd_sh p hp), e_shelfAtN hy, ev_cl2, ev_onn]
      · show g_M_copy (rfN σ 0) 65 (nI p) y x3 x4 x5 = _
        unfold g_M_copy
        rw [gk_65, e_within, ev_cl2, ite2_y hx, e_within, ev_cl2, ite2_z hy]
  · refine both.bad h hR (z := 0) (by decide) (c := -2) (by decide) (by decide) ?_ ?_
    · unfold g_N_copy
      rw [gk_0, e_shelfAtN hx, ev_cl2, ev_onn]
      rcases sh_cases y with ⟨q, hq, rfl, hy⟩ | hy
      · rw [e_shelfAt hR hq hy, ev_cl2, ev_ons, grd_t (kd_sh q hq)]
      · rw [e_shelfAtN hy, ev_cl2, ev_onn]
    · show g_M_copy (rfN σ 0) 65 x y x3 x4 x5 = _
      unfold g_M_copy
      rw [gk_65, e_within, ev_cl2, ite2_z hx]
