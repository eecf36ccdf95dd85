theorem vk_R.tab {own tx : String} {k a : Nat} {A : Array Value} {U : State} (h1 : (Cond.stringRef own k tx).before A U = true) (h2 : (Term.string own k).eval A U none [] U = some (.ref a)) : vk_R own k tx a U := vk_R.of (A := A) h1 h2
def ns_tm (i : Nat) : Term := ([Term.string "NinthStep$Tape" 38, Term.string "NinthStep$Tape" 47, Term.string "NinthStep$Tape" 59, Term.string "NinthStep$Tape" 61, Term.string "NinthStep$Tape" 63, Term.string "NinthStep$Tape" 65, Term.string "NinthStep$Tape" 109, Term.string "NinthStep$Tape" 113] : List Term).getD i (.int 0)
theorem ns_hx {s : State} {b : Nat} (hgv : (Jvm.Cond.and given_1 narrow_1).before #[Value.ref b] s = true) : ∀ w ∈ flatC (Jvm.Cond.and given_1 narrow_1), w.before #[Value.ref b] s = true := flat_of_before _ hgv
def ns_fc : List Cond := flatC (Jvm.Cond.and given_1 narrow_1)
theorem ns_s1 : ∀ i, i < 8 → Cond.exactly (ns_tm i) "java/lang/String" ∈ ns_fc := by decide +kernel
theorem ns_s2 : ∀ i, i < 8 → Cond.eq (.field (ns_tm i) "java/lang/String" "coder" "B") (.int 0) ∈ ns_fc := by decide +kernel
theorem ns_s3 : ∀ i, i < 8 → Cond.arrayOf (.field (ns_tm i) "java/lang/String" "value" "[B") .byte ∈ ns_fc := by decide +kernel
theorem ns_s4 : ∀ i, i < 8 → Cond.eq (.length (.field (ns_tm i) "java/lang/String" "value" "[B")) (.int (Int32.ofNat (ns_sL.getD i 0))) ∈ ns_fc := by decide +kernel
theorem ns_s5 : ∀ i, i < 8 → ∀ j, j < ns_sL.getD i 0 → Cond.eq (.elem (.field (ns_tm i) "java/lang/String" "value" "[B") (.int (Int32.ofNat j))) (.int ((ns_sB.getD i []).getD j 0)) ∈ ns_fc := by decide +kernel
theorem ns_s6 : ∀ i, i < 8 → ∀ j, j < 8 → i ≠ j → (Cond.not (Cond.eq (ns_tm i) (ns_tm j)) ∈ ns_fc ∨ Cond.not (Cond.eq (ns_tm j) (ns_tm i)) ∈ ns_fc) := by decide +kernel
theorem ns_s7 : ∀ j, j < 6 → Cond.eq (.elem (.static "NinthStep" "ABOVE" "[I") (.int (Int32.ofNat j))) (.int (ns_abv j)) ∈ ns_fc := by decide +kernel
set_option maxHeartbeats 4000000 in
/-- the law, from its entry: where the functions say so, it comes to its end with true -/
theorem ns_start {p : Program} {e : Env} {s : State} {m : MethodId} {below : List Frame} {meth : Method} {c : Code} (l : Launch) {b L : Nat} {xs : Nat → Int32} (C0 : lw_At p s m meth c b L xs) {σ' : ns_St} (hf : g_law xs L ((fun _ _ => 0), (fun _ _ => 0), (fun _ _ => none)) = some ((), σ')) : W p l e room_1 s m #[Value.ref b] below meth c s.heap [] 0 0 (lw_Z below #[Value.ref b] s) (entryFrame m ([Value.ref b] : List Value).toArray 4) := by
  obtain ⟨hx, hb, hr, hml, hown, hts, hX, hbl, hlocks, hgv⟩ := C0
  have hg := ns_hx hgv
  have hA : ∀ a : Nat, a < s.heap.size → ¬ (fun q : Nat => s.heap.size ≤ q) a := fun a h => Nat.not_le.mpr h
  have htb : ∀ w ∈ ns_TB, w.before #[Value.ref b] s = true := fun w hw => hts w (List.mem_filter.mp hw).1
  obtain ⟨c0, i0, k0⟩ := u_known (C := nR_0) (T := nT_0) (N := 2) (n := 2) htb nin_0 (hts _ (List.mem_append_right _ (mt_2 (List.mem_of_getElem? (i := 15) (by decide +kernel)))))
  obtain ⟨c1, i1, k1⟩ := u_known (C := nR_1) (T := nT_1) (N := 5) (n := 5) htb nin_1 (hts _ (List.mem_append_right _ (mt_1 (List.mem_of_getElem? (i := 34) (by decide +kernel)))))
  obtain ⟨c2, i2, k2⟩ := u_known (C := nR_2) (T := nT_2) (N := 8) (n := 8) htb nin_2 (hts _ (List.mem_append_right _ (mt_1 (List.mem_of_getElem? (i := 77) (by decide +kernel)))))
  obtain ⟨c3, i3, k3⟩ := u_known (C := nR_3) (T := nT_3) (N := 3) (n := 3) htb nin_3 (hts _ (List.mem_append_right _ (mt_2 (List.mem_of_getElem? (i := 29) (by decide +kernel)))))
  obtain ⟨c4, i4, k4⟩ := u_known (C := nR_4) (T := nT_4) (N := 10) (n := 10) htb nin_4 (hts _ (List.mem_append_right _ (mt_1 (List.mem_of_getElem? (i := 213) (by decide +kernel)))))
  obtain ⟨c5, i5, k5⟩ := u_known (C := nR_5) (T := nT_5) (N := 6) (n := 6) htb nin_5 (hts _ (List.mem_append_right _ (mt_1 (List.mem_of_getElem? (i := 158) (by decide +kernel)))))
  obtain ⟨c6, i6, k6⟩ := u_known (C := nR_6) (T := nT_6) (N := 6) (n := 6) htb nin_6 (hts _ (List.mem_append_right _ (mt_1 (List.mem_of_getElem? (i := 186) (by decide +kernel)))))
  obtain ⟨c7, i7, k7⟩ := u_known (C := nR_7) (T := nT_7) (N := 6) (n := 6) htb nin_7 (hts _ (List.mem_append_right _ (mt_1 (List.mem_of_getElem? (i := 28) (by decide +kernel)))))
  obtain ⟨c8, i8, k8⟩ := u_known (C := nR_8) (T := nT_8) (N := 12) (n := 12) htb nin_8 (hts _ (List.mem_append_right _ (mt_1 (List.mem_of_getElem? (i := 20) (by decide +kernel)))))
  obtain ⟨c9, i9, k9⟩ := u_known (C := nR_9) (T := nT_9) (N := 31) (n := 31) htb nin_9 (hts _ (List.mem_append_right _ (mt_5 (List.mem_of_getElem? (i := 10) (by decide +kernel)))))
  obtain ⟨cI, kI, mI, aI1, aI2, aI3⟩ := Cond.arrayClass_spec (type := .int) (hts _ (List.mem_append_right _ (mt_1 (List.mem_of_getElem? (i := 184) (by decide +kernel)))))
  obtain ⟨cJ, kJ, mJ, aJ1, aJ2, aJ3⟩ := Cond.arrayClass_spec (type := .long) (hts _ (List.mem_append_right _ (mt_2 (List.mem_of_getElem? (i := 13) (by decide +kernel)))))
  have hAO1 : va_AO "NinthStep$Mule" s := va_AO.of (hts _ (List.mem_append_right _ (mt_1 (List.mem_of_getElem? (i := 76) (by decide +kernel)))))
  have hAO2 : va_AO "NinthStep$Shelf" s := va_AO.of (hts _ (List.mem_append_right _ (mt_1 (List.mem_of_getElem? (i := 156) (by decide +kernel)))))
  obtain ⟨mM, cM, kM, aM1, -, aM2, aM3, aM4⟩ := Cond.arrayOver_spec hAO1
  obtain ⟨mS, cS, kS, aS1, -, aS2, aS3, aS4⟩ := Cond.arrayOver_spec hAO2
  obtain ⟨adK, adV, hSt, hev⟩ := vk_Sof (args := #[Value.ref b]) (s := s) (N := 8) (tm := ns_tm) (len := ns_sL) (byt := ns_sB) (A := fun q : Nat => s.heap.size ≤ q) (by decide) (fun i hi => hg _ (ns_s1 i hi)) (fun i hi => hg _ (ns_s2 i hi)) (fun i hi => hg _ (ns_s3 i hi)) (fun i hi => hg _ (ns_s4 i hi)) (fun i hi j hj => hg _ (ns_s5 i hi j hj)) (fun i j hi hj hij => (ns_s6 i hi j hj hij).imp (fun h => hg _ h) (fun h => hg _ h)) hA
  obtain ⟨zA, hz1, hz2⟩ := va_Tof (args := #[Value.ref b]) (s := s) (tm := .static "NinthStep" "ABOVE" "[I") (ty := .int) (N := 6) (f := fun j => .int (ns_abv j)) (A := fun q : Nat => s.heap.size ≤ q) (by decide) (hg _ (by decide +kernel)) (va_eqt (hg _ (by decide +kernel : Cond.eq (.length (.static "NinthStep" "ABOVE" "[I")) (.int 6) ∈ ns_fc))) (fun j hj => va_eqt (hg _ (ns_s7 j hj))) hA
  have hZ1 := va_Zof (args := #[Value.ref b]) (hts _ (List.mem_append_right _ (mt_2 (List.mem_of_getElem? (i := 159) (by decide +kernel))))) (hts _ (List.mem_append_right _ (mt_1 (List.mem_of_getElem? (i := 1) (by decide +kernel))))) hz1 hA
  have hZ2 := va_Zof (args := #[Value.ref b]) (hts _ (List.mem_append_right _ (mt_3 (List.mem_of_getElem? (i := 72) (by decide +kernel))))) (hts _ (List.mem_append_right _ (mt_1 (List.mem_of_getElem? (i := 14) (by decide +kernel))))) (va_eqt (hg _ (by decide +kernel : Cond.eq (.static "java/lang/String" "COMPACT_STRINGS" "Z") (.int 1) ∈ ns_fc))) hA
  obtain ⟨fm, hZ3⟩ : ∃ fm : Option Nat, va_Z "jdk/internal/util/Preconditions" "SIOOBE_FORMATTER" "Ljava/util/function/BiFunction;" (va_rf fm) (fun q : Nat => s.heap.size ≤ q) s s.heap := by
    rcases va_Zqof (args := #[Value.ref b]) (hts _ (List.mem_append_right _ (mt_3 (List.mem_of_getElem? (i := 88) (by decide +kernel))))) (hts _ (List.mem_append_right _ (mt_1 (List.mem_of_getElem? (i := 16) (by decide +kernel))))) (hg _ (by decide +kernel : Cond.isRef (.static "jdk/internal/util/Preconditions" "SIOOBE_FORMATTER" "Ljava/util/function/BiFunction;") ∈ ns_fc)) hA with h | ⟨t, h⟩
    · exact ⟨none, h⟩
    · exact ⟨some t, h⟩
  let G : ns_G := (s.heap.size, ((fun k => if k = 0 then c0 else if k = 1 then c1 else if k = 2 then c2 else if k = 3 then c3 else if k = 4 then c4 else if k = 5 then c5 else if k = 6 then c6 else if k = 7 then c7 else if k = 8 then c8 else c9), (fun k => if k = 0 then i0 else if k = 1 then i1 else if k = 2 then i2 else if k = 3 then i3 else if k = 4 then i4 else if k = 5 then i5 else if k = 6 then i6 else if k = 7 then i7 else if k = 8 then i8 else i9)), (fun k => if k = 10 then cI else if k = 11 then cJ else if k = 12 then cM else cS), s.heap, adK, adV, zA, fm)
  have hKc : ∀ (k : Nat) (q : vw_C), ns_cl[k]? = some q → u_Kn s q.1 q.2.1 q.2.2 (G.2.1.1 k) (G.2.1.2 k) := by
    intro k q hq
    match k, hq with
    | 0, hq => cases hq; exact k0
    | 1, hq => cases hq; exact k1
    | 2, hq => cases hq; exact k2
    | 3, hq => cases hq; exact k3
    | 4, hq => cases hq; exact k4
    | 5, hq => cases hq; exact k5
    | 6, hq => cases hq; exact k6
    | 7, hq => cases hq; exact k7
    | 8, hq => cases hq; exact k8
    | 9, hq => cases hq; exact k9
    | k + 10, hq => simp [ns_cl] at hq
  have hKt : ∀ (k : Nat) (q : ClassId × FieldType), (ns_tys G)[k]? = some q → ArrOfT s q.1 q.2 ∧ va_RA s q.1 q.2 := by
    intro k q hq
    match k, hq with
    | 0, hq => cases hq; exact ⟨fun n z => ⟨fun k h => (by cases h), kI, aI2, mI, aI3⟩, aI1⟩
    | 1, hq => cases hq; exact ⟨fun n z => ⟨fun k h => (by cases h), kJ, aJ2, mJ, aJ3⟩, aJ1⟩
    | 2, hq => cases hq; exact ⟨fun n z => ⟨fun k h => (by cases h), kM, aM2, mM, aM3⟩, kM, mM, aM2, aM3, aM1, aM4⟩
    | 3, hq => cases hq; exact ⟨fun n z => ⟨fun k h => (by cases h), kS, aS2, mS, aS3⟩, kS, mS, aS2, aS3, aS1, aS4⟩
    | k + 4, hq => simp [ns_tys] at hq
  have hN : ∀ w ∈ ns_NB, va_Nw w s := by
    intro w hw
    have h1 := hts w (List.mem_filter.mp hw).1
    have h2 := (List.mem_filter.mp hw).2
    cases w with
    | fieldLinkNest a i b n d hh => exact va_Nw.of rfl h1
    | methodLinkNest a i x hh => exact va_Nw.of rfl h1
    | _ => cases h2
  have hR : ∀ q ∈ ns_str, vk_R q.1 q.2.1 q.2.2.1 (ns_sK G q.2.2.2) s := by
    intro q hq
    rw [ns_str] at hq
    rcases List.mem_cons.mp hq with rfl | hq
    · exact vk_R.tab (A := #[Value.ref b]) (hts _ (List.mem_append_right _ (mt_3 (List.mem_of_getElem? (i := 58) (by decide +kernel))))) (hev 0 (by decide))
    rcases List.mem_cons.mp hq with rfl | hq
    · exact vk_R.tab (A := #[Value.ref b]) (hts _ (List.mem_append_right _ (mt_3 (List.mem_of_getElem? (i := 128) (by decide +kernel))))) (hev 1 (by decide))
    rcases List.mem_cons.mp hq with rfl | hq
    · exact vk_R.tab (A := #[Value.ref b]) (hts _ (List.mem_append_right _ (mt_3 (List.mem_of_getElem? (i := 135) (by decide +kernel))))) (hev 2 (by decide))
    rcases List.mem_cons.mp hq with rfl | hq
    · exact vk_R.tab (A := #[Value.ref b]) (hts _ (List.mem_append_right _ (mt_3 (List.mem_of_getElem? (i := 136) (by decide +kernel))))) (hev 3 (by decide))
    rcases List.mem_cons.mp hq with rfl | hq
    · exact vk_R.tab (A := #[Value.ref b]) (hts _ (List.mem_append_right _ (mt_3 (List.mem_of_getElem? (i := 137) (by decide +kernel))))) (hev 4 (by decide))
    rcases List.mem_cons.mp hq with rfl | hq
    · exact vk_R.tab (A := #[Value.ref b]) (hts _ (List.mem_append_right _ (mt_3 (List.mem_of_getElem? (i := 138) (by decide +kernel))))) (hev 5 (by decide))
    rcases List.mem_cons.mp hq with rfl | hq
    · exact vk_R.tab (A := #[Value.ref b]) (hts _ (List.mem_append_right _ (mt_3 (List.mem_of_getElem? (i := 145) (by decide +kernel))))) (hev 6 (by decide))
    rcases List.mem_cons.mp hq with rfl | hq
    · exact vk_R.tab (A := #[Value.ref b]) (hts _ (List.mem_append_right _ (mt_3 (List.mem_of_getElem? (i := 146) (by decide +kernel))))) (hev 7 (by decide))
    rcases List.mem_cons.mp hq with rfl | hq
    · exact vk_R.tab (A := #[Value.ref b]) (hts _ (List.mem_append_right _ (mt_6 (List.mem_of_getElem? (i := 5) (by decide +kernel))))) (va_eqR (hg _ (by decide +kernel : Cond.eq (.string "NinthStep$Tape" 38) (.string "NinthStepModel" 155) ∈ ns_fc)) (hev 0 (by decide)))
    rcases List.mem_cons.mp hq with rfl | hq
    · exact vk_R.tab (A := #[Value.ref b]) (hts _ (List.mem_append_right _ (mt_6 (List.mem_of_getElem? (i := 16) (by decide +kernel))))) (va_eqR (hg _ (by decide +kernel : Cond.eq (.string "NinthStep$Tape" 47) (.string "NinthStepModel" 162) ∈ ns_fc)) (hev 1 (by decide)))
    rcases List.mem_cons.mp hq with rfl | hq
    · exact vk_R.tab (A := #[Value.ref b]) (hts _ (List.mem_append_right _ (mt_6 (List.mem_of_getElem? (i := 17) (by decide +kernel))))) (va_eqR (hg _ (by decide +kernel : Cond.eq (.string "NinthStep$Tape" 59) (.string "NinthStepModel" 164) ∈ ns_fc)) (hev 2 (by decide)))
    rcases List.mem_cons.mp hq with rfl | hq
    · exact vk_R.tab (A := #[Value.ref b]) (hts _ (List.mem_append_right _ (mt_6 (List.mem_of_getElem? (i := 18) (by decide +kernel))))) (va_eqR (hg _ (by decide +kernel : Cond.eq (.string "NinthStep$Tape" 61) (.string "NinthStepModel" 166) ∈ ns_fc)) (hev 3 (by decide)))
    rcases List.mem_cons.mp hq with rfl | hq
    · exact vk_R.tab (A := #[Value.ref b]) (hts _ (List.mem_append_right _ (mt_6 (List.mem_of_getElem? (i := 19) (by decide +kernel))))) (va_eqR (hg _ (by decide +kernel : Cond.eq (.string "NinthStep$Tape" 63) (.string "NinthStepModel" 168) ∈ ns_fc)) (hev 4 (by decide)))
    rcases List.mem_cons.mp hq with rfl | hq
    · exact vk_R.tab (A := #[Value.ref b]) (hts _ (List.mem_append_right _ (mt_6 (List.mem_of_getElem? (i := 20) (by decide +kernel))))) (va_eqR (hg _ (by decide +kernel : Cond.eq (.string "NinthStep$Tape" 65) (.string "NinthStepModel" 170) ∈ ns_fc)) (hev 5 (by decide)))
    rcases List.mem_cons.mp hq with rfl | hq
    · exact vk_R.tab (A := #[Value.ref b]) (hts _ (List.mem_append_right _ (mt_6 (List.mem_of_getElem? (i := 21) (by decide +kernel))))) (va_eqR (hg _ (by decide +kernel : Cond.eq (.string "NinthStep$Tape" 109) (.string "NinthStepModel" 172) ∈ ns_fc)) (hev 6 (by decide)))
    rcases List.mem_cons.mp hq with rfl | hq
    · exact vk_R.tab (A := #[Value.ref b]) (hts _ (List.mem_append_right _ (mt_6 (List.mem_of_getElem? (i := 22) (by decide +kernel))))) (va_eqR (hg _ (by decide +kernel : Cond.eq (.string "NinthStep$Tape" 113) (.string "NinthStepModel" 173) ∈ ns_fc)) (hev 7 (by decide)))
    · cases hq
  have hK : ns_K G s := ⟨⟨hKc, hKt⟩, hN, hAO1, hAO2, hZ1, hz2, hZ2, hZ3, hSt, hR⟩
  have C : ns_Cx G p s m #[Value.ref b] meth c code "NinthStepLaw" 4 := ⟨hx, hb, hml, hown, htb, hK, hlocks, Nat.le_refl _⟩
  have hWd : ns_Wd G 0 ((fun _ _ => 0), (fun _ _ => 0), (fun _ _ => none)) s.heap := ⟨⟨Nat.le_refl _, fun _ => rfl⟩, fun k q h => by simp [ns_wl] at h, fun q _ => rfl⟩
  have hl := lv_entry ([.ref b]) (n := 4) (Nat.le_of_ble_eq_true rfl)
  rw [lg_entry_eq]
  exact t_law G l C hr hX hbl rfl hf s.heap [] _ hWd va_S.rf hl
