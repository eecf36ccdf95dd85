theorem s_u : ∀ n, n < 32 → (((nI n).toUInt32 &&& Int32.toUInt32 31).toBitVec % 32).toNat = n := by decide +kernel
theorem wb_of32 (x : Int32) : ∃ n, n < 2 ^ 32 ∧ x = nI n := ⟨x.toBitVec.toNat, x.toBitVec.isLt, Int32.toBitVec_inj.mp (by show _ = BitVec.ofNat 32 _; simp)⟩
theorem gb_or (a b : Int64) (p : Nat) : gb (a ||| b) p = (gb a p || gb b p) := by unfold gb; rw [Int64.toBitVec_or, BitVec.getLsbD_or]
theorem gb_and (a b : Int64) (p : Nat) : gb (a &&& b) p = (gb a p && gb b p) := by unfold gb; rw [Int64.toBitVec_and, BitVec.getLsbD_and]
theorem gb_not (a : Int64) {p : Nat} (hp : p < 64) : gb (a ^^^ (-1)) p = !gb a p := by
  unfold gb
  rw [Int64.toBitVec_xor, BitVec.getLsbD_xor, show ((-1 : Int64).toBitVec) = BitVec.allOnes 64 by decide, BitVec.getLsbD_allOnes]
  simp [hp]
theorem gb_0 (p : Nat) : gb 0 p = false := by
  unfold gb; show (0#64).getLsbD p = false; simp
theorem gb_hi {x : Int64} {p : Nat} (h : 64 ≤ p) : gb x p = false := by unfold gb; exact BitVec.getLsbD_of_ge _ _ h
theorem gb_ext {a b : Int64} (h : ∀ p, p < 64 → gb a p = gb b p) : a = b := wb_inj (BitVec.eq_of_getLsbD_eq (fun i hi => h i hi))
theorem gb_z {x : Int64} : x = 0 ↔ ∀ p, p < 64 → gb x p = false := by
  constructor
  · intro h p _; rw [h]; exact gb_0 p
  · intro h; exact gb_ext (fun p hp => by rw [h p hp, gb_0])
theorem gb_zc {x : Int64} : (lg_cmp x 0 = 0) ↔ ∀ p, p < 64 → gb x p = false := by rw [lg_cmp_eq, gb_z]
theorem gb_bit {k p : Nat} (hk : k < 64) : gb ((1 : Int64) <<< ((nI k).toInt64 &&& 63)) p = decide (p = k) := by
  rw [show (1 : Int64) = lN 1 from rfl, wb_shl 1 hk, Nat.one_mul, gb_lN (wb_lt2 hk), Nat.testBit_two_pow]
  by_cases h : k = p
  · simp [h]
  · simp [h, Ne.symm h]
theorem gb_below {k p : Nat} (hk : k < 64) : gb ((1 : Int64) <<< ((nI k).toInt64 &&& 63) - 1) p = decide (p < k) := by
  have h2 : 0 < 2 ^ k := Nat.pos_of_ne_zero (by simp)
  have h3 := wb_lt2 hk
  rw [show (1 : Int64) = lN 1 from rfl, wb_shl 1 hk, Nat.one_mul, lN_sub (by omega), gb_lN (by omega), Nat.testBit_two_pow_sub_one]
theorem gb_above : ∀ k, k < 64 → ∀ p, p < 64 → gb ((-2 : Int64) <<< ((nI k).toInt64 &&& 63)) p = decide (k < p) := by decide +kernel
/-! the lowest bit -/
theorem lowest {n k : Nat} (h1 : n.testBit k = true) (h2 : ∀ i, i < k → n.testBit i = false) : ∃ m, n = 2 ^ (k + 1) * m + 2 ^ k := by
  refine ⟨n / 2 ^ (k + 1), ?_⟩
  apply Nat.eq_of_testBit_eq
  intro j
  rw [Nat.testBit_two_pow_mul_add _ (Nat.pow_lt_pow_right (by decide) (by omega))]
  by_cases h : j < k + 1
  · rw [if_pos h, Nat.testBit_two_pow]
    by_cases e : k = j
    · subst e; simp [h1]
    · simp [e, h2 j (by omega)]
  · rw [if_neg h, Nat.testBit_div_two_pow]
    congr 1; omega
theorem ntz_c (σ : ns_St) : ∀ k, k < 32 → ite2 (0 < nI (2 ^ k - 1)) (ite2 (nI (2 ^ k - 1) ≤ (65536 : Int32)) (g_Integer_numberOfTrailingZeros_34 σ (nI (2 ^ k - 1)) (1 : Int32)) (bnd ((1 : Int32) + 16) fun z27 => bnd (((nI (2 ^ k - 1)).toUInt32 >>> ((16 : Int32).toUInt32 &&& Int32.toUInt32 31)).toInt32) fun z28 => g_Integer_numberOfTrailingZeros_34 σ z28 z27)) (some (((nI (2 ^ k - 1)) &&& (32 : Int32)), σ)) = some (nI k, σ) := by
  intro k hk
  rcases (by omega : k = 0 ∨ k = 1 ∨ k = 2 ∨ k = 3 ∨ k = 4 ∨ k = 5 ∨ k = 6 ∨ k = 7 ∨ k = 8 ∨ k = 9 ∨ k = 10 ∨ k = 11 ∨ k = 12 ∨ k = 13 ∨ k = 14 ∨ k = 15 ∨ k = 16 ∨ k = 17 ∨ k = 18 ∨ k = 19 ∨ k = 20 ∨ k = 21 ∨ k = 22 ∨ k = 23 ∨ k = 24 ∨ k = 25 ∨ k = 26 ∨ k = 27 ∨ k = 28 ∨ k = 29 ∨ k = 30 ∨ k = 31) with rfl | rfl | rfl | rfl | rfl | rfl | rfl | rfl | rfl | rfl | rfl | rfl | rfl | rfl | rfl | rfl | rfl | rfl | rfl | rfl | rfl | rfl | rfl | rfl | rfl | rfl | rfl | rfl | rfl | rfl | rfl | rfl
  all_goals rfl
theorem e_ntzI {σ : ns_St} {n k m : Nat} (hk : k < 32) (h : n = 2 ^ (k + 1) * m + 2 ^ k) (hn : n < 2 ^ 32) : g_Integer_numberOfTrailingZeros σ (nI n) = some (nI k, σ) := by
  have hp : 0 < 2 ^ k := Nat.pos_of_ne_zero (by simp)
  have hp2 : 2 ^ k < 2 ^ (k + 1) := Nat.pow_lt_pow_right (by decide) (by omega)
  have e : (nI n ^^^ (-1 : Int32)) &&& (nI n - (1 : Int32)) = nI (2 ^ k - 1) := by
    rw [show (-1 : Int32) = nI (2 ^ 32 - 1) by decide, fb_xorI, show (1 : Int32) = nI 1 from rfl, pk_sub (by omega), nx_and]
    congr 1
    apply Nat.eq_of_testBit_eq
    intro j
    have e1 : n - 1 = 2 ^ (k + 1) * m + (2 ^ k - 1) := by omega
    rw [Nat.testBit_and, Nat.testBit_xor, Nat.testBit_two_pow_sub_one, Nat.testBit_two_pow_sub_one, e1, Nat.testBit_two_pow_mul_add _ (show 2 ^ k - 1 < 2 ^ (k + 1) by omega)]
    by_cases hj : j < k + 1
    · rw [if_pos hj, Nat.testBit_two_pow_sub_one, h, Nat.testBit_two_pow_mul_add _ hp2, if_pos hj, Nat.testBit_two_pow]
      by_cases hj2 : j < k
      · have e2 : ¬ k = j := by omega
        have e3 : j < 32 := by omega
        simp [hj2, e2, e3]
      · simp [hj2]
    · rw [if_neg hj]
      by_cases h32 : j < 32
      · have e4 : n.testBit j = m.testBit (j - (k + 1)) := by rw [h, Nat.testBit_two_pow_mul_add _ hp2, if_neg hj]
        have e5 : ¬ j < k := by omega
        rw [e4]
        simp [h32, e5]
      · have e5 : ¬ j < k := by omega
        have e6 : n.testBit j = false := Nat.testBit_lt_two_pow (Nat.lt_of_lt_of_le hn (Nat.pow_le_pow_right (n := 2) (by decide) (show 32 ≤ j by omega)))
        have e4 : n.testBit j = m.testBit (j - (k + 1)) := by rw [h, Nat.testBit_two_pow_mul_add _ hp2, if_neg hj]
        rw [← e4, e6]
        simp [e5]
  unfold g_Integer_numberOfTrailingZeros
  rw [ev_bnd, e]
  exact ntz_c σ k hk
theorem nI_mod (n : Nat) : nI n = nI (n % 2 ^ 32) := by
  apply Int32.toBitVec_inj.1
  show BitVec.ofNat 32 n = BitVec.ofNat 32 (n % 2 ^ 32)
  apply BitVec.eq_of_toNat_eq
  rw [BitVec.toNat_ofNat, BitVec.toNat_ofNat, Nat.mod_mod]
theorem nI_z {n : Nat} : nI n = 0 ↔ n % 2 ^ 32 = 0 := by
  constructor
  · intro h
    have := congrArg (fun x => x.toBitVec.toNat) h
    have e : (nI n).toBitVec.toNat = n % 2 ^ 32 := by show (BitVec.ofNat 32 n).toNat = _; rw [BitVec.toNat_ofNat]
    show n % 2 ^ 32 = 0
    rw [← e]; exact this
  · intro h; rw [nI_mod, h]; rfl
/-- numberOfTrailingZeros -/
theorem e_ntz {σ : ns_St} {x : Int64} {k : Nat} (hk : k < 64) (h1 : gb x k = true) (h2 : ∀ i, i < k → gb x i = false) : g_Long_numberOfTrailingZeros σ x = some (nI k, σ) := by
  obtain ⟨n, hn, rfl⟩ := wb_of x
  have t1 : n.testBit k = true := by rw [← gb_lN hn]; exact h1
  have t2 : ∀ i, i < k → n.testBit i = false := fun i hi => by rw [← gb_lN hn]; exact h2 i hi
  unfold g_Long_numberOfTrailingZeros
  rw [ev_bnd, lN_i, show (32 : Int32) = nI 32 from rfl, wb_shr hn (by decide), lN_i]
  by_cases hk2 : k < 32
  · have u1 : (n % 2 ^ 32).testBit k = true := by rw [Nat.testBit_mod_two_pow]; simp [hk2, t1]
    have u2 : ∀ i, i < k → (n % 2 ^ 32).testBit i = false := fun i hi => by rw [Nat.testBit_mod_two_pow, t2 i hi]; simp
    have hne : ¬ nI n = 0 := fun e => by
      rw [nI_z] at e
      rw [e] at u1
      simp at u1
    rw [ite2_n hne, nI_mod n]
    obtain ⟨m, hm⟩ := lowest u1 u2
    rw [e_ntzI hk2 hm (Nat.mod_lt _ (by decide)), ev_cl2]
  · have hz : nI n = 0 := by
      rw [nI_z]
      apply Nat.eq_of_testBit_eq
      intro j
      rw [Nat.testBit_mod_two_pow, Nat.zero_testBit]
      by_cases hj : j < 32
      · simp [t2 j (by omega)]
      · simp [hj]
    rw [ite2_p hz]
    have u1 : (n / 2 ^ 32).testBit (k - 32) = true := by rw [Nat.testBit_div_two_pow, show k - 32 + 32 = k by omega]; exact t1
    have u2 : ∀ i, i < k - 32 → (n / 2 ^ 32).testBit i = false := fun i hi => by rw [Nat.testBit_div_two_pow]; exact t2 _ (by omega)
    obtain ⟨m, hm⟩ := lowest u1 u2
    rw [e_ntzI (by omega) hm (by omega), ev_cl2, nI_add, show 32 + (k - 32) = k by omega]
theorem e_firstOf {σ : ns_St} {x : Int64} {k : Nat} (hk : k < 64) (h1 : gb x k = true) (h2 : ∀ i, i < k → gb x i = false) : g_N_firstOf σ x = some (nI k, σ) := by
  unfold g_N_firstOf
  rw [ite2_n (fun e => by rw [gb_zc.mp e k hk] at h1; cases h1), e_ntz hk h1 h2, ev_cl2]
theorem e_firstOf0 {σ : ns_St} {x : Int64} (h : ∀ p, p < 64 → gb x p = false) : g_N_firstOf σ x = some (-1, σ) := by
  unfold g_N_firstOf
  rw [ite2_p (gb_zc.mpr h)]
/-! the highest bit -/
theorem sr {n k : Nat} {K : Int32} (hn : n < 2 ^ 32) (hk : k < 32) (hK : K = nI k) : ((nI n).toUInt32 >>> (K.toUInt32 &&& Int32.toUInt32 31)).toInt32 = nI (n / 2 ^ k) := by
  rw [hK]; exact pk_ushrN hn (nI k) k (s_u k hk)
theorem nlz4 {σ : ns_St} {n j c : Nat} (hj : j < 4) (h1 : 2 ^ j ≤ n) (h2 : n < 2 ^ (j + 1)) (hc : 3 ≤ c) (hc2 : c < 100) : g_Integer_numberOfLeadingZeros_61 σ (nI n) (nI c) = some (nI (c - j), σ) := by
  have hn : n < 16 := Nat.lt_of_lt_of_le h2 (Nat.le_trans (Nat.pow_le_pow_right (n := 2) (by decide) (show j + 1 ≤ 4 by omega)) (by decide))
  unfold g_Integer_numberOfLeadingZeros_61
  rw [sr (n := n) (k := 1) (K := 1) (by omega) (by decide) rfl]
  by_cases h : n < 4
  · rw [ite2_p (show nI n < (4 : Int32) from nI_lt (b := 4) h (by decide)), pk_sub (by omega)]
    rcases (by omega : j = 0 ∨ j = 1 ∨ j = 2 ∨ j = 3) with rfl | rfl | rfl | rfl
    · rw [show n / 2 ^ 1 = 0 by omega]
    · rw [show n / 2 ^ 1 = 1 by omega]
    · omega
    · omega
  · rw [ite2_n (show ¬ nI n < (4 : Int32) from nI_nlt (b := 4) (by omega) (by omega)), ev_bnd, ev_bnd, sr (n := n) (k := 2) (K := 2) (by omega) (by decide) rfl, sr (n := n / 2 ^ 2) (k := 1) (K := 1) (by omega) (by decide) rfl, show nI c + (-2 : Int32) = nI (c - 2) by rw [← pk_sub (show 2 ≤ c by omega)]; exact (Int32.sub_eq_add_neg (nI c) 2).symm, pk_sub (by omega)]
    rcases (by omega : j = 0 ∨ j = 1 ∨ j = 2 ∨ j = 3) with rfl | rfl | rfl | rfl
    · omega
    · omega
    · rw [show n / 2 ^ 2 / 2 ^ 1 = 0 by omega]; rfl
    · rw [show n / 2 ^ 2 / 2 ^ 1 = 1 by omega]; rfl
theorem nlz_s {n j i : Nat} (h1 : 2 ^ j ≤ n) (h2 : n < 2 ^ (j + 1)) (h : ¬ n < 2 ^ i) : i ≤ j ∧ 2 ^ (j - i) ≤ n / 2 ^ i ∧ n / 2 ^ i < 2 ^ (j - i + 1) := by
  have hij : i ≤ j := by
    rcases Nat.lt_or_ge j i with q | q
    · exact absurd (Nat.lt_of_lt_of_le h2 (Nat.pow_le_pow_right (n := 2) (by decide) (show j + 1 ≤ i from q))) h
    · exact q
  have hp : 0 < 2 ^ i := Nat.pos_of_ne_zero (by simp)
  refine ⟨hij, ?_, ?_⟩
  · rw [Nat.le_div_iff_mul_le hp, ← Nat.pow_add, show j - i + i = j by omega]; exact h1
  · rw [Nat.div_lt_iff_lt_mul hp, ← Nat.pow_add, show j - i + 1 + i = j + 1 by omega]; exact h2
theorem nlz_t {n j i : Nat} (h1 : 2 ^ j ≤ n) (h : n < 2 ^ i) : j < i := by
  rcases Nat.lt_or_ge j i with q | q
  · exact q
  · exact absurd (Nat.lt_of_le_of_lt (Nat.le_trans (Nat.pow_le_pow_right (n := 2) (by decide) q) h1) h) (Nat.lt_irrefl _)
theorem nlz8 {σ : ns_St} {n j c : Nat} (hj : j < 8) (h1 : 2 ^ j ≤ n) (h2 : n < 2 ^ (j + 1)) (hc : 7 ≤ c) (hc2 : c < 100) : g_Integer_numberOfLeadingZeros_48 σ (nI n) (nI c) = some (nI (c - j), σ) := by
  have hn : n < 2 ^ 8 := Nat.lt_of_lt_of_le h2 (Nat.pow_le_pow_right (n := 2) (by decide) (show j + 1 ≤ 8 by omega))
  unfold g_Integer_numberOfLeadingZeros_48
  by_cases h : n < 2 ^ 4
  · rw [ite2_p (show nI n < (16 : Int32) from nI_lt (b := 16) h (by decide))]
    exact nlz4 (nlz_t h1 h) h1 h2 (by omega) hc2
  · obtain ⟨a, b, d⟩ := nlz_s h1 h2 h
    rw [ite2_n (show ¬ nI n < (16 : Int32) from nI_nlt (b := 16) (by omega) (by omega)), ev_bnd, ev_bnd, sr (n := n) (k := 4) (K := 4) (by omega) (by decide) rfl, show nI c + (-4 : Int32) = nI (c - 4) by rw [← pk_sub (show 4 ≤ c by omega)]; exact (Int32.sub_eq_add_neg (nI c) 4).symm, nlz4 (by omega) b d (by omega) (by omega), show c - 4 - (j - 4) = c - j by omega]
theorem nlz16 {σ : ns_St} {n j c : Nat} (hj : j < 16) (h1 : 2 ^ j ≤ n) (h2 : n < 2 ^ (j + 1)) (hc : 15 ≤ c) (hc2 : c < 100) : g_Integer_numberOfLeadingZeros_33 σ (nI n) (nI c) = some (nI (c - j), σ) := by
  have hn : n < 2 ^ 16 := Nat.lt_of_lt_of_le h2 (Nat.pow_le_pow_right (n := 2) (by decide) (show j + 1 ≤ 16 by omega))
  unfold g_Integer_numberOfLeadingZeros_33
  by_cases h : n < 2 ^ 8
  · rw [ite2_p (show nI n < (256 : Int32) from nI_lt (b := 256) h (by decide))]
    exact nlz8 (nlz_t h1 h) h1 h2 (by omega) hc2
  · obtain ⟨a, b, d⟩ := nlz_s h1 h2 h
    rw [ite2_n (show ¬ nI n < (256 : Int32) from nI_nlt (b := 256) (by omega) (by omega)), ev_bnd, ev_bnd, sr (n := n) (k := 8) (K := 8) (by omega) (by decide) rfl, show nI c + (-8 : Int32) = nI (c - 8) by rw [← pk_sub (show 8 ≤ c by omega)]; exact (Int32.sub_eq_add_neg (nI c) 8).symm, nlz8 (by omega) b d (by omega) (by omega), show c - 8 - (j - 8) = c - j by omega]
theorem nlz31 {σ : ns_St} {n : Nat} (h1 : 2 ^ 31 ≤ n) (h2 : n < 2 ^ 32) : g_Integer_numberOfLeadingZeros σ (nI n) = some (0, σ) := by
  have e : (nI n).toInt = ((n : Int)).bmod 4294967296 := Int32.toInt_ofNat'
  have e2 : (nI n).toInt < 0 := by
    have h3 : ((n : Int)) % 4294967296 = n := Int.emod_eq_of_lt (by omega) (by omega)
    rw [e, Int.bmod_def, if_neg (by omega)]; omega
  have a1 : ¬ (0 : Int32) < nI n := fun h => by
    have := Int32.lt_iff_toInt_lt.mp h
    rw [show (0 : Int32).toInt = 0 from rfl] at this
    omega
  have a2 : ¬ nI n = 0 := fun h => by
    rw [h, show (0 : Int32).toInt = 0 from rfl] at e2
    omega
  unfold g_Integer_numberOfLeadingZeros
  rw [ite2_n a1, ite2_n a2]
theorem nlz32 {σ : ns_St} {n j : Nat} (hj : j < 31) (h1 : 2 ^ j ≤ n) (h2 : n < 2 ^ (j + 1)) : g_Integer_numberOfLeadingZeros σ (nI n) = some (nI (31 - j), σ) := by
  have hn : n < 2 ^ 31 := Nat.lt_of_lt_of_le h2 (Nat.pow_le_pow_right (n := 2) (by decide) (show j + 1 ≤ 31 by omega))
  have h0 : 0 < n := Nat.lt_of_lt_of_le (Nat.pos_of_ne_zero (by simp)) h1
  unfold g_Integer_numberOfLeadingZeros
  rw [ite2_p (show (0 : Int32) < nI n from nI_lt (a := 0) h0 hn)]
  by_cases h : n < 2 ^ 16
  · rw [ite2_p (show nI n < (65536 : Int32) from nI_lt (b := 65536) h (by decide))]
    exact nlz16 (c := 31) (nlz_t h1 h) h1 h2 (by omega) (by omega)
  · obtain ⟨a, b, d⟩ := nlz_s h1 h2 h
    rw [ite2_n (show ¬ nI n < (65536 : Int32) from nI_nlt (b := 65536) (by omega) (by omega)), ev_bnd, ev_bnd, sr (n := n) (k := 16) (K := 16) (by omega) (by decide) rfl, show (31 : Int32) + (-16) = nI 15 by decide, nlz16 (by omega) b d (by omega) (by omega), show 15 - (j - 16) = 31 - j by omega]
theorem hib {n k w : Nat} (h1 : n.testBit k = true) (h2 : ∀ i, k < i → i < w → n.testBit i = false) (hn : n < 2 ^ w) : 2 ^ k ≤ n ∧ n < 2 ^ (k + 1) := by
  refine ⟨Nat.ge_two_pow_of_testBit h1, ?_⟩
  apply Nat.lt_pow_two_of_testBit
  intro i hi
  rcases Nat.lt_or_ge i w with q | q
  · exact h2 i (by omega) q
  · exact Nat.testBit_lt_two_pow (Nat.lt_of_lt_of_le hn (Nat.pow_le_pow_right (n := 2) (by decide) q))
/-- lastOf -/
theorem e_lastOf {σ : ns_St} {x : Int64} {k : Nat} (hk : k < 63) (h1 : gb x k = true) (h2 : ∀ i, k < i → i < 64 → gb x i = false) : g_N_lastOf σ x = some (nI k, σ) := by
  unfold g_N_lastOf
  rw [ite2_n (fun e => by rw [gb_zc.mp e k (by omega)] at h1; cases h1)]
  obtain ⟨n, hn, rfl⟩ := wb_of x
  have t1 : n.testBit k = true := by rw [← gb_lN hn]; exact h1
  have t2 : ∀ i, k < i → i < 64 → n.testBit i = false := fun i hi hi2 => by rw [← gb_lN hn]; exact h2 i hi hi2
  obtain ⟨u1, u2⟩ := hib t1 t2 hn
  have key : g_Long_numberOfLeadingZeros σ (lN n) = some (nI (63 - k), σ) := by
    unfold g_Long_numberOfLeadingZeros
    rw [ev_bnd, lN_i, show (32 : Int32) = nI 32 from rfl, wb_shr hn (by decide), lN_i]
    by_cases hk2 : k < 32
    · have hz : n / 2 ^ 32 = 0 := Nat.div_eq_of_lt (Nat.lt_of_lt_of_le u2 (Nat.pow_le_pow_right (n := 2) (by decide) (show k + 1 ≤ 32 by omega)))
      rw [hz, ite2_p (show nI 0 = 0 from rfl)]
      by_cases h31 : k = 31
      · subst h31
        rw [nlz31 u1 u2, ev_cl2, show nI 32 + (0 : Int32) = nI 32 by decide]
      · rw [nlz32 (by omega) u1 u2, ev_cl2, nI_add, show 32 + (31 - k) = 63 - k by omega]
    · obtain ⟨a, b, d⟩ := nlz_s (i := 32) u1 u2 (fun q => absurd (nlz_t u1 q) (by omega))
      have hlt : n / 2 ^ 32 < 2 ^ 32 := by omega
      have hne : ¬ nI (n / 2 ^ 32) = 0 := fun e => by
        rw [nI_z, Nat.mod_eq_of_lt hlt] at e
        rw [e] at b
        have : 0 < 2 ^ (k - 32) := Nat.pos_of_ne_zero (by simp)
        omega
      rw [ite2_n hne, nlz32 (by omega) b d, ev_cl2, show 31 - (k - 32) = 63 - k by omega]
  rw [key, ev_cl2, show (63 : Int32) = nI 63 from rfl, pk_sub (by omega), show 63 - (63 - k) = k by omega]
theorem e_lastOf0 {σ : ns_St} {x : Int64} (h : ∀ p, p < 64 → gb x p = false) : g_N_lastOf σ x = some (-1, σ) := by
  unfold g_N_lastOf
  rw [ite2_p (gb_zc.mpr h)]
/-- one bit away -/
theorem gb_drop {x : Int64} {k p : Nat} (hk : k < 64) (h1 : gb x k = true) (h2 : ∀ i, i < k → gb x i = false) (hp : p < 64) : gb (x &&& (x - 1)) p = (gb x p && decide (p ≠ k)) := by
  obtain ⟨n, hn, rfl⟩ := wb_of x
  have t1 : n.testBit k = true := by rw [← gb_lN hn]; exact h1
  have t2 : ∀ i, i < k → n.testBit i = false := fun i hi => by rw [← gb_lN hn]; exact h2 i hi
  obtain ⟨m, hm⟩ := lowest t1 t2
  have q0 : 0 < 2 ^ k := Nat.pos_of_ne_zero (by simp)
  have q1 : 2 ^ k < 2 ^ (k + 1) := Nat.pow_lt_pow_right (by decide) (by omega)
  have e1 : n - 1 = 2 ^ (k + 1) * m + (2 ^ k - 1) := by omega
  rw [gb_and, show (1 : Int64) = lN 1 from rfl, lN_sub (by omega), gb_lN hn, gb_lN (by omega), e1, Nat.testBit_two_pow_mul_add _ (show 2 ^ k - 1 < 2 ^ (k + 1) by omega)]
  by_cases hj : p < k + 1
  · rw [if_pos hj, Nat.testBit_two_pow_sub_one]
    by_cases hj2 : p < k
    · simp [t2 p hj2]
    · have : p = k := by omega
      simp [this]
  · rw [if_neg hj]
    have e4 : n.testBit p = m.testBit (p - (k + 1)) := by
      have : n.testBit p = (2 ^ (k + 1) * m + 2 ^ k).testBit p := congrArg (fun z => z.testBit p) hm
      rw [this, Nat.testBit_two_pow_mul_add _ q1, if_neg hj]
    have e5 : p ≠ k := by omega
    rw [e4]; simp [e5]
theorem e_max (σ : ns_St) (x y : Int32) : g_Math_max σ x y = some (if x < y then y else x, σ) := by
  unfold g_Math_max
  by_cases h : x < y
  · rw [ite2_p h, if_pos h]
  · rw [ite2_n h, if_neg h]
theorem e_isIn {σ : ns_St} {x : Int64} {p : Nat} (hp : p < 64) : g_N_isIn σ x (nI p) = some (yn (gb x p = true), σ) := by
  unfold g_N_isIn
  cases h : gb x p with
  | false => rw [ite2_p ((ns_bc hp).mpr h)]; rfl
  | true => rw [ite2_n (fun e => by rw [(ns_bc hp).mp e] at h; cases h)]; rfl
