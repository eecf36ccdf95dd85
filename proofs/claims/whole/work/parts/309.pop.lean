/-! of the kit's families of bits: pasted -/
theorem wb_tb (n : Nat) : (lN n).toBitVec = BitVec.ofNat 64 n := rfl
theorem wb_inj {a b : Int64} (h : a.toBitVec = b.toBitVec) : a = b := Int64.toBitVec_inj.mp h
theorem wb_tn {n : Nat} (h : n < 2 ^ 64) : (lN n).toBitVec.toNat = n := by rw [wb_tb, BitVec.toNat_ofNat, Nat.mod_eq_of_lt h]
theorem wb_of (x : Int64) : ∃ n, n < 2 ^ 64 ∧ x = lN n := ⟨x.toBitVec.toNat, x.toBitVec.isLt, wb_inj (by rw [wb_tb]; simp)⟩
theorem wb_pw {a b : Nat} (h : a ≤ b) : 2 ^ b = 2 ^ a * 2 ^ (b - a) := by rw [← Nat.pow_add]; congr 1; omega
theorem wb_lt2 {a b : Nat} (h : a < b) : 2 ^ a < 2 ^ b := Nat.pow_lt_pow_right (by decide) h
theorem wb_mod (n : Nat) : lN n = lN (n % 2 ^ 64) := wb_inj (by rw [wb_tb, wb_tb]; apply BitVec.eq_of_toNat_eq; rw [BitVec.toNat_ofNat, BitVec.toNat_ofNat, Nat.mod_mod])
theorem wb_shr {n k : Nat} (hn : n < 2 ^ 64) (hk : k < 64) : ((lN n).toUInt64 >>> ((nI k).toInt64.toUInt64 &&& Int64.toUInt64 63)).toInt64 = lN (n / 2 ^ k) := by
  rw [wb_cu k hk]
  apply wb_inj
  apply BitVec.eq_of_toNat_eq
  show ((lN n).toUInt64 >>> UInt64.ofNat k).toNat = (BitVec.ofNat 64 _).toNat
  have h1 : (UInt64.ofNat k).toNat = k := by
    show (BitVec.ofNat 64 k).toNat = k
    rw [BitVec.toNat_ofNat, Nat.mod_eq_of_lt (by omega)]
  have h2 : (lN n).toUInt64.toNat = n := wb_tn hn
  rw [UInt64.toNat_shiftRight, h1, h2, Nat.mod_eq_of_lt hk, Nat.shiftRight_eq_div_pow, BitVec.toNat_ofNat, Nat.mod_eq_of_lt (Nat.lt_of_le_of_lt (Nat.div_le_self _ _) hn)]
theorem wb_shl (n : Nat) {k : Nat} (hk : k < 64) : lN n <<< ((nI k).toInt64 &&& 63) = lN (n * 2 ^ k) := by
  rw [wb_c k hk]
  apply wb_inj
  rw [Int64.toBitVec_shiftLeft, wb_tb, wb_tb, wb_tb, wb_sm k hk]
  apply BitVec.eq_of_toNat_eq
  rw [BitVec.shiftLeft_eq', BitVec.toNat_shiftLeft, BitVec.toNat_ofNat, BitVec.toNat_ofNat, BitVec.toNat_ofNat, Nat.mod_eq_of_lt (show k < 2 ^ 64 by omega), Nat.shiftLeft_eq, Nat.mul_mod, Nat.mod_mod, ← Nat.mul_mod]
theorem wb_and {a b : Nat} (ha : a < 2 ^ 64) (hb : b < 2 ^ 64) : lN a &&& lN b = lN (a &&& b) := by
  apply wb_inj
  rw [Int64.toBitVec_and, wb_tb, wb_tb, wb_tb]
  apply BitVec.eq_of_toNat_eq
  rw [BitVec.toNat_and, BitVec.toNat_ofNat, BitVec.toNat_ofNat, BitVec.toNat_ofNat, Nat.mod_eq_of_lt ha, Nat.mod_eq_of_lt hb, Nat.mod_eq_of_lt (Nat.and_lt_two_pow _ hb)]
theorem nx_and (a b : Nat) : nI a &&& nI b = nI (a &&& b) := by
  apply Int32.toBitVec_inj.1
  show BitVec.ofNat 32 a &&& BitVec.ofNat 32 b = BitVec.ofNat 32 (a &&& b)
  apply BitVec.eq_of_getLsbD_eq
  intro i hi
  simp [hi]
/-! how many bits: the JDK's bitCount -/
def vl (b : Nat) : List Nat → Nat
  | [] => 0
  | d :: ds => d + b * vl b ds
theorem and_split {w a b x y : Nat} (ha : a < 2 ^ w) (hb : b < 2 ^ w) : (a + 2 ^ w * x) &&& (b + 2 ^ w * y) = (a &&& b) + 2 ^ w * (x &&& y) := by
  apply Nat.eq_of_testBit_eq
  intro j
  have hab : a &&& b < 2 ^ w := Nat.and_lt_two_pow _ hb
  rw [Nat.testBit_and, Nat.add_comm a, Nat.add_comm b, Nat.add_comm (a &&& b), Nat.testBit_two_pow_mul_add _ ha, Nat.testBit_two_pow_mul_add _ hb, Nat.testBit_two_pow_mul_add _ hab]
  by_cases h : j < w
  · simp [h, Nat.testBit_and]
  · simp [h, Nat.testBit_and]
theorem d4 : ∀ d, d < 4 → ∀ r, r < 2 → (d / 2 + 2 * r) &&& 1 = d / 2 := by decide
theorem pc_1 : ∀ ds : List Nat, (∀ d ∈ ds, d < 4) → (vl 4 ds / 2) &&& vl 4 (List.replicate ds.length 1) = vl 4 (ds.map (· / 2))
  | [], _ => rfl
  | d :: ds, h => by
    have hd : d < 4 := h d List.mem_cons_self
    have ih := pc_1 ds (fun x hx => h x (List.mem_cons_of_mem _ hx))
    show ((d + 4 * vl 4 ds) / 2) &&& (1 + 4 * vl 4 (List.replicate ds.length 1)) = d / 2 + 4 * vl 4 (ds.map (· / 2))
    rw [← ih, show (d + 4 * vl 4 ds) / 2 = (d / 2 + 2 * (vl 4 ds % 2)) + 2 ^ 2 * (vl 4 ds / 2) by omega, show (4 : Nat) = 2 ^ 2 from rfl, and_split (by omega) (by decide), d4 d hd _ (by omega)]
theorem pc_1s : ∀ ds : List Nat, (∀ d ∈ ds, d < 4) → vl 4 ds - vl 4 (ds.map (· / 2)) = vl 4 (ds.map (fun d => d - d / 2)) ∧ vl 4 (ds.map (· / 2)) ≤ vl 4 ds
  | [], _ => ⟨rfl, Nat.le_refl _⟩
  | d :: ds, h => by
    obtain ⟨i1, i2⟩ := pc_1s ds (fun x hx => h x (List.mem_cons_of_mem _ hx))
    show (d + 4 * vl 4 ds) - (d / 2 + 4 * vl 4 (ds.map (· / 2))) = (d - d / 2) + 4 * vl 4 (ds.map (fun d => d - d / 2)) ∧ d / 2 + 4 * vl 4 (ds.map (· / 2)) ≤ d + 4 * vl 4 ds
    omega
theorem d16a : ∀ e, e < 16 → e &&& 3 = e % 4 := by decide
theorem d16b : ∀ e, e < 16 → ∀ r, r < 4 → (e / 4 + 4 * r) &&& 3 = e / 4 := by decide
theorem pc_2a : ∀ es : List Nat, (∀ e ∈ es, e < 16) → vl 16 es &&& vl 16 (List.replicate es.length 3) = vl 16 (es.map (· % 4))
  | [], _ => rfl
  | e :: es, h => by
    have he : e < 16 := h e List.mem_cons_self
    have ih := pc_2a es (fun x hx => h x (List.mem_cons_of_mem _ hx))
    show (e + 16 * vl 16 es) &&& (3 + 16 * vl 16 (List.replicate es.length 3)) = e % 4 + 16 * vl 16 (es.map (· % 4))
    rw [← ih, show (16 : Nat) = 2 ^ 4 from rfl, and_split (by omega) (by decide), d16a e he]
theorem pc_2b : ∀ es : List Nat, (∀ e ∈ es, e < 16) → (vl 16 es / 4) &&& vl 16 (List.replicate es.length 3) = vl 16 (es.map (· / 4))
  | [], _ => rfl
  | e :: es, h => by
    have he : e < 16 := h e List.mem_cons_self
    have ih := pc_2b es (fun x hx => h x (List.mem_cons_of_mem _ hx))
    show ((e + 16 * vl 16 es) / 4) &&& (3 + 16 * vl 16 (List.replicate es.length 3)) = e / 4 + 16 * vl 16 (es.map (· / 4))
    rw [← ih, show (e + 16 * vl 16 es) / 4 = (e / 4 + 4 * (vl 16 es % 4)) + 2 ^ 4 * (vl 16 es / 4) by omega, show (16 : Nat) = 2 ^ 4 from rfl, and_split (by omega) (by decide), d16b e he _ (by omega)]
theorem pc_2s : ∀ es : List Nat, vl 16 (es.map (· % 4)) + vl 16 (es.map (· / 4)) = vl 16 (es.map (fun e => e % 4 + e / 4))
  | [] => rfl
  | e :: es => by
    have ih := pc_2s es
    show (e % 4 + 16 * vl 16 (es.map (· % 4))) + (e / 4 + 16 * vl 16 (es.map (· / 4))) = (e % 4 + e / 4) + 16 * vl 16 (es.map (fun e => e % 4 + e / 4))
    omega
/-- pairs of digits -/
def pr (b : Nat) : List Nat → List Nat
  | x :: y :: l => (x + b * y) :: pr b l
  | l => l
theorem pr_vl {b : Nat} : ∀ l : List Nat, l.length % 2 = 0 → vl (b * b) (pr b l) = vl b l
  | [], _ => rfl
  | [x], h => by simp at h
  | x :: y :: l, h => by
    have ih := pr_vl (b := b) l (by simp only [List.length_cons] at h; omega)
    show (x + b * y) + b * b * vl (b * b) (pr b l) = x + b * (y + b * vl b l)
    rw [ih, Nat.mul_add, Nat.mul_assoc, Nat.add_assoc]
theorem d256 : ∀ a, a < 16 → ∀ c, c < 16 → a + c < 16 → ∀ r, r < 16 → ((a + 16 * c) + c + 16 * r) % 16 = a + c := by intro a _ c _ h r _; omega
theorem pc_3 : ∀ gs : List Nat, (∀ g ∈ gs, g % 16 ≤ 4 ∧ g / 16 ≤ 4) → (vl 256 gs + vl 256 gs / 16) &&& vl 256 (List.replicate gs.length 15) = vl 256 (gs.map (fun g => g % 16 + g / 16)) ∧ vl 256 gs % 16 ≤ 4
  | [], _ => ⟨rfl, by decide⟩
  | g :: gs, h => by
    obtain ⟨hg1, hg2⟩ := h g List.mem_cons_self
    obtain ⟨ih, iv⟩ := pc_3 gs (fun x hx => h x (List.mem_cons_of_mem _ hx))
    refine ⟨?_, ?_⟩
    · show ((g + 256 * vl 256 gs) + (g + 256 * vl 256 gs) / 16) &&& (15 + 256 * vl 256 (List.replicate gs.length 15)) = (g % 16 + g / 16) + 256 * vl 256 (gs.map (fun g => g % 16 + g / 16))
      rw [← ih]
      generalize vl 256 gs = v at *
      generalize vl 256 (List.replicate gs.length 15) = u
      have e : (g + 256 * v) + (g + 256 * v) / 16 = (g + g / 16 + 16 * (v % 16)) + 2 ^ 8 * (v + v / 16) := by omega
      have e2 : (g + g / 16 + 16 * (v % 16)) &&& 15 = (g + g / 16 + 16 * (v % 16)) % 16 := Nat.and_two_pow_sub_one_eq_mod _ 4
      have e3 := and_split (w := 8) (a := g + g / 16 + 16 * (v % 16)) (b := 15) (x := v + v / 16) (y := u) (by omega) (by decide)
      rw [e]
      refine e3.trans ?_
      rw [e2]
      show _ + 256 * _ = _
      omega
    · show (g + 256 * vl 256 gs) % 16 ≤ 4
      omega
def dg (b : Nat) : Nat → Nat → List Nat
  | 0, _ => []
  | k + 1, n => n % b :: dg b k (n / b)
theorem dg_vl {b : Nat} (hb : 0 < b) : ∀ (k n : Nat), n < b ^ k → vl b (dg b k n) = n
  | 0, n, h => by simp at h; subst h; rfl
  | k + 1, n, h => by
    have ih := dg_vl hb k (n / b) (by rw [Nat.pow_succ] at h; exact Nat.div_lt_of_lt_mul (by rw [Nat.mul_comm]; exact h))
    show n % b + b * vl b (dg b k (n / b)) = n
    rw [ih]; exact Nat.mod_add_div n b
theorem dg_len {b : Nat} : ∀ (k n : Nat), (dg b k n).length = k
  | 0, _ => rfl
  | k + 1, n => by show (dg b k (n / b)).length + 1 = k + 1; rw [dg_len]
theorem dg_lt {b : Nat} (hb : 0 < b) : ∀ (k n : Nat), ∀ d ∈ dg b k n, d < b
  | 0, _, d, h => by cases h
  | k + 1, n, d, h => by
    rcases List.mem_cons.mp h with h | h
    · rw [h]; exact Nat.mod_lt _ hb
    · exact dg_lt hb k _ d h
theorem pr_ok {b m : Nat} (hm : m < b) : ∀ l : List Nat, l.length % 2 = 0 → (∀ x ∈ l, x ≤ m) → (List.map (fun e => e % b + e / b) (pr b l)).sum = l.sum ∧ (∀ e ∈ pr b l, e % b ≤ m ∧ e / b ≤ m) ∧ (pr b l).length = l.length / 2
  | [], _, _ => ⟨rfl, (fun e h => nomatch h), rfl⟩
  | [x], h, _ => by simp at h
  | x :: y :: l, h, hl => by
    obtain ⟨i1, i2, i3⟩ := pr_ok hm l (by simp only [List.length_cons] at h; omega) (fun z hz => hl z (List.mem_cons_of_mem _ (List.mem_cons_of_mem _ hz)))
    have hx := hl x List.mem_cons_self
    have hy := hl y (List.mem_cons_of_mem _ List.mem_cons_self)
    have e1 : (x + b * y) % b = x := by rw [Nat.add_mul_mod_self_left]; exact Nat.mod_eq_of_lt (by omega)
    have e2 : (x + b * y) / b = y := by rw [Nat.add_mul_div_left _ _ (by omega), Nat.div_eq_of_lt (by omega), Nat.zero_add]
    refine ⟨?_, ?_, ?_⟩
    · show (((x + b * y) % b + (x + b * y) / b) :: List.map (fun e => e % b + e / b) (pr b l)).sum = (x :: y :: l).sum
      rw [e1, e2, List.sum_cons, List.sum_cons, List.sum_cons, i1]; omega
    · intro e he
      rcases List.mem_cons.mp he with he | he
      · rw [he, e1, e2]; exact ⟨hx, hy⟩
      · exact i2 e he
    · show (pr b l).length + 1 = (l.length + 1 + 1) / 2
      rw [i3]; omega
theorem dg_ct : ∀ (k n : Nat), ((dg 4 k n).map (fun d => d - d / 2)).sum = fb_ct (fun i => n.testBit i) (2 * k)
  | 0, _ => rfl
  | k + 1, n => by
    have ih := dg_ct k (n / 4)
    show ((n % 4 - n % 4 / 2) :: (dg 4 k (n / 4)).map (fun d => d - d / 2)).sum = _
    rw [List.sum_cons, ih, show 2 * (k + 1) = 2 + 2 * k by omega, fb_ct_split]
    have e1 : fb_ct (fun i => (n / 4).testBit i) (2 * k) = fb_ct (fun i => n.testBit (2 + i)) (2 * k) := fb_ct_cong (fun i _ => by rw [show n / 4 = n / 2 ^ 2 from rfl, Nat.testBit_div_two_pow, Nat.add_comm])
    have e2 : n % 4 - n % 4 / 2 = fb_ct (fun i => n.testBit i) 2 := by
      have t0 : n.testBit 0 = decide (n % 2 = 1) := Nat.testBit_zero n
      have t1 : n.testBit 1 = decide (n / 2 % 2 = 1) := by rw [Nat.testBit_succ]; exact Nat.testBit_zero _
      show _ = 0 + (if n.testBit 0 then 1 else 0) + (if n.testBit 1 then 1 else 0)
      rw [t0, t1]
      by_cases h0 : n % 2 = 1
      · by_cases h1 : n / 2 % 2 = 1
        · simp [h0, h1]; omega
        · simp [h0, h1]; omega
      · by_cases h1 : n / 2 % 2 = 1
        · simp [h0, h1]; omega
        · simp [h0, h1]; omega
    rw [e1, e2]
theorem dv {l b r z : Nat} (h : z = l + b * r) (hl : l < b) : z / b = r := by
  rw [h, Nat.add_mul_div_left _ _ (by omega), Nat.div_eq_of_lt hl, Nat.zero_add]
theorem pc_u {x r q m : Nat} (hx : x ≤ 8) (h : r = x + 256 * q) (hq : q ≤ m) : r ≤ 8 + 256 * m := by omega
theorem pc_l1 {x0 x1 x2 r1 r2 r3 z9 : Nat} (v9 : z9 = x0 + 256 * r1) (v1 : r1 = x1 + 256 * r2) (v2 : r2 = x2 + 256 * r3) : z9 + r1 = ((x0 + x1) + 256 * (x1 + x2)) + 65536 * (r2 + r3) := by omega
theorem pc_l2 {x0 x1 x2 x3 x4 x5 x6 a b q4 q6 : Nat} (w0 : a = ((x0 + x1) + 256 * (x1 + x2)) + 65536 * b) (w2 : b = ((x2 + x3) + 256 * (x3 + x4)) + 65536 * q4) (w4 : q4 = ((x4 + x5) + 256 * (x5 + x6)) + 65536 * q6) : a + b = ((x0 + x1 + x2 + x3) + 256 * (x1 + x2 + x3 + x4) + 65536 * (x2 + x3 + x4 + x5) + 16777216 * (x3 + x4 + x5 + x6)) + 4294967296 * (q4 + q6) := by omega
theorem pc_l3 {x0 x1 x2 x3 x4 x5 x6 x7 r1 r2 r3 r4 r5 r6 z9 : Nat} (v9 : z9 = x0 + 256 * r1) (v1 : r1 = x1 + 256 * r2) (v2 : r2 = x2 + 256 * r3) (v3 : r3 = x3 + 256 * r4) (v4 : r4 = x4 + 256 * r5) (v5 : r5 = x5 + 256 * r6) (v6 : r6 = x6 + 256 * x7) : z9 + r1 + (r2 + r3) + (r4 + r5 + (r6 + x7)) = (x0 + x1 + x2 + x3 + x4 + x5 + x6 + x7) + 128 * (2 * (r1 + r2 + r3 + r4 + r5 + r6 + x7)) := by omega
theorem pc_m1 {x0 : Nat} (y0 : x0 ≤ 8) : x0 < 256 := by omega
theorem pc_m2 {x0 x1 x2 : Nat} (y0 : x0 ≤ 8) (y1 : x1 ≤ 8) (y2 : x2 ≤ 8) : (x0 + x1) + 256 * (x1 + x2) < 65536 := by omega
theorem pc_m3 {x0 x1 x2 x3 x4 x5 x6 : Nat} (y0 : x0 ≤ 8) (y1 : x1 ≤ 8) (y2 : x2 ≤ 8) (y3 : x3 ≤ 8) (y4 : x4 ≤ 8) (y5 : x5 ≤ 8) (y6 : x6 ≤ 8) : (x0 + x1 + x2 + x3) + 256 * (x1 + x2 + x3 + x4) + 65536 * (x2 + x3 + x4 + x5) + 16777216 * (x3 + x4 + x5 + x6) < 4294967296 := by omega
theorem pc_m4 {x0 x1 x2 x3 x4 x5 x6 x7 : Nat} (y0 : x0 ≤ 8) (y1 : x1 ≤ 8) (y2 : x2 ≤ 8) (y3 : x3 ≤ 8) (y4 : x4 ≤ 8) (y5 : x5 ≤ 8) (y6 : x6 ≤ 8) (y7 : x7 ≤ 8) : x0 + x1 + x2 + x3 + x4 + x5 + x6 + x7 < 128 := by omega
theorem pc_by {x0 x1 x2 x3 x4 x5 x6 x7 r1 r2 r3 r4 r5 r6 z9 : Nat} (y0 : x0 ≤ 8) (y1 : x1 ≤ 8) (y2 : x2 ≤ 8) (y3 : x3 ≤ 8) (y4 : x4 ≤ 8) (y5 : x5 ≤ 8) (y6 : x6 ≤ 8) (y7 : x7 ≤ 8) (v9 : z9 = x0 + 256 * r1) (v1 : r1 = x1 + 256 * r2) (v2 : r2 = x2 + 256 * r3) (v3 : r3 = x3 + 256 * r4) (v4 : r4 = x4 + 256 * r5) (v5 : r5 = x5 + 256 * r6) (v6 : r6 = x6 + 256 * x7) :
    z9 < 2 ^ 60 ∧ z9 + z9 / 256 < 2 ^ 61 ∧ (z9 + z9 / 256) + (z9 + z9 / 256) / 65536 < 2 ^ 62 ∧ ((z9 + z9 / 256) + (z9 + z9 / 256) / 65536) + ((z9 + z9 / 256) + (z9 + z9 / 256) / 65536) / 4294967296 < 2 ^ 63 ∧ (((z9 + z9 / 256) + (z9 + z9 / 256) / 65536) + ((z9 + z9 / 256) + (z9 + z9 / 256) / 65536) / 4294967296) % 128 = x0 + x1 + x2 + x3 + x4 + x5 + x6 + x7 := by
  have u6 := pc_u y6 v6 y7
  have u5 := pc_u y5 v5 u6
  have u4 := pc_u y4 v4 u5
  have u3 := pc_u y3 v3 u4
  have u2 := pc_u y2 v2 u3
  have u1 := pc_u y1 v1 u2
  have u9 := pc_u y0 v9 u1
  have v10 := pc_l1 v9 v1 v2
  have w2 := pc_l1 v2 v3 v4
  have w4 := pc_l1 v4 v5 v6
  have v11 := pc_l2 v10 w2 w4
  have v12 := pc_l3 v9 v1 v2 v3 v4 v5 v6
  have l1 : x0 < 256 := pc_m1 y0
  have l2 : (x0 + x1) + 256 * (x1 + x2) < 65536 := pc_m2 y0 y1 y2
  have l3 : (x0 + x1 + x2 + x3) + 256 * (x1 + x2 + x3 + x4) + 65536 * (x2 + x3 + x4 + x5) + 16777216 * (x3 + x4 + x5 + x6) < 4294967296 := pc_m3 y0 y1 y2 y3 y4 y5 y6
  have l4 : x0 + x1 + x2 + x3 + x4 + x5 + x6 + x7 < 128 := pc_m4 y0 y1 y2 y3 y4 y5 y6 y7
  have e1 : z9 / 256 = r1 := dv v9 l1
  have e2 : (z9 + r1) / 65536 = r2 + r3 := dv v10 l2
  have e3 : (z9 + r1 + (r2 + r3)) / 4294967296 = r4 + r5 + (r6 + x7) := dv v11 l3
  rw [e1, e2, e3]
  refine ⟨?_, ?_, ?_, ?_, ?_⟩
  · exact Nat.lt_of_le_of_lt u9 (by decide)
  · exact Nat.lt_of_le_of_lt (Nat.add_le_add u9 u1) (by decide)
  · exact Nat.lt_of_le_of_lt (Nat.add_le_add (Nat.add_le_add u9 u1) (Nat.add_le_add u2 u3)) (by decide)
  · exact Nat.lt_of_le_of_lt (Nat.add_le_add (Nat.add_le_add (Nat.add_le_add u9 u1) (Nat.add_le_add u2 u3)) (Nat.add_le_add (Nat.add_le_add u4 u5) (Nat.add_le_add u6 y7))) (by decide)
  · rw [v12, Nat.add_mul_mod_self_left]
    exact Nat.mod_eq_of_lt l4
/-- the arithmetic of it -/
theorem pc_nat (n : Nat) (hn : n < 2 ^ 64) : ∃ z7 z8 z9 z10 z11 z12 : Nat, n / 2 &&& 6148914691236517205 ≤ n ∧ z7 = n - (n / 2 &&& 6148914691236517205) ∧ z8 = (z7 &&& 3689348814741910323) + (z7 / 4 &&& 3689348814741910323) ∧ z9 = (z8 + z8 / 16) &&& 1085102592571150095 ∧ z10 = z9 + z9 / 256 ∧ z11 = z10 + z10 / 65536 ∧ z12 = z11 + z11 / 4294967296 ∧ z8 < 2 ^ 63 ∧ z9 < 2 ^ 60 ∧ z10 < 2 ^ 61 ∧ z11 < 2 ^ 62 ∧ z12 < 2 ^ 63 ∧ z12 % 128 = fb_ct (fun i => n.testBit i) 64 := by
  have k1 : vl 4 (List.replicate 32 1) = 6148914691236517205 := by decide
  have k2 : vl 16 (List.replicate 16 3) = 3689348814741910323 := by decide
  have k3 : vl 256 (List.replicate 8 15) = 1085102592571150095 := by decide
  have ct := dg_ct 32 n
  have hvl := dg_vl (b := 4) (by decide) 32 n (by rw [show (4 : Nat) ^ 32 = 2 ^ 64 by decide]; exact hn)
  have hlt := dg_lt (b := 4) (by decide) 32 n
  have hlen := dg_len (b := 4) 32 n
  generalize dg 4 32 n = ds at *
  have p1 := pc_1 ds hlt
  obtain ⟨p2, p3⟩ := pc_1s ds hlt
  rw [hlen, hvl, k1] at p1
  rw [hvl] at p2 p3
  rw [← p1] at p2 p3
  -- two bits
  have q1 : ∀ x ∈ ds.map (fun d => d - d / 2), x ≤ 2 := by
    intro x hx
    obtain ⟨d, hd, rfl⟩ := List.mem_map.mp hx
    have := hlt d hd
    show d - d / 2 ≤ 2
    omega
  have q2 : (ds.map (fun d => d - d / 2)).length = 32 := by rw [List.length_map, hlen]
  generalize ds.map (fun d => d - d / 2) = d1 at *
  obtain ⟨a1, a2, a3⟩ := pr_ok (b := 4) (m := 2) (by decide) d1 (by rw [q2]) q1
  have a4 := pr_vl (b := 4) d1 (by rw [q2])
  rw [q2] at a3
  generalize pr 4 d1 = es at *
  have a5 : ∀ e ∈ es, e < 16 := fun e he => by have := a2 e he; omega
  have b1 := pc_2a es a5
  have b2 := pc_2b es a5
  have b3 := pc_2s es
  rw [a3] at b1 b2
  have b4 : vl 16 es = n - (n / 2 &&& 6148914691236517205) := a4.trans p2.symm
  rw [b4, k2] at b1 b2
  rw [← b1, ← b2] at b3
  have q3 : ∀ x ∈ es.map (fun e => e % 4 + e / 4), x ≤ 4 := by
    intro x hx
    obtain ⟨d, hd, rfl⟩ := List.mem_map.mp hx
    have := a2 d hd
    show d % 4 + d / 4 ≤ 4
    omega
  have q4 : (es.map (fun e => e % 4 + e / 4)).length = 16 := by rw [List.length_map, a3]
  generalize es.map (fun e => e % 4 + e / 4) = e1 at *
  obtain ⟨c1, c2, c3⟩ := pr_ok (b := 16) (m := 4) (by decide) e1 (by rw [q4]) q3
  have c4 := pr_vl (b := 16) e1 (by rw [q4])
  rw [q4] at c3
  generalize pr 16 e1 = gs at *
  obtain ⟨f1, f2⟩ := pc_3 gs c2
  rw [c3] at f1
  have f3 : vl 256 gs = (n - (n / 2 &&& 6148914691236517205) &&& 3689348814741910323) + ((n - (n / 2 &&& 6148914691236517205)) / 4 &&& 3689348814741910323) := c4.trans b3.symm
  rw [k3] at f1
  have q5 : ∀ x ∈ gs.map (fun g => g % 16 + g / 16), x ≤ 8 := by
    intro x hx
    obtain ⟨d, hd, rfl⟩ := List.mem_map.mp hx
    have := c2 d hd
    show d % 16 + d / 16 ≤ 8
    omega
  have q6 : (gs.map (fun g => g % 16 + g / 16)).length = 8 := by rw [List.length_map, c3]
  have g1 : (gs.map (fun g => g % 16 + g / 16)).sum = fb_ct (fun i => n.testBit i) 64 := by rw [c1, a1]; exact ct
  have hz8 : vl 256 gs < 2 ^ 63 := by
    match gs, c3, c2 with
    | [x0, x1, x2, x3, x4, x5, x6, x7], _, c2 =>
      have y0 := c2 x0 (by simp); have y1 := c2 x1 (by simp); have y2 := c2 x2 (by simp); have y3 := c2 x3 (by simp)
      have y4 := c2 x4 (by simp); have y5 := c2 x5 (by simp); have y6 := c2 x6 (by simp); have y7 := c2 x7 (by simp)
      have b : ∀ x : Nat, x % 16 ≤ 4 ∧ x / 16 ≤ 4 → x ≤ 68 := fun x h => by omega
      have w := fun {x r q m : Nat} (hx : x ≤ 68) (h : r = x + 256 * q) (hq : q ≤ m) => (by omega : r ≤ 68 + 256 * m)
      have t7 : vl 256 [x7] ≤ 68 := b x7 y7
      have t6 := w (b x6 y6) (rfl : vl 256 [x6, x7] = _) t7
      have t5 := w (b x5 y5) (rfl : vl 256 [x5, x6, x7] = _) t6
      have t4 := w (b x4 y4) (rfl : vl 256 [x4, x5, x6, x7] = _) t5
      have t3 := w (b x3 y3) (rfl : vl 256 [x3, x4, x5, x6, x7] = _) t4
      have t2 := w (b x2 y2) (rfl : vl 256 [x2, x3, x4, x5, x6, x7] = _) t3
      have t1 := w (b x1 y1) (rfl : vl 256 [x1, x2, x3, x4, x5, x6, x7] = _) t2
      have t0 := w (b x0 y0) (rfl : vl 256 [x0, x1, x2, x3, x4, x5, x6, x7] = _) t1
      exact Nat.lt_of_le_of_lt t0 (by decide)
  refine ⟨_, _, _, _, _, _, p3, rfl, rfl, rfl, rfl, rfl, rfl, ?_⟩
  rw [← f3, f1]
  generalize gs.map (fun g => g % 16 + g / 16) = hs at *
  match hs, q6, q5, g1 with
  | [x0, x1, x2, x3, x4, x5, x6, x7], _, q5, g1 =>
    have y0 := q5 x0 (by simp); have y1 := q5 x1 (by simp); have y2 := q5 x2 (by simp); have y3 := q5 x3 (by simp)
    have y4 := q5 x4 (by simp); have y5 := q5 x5 (by simp); have y6 := q5 x6 (by simp); have y7 := q5 x7 (by simp)
    have g2 : x0 + x1 + x2 + x3 + x4 + x5 + x6 + x7 = fb_ct (fun i => n.testBit i) 64 := by
      rw [← g1]; simp only [List.sum_cons, List.sum_nil]; omega
    have v9 : vl 256 [x0, x1, x2, x3, x4, x5, x6, x7] = x0 + 256 * (x1 + 256 * (x2 + 256 * (x3 + 256 * (x4 + 256 * (x5 + 256 * (x6 + 256 * x7)))))) := rfl
    obtain ⟨w1, w2, w3, w4, w5⟩ := pc_by y0 y1 y2 y3 y4 y5 y6 y7 v9 rfl rfl rfl rfl rfl rfl
    exact ⟨hz8, w1, w2, w3, w4, by rw [w5, g2]⟩
theorem gb_lN {n p : Nat} (hn : n < 2 ^ 64) : gb (lN n) p = n.testBit p := by
  unfold gb
  rw [wb_tb, BitVec.getLsbD_ofNat]
  by_cases h : p < 64
  · simp [h]
  · have h2 : n < 2 ^ p := Nat.lt_of_lt_of_le hn (Nat.pow_le_pow_right (n := 2) (by decide) (show 64 ≤ p by omega))
    simp [h, Nat.testBit_lt_two_pow h2]
/-- bitCount -/
theorem e_bitCount (σ : ns_St) (x : Int64) : g_Long_bitCount σ x = some (nI (fb_ct (gb x) 64), σ) := by
  obtain ⟨n, hn, rfl⟩ := wb_of x
  obtain ⟨z7, z8, z9, z10, z11, z12, h0, h7, h8, h9, h10, h11, h12, b8, b9, b10, b11, b12, hc⟩ := pc_nat n hn
  have c1 : (6148914691236517205 : Int64) = lN 6148914691236517205 := by decide
  have c2 : (3689348814741910323 : Int64) = lN 3689348814741910323 := by decide
  have c3 : (1085102592571150095 : Int64) = lN 1085102592571150095 := by decide
  have s : ∀ (m k : Nat) (K : Int32), m < 2 ^ 64 → k < 64 → K = nI k → ((lN m).toUInt64 >>> (K.toInt64.toUInt64 &&& Int64.toUInt64 63)).toInt64 = lN (m / 2 ^ k) := fun m k K hm hk e => by rw [e]; exact wb_shr hm hk
  have hz7 : z7 < 2 ^ 64 := by omega
  unfold g_Long_bitCount
  simp only [ev_bnd]
  rw [s n 1 1 hn (by decide) rfl, c1, fb_andL, show n / 2 ^ 1 = n / 2 from rfl, lN_sub h0, ← h7, c2, fb_andL, s z7 2 2 hz7 (by decide) rfl, fb_andL, lN_add, show z7 / 2 ^ 2 = z7 / 4 from rfl, ← h8, s z8 4 4 (by omega) (by decide) rfl, lN_add, c3, fb_andL, show z8 / 2 ^ 4 = z8 / 16 from rfl, ← h9, s z9 8 8 (by omega) (by decide) rfl, lN_add, show z9 / 2 ^ 8 = z9 / 256 from rfl, ← h10, s z10 16 16 (by omega) (by decide) rfl, lN_add, show z10 / 2 ^ 16 = z10 / 65536 from rfl, ← h11, s z11 32 32 (by omega) (by decide) rfl, lN_add, show z11 / 2 ^ 32 = z11 / 4294967296 from rfl, ← h12, lN_i]
  have e : nI z12 &&& 127 = nI (z12 % 128) := by
    rw [show (127 : Int32) = nI 127 by decide, nx_and]
    congr 1
    exact Nat.and_two_pow_sub_one_eq_mod _ 7
  rw [e, hc]
  have : fb_ct (gb (lN n)) 64 = fb_ct (fun i => n.testBit i) 64 := fb_ct_cong (fun i _ => gb_lN hn)
  rw [this]
