/-! of the kit's families of bits: pasted -/
theorem wb_tb (n : Nat) : (lN n).toBitVec = BitVec.ofNat 64 n := rfl
theorem wb_inj {a b : Int64} (h : a.toBitVec = b.toBitVec) : a = b := Int64.toBitVec_inj.mp h
theorem wb_tn {n : Nat} (h : n < 2 ^ 64) : (lN n).toBitVec.toNat = n := by rw [wb_tb, BitVec.toNat_ofNat, Nat.mod_eq_of_lt h]
theorem wb_of (x : Int64) : ∃ n, n < 2 ^ 64 ∧ x = lN n := ⟨x.toBitVec.toNat, x.toBitVec.isLt, wb_inj (by rw [wb_tb]; simp)⟩
theorem wb_pw {a b : Nat} (h : a ≤ b) : 2 ^ b = 2 ^ a * 2 ^ (b - a) := by rw [← Nat.pow_add]; congr 1; omega
theorem wb_lt2 {a b : Nat} (h : a < b) : 2 ^ a < 2 ^ b := Nat.pow_lt_pow_right (by decide) h
theorem wb_mod (n : Nat) : lN n = lN (n % 2 ^ 64) := wb_inj (by rw [wb_tb, wb_tb]; apply BitVec.eq_of_toNat_eq; rw [BitVec.toNat_ofNat, BitVec.toNat_ofNat, Nat.mod_mod])
theorem wb_shr {n k : Nat} (hn : n < 2 ^ 64) (hk : k < 64) : ((lN n).toUInt64 >>> ((nI k).toInt64.toUInt64 &&& Int64.toUInt64 63)).toInt64 = lN (n / 2 ^ k) := by
  rw [wb_cu k hk]
  apply wb_inj
  apply BitVec.eq_of_toNat_eq
  show ((lN n).toUInt64 >>> UInt64.ofNat k).toNat = (BitVec.ofNat 64 _).toNat
  have h1 : (UInt64.ofNat k).toNat = k := by
    show (BitVec.ofNat 64 k).toNat = k
    rw [BitVec.toNat_ofNat, Nat.mod_eq_of_lt (by omega)]
  have h2 : (lN n).toUInt64.toNat = n := wb_tn hn
  rw [UInt64.toNat_shiftRight, h1, h2, Nat.mod_eq_of_lt hk, Nat.shiftRight_eq_div_pow, BitVec.toNat_ofNat, Nat.mod_eq_of_lt (Nat.lt_of_le_of_lt (Nat.div_le_self _ _) hn)]
theorem wb_shl (n : Nat) {k : Nat} (hk : k < 64) : lN n <<< ((nI k).toInt64 &&& 63) = lN (n * 2 ^ k) := by
  rw [wb_c k hk]
  apply wb_inj
  rw [Int64.toBitVec_shiftLeft, wb_tb, wb_tb, wb_tb, wb_sm k hk]
  apply BitVec.eq_of_toNat_eq
  rw [BitVec.shiftLeft_eq', BitVec.toNat_shiftLeft, BitVec.toNat_ofNat, BitVec.toNat_ofNat, BitVec.toNat_ofNat, Nat.mod_eq_of_lt (show k < 2 ^ 64 by omega), Nat.shiftLeft_eq, Nat.mul_mod, Nat.mod_mod, ← Nat.mul_mod]
theorem wb_and {a b : Nat} (ha : a < 2 ^ 64) (hb : b < 2 ^ 64) : lN a &&& lN b = lN (a &&& b) := by
  apply wb_inj
  rw [Int64.toBitVec_and, wb_tb, wb_tb, wb_tb]
  apply BitVec.eq_of_toNat_eq
  rw [BitVec.toNat_and, BitVec.toNat_ofNat, BitVec.toNat_ofNat, BitVec.toNat_ofNat, Nat.mod_eq_of_lt ha, Nat.mod_eq_of_lt hb, Nat.mod_eq_of_lt (Nat.and_lt_two_pow _ hb)]
/-! how many bits: the JDK's bitCount -/
def vl (b : Nat) : List Nat → Nat
  | [] => 0
  | d :: ds => d + b * vl b ds
theorem and_split {w a b x y : Nat} (ha : a < 2 ^ w) (hb : b < 2 ^ w) : (a + 2 ^ w * x) &&& (b + 2 ^ w * y) = (a &&& b) + 2 ^ w * (x &&& y) := by
  apply Nat.eq_of_testBit_eq
  intro j
  have hab : a &&& b < 2 ^ w := Nat.and_lt_two_pow _ hb
  rw [Nat.testBit_and, Nat.add_comm a, Nat.add_comm b, Nat.add_comm (a &&& b), Nat.testBit_two_pow_mul_add _ ha, Nat.testBit_two_pow_mul_add _ hb, Nat.testBit_two_pow_mul_add _ hab]
  by_cases h : j < w
  · simp [h, Nat.testBit_and]
  · simp [h, Nat.testBit_and]
theorem d4 : ∀ d, d < 4 → ∀ r, r < 2 → (d / 2 + 2 * r) &&& 1 = d / 2 := by decide
theorem pc_1 : ∀ ds : List Nat, (∀ d ∈ ds, d < 4) → (vl 4 ds / 2) &&& vl 4 (List.replicate ds.length 1) = vl 4 (ds.map (· / 2))
  | [], _ => rfl
  | d :: ds, h => by
    have hd : d < 4 := h d List.mem_cons_self
    have ih := pc_1 ds (fun x hx => h x (List.mem_cons_of_mem _ hx))
    show ((d + 4 * vl 4 ds) / 2) &&& (1 + 4 * vl 4 (List.replicate ds.length 1)) = d / 2 + 4 * vl 4 (ds.map (· / 2))
    rw [← ih, show (d + 4 * vl 4 ds) / 2 = (d / 2 + 2 * (vl 4 ds % 2)) + 2 ^ 2 * (vl 4 ds / 2) by omega, show (4 : Nat) = 2 ^ 2 from rfl, and_split (by omega) (by decide), d4 d hd _ (by omega)]
theorem pc_1s : ∀ ds : List Nat, (∀ d ∈ ds, d < 4) → vl 4 ds - vl 4 (ds.map (· / 2)) = vl 4 (ds.map (fun d => d - d / 2)) ∧ vl 4 (ds.map (· / 2)) ≤ vl 4 ds
  | [], _ => ⟨rfl, Nat.le_refl _⟩
  | d :: ds, h => by
    obtain ⟨i1, i2⟩ := pc_1s ds (fun x hx => h x (List.mem_cons_of_mem _ hx))
    show (d + 4 * vl 4 ds) - (d / 2 + 4 * vl 4 (ds.map (· / 2))) = (d - d / 2) + 4 * vl 4 (ds.map (fun d => d - d / 2)) ∧ d / 2 + 4 * vl 4 (ds.map (· / 2)) ≤ d + 4 * vl 4 ds
    omega
theorem d16a : ∀ e, e < 16 → e &&& 3 = e % 4 := by decide
theorem d16b : ∀ e, e < 16 → ∀ r, r < 4 → (e / 4 + 4 * r) &&& 3 = e / 4 := by decide
theorem pc_2a : ∀ es : List Nat, (∀ e ∈ es, e < 16) → vl 16 es &&& vl 16 (List.replicate es.length 3) = vl 16 (es.map (· % 4))
  | [], _ => rfl
  | e :: es, h => by
    have he : e < 16 := h e List.mem_cons_self
    have ih := pc_2a es (fun x hx => h x (List.mem_cons_of_mem _ hx))
    show (e + 16 * vl 16 es) &&& (3 + 16 * vl 16 (List.replicate es.length 3)) = e % 4 + 16 * vl 16 (es.map (· % 4))
    rw [← ih, show (16 : Nat) = 2 ^ 4 from rfl, and_split (by omega) (by decide), d16a e he]
theorem pc_2b : ∀ es : List Nat, (∀ e ∈ es, e < 16) → (vl 16 es / 4) &&& vl 16 (List.replicate es.length 3) = vl 16 (es.map (· / 4))
  | [], _ => rfl
  | e :: es, h => by
    have he : e < 16 := h e List.mem_cons_self
    have ih := pc_2b es (fun x hx => h x (List.mem_cons_of_mem _ hx))
    show ((e + 16 * vl 16 es) / 4) &&& (3 + 16 * vl 16 (List.replicate es.length 3)) = e / 4 + 16 * vl 16 (es.map (· / 4))
    rw [← ih, show (e + 16 * vl 16 es) / 4 = (e / 4 + 4 * (vl 16 es % 4)) + 2 ^ 4 * (vl 16 es / 4) by omega, show (16 : Nat) = 2 ^ 4 from rfl, and_split (by omega) (by decide), d16b e he _ (by omega)]
theorem pc_2s : ∀ es : List Nat, vl 16 (es.map (· % 4)) + vl 16 (es.map (· / 4)) = vl 16 (es.map (fun e => e % 4 + e / 4))
  | [] => rfl
  | e :: es => by
    have ih := pc_2s es
    show (e % 4 + 16 * vl 16 (es.map (· % 4))) + (e / 4 + 16 * vl 16 (es.map (· / 4))) = (e % 4 + e / 4) + 16 * vl 16 (es.map (fun e => e % 4 + e / 4))
    omega
/-- pairs of digits -/
def pr (b : Nat) : List Nat → List Nat
  | x :: y :: l => (x + b * y) :: pr b l
  | l => l
theorem pr_vl {b : Nat} : ∀ l : List Nat, l.length % 2 = 0 → vl (b * b) (pr b l) = vl b l
  | [], _ => rfl
  | [x], h => by simp at h
  | x :: y :: l, h => by
    have ih := pr_vl (b := b) l (by simp only [List.length_cons] at h; omega)
    show (x + b * y) + b * b * vl (b * b) (pr b l) = x + b * (y + b * vl b l)
    rw [ih, Nat.mul_add, Nat.mul_assoc, Nat.add_assoc]
theorem d256 : ∀ a, a < 16 → ∀ c, c < 16 → a + c < 16 → ∀ r, r < 16 → ((a + 16 * c) + c + 16 * r) % 16 = a + c := by intro a _ c _ h r _; omega
theorem pc_3 : ∀ gs : List Nat, (∀ g ∈ gs, g % 16 ≤ 4 ∧ g / 16 ≤ 4) → (vl 256 gs + vl 256 gs / 16) &&& vl 256 (List.replicate gs.length 15) = vl 256 (gs.map (fun g => g % 16 + g / 16)) ∧ vl 256 gs % 16 ≤ 4
  | [], _ => ⟨rfl, by decide⟩
  | g :: gs, h => by
    obtain ⟨hg1, hg2⟩ := h g List.mem_cons_self
    obtain ⟨ih, iv⟩ := pc_3 gs (fun x hx => h x (List.mem_cons_of_mem _ hx))
    refine ⟨?_, ?_⟩
    · show ((g + 256 * vl 256 gs) + (g + 256 * vl 256 gs) / 16) &&& (15 + 256 * vl 256 (List.replicate gs.length 15)) = (g % 16 + g / 16) + 256 * vl 256 (gs.map (fun g => g % 16 + g / 16))
      rw [← ih, show (g + 256 * vl 256 gs) + (g + 256 * vl 256 gs) / 16 = (g + g / 16 + 16 * (vl 256 gs % 16)) + 2 ^ 8 * (vl 256 gs + vl 256 gs / 16) by omega, show (256 : Nat) = 2 ^ 8 from rfl, and_split (by omega) (by decide)]
      congr 1
      have : (g + g / 16 + 16 * (vl 256 gs % 16)) &&& 15 = (g + g / 16 + 16 * (vl 256 gs % 16)) % 16 := Nat.and_two_pow_sub_one_eq_mod _ 4
      rw [show (2 ^ 8 : Nat) = 256 from rfl, this]
      omega
    · show (g + 256 * vl 256 gs) % 16 ≤ 4
      omega
