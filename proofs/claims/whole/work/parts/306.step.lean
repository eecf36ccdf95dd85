/-! of the kit's families of bits: pasted -/
theorem ts_bit {w : Int64} {s : UInt64} {j : Nat} (hj : j < 64) (hs : s.toNat = j) : ((w.toUInt64 >>> s).toInt64 &&& 1) = 0 ↔ w.toBitVec.getLsbD j = false := by
  have e : (w.toUInt64 >>> s).toInt64.toBitVec = w.toBitVec >>> j := by
    apply BitVec.eq_of_toNat_eq
    show (w.toUInt64 >>> s).toNat = _
    rw [UInt64.toNat_shiftRight, hs, Nat.mod_eq_of_lt hj, BitVec.toNat_ushiftRight]
    rfl
  rw [← Int64.toBitVec_inj, Int64.toBitVec_and, e]
  show w.toBitVec >>> j &&& 1#64 = 0#64 ↔ _
  constructor
  · intro h
    have t := congrArg (fun x => x.getLsbD 0) h
    simpa using t
  · intro h
    apply BitVec.eq_of_getLsbD_eq
    intro i hi
    cases i with
    | zero => simp [h]
    | succ i => simp
theorem wb_c : ∀ k, k < 64 → ((nI k).toInt64 &&& 63) = lN k := by decide +kernel
theorem wb_cu : ∀ k, k < 64 → ((nI k).toInt64.toUInt64 &&& Int64.toUInt64 63) = UInt64.ofNat k := by decide +kernel
theorem wb_sm : ∀ k, k < 64 → (BitVec.ofNat 64 k).smod 64 = BitVec.ofNat 64 k := by decide +kernel
theorem ns_bc {m : Int64} {p : Nat} (hp : p < 64) : (lg_cmp (((m.toUInt64 >>> ((nI p).toInt64.toUInt64 &&& Int64.toUInt64 63)).toInt64) &&& 1) 0 = 0) ↔ gb m p = false := by
  rw [lg_cmp_eq, wb_cu p hp]
  exact ts_bit hp (by show (UInt64.ofNat p).toNat = p; rw [UInt64.toNat_ofNat']; exact Nat.mod_eq_of_lt (by omega))
/-! three fields side by side: NUMBER, PLACE, COUNT -/
def s3 (σ : ns_St) (a i : Nat) (v1 v2 v3 : Int32) : ns_St := (va_up σ.1 a (fun k => if k = i then v1 else if k = i + 1 then v2 else if k = i + 2 then v3 else σ.1 a k), σ.2.1, σ.2.2)
theorem s3_g1 (σ : ns_St) (a i : Nat) (v1 v2 v3 : Int32) : (s3 σ a i v1 v2 v3).1 a i = v1 := by simp [s3, va_up]
theorem s3_g2 (σ : ns_St) (a i : Nat) (v1 v2 v3 : Int32) : (s3 σ a i v1 v2 v3).1 a (i + 1) = v2 := by simp [s3, va_up]
theorem s3_g3 (σ : ns_St) (a i : Nat) (v1 v2 v3 : Int32) : (s3 σ a i v1 v2 v3).1 a (i + 2) = v3 := by simp [s3, va_up]
theorem s3_go (σ : ns_St) (a i : Nat) {k : Nat} (v1 v2 v3 : Int32) (h : k < i ∨ i + 2 < k) : (s3 σ a i v1 v2 v3).1 a k = σ.1 a k := by
  have h1 : k ≠ i := by omega
  have h2 : k ≠ i + 1 := by omega
  have h3 : k ≠ i + 2 := by omega
  simp [s3, va_up, h1, h2, h3]
theorem s3_ne (σ : ns_St) {a b : Nat} (i : Nat) (v1 v2 v3 : Int32) (h : b ≠ a) : (s3 σ a i v1 v2 v3).1 b = σ.1 b := va_up_ne _ _ h
theorem s3_J (σ : ns_St) (a i : Nat) (v1 v2 v3 : Int32) : (s3 σ a i v1 v2 v3).2.1 = σ.2.1 := rfl
theorem s3_R (σ : ns_St) (a i : Nat) (v1 v2 v3 : Int32) : (s3 σ a i v1 v2 v3).2.2 = σ.2.2 := rfl
theorem s3_self {σ : ns_St} {a i : Nat} {v1 v2 v3 : Int32} (h1 : σ.1 a i = v1) (h2 : σ.1 a (i + 1) = v2) (h3 : σ.1 a (i + 2) = v3) : s3 σ a i v1 v2 v3 = σ := by
  have : va_up σ.1 a (fun k => if k = i then v1 else if k = i + 1 then v2 else if k = i + 2 then v3 else σ.1 a k) = σ.1 := by
    funext b
    by_cases hb : b = a
    · subst hb
      rw [va_up_self]
      funext k
      by_cases k1 : k = i
      · subst k1; rw [if_pos rfl, h1]
      · rw [if_neg k1]
        by_cases k2 : k = i + 1
        · subst k2; rw [if_pos rfl, h2]
        · rw [if_neg k2]
          by_cases k3 : k = i + 2
          · subst k3; rw [if_pos rfl, h3]
          · rw [if_neg k3]
    · rw [va_up_ne _ _ hb]
  show (_, σ.2.1, σ.2.2) = σ
  rw [this]
theorem s3_s3 (σ : ns_St) (a i : Nat) (v1 v2 v3 w1 w2 w3 : Int32) : s3 (s3 σ a i v1 v2 v3) a i w1 w2 w3 = s3 σ a i w1 w2 w3 := by
  have : va_up (s3 σ a i v1 v2 v3).1 a (fun k => if k = i then w1 else if k = i + 1 then w2 else if k = i + 2 then w3 else (s3 σ a i v1 v2 v3).1 a k) = va_up σ.1 a (fun k => if k = i then w1 else if k = i + 1 then w2 else if k = i + 2 then w3 else σ.1 a k) := by
    funext b
    by_cases hb : b = a
    · subst hb
      rw [va_up_self, va_up_self]
      funext k
      by_cases k1 : k = i
      · rw [if_pos k1, if_pos k1]
      · rw [if_neg k1, if_neg k1]
        by_cases k2 : k = i + 1
        · rw [if_pos k2, if_pos k2]
        · rw [if_neg k2, if_neg k2]
          by_cases k3 : k = i + 2
          · rw [if_pos k3, if_pos k3]
          · rw [if_neg k3, if_neg k3, s3_go _ _ _ _ _ _ (by omega)]
    · rw [va_up_ne _ _ hb, va_up_ne _ _ hb, s3_ne _ _ _ _ _ hb]
  show (_, _, _) = (_, _, _)
  rw [this]
  rfl
theorem s3_put (σ : ns_St) (a i : Nat) (v1 v2 v3 w : Int32) : ns_pI (s3 σ a i v1 v2 v3) a i w = s3 σ a i w v2 v3 ∧ ns_pI (s3 σ a i v1 v2 v3) a (i + 1) w = s3 σ a i v1 w v3 ∧ ns_pI (s3 σ a i v1 v2 v3) a (i + 2) w = s3 σ a i v1 v2 w := by
  have key : ∀ (j : Nat) (u1 u2 u3 : Int32), (∀ k, (if k = j then w else (if k = i then v1 else if k = i + 1 then v2 else if k = i + 2 then v3 else σ.1 a k)) = (if k = i then u1 else if k = i + 1 then u2 else if k = i + 2 then u3 else σ.1 a k)) → ns_pI (s3 σ a i v1 v2 v3) a j w = s3 σ a i u1 u2 u3 := by
    intro j u1 u2 u3 hk
    have : va_up (s3 σ a i v1 v2 v3).1 a (va_up ((s3 σ a i v1 v2 v3).1 a) j w) = va_up σ.1 a (fun k => if k = i then u1 else if k = i + 1 then u2 else if k = i + 2 then u3 else σ.1 a k) := by
      funext b
      by_cases hb : b = a
      · subst hb
        rw [va_up_self, va_up_self]
        funext k
        rw [← hk k]
        simp [va_up, s3]
      · rw [va_up_ne _ _ hb, va_up_ne _ _ hb, s3_ne _ _ _ _ _ hb]
    show (_, _, _) = (_, _, _)
    rw [this]
    rfl
  refine ⟨key i _ _ _ fun k => ?_, key (i + 1) _ _ _ fun k => ?_, key (i + 2) _ _ _ fun k => ?_⟩
  · by_cases k1 : k = i
    · rw [if_pos k1, if_pos k1]
    · rw [if_neg k1, if_neg k1, if_neg k1]
  · by_cases k1 : k = i + 1
    · rw [if_pos k1, if_neg (by omega), if_pos k1]
    · rw [if_neg k1, if_neg k1, if_neg k1]
  · by_cases k1 : k = i + 2
    · rw [if_pos k1, if_neg (by omega), if_neg (by omega), if_pos k1]
    · rw [if_neg k1, if_neg k1, if_neg k1]
theorem s3_same {σ : ns_St} {a i : Nat} {v1 v2 v3 : Int32} (h : scr a) : Same σ (s3 σ a i v1 v2 v3) := by
  refine ⟨fun x hx _ => s3_ne σ i v1 v2 v3 (fun e => hx (e ▸ h)), fun j _ => ?_, fun _ _ => rfl, id⟩
  rw [s3_ne σ i v1 v2 v3 (fun e => by subst e; rcases h with h | h | h <;> omega)]
theorem s3_same65 {σ : ns_St} {v1 v2 v3 : Int32} : Same σ (s3 σ 65 26 v1 v2 v3) := by
  refine ⟨fun x _ hx => s3_ne σ 26 v1 v2 v3 hx, fun j hj => ?_, fun _ _ => rfl, id⟩
  unfold scf at hj
  exact s3_go _ _ _ _ _ _ (by omega)
/-! A STEP, by numbers: NUMBER, COUNT and whether it STOPS behind it; s, i, c: a STONE, an INN, a CLIFF at the new PLACE; b: besides -/
def wtK (K : Nat) : Nat := if K = 2 ∨ K = 5 then 0 else 1
def cnN (K C : Nat) (s : Bool) (b : Nat) : Nat := C + (1 + b) + (if s then wtK K else 0)
def stopN (K N C1 : Nat) (i c : Bool) : Bool := (decide (N ≤ C1) && !(decide (K = 3) && c)) || (i && decide (K = 5))
def stN (K N C : Nat) (s i c : Bool) (b : Nat) : Nat × Nat × Bool :=
  (if (i && decide (K = 4)) = true then (if 2 * N < 64 then 2 * N else 64) else N, if stopN K N (cnN K C s b) i c = true then 0 else cnN K C s b, stopN K N (cnN K C s b) i c)
