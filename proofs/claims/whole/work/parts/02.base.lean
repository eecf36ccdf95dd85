/-! the memory of the whole system: ints, longs and references of every cell, by the cell's number and the place in it -/
abbrev ns_St : Type := (Nat → Nat → Int32) × (Nat → Nat → Int64) × (Nat → Nat → Option Nat)
/-- where the cells begin, the classes, the array classes, the heap at the start -/
abbrev ns_G : Type := Nat × va_G × (Nat → ClassId) × Heap × (Nat → Nat) × (Nat → Nat) × Nat × Option Nat
/-- where a String constant lies, and its bytes -/
abbrev ns_sK (G : ns_G) (w : Nat) : Nat := G.2.2.2.2.1 w
abbrev ns_sV (G : ns_G) (w : Nat) : Nat := G.2.2.2.2.2.1 w
def ns_rf (b : Nat) (x : Option Nat) : Option Nat := x.map (fun a => b + a)
def ns_fv (b : Nat) (σ : ns_St) (a k t : Nat) : Value := if t = 0 then .int (σ.1 a k) else if t = 1 then .long (σ.2.1 a k) else va_rf (ns_rf b (σ.2.2 a k))
def ns_fl (b : Nat) (σ : ns_St) (a ci : Nat) : List Value := (ns_ft ci).mapIdx (fun k t => ns_fv b σ a k t)
def ns_cE (G : ns_G) (σ : ns_St) (a : Nat) : va_E :=
  if ns_kd a < 10 then .inr (ns_kd a, ns_fl G.1 σ a (ns_kd a))
  else .inl (G.2.2.1 (ns_kd a), ns_ln a, if ns_kd a = 10 then .inl (σ.1 a) else if ns_kd a = 11 then .inr (.inl (σ.2.1 a)) else .inr (.inr (.inr (.inr (fun k => ns_rf G.1 (σ.2.2 a k))))))
def ns_wl (G : ns_G) (n : Nat) (σ : ns_St) : va_W := (List.range n).map (fun k => (G.1 + k, ns_cE G σ k))
def ns_Wd (G : ns_G) (n : Nat) (σ : ns_St) (H : Heap) : Prop := (G.1 ≤ H.size ∧ (n < ns_N → H.size = G.1 + n)) ∧ va_P G.2.1 ns_cl (ns_wl G n σ) H ∧ ∀ q, q < G.1 → H[q]? = G.2.2.2.1[q]?
abbrev ns_A (G : ns_G) : Nat → Prop := fun q => G.1 ≤ q
def ns_tys (G : ns_G) : List (ClassId × FieldType) := [(G.2.2.1 10, .int), (G.2.2.1 11, .long), (G.2.2.1 12, .object "NinthStep$Mule"), (G.2.2.1 13, .object "NinthStep$Shelf")]
def ns_pI (σ : ns_St) (a k : Nat) (v : Int32) : ns_St := (va_up σ.1 a (va_up (σ.1 a) k v), σ.2.1, σ.2.2)
def ns_pJ (σ : ns_St) (a k : Nat) (v : Int64) : ns_St := (σ.1, va_up σ.2.1 a (va_up (σ.2.1 a) k v), σ.2.2)
def ns_pR (σ : ns_St) (a k : Nat) (v : Option Nat) : ns_St := (σ.1, σ.2.1, va_up σ.2.2 a (va_up (σ.2.2 a) k v))
theorem ns_wl_at (G : ns_G) {n : Nat} (σ : ns_St) {a : Nat} (h : a < n) : (ns_wl G n σ)[a]? = some (G.1 + a, ns_cE G σ a) := by
  simp [ns_wl, h]
theorem ns_wl_len (G : ns_G) (n : Nat) (σ : ns_St) : (ns_wl G n σ).length = n := by simp [ns_wl]
theorem ns_wD (G : ns_G) (n : Nat) (σ : ns_St) : va_D (ns_A G) (ns_wl G n σ) := by
  have key : ∀ (k : Nat) (q : Nat × va_E), (ns_wl G n σ)[k]? = some q → q.1 = G.1 + k := by
    intro k q hk
    have hl : k < n := by
      have := (List.getElem?_eq_some_iff.mp hk).1
      rwa [ns_wl_len] at this
    rw [ns_wl_at G σ hl] at hk
    cases hk
    rfl
  refine ⟨fun i j p q hi hj h => ?_, fun k q hk => ?_⟩
  · have h1 := key i p hi
    have h2 := key j q hj
    omega
  · have h1 := key k q hk
    show G.1 ≤ q.1
    omega
/-- one cell has changed -/
theorem ns_set {G : ns_G} {n : Nat} {σ σ' : ns_St} {H H' : Heap} {a : Nat} (hW : ns_Wd G n σ H) (hsz : H'.size = H.size) (hoth : ∀ q, q ≠ G.1 + a → H'[q]? = H[q]?)
    (hnew : va_at G.2.1 ns_cl (G.1 + a, ns_cE G σ' a) H') (hsame : ∀ b, b ≠ a → ns_cE G σ' b = ns_cE G σ b) : ns_Wd G n σ' H' := by
  obtain ⟨h1, h2, h3⟩ := hW
  refine ⟨by rw [hsz]; exact h1, fun k q hk => ?_, fun q hq => by rw [hoth q (by omega)]; exact h3 q hq⟩
  have hl : k < n := by
    have := (List.getElem?_eq_some_iff.mp hk).1
    rwa [ns_wl_len] at this
  rw [ns_wl_at G σ' hl] at hk
  cases hk
  by_cases hka : k = a
  · subst hka; exact hnew
  · have := h2 k _ (ns_wl_at G σ hl)
    rw [hsame k hka]
    exact this.kept (hoth _ (by show G.1 + k ≠ G.1 + a; omega))
/-- a new cell -/
theorem ns_push {G : ns_G} {n : Nat} {σ σ' : ns_St} {H H' : Heap} (hW : ns_Wd G n σ H) (hsz : H'.size = G.1 + n + 1) (hoth : ∀ q, q < G.1 + n → H'[q]? = H[q]?)
    (hnew : va_at G.2.1 ns_cl (G.1 + n, ns_cE G σ' n) H') (hsame : ∀ b, b ≠ n → ns_cE G σ' b = ns_cE G σ b) : ns_Wd G (n + 1) σ' H' := by
  obtain ⟨h1, h2, h3⟩ := hW
  refine ⟨⟨by omega, fun _ => by omega⟩, fun k q hk => ?_, fun q hq => by rw [hoth q (by omega)]; exact h3 q hq⟩
  have hl : k < n + 1 := by
    have := (List.getElem?_eq_some_iff.mp hk).1
    rwa [ns_wl_len] at this
  rw [ns_wl_at G σ' hl] at hk
  cases hk
  by_cases hka : k = n
  · subst hka; exact hnew
  · have := h2 k _ (ns_wl_at G σ (by omega))
    rw [hsame k hka]
    exact this.kept (hoth _ (by show G.1 + k < G.1 + n; omega))
theorem ns_cE_obj (G : ns_G) (σ : ns_St) {a ci : Nat} (h : ns_kd a = ci) (hci : ci < 10) : ns_cE G σ a = .inr (ci, ns_fl G.1 σ a ci) := by
  subst h; simp [ns_cE, hci]
theorem ns_cE_I (G : ns_G) (σ : ns_St) {a : Nat} (h : ns_kd a = 10) : ns_cE G σ a = .inl (G.2.2.1 10, ns_ln a, .inl (σ.1 a)) := by
  simp [ns_cE, h]
theorem ns_cE_J (G : ns_G) (σ : ns_St) {a : Nat} (h : ns_kd a = 11) : ns_cE G σ a = .inl (G.2.2.1 11, ns_ln a, .inr (.inl (σ.2.1 a))) := by
  simp [ns_cE, h]
theorem ns_cE_R (G : ns_G) (σ : ns_St) {a k : Nat} (h : ns_kd a = k) (hk : k = 12 ∨ k = 13) : ns_cE G σ a = .inl (G.2.2.1 k, ns_ln a, .inr (.inr (.inr (.inr (fun k => ns_rf G.1 (σ.2.2 a k)))))) := by
  subst h; rcases hk with hk | hk <;> simp [ns_cE, hk]
theorem ns_fl_at (b : Nat) (σ : ns_St) (a ci k t : Nat) (h : (ns_ft ci)[k]? = some t) : (ns_fl b σ a ci)[k]? = some (ns_fv b σ a k t) := by
  simp [ns_fl, List.getElem?_mapIdx, h]
theorem ns_cE_ne {G : ns_G} {σ σ' : ns_St} {b : Nat} (h1 : σ'.1 b = σ.1 b) (h2 : σ'.2.1 b = σ.2.1 b) (h3 : σ'.2.2 b = σ.2.2 b) : ns_cE G σ' b = ns_cE G σ b := by
  simp only [ns_cE, ns_fl, ns_fv, h1, h2, h3]
theorem ns_pI_ne {G : ns_G} {σ : ns_St} {a k : Nat} {v : Int32} : ∀ b, b ≠ a → ns_cE G (ns_pI σ a k v) b = ns_cE G σ b := fun b h => ns_cE_ne (va_up_ne _ _ h) rfl rfl
theorem ns_pJ_ne {G : ns_G} {σ : ns_St} {a k : Nat} {v : Int64} : ∀ b, b ≠ a → ns_cE G (ns_pJ σ a k v) b = ns_cE G σ b := fun b h => ns_cE_ne rfl (va_up_ne _ _ h) rfl
theorem ns_pR_ne {G : ns_G} {σ : ns_St} {a k : Nat} {v : Option Nat} : ∀ b, b ≠ a → ns_cE G (ns_pR σ a k v) b = ns_cE G σ b := fun b h => ns_cE_ne rfl rfl (va_up_ne _ _ h)
theorem ns_fl_set (b : Nat) {σ σ' : ns_St} (a ci k t : Nat) (h : (ns_ft ci)[k]? = some t) (hne : ∀ j t', j ≠ k → ns_fv b σ' a j t' = ns_fv b σ a j t') : ns_fl b σ' a ci = (ns_fl b σ a ci).set k (ns_fv b σ' a k t) := by
  apply List.ext_getElem?
  intro j
  rw [List.getElem?_set]
  by_cases hj : k = j
  · subst hj
    rw [ns_fl_at b σ' a ci k t h]
    have hl : k < (ns_fl b σ a ci).length := (List.getElem?_eq_some_iff.mp (ns_fl_at b σ a ci k t h)).1
    simp [hl]
  · rw [if_neg hj]
    simp only [ns_fl, List.getElem?_mapIdx]
    cases (ns_ft ci)[j]? with
    | none => rfl
    | some t' => simp [hne j t' (Ne.symm hj)]
theorem ns_fl_pI (b : Nat) (σ : ns_St) (a ci k : Nat) (v : Int32) (h : (ns_ft ci)[k]? = some 0) : ns_fl b (ns_pI σ a k v) a ci = (ns_fl b σ a ci).set k (.int v) := by
  have := ns_fl_set b (σ := σ) (σ' := ns_pI σ a k v) a ci k 0 h (fun j t' hj => by simp [ns_fv, ns_pI, va_up, hj])
  rw [this]
  simp [ns_fv, ns_pI, va_up]
theorem ns_fl_pJ (b : Nat) (σ : ns_St) (a ci k : Nat) (v : Int64) (h : (ns_ft ci)[k]? = some 1) : ns_fl b (ns_pJ σ a k v) a ci = (ns_fl b σ a ci).set k (.long v) := by
  have := ns_fl_set b (σ := σ) (σ' := ns_pJ σ a k v) a ci k 1 h (fun j t' hj => by simp [ns_fv, ns_pJ, va_up, hj])
  rw [this]
  simp [ns_fv, ns_pJ, va_up]
theorem ns_fl_pR (b : Nat) (σ : ns_St) (a ci k : Nat) (v : Option Nat) (h : (ns_ft ci)[k]? = some 2) : ns_fl b (ns_pR σ a k v) a ci = (ns_fl b σ a ci).set k (va_rf (ns_rf b v)) := by
  have := ns_fl_set b (σ := σ) (σ' := ns_pR σ a k v) a ci k 2 h (fun j t' hj => by simp [ns_fv, ns_pR, va_up, hj])
  rw [this]
  simp [ns_fv, ns_pR, va_up]
def ns_isNest (w : Cond) : Bool := match w with
  | .fieldLinkNest .. => true
  | .methodLinkNest .. => true
  | _ => false
def ns_TB : List Cond := lw_tbl.filter goodWord
def ns_NB : List Cond := lw_tbl.filter ns_isNest
theorem ns_tb {w : Cond} (h : w ∈ tables_1) (hg : goodWord w = true) : w ∈ ns_TB := List.mem_filter.mpr ⟨List.mem_append_right _ h, hg⟩
theorem ns_tbS {w : Cond} (h : w ∈ k2_sels lw_privs) (hg : goodWord w = true) : w ∈ ns_TB := List.mem_filter.mpr ⟨List.mem_append_left _ h, hg⟩
theorem ns_nb {w : Cond} (h : w ∈ tables_1) (hg : ns_isNest w = true) : w ∈ ns_NB := List.mem_filter.mpr ⟨List.mem_append_right _ h, hg⟩
/-- the String constants: length and bytes -/
def ns_sL : List Nat := [6, 5, 3, 5, 4, 4, 2, 5]
def ns_sB : List (List Int32) := [[108, 101, 110, 103, 116, 104], [115, 116, 111, 110, 101], [105, 110, 110], [99, 108, 105, 102, 102], [118, 105, 101, 119], [109, 117, 108, 101], [97, 116], [99, 111, 117, 110, 116]]
def ns_str : List (String × Nat × String × Nat) := [("NinthStep$Tape", 38, "length", 0), ("NinthStep$Tape", 47, "stone", 1), ("NinthStep$Tape", 59, "inn", 2), ("NinthStep$Tape", 61, "cliff", 3), ("NinthStep$Tape", 63, "view", 4), ("NinthStep$Tape", 65, "mule", 5), ("NinthStep$Tape", 109, "at", 6), ("NinthStep$Tape", 113, "count", 7), ("NinthStepModel", 155, "length", 0), ("NinthStepModel", 162, "stone", 1), ("NinthStepModel", 164, "inn", 2), ("NinthStepModel", 166, "cliff", 3), ("NinthStepModel", 168, "view", 4), ("NinthStepModel", 170, "mule", 5), ("NinthStepModel", 172, "at", 6), ("NinthStepModel", 173, "count", 7)]
def ns_abv (j : Nat) : Int32 := ([-1, 0, 0, 1, 0, 2] : List Int32).getD j 0
/-- what lies outside the cells: the class's table, the JDK's statics, the String constants -/
def ns_X (G : ns_G) (U : State) : Prop :=
  va_Z "NinthStep" "ABOVE" "[I" (.ref G.2.2.2.2.2.2.1) (ns_A G) U G.2.2.2.1 ∧ va_T .int G.2.2.2.2.2.2.1 6 (fun j => .int (ns_abv j)) (ns_A G) U G.2.2.2.1 ∧
  va_Z "java/lang/String" "COMPACT_STRINGS" "Z" (.int 1) (ns_A G) U G.2.2.2.1 ∧ va_Z "jdk/internal/util/Preconditions" "SIOOBE_FORMATTER" "Ljava/util/function/BiFunction;" (va_rf G.2.2.2.2.2.2.2) (ns_A G) U G.2.2.2.1 ∧
  vk_S 8 ns_sL ns_sB G.2.2.2.2.1 G.2.2.2.2.2.1 (ns_A G) U G.2.2.2.1 ∧ ∀ q ∈ ns_str, vk_R q.1 q.2.1 q.2.2.1 (ns_sK G q.2.2.2) U
/-- what stays so in every state: the classes, the nest mates' links -/
def ns_K (G : ns_G) (U : State) : Prop := va_K G.2.1 ns_cl (ns_tys G) U ∧ (∀ w ∈ ns_NB, va_Nw w U) ∧ va_AO "NinthStep$Mule" U ∧ va_AO "NinthStep$Shelf" U ∧ ns_X G U
theorem ns_X.warm {G : ns_G} {s U : State} (hW : s.WarmedH U.vm) (h : ns_X G s) : ns_X G U :=
  ⟨h.1.moved hW.alike, h.2.1.moved hW.alike, h.2.2.1.moved hW.alike, h.2.2.2.1.moved hW.alike, h.2.2.2.2.1.moved hW.alike, fun q hq => (h.2.2.2.2.2 q hq).warm hW⟩
theorem ns_X.same {G : ns_G} {s U : State} (hvm : s.vm = U.vm) (h : ns_X G s) : ns_X G U := by
  have ha : s.vm.Alike U.vm := by rw [hvm]; exact Vm.Alike.refl _
  exact ⟨h.1.moved ha, h.2.1.moved ha, h.2.2.1.moved ha, h.2.2.2.1.moved ha, h.2.2.2.2.1.moved ha, fun q hq => (h.2.2.2.2.2 q hq).same hvm.symm⟩
theorem ns_K.warm {G : ns_G} {s U : State} (hW : s.WarmedH U.vm) (h : ns_K G s) : ns_K G U := by
  refine ⟨va_K.moved hW.alike h.1, fun w hw => ?_, va_AO.moved hW.alike h.2.2.1, va_AO.moved hW.alike h.2.2.2.1, h.2.2.2.2.warm hW⟩
  have h1 := h.2.1 w hw
  have h2 := (List.mem_filter.mp hw).2
  cases w with
  | fieldLinkNest a i b n d hh => exact va_Nw.warmF hW h1
  | methodLinkNest a i x hh => exact va_Nw.warmM hW h1
  | _ => cases h2
theorem ns_K.same {G : ns_G} {s U : State} (hvm : s.vm = U.vm) (h : ns_K G s) : ns_K G U := by
  have ha : s.vm.Alike U.vm := by rw [hvm]; exact Vm.Alike.refl _
  refine ⟨va_K.moved ha h.1, fun w hw => ?_, va_AO.moved ha h.2.2.1, va_AO.moved ha h.2.2.2.1, h.2.2.2.2.same hvm⟩
  have h1 := h.2.1 w hw
  have h2 := (List.mem_filter.mp hw).2
  cases w with
  | fieldLinkNest a i b n d hh => exact va_Nw.same rfl hvm h1
  | methodLinkNest a i x hh => exact va_Nw.same rfl hvm h1
  | _ => cases h2
def ns_Cx (G : ns_G) (p : Program) (s : State) (m : MethodId) (args : Array Value) (meth : Method) (c : Code) (cc : ByteArray) (own : String) (nL : Nat) : Prop :=
  p.tables.exec = Jvm.exec ∧ c.code = cc ∧ c.maxLocals = nL ∧ s.vm.findClass own = some m.cls ∧ (∀ w ∈ ns_TB, w.before args s = true) ∧ ns_K G s ∧ meth.locks = false ∧ G.1 ≤ s.heap.size
/-- the machine, at pc with these locals and this stack, the memory σ of n cells in the heap, comes to Q -/
def VV (G : ns_G) (p : Program) (l : Launch) (e : Env) (R : Room) (s : State) (m : MethodId) (args : Array Value) (below : List Frame) (meth : Method) (c : Code) (nL cells slots : Nat) (Q : State → Prop) (n : Nat) (σ : ns_St) (pc : Nat) (lv : List (Nat × Value)) (st : List Value) : Prop :=
  ∀ (H : Heap) (locs : List Loc) (ls : Array Slot), ns_Wd G n σ H → va_S (ns_A G) s.heap H locs → lv_has ls nL lv → W p l e R s m args below meth c H locs cells slots Q (F0 m pc ls st)
def ns_Qc (G : ns_G) (o : Option Value) (n : Nat) (σ : ns_St) : Array Value → State → Outcome → State → Prop := fun _ st oc t => oc = .returned o ∧ ns_Wd G n σ t.heap ∧ va_F (ns_A G) st t
/-- a method's contract: with these arguments, in this memory, it answers o and leaves that memory -/
def ns_ok (G : ns_G) (l : Launch) (y : MethodName) (cc : ByteArray) (maxL : Nat) (ret : Option FieldType) (fr lo mc ms : Nat) (av : List Value) (n : Nat) (σ : ns_St) (o : Option Value) (n' : Nat) (σ' : ns_St) : Prop :=
  Met l y (.code y cc maxL ret :: ns_TB) { frames := fr, cells := mc, slots := ms, locals := lo } (va_Pc av (fun U => ns_Wd G n σ U.heap ∧ ns_K G U)) (ns_Qc G o n' σ') mc ms (ns_A G)
def bnd {α β : Type} (v : α) (f : α → Option β) : Option β := f v
theorem bnd_e {α β : Type} {v : α} {f : α → Option β} {r : Option β} (h : bnd v f = r) : ∃ x, x = v ∧ f x = r := ⟨v, rfl, h⟩
def grd {β : Type} (c : Prop) [Decidable c] (f : Option β) : Option β := if c then f else none
theorem grd_e {β : Type} {c : Prop} [Decidable c] {f : Option β} {r : β} (h : grd c f = some r) : c ∧ f = some r := by
  unfold grd at h
  by_cases hc : c
  · rw [if_pos hc] at h; exact ⟨hc, h⟩
  · rw [if_neg hc] at h; cases h
def drf {β : Type} (x : Option Nat) (f : Nat → Option β) : Option β := x.bind f
theorem drf_e {β : Type} {x : Option Nat} {f : Nat → Option β} {r : β} (h : drf x f = some r) : ∃ b, x = some b ∧ f b = some r := Option.bind_eq_some_iff.mp h
def cll {α β : Type} (x : Option α) (f : α → Option β) : Option β := x.bind f
theorem cll_e {α β : Type} {x : Option α} {f : α → Option β} {r : β} (h : cll x f = some r) : ∃ b, x = some b ∧ f b = some r := Option.bind_eq_some_iff.mp h
def onul {β : Type} (x : Option Nat) (a : Option β) (f : Nat → Option β) : Option β := match x with
  | none => a
  | some b => f b
def ite2 {β : Type} (c : Prop) [Decidable c] (a b : Option β) : Option β := if c then a else b
theorem ite2_t {β : Type} {c : Prop} [Decidable c] {a b r : Option β} (h : ite2 c a b = r) (hc : c) : a = r := by rw [ite2, if_pos hc] at h; exact h
theorem ite2_f {β : Type} {c : Prop} [Decidable c] {a b r : Option β} (h : ite2 c a b = r) (hc : ¬ c) : b = r := by rw [ite2, if_neg hc] at h; exact h
abbrev ns_ix (i : Int32) : Nat := i.toNatClampNeg
abbrev ns_in (i : Int32) (n : Nat) : Prop := ¬ (i < 0 ∨ n ≤ i.toNatClampNeg)
def ns_F : Nat := 10000
def ns_D : Nat := 70
def cl2 {α β : Type} (x : Option (α × ns_St)) (f : α → ns_St → Option β) : Option β := x.bind (fun q => f q.1 q.2)
theorem cl2_e {α β : Type} {x : Option (α × ns_St)} {f : α → ns_St → Option β} {r : β} (h : cl2 x f = some r) : ∃ a b, x = some (a, b) ∧ f a b = some r := by
  obtain ⟨q, h1, h2⟩ := Option.bind_eq_some_iff.mp h
  exact ⟨q.1, q.2, h1, h2⟩
theorem onul_n {β : Type} {a : Option β} {f : Nat → Option β} {r : Option β} (h : onul none a f = r) : a = r := h
theorem onul_s {β : Type} {b : Nat} {a : Option β} {f : Nat → Option β} {r : Option β} (h : onul (some b) a f = r) : f b = r := h
theorem ns_z01 {x : Int32} (h : x = 0 ∨ x = 1) : narrow .boolean (.int x) = .int x := by rcases h with rfl | rfl <;> rfl
theorem ns_out (x : Int32) (lo hi : Int) (h : ∀ k : Int, lo ≤ k → k ≤ hi → ¬ x = Int32.ofInt k) : x.toInt < lo ∨ hi < x.toInt := by
  rcases Int.lt_or_le x.toInt lo with h1 | h1
  · exact Or.inl h1
  · rcases Int.lt_or_le hi x.toInt with h2 | h2
    · exact Or.inr h2
    · exact absurd (by simp) (h x.toInt h1 h2)
theorem nin_0 : ∀ w ∈ u_ws nR_0 nT_0 2, w ∈ ns_TB := by decide +kernel
theorem nin_1 : ∀ w ∈ u_ws nR_1 nT_1 5, w ∈ ns_TB := by decide +kernel
theorem nin_2 : ∀ w ∈ u_ws nR_2 nT_2 8, w ∈ ns_TB := by decide +kernel
theorem nin_3 : ∀ w ∈ u_ws nR_3 nT_3 3, w ∈ ns_TB := by decide +kernel
theorem nin_4 : ∀ w ∈ u_ws nR_4 nT_4 10, w ∈ ns_TB := by decide +kernel
theorem nin_5 : ∀ w ∈ u_ws nR_5 nT_5 6, w ∈ ns_TB := by decide +kernel
theorem nin_6 : ∀ w ∈ u_ws nR_6 nT_6 6, w ∈ ns_TB := by decide +kernel
theorem nin_7 : ∀ w ∈ u_ws nR_7 nT_7 6, w ∈ ns_TB := by decide +kernel
theorem nin_8 : ∀ w ∈ u_ws nR_8 nT_8 12, w ∈ ns_TB := by decide +kernel
theorem nin_9 : ∀ w ∈ u_ws nR_9 nT_9 31, w ∈ ns_TB := by decide +kernel
theorem mt_1 {w : Cond} (h : w ∈ tables_1_1) : w ∈ tables_1 := List.mem_append_left _ h
theorem mt_2 {w : Cond} (h : w ∈ tables_1_2) : w ∈ tables_1 := List.mem_append_right _ (List.mem_append_left _ h)
theorem mt_3 {w : Cond} (h : w ∈ tables_1_3) : w ∈ tables_1 := List.mem_append_right _ (List.mem_append_right _ (List.mem_append_left _ h))
theorem mt_4 {w : Cond} (h : w ∈ tables_1_4) : w ∈ tables_1 := List.mem_append_right _ (List.mem_append_right _ (List.mem_append_right _ (List.mem_append_left _ h)))
theorem mt_5 {w : Cond} (h : w ∈ tables_1_5) : w ∈ tables_1 := List.mem_append_right _ (List.mem_append_right _ (List.mem_append_right _ (List.mem_append_right _ (List.mem_append_left _ h))))
theorem mt_6 {w : Cond} (h : w ∈ tables_1_6) : w ∈ tables_1 := List.mem_append_right _ (List.mem_append_right _ (List.mem_append_right _ (List.mem_append_right _ (List.mem_append_right _ (h)))))
