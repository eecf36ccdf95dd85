def R_law : String := "NinthStepLaw"
def lw_P (b : Addr) (xs : List Int32) (args : Array Value) (s : State) : Prop := args = #[.ref b] ∧ s.IntsAt b xs ∧ xs.length ≤ 3072 ∧ (Jvm.Cond.and given_1 narrow_1).before args s = true
def lw_Q (_ : Array Value) (s : State) (o : Outcome) (t : State) : Prop := o = .returned (some (.int 1)) ∧ Framed s o t [] 600000 7302250
def lw_Z (below : List Frame) (a : Array Value) (s : State) : State → Prop := fun t => ∃ o, t.status = .running ∧ Ended t below o ∧ lw_Q a s o t
/-- the law's own end, with 1 on the stack, nothing written that was there before, its room as the claim has it -/
theorem lw_ret {p : Program} {l : Launch} {e : Env} {s : State} {m : MethodId} {below : List Frame} {meth : Method} {c : Code} {b : Nat} (hx : p.tables.exec = Jvm.exec) (hb : c.code = code) (hr : meth.sig.returnType = ret) (hlocks : meth.locks = false) {pc : Nat} {H : Heap} {ls : Array Slot} (hdg : decode code pc = .ok (.ireturn, 1)) : W p l e room_1 s m #[Value.ref b] below meth c H [] 600000 7302250 (lw_Z below #[Value.ref b] s) (F0 m pc ls [.int 1]) := by
  intro T hT X
  obtain ⟨fs, hret, hrun, hended, hW, hframe⟩ := X.leave (v := some (.int 1)) (hlocks := hlocks) (fun h => by rw [hr] at h; cases h)
  have hmeth' : T.vm.method? m = some meth := X.method'
  refine ⟨T.setFrames fs, ?_, .returned (some (.int 1)), hrun, hended, rfl, ⟨_, rfl⟩, hW, hframe⟩
  jvm_step X.here [X.here.top, hx, hb, hdg, hmeth', hr, ret, narrow_b1]
  (try refine ⟨rfl, ?_⟩); (try refine ⟨rfl, ?_⟩)
  first | (intro acts; rw [hret _ acts rfl rfl rfl]) | rw [hret _ _ rfl rfl rfl]
  exact Steps.refl _
/-- what holds at the law's entry: the machine, the code, the tables' words (any of lw_tbl by 'hts w (by decide +kernel)'), the script of L ints xs at the cell b, what the Statement gives of the start (any of its parts by flat_of_before) -/
def lw_At (p : Program) (s : State) (m : MethodId) (meth : Method) (c : Code) (b L : Nat) (xs : Nat → Int32) : Prop :=
  p.tables.exec = Jvm.exec ∧ c.code = code ∧ meth.sig.returnType = ret ∧ c.maxLocals = 4 ∧ s.vm.findClass R_law = some m.cls ∧ (∀ w ∈ lw_tbl, w.before #[Value.ref b] s = true) ∧ va_X b L xs s s.heap ∧ b < s.heap.size ∧ meth.locks = false ∧ (Jvm.Cond.and given_1 narrow_1).before #[Value.ref b] s = true
/-! making objects -/
def ns_z (σ : ns_St) (n : Nat) : ns_St := (va_up σ.1 n (fun _ => 0), va_up σ.2.1 n (fun _ => 0), va_up σ.2.2 n (fun _ => none))
def ns_dv (t : Nat) : Value := if t = 0 then .int 0 else if t = 1 then .long 0 else .null
theorem ns_fl_z (b : Nat) (σ : ns_St) (n ci : Nat) : ns_fl b (ns_z σ n) n ci = (ns_ft ci).map ns_dv := by
  apply List.ext_getElem?
  intro j
  simp only [ns_fl, List.getElem?_mapIdx, List.getElem?_map]
  cases (ns_ft ci)[j]? with
  | none => rfl
  | some t =>
    by_cases h0 : t = 0
    · subst h0; simp [ns_fv, ns_dv, ns_z, va_up]
    · by_cases h1 : t = 1
      · subst h1; simp [ns_fv, ns_dv, ns_z, va_up]
      · simp [ns_fv, ns_dv, ns_z, va_up, h0, h1, ns_rf, va_rf]
theorem ns_z_ne {G : ns_G} {σ : ns_St} {n : Nat} : ∀ b, b ≠ n → ns_cE G (ns_z σ n) b = ns_cE G σ b := fun b h => ns_cE_ne (va_up_ne _ _ h) (va_up_ne _ _ h) (va_up_ne _ _ h)
section ROWS5
variable {G : ns_G} {p : Program} {l : Launch} {e : Env} {R : Room} {s : State} {m : MethodId} {args : Array Value} {below : List Frame} {meth : Method} {c : Code} {cc : ByteArray} {own : String} {nL cells slots : Nat} {Q : State → Prop} {n : Nat} {σ : ns_St} {pc : Nat} {lv : List (Nat × Value)} {st : List Value}
theorem ns_S_push {H H1 : Heap} {locs : List Loc} (hS : va_S (ns_A G) s.heap H locs) (z1 : H1.size = H.size + 1) (o1 : ∀ q, q < H.size → H1[q]? = H[q]?) : va_S (ns_A G) s.heap H1 locs :=
  ⟨Nat.le_trans hS.1 (by omega), fun x h1 h2 => (o1 x (Nat.lt_of_lt_of_le h1 hS.1)).trans (hS.2.1 x h1 h2), hS.2.2⟩
theorem v_new (C : ns_Cx G p s m args meth c cc own nL) (ci : Nat) {Cn : String} {T : u_T} {N : Nat} (hc : ns_cl[ci]? = some (Cn, T, N)) (hin : ∀ w ∈ u_ws Cn T N, w ∈ ns_TB) (ty0 : Nat → FieldType) (hty : ∀ k, k < N → parseFieldDescriptor (T k).2.2.1 = some (ty0 k)) (hz : ∀ j, j < N → defaultValue (ty0 j) = vp_V ((ns_ft ci).map ns_dv) j) {σ' : ns_St} (hσ : σ' = ns_z σ n) (hn : ns_kd n = ci ∧ n < ns_N) (hci : ci < 10) (i : Nat) (hclk : Cond.classLink own i Cn ∈ ns_TB) (hinst : Cond.instantiable Cn N ∈ ns_TB) (hini : Cond.initialized Cn ∈ ns_TB) (hcells : cells + 1 ≤ R.cells) (hslots : slots + N ≤ R.slots) (pc' : Nat) (hp : pc + 3 = pc') (hd : decode cc pc = .ok (.new i, 3)) (kk : VV G p l e R s m args below meth c nL (cells + 1) (slots + N) Q (n + 1) σ' pc' lv (.ref (G.1 + n) :: st)) : VV G p l e R s m args below meth c nL cells slots Q n σ pc lv st := by
  subst hp; subst hσ
  intro H locs ls hW hS hl
  have hts := C.2.2.2.2.1
  have hKn := C.2.2.2.2.2.1.1.1 ci _ hc
  have hsz := hW.1.2 hn.2
  refine W.newcK C.1 C.2.1 C.2.2.2.1 (hts _ hclk) (hts _ hinst) (hts _ hini) rfl hd hcells hslots hKn.2.1 hsz fun H1 kC hkC e1 z1 o1 => ?_
  refine kk H1 locs ls (ns_push hW z1 o1 ?_ ns_z_ne) (ns_S_push hS (by omega) (fun q hq => o1 q (by omega))) hl
  rw [ns_cE_obj G _ hn.1 hci, ns_fl_z]
  exact ⟨_, hc, (u_born ty0 hts hin hKn hkC e1 hty).to hz⟩
theorem v_newI (C : ns_Cx G p s m args meth c cc own nL) {x : Int32} (N : Nat) (hx : ¬ x < 0) (hN : x.toNatClampNeg = N) (hb4 : N * 4 ≤ 536870912) {σ' : ns_St} (hσ : σ' = ns_z σ n) (hn : ns_kd n = 10 ∧ ns_ln n = N ∧ n < ns_N) (harr : Cond.arrayClass .int ∈ ns_TB) (hcells : cells + 1 ≤ R.cells) (hslots : slots + N ≤ R.slots) (pc' : Nat) (hp : pc + 2 = pc') (hd : decode cc pc = .ok (.newarray .int, 2)) (kk : VV G p l e R s m args below meth c nL (cells + 1) (slots + N) Q (n + 1) σ' pc' lv (.ref (G.1 + n) :: st)) : VV G p l e R s m args below meth c nL cells slots Q n σ pc lv (.int x :: st) := by
  subst hp; subst hσ
  intro H locs ls hW hS hl
  have hsz := hW.1.2 hn.2.2
  refine va_newaK C.1 C.2.1 (atype := .int) (C.2.2.2.2.1 _ harr) rfl hd rfl hx hN hb4 hcells hslots hsz fun H1 cA e1 z1 o1 hA hf => ?_
  have hcA : cA = G.2.2.1 10 := Option.some.inj (hf.symm.trans (C.2.2.2.2.2.1.1.2 0 _ rfl).2)
  refine kk H1 locs ls (ns_push hW z1 o1 ?_ ns_z_ne) (ns_S_push hS (by omega) (fun q hq => o1 q (by omega))) hl
  rw [ns_cE_I G _ hn.1, hn.2.1]
  show H1[G.1 + n]? = some (vp_cell _ _)
  rw [vp_cell_i, e1, hcA]
  simp [ns_z, va_up]
  rfl
theorem v_newJ (C : ns_Cx G p s m args meth c cc own nL) {x : Int32} (N : Nat) (hx : ¬ x < 0) (hN : x.toNatClampNeg = N) (hb4 : N * 8 ≤ 536870912) {σ' : ns_St} (hσ : σ' = ns_z σ n) (hn : ns_kd n = 11 ∧ ns_ln n = N ∧ n < ns_N) (harr : Cond.arrayClass .long ∈ ns_TB) (hcells : cells + 1 ≤ R.cells) (hslots : slots + N ≤ R.slots) (pc' : Nat) (hp : pc + 2 = pc') (hd : decode cc pc = .ok (.newarray .long, 2)) (kk : VV G p l e R s m args below meth c nL (cells + 1) (slots + N) Q (n + 1) σ' pc' lv (.ref (G.1 + n) :: st)) : VV G p l e R s m args below meth c nL cells slots Q n σ pc lv (.int x :: st) := by
  subst hp; subst hσ
  intro H locs ls hW hS hl
  have hsz := hW.1.2 hn.2.2
  refine va_newaK C.1 C.2.1 (atype := .long) (C.2.2.2.2.1 _ harr) rfl hd rfl hx hN hb4 hcells hslots hsz fun H1 cA e1 z1 o1 hA hf => ?_
  have hcA : cA = G.2.2.1 11 := Option.some.inj (hf.symm.trans (C.2.2.2.2.2.1.1.2 1 _ rfl).2)
  refine kk H1 locs ls (ns_push hW z1 o1 ?_ ns_z_ne) (ns_S_push hS (by omega) (fun q hq => o1 q (by omega))) hl
  rw [ns_cE_J G _ hn.1, hn.2.1]
  show H1[G.1 + n]? = some (vp_cell _ _)
  rw [vp_cell_l, e1, hcA]
  simp [ns_z, va_up]
  rfl
theorem v_anew (C : ns_Cx G p s m args meth c cc own nL) (kd t0 : Nat) (hk : kd = 12 ∨ kd = 13) {Cn : String} (ht : (ns_tys G)[t0]? = some (G.2.2.1 kd, .object Cn)) (hAO : va_AO Cn s) {x : Int32} (N : Nat) (hx : ¬ x < 0) (hN : x.toNatClampNeg = N) (hb4 : N * 4 ≤ 536870912) {σ' : ns_St} (hσ : σ' = ns_z σ n) (hn : ns_kd n = kd ∧ ns_ln n = N ∧ n < ns_N) (i : Nat) (hclk : Cond.classLink own i Cn ∈ ns_TB) (hcells : cells + 1 ≤ R.cells) (hslots : slots + N ≤ R.slots) (pc' : Nat) (hp : pc + 3 = pc') (hd : decode cc pc = .ok (.anewarray i, 3)) (kk : VV G p l e R s m args below meth c nL (cells + 1) (slots + N) Q (n + 1) σ' pc' lv (.ref (G.1 + n) :: st)) : VV G p l e R s m args below meth c nL cells slots Q n σ pc lv (.int x :: st) := by
  subst hp; subst hσ; subst hN
  intro H locs ls hW hS hl
  have hsz := hW.1.2 hn.2.2
  refine W.anew C.1 C.2.1 C.2.2.2.1 (C.2.2.2.2.1 _ hclk) (va_AO.use hAO) rfl hd rfl hx hb4 hcells hslots fun cA kA comp f1 f2 f3 f4 => ?_
  obtain ⟨kA', comp', k1, k2, k3, k4⟩ := (C.2.2.2.2.2.1.1.2 t0 _ ht).2
  have hcA : cA = G.2.2.1 kd := Option.some.inj (f1.symm.trans k4)
  generalize hH1 : H.push ({ cls := cA, slots := Array.replicate x.toNatClampNeg .null, vm := .none } : Cell) = H1
  have z1 : H1.size = H.size + 1 := by rw [← hH1, Array.size_push]
  have e1 : H1[H.size]? = some (arrV cA x.toNatClampNeg (fun _ => .null)) := by rw [← hH1, Array.getElem?_push_size, ← arrV_new]
  have o1 : ∀ q : Nat, q < H.size → H1[q]? = H[q]? := fun q hq => by rw [← hH1, Array.getElem?_push, if_neg (Nat.ne_of_lt hq)]
  show W p l e R s m args below meth c H1 locs (cells + 1) (slots + x.toNatClampNeg) Q (F0 m (pc + 3) ls (.ref H.size :: st))
  have key := kk H1 locs ls (ns_push hW (by omega) (fun q hq => o1 q (by omega)) (by
    rw [ns_cE_R G _ hn.1 hk, hn.2.1]
    show H1[G.1 + n]? = some (vp_cell _ _)
    rw [vp_cell_q, ← hsz, e1, hcA]
    simp [ns_z, va_up, ns_rf, va_rf]) ns_z_ne) (ns_S_push hS z1 o1) hl
  rw [hsz]
  exact key
theorem v_aast (C : ns_Cx G p s m args meth c cc own nL) {a v : Nat} {i : Int32} (kd t0 ci : Nat) {Cn : String} {T : u_T} {N : Nat} (hc : ns_cl[ci]? = some (Cn, T, N)) (hk : kd = 12 ∨ kd = 13) (ht : (ns_tys G)[t0]? = some (G.2.2.1 kd, .object Cn)) {σ' : ns_St} (hσ : σ' = ns_pR σ a (ns_ix i) (some v)) (ha : a < n) (hkd : ns_kd a = kd) (hv : v < n) (hkv : ns_kd v = ci) (hci : ci < 10) (hi : ns_in i (ns_ln a)) (pc' : Nat) (hp : pc + 1 = pc') (hd : decode cc pc = .ok (.aastore, 1)) (kk : VV G p l e R s m args below meth c nL cells slots Q n σ' pc' lv st) : VV G p l e R s m args below meth c nL cells slots Q n σ pc lv (.ref (G.1 + v) :: .int i :: .ref (G.1 + a) :: st) := by
  subst hp; subst hσ
  intro H locs ls hW hS hl
  have hlt : i.toNatClampNeg < ns_ln a := Nat.not_le.mp fun q => hi (Or.inr q)
  have h0 : ¬ i < 0 := fun q => hi (Or.inl q)
  have hA0 := hW.2.1 a (G.1 + a, .inl (G.2.2.1 kd, ns_ln a, .inr (.inr (.inr (.inr (fun k => ns_rf G.1 (σ.2.2 a k))))))) (by rw [ns_wl_at G σ ha, ns_cE_R G σ hkd hk])
  have hA1 : H[G.1 + a]? = some (arrV (G.2.2.1 kd) (ns_ln a) (fun j => va_rf (ns_rf G.1 (σ.2.2 a j)))) := hA0
  obtain ⟨r', hr', cellV, g1, g2, g3, -⟩ := hW.2.1 v (G.1 + v, .inr (ci, ns_fl G.1 σ v ci)) (by rw [ns_wl_at G σ hv, ns_cE_obj G σ hkv hci])
  have hcls := (C.2.2.2.2.2.1.1.1 ci _ hc).2
  obtain ⟨kA, comp, k1, k2, k3, -⟩ := (C.2.2.2.2.2.1.1.2 t0 _ ht).2
  have hcomp : comp = G.2.1.1 ci := Option.some.inj (k3.symm.trans hcls.1)
  subst hcomp
  obtain ⟨kC, hkC, hkk⟩ := hcls.2
  refine W.aast C.1 C.2.1 hA1 (fun q h => by cases h) (fun h => by cases h) k1 k2 rfl hkC ⟨h0, by rw [arrV_size]; exact hlt⟩ g1 (fun q h => by rw [g3] at h; cases h) (by rw [g2]; exact hkC) (by rw [g2]; exact va_assign ⟨hcls.1, kC, hkC, hkk⟩) rfl rfl hd fun H1 e1 z oq => ?_
  refine kk H1 _ ls (ns_set hW z oq ?_ ns_pR_ne) (hS.put z oq (Nat.le_add_right _ _)) hl
  rw [ns_cE_R G _ hkd hk]
  show H1[G.1 + a]? = some (vp_cell _ _)
  rw [vp_cell_q, e1, arrV_store]
  congr 2
  funext q
  by_cases hq : q = i.toNatClampNeg
  · subst hq; simp [updV, ns_pR, va_up, ns_rf, va_rf]
  · simp [updV, ns_pR, va_up, hq]
theorem v_obj (C : ns_Cx G p s m args meth c cc own nL) {a : Nat} (i : Nat) (hlink : Cond.methodLink own i Lib.objectInit ∈ ns_TB) (hinst : Cond.instanceMethod Lib.objectInit ∈ ns_TB) (hcode : Cond.code Lib.objectInit ⟨#[0xb1]⟩ 1 none ∈ ns_TB) (hframes : 1 ≤ R.frames) (hlocals : (st.map fun v => v.category).sum + 12 ≤ R.locals) (pc' : Nat) (hp : pc + 3 = pc') (hd : decode cc pc = .ok (.invokespecial i, 3)) (kk : VV G p l e R s m args below meth c nL cells slots Q n σ pc' lv st) : VV G p l e R s m args below meth c nL cells slots Q n σ pc lv (.ref a :: st) := by
  subst hp
  intro H locs ls hW hS hl
  have hts := C.2.2.2.2.1
  exact W.objInit C.1 C.2.1 C.2.2.2.1 (hts _ hlink) (hts _ hinst) (hts _ hcode) rfl (hl.1.trans C.2.2.1.symm) rfl hd hframes (by show 2 * 0 + _ + 12 ≤ _; omega) (kk H locs ls hW hS hl)
theorem v_callI (C : ns_Cx G p s m args meth c cc own nL) {a : Nat} {y : MethodName} {bytes : ByteArray} {maxL : Nat} {fr lo mc ms : Nat} (As rest : List Value) {n' : Nat} {σ' : ns_St} (hM : ns_ok G l y bytes maxL none fr lo mc ms (.ref (G.1 + a) :: As) n σ none n' σ') (i na : Nat) (hcode : Cond.code y bytes maxL none ∈ ns_TB) (hlink : Cond.methodLink own i y ∈ ns_TB) (hinst : Cond.instanceMethod y ∈ ns_TB) (hini : Cond.initialized y.cls ∈ ns_TB) (hy : y.name = "<init>") (hd1 : y.cls ≠ "java/lang/invoke/MethodHandle" ∧ y.cls ≠ "java/lang/invoke/VarHandle" ∧ (parseMethodDescriptor y.desc).map (fun d => d.parameters.length) = some na) (hna : As.length = na) (hR : fr + 1 ≤ R.frames ∧ 8 + (maxL + 11) + lo ≤ R.locals) (hf : cells + mc ≤ R.cells ∧ slots + ms ≤ R.slots) (hsum : (rest.map fun v => v.category).sum ≤ 8) (hst : st = As.reverse ++ .ref (G.1 + a) :: rest) (pc' : Nat) (hp : pc + 3 = pc') (hd : decode cc pc = .ok (.invokespecial i, 3)) (kk : VV G p l e R s m args below meth c nL (cells + mc) (slots + ms) Q n' σ' pc' lv rest) : VV G p l e R s m args below meth c nL cells slots Q n σ pc lv st := by
  subst hp
  intro H locs ls hW hS hl
  have hts := C.2.2.2.2.1
  refine ns_call (n' := n') (σ' := σ') (va_runI (As := As) (rest := rest) (n := na) ⟨C.1, C.2.1, C.2.2.1, C.2.2.2.1, hts⟩ hM ⟨⟨rfl, rfl, hR.1, hR.2, pay_in hts (ns_good hcode), List.mem_cons_self, hts _ hcode, hts _ hini, ⟨hd1.1, hd1.2.1⟩, fun sig h => ?_, hts _ hlink⟩, hy, hts _ hinst⟩ ⟨ns_blind G _ n σ, fun U hU hw => ⟨rfl, by rw [hU]; exact hW, ns_K.warm hw C.2.2.2.2.2.1⟩⟩ rfl hna hl.1 hst (lv_room hsum) hd hf) hS (fun H1 locs1 h1 h2 => kk H1 locs1 ls h1 h2 hl)
  have h2 := hd1.2.2
  rw [h] at h2
  exact (Option.some.inj h2).symm
theorem v_callIN (C : ns_Cx G p s m args meth c cc own nL) {a : Nat} {y : MethodName} {host : String} {bytes : ByteArray} {maxL : Nat} {fr lo mc ms : Nat} (As rest : List Value) {n' : Nat} {σ' : ns_St} (hM : ns_ok G l y bytes maxL none fr lo mc ms (.ref (G.1 + a) :: As) n σ none n' σ') (i na : Nat) (hcode : Cond.code y bytes maxL none ∈ ns_TB) (hlink : Cond.methodLinkNest own i y host ∈ ns_NB) (hinst : Cond.instanceMethod y ∈ ns_TB) (hini : Cond.initialized y.cls ∈ ns_TB) (hy : y.name = "<init>") (hd1 : y.cls ≠ "java/lang/invoke/MethodHandle" ∧ y.cls ≠ "java/lang/invoke/VarHandle" ∧ (parseMethodDescriptor y.desc).map (fun d => d.parameters.length) = some na) (hna : As.length = na) (hR : fr + 1 ≤ R.frames ∧ 8 + (maxL + 11) + lo ≤ R.locals) (hf : cells + mc ≤ R.cells ∧ slots + ms ≤ R.slots) (hsum : (rest.map fun v => v.category).sum ≤ 8) (hst : st = As.reverse ++ .ref (G.1 + a) :: rest) (pc' : Nat) (hp : pc + 3 = pc') (hd : decode cc pc = .ok (.invokespecial i, 3)) (kk : VV G p l e R s m args below meth c nL (cells + mc) (slots + ms) Q n' σ' pc' lv rest) : VV G p l e R s m args below meth c nL cells slots Q n σ pc lv st := by
  subst hp
  intro H locs ls hW hS hl
  have hts := C.2.2.2.2.1
  exact ns_call (n' := n') (σ' := σ') (va_runIN (As := As) (rest := rest) (n := na) ⟨C.1, C.2.1, C.2.2.1, C.2.2.2.1, hts⟩ hM ⟨va_cnB na hts (ns_good hcode) rfl rfl rfl (C.2.2.2.2.2.1.2.1 _ hlink) (hts _ hini) hd1 hR, hy, hts _ hinst⟩ ⟨ns_blind G _ n σ, fun U hU hw => ⟨rfl, by rw [hU]; exact hW, ns_K.warm hw C.2.2.2.2.2.1⟩⟩ rfl hna hl.1 hst (lv_room hsum) hd hf) hS (fun H1 locs1 h1 h2 => kk H1 locs1 ls h1 h2 hl)
end ROWS5
section ROWS6
variable {G : ns_G} {p : Program} {l : Launch} {e : Env} {R : Room} {s : State} {m : MethodId} {args : Array Value} {below : List Frame} {meth : Method} {c : Code} {cc : ByteArray} {own : String} {nL cells slots : Nat} {Q : State → Prop} {n : Nat} {σ : ns_St} {pc : Nat} {lv : List (Nat × Value)} {st : List Value} {b L : Nat} {xs : Nat → Int32}
theorem v_sld (C : ns_Cx G p s m args meth c cc own nL) (hX : va_X b L xs s s.heap) (hbl : b < s.heap.size) (hG : G.1 = s.heap.size) {i : Int32} (hi : ns_in i L) (pc' : Nat) (hp : pc + 1 = pc') (hd : decode cc pc = .ok (.iaload, 1)) (kk : VV G p l e R s m args below meth c nL cells slots Q n σ pc' lv (.int (xs (ns_ix i)) :: st)) : VV G p l e R s m args below meth c nL cells slots Q n σ pc lv (.int i :: .ref b :: st) := by
  subst hp
  exact fun H locs ls hW hS hl => va_sld C.1 C.2.1 hX hbl (by show ¬ G.1 ≤ b; omega) hS hi hd (kk H locs ls hW hS hl)
theorem v_slen (C : ns_Cx G p s m args meth c cc own nL) (hX : va_X b L xs s s.heap) (hbl : b < s.heap.size) (hG : G.1 = s.heap.size) (pc' : Nat) (hp : pc + 1 = pc') (hd : decode cc pc = .ok (.arraylength, 1)) (kk : VV G p l e R s m args below meth c nL cells slots Q n σ pc' lv (.int (Int32.ofNat L) :: st)) : VV G p l e R s m args below meth c nL cells slots Q n σ pc lv (.ref b :: st) := by
  subst hp
  exact fun H locs ls hW hS hl => va_slen C.1 C.2.1 hX hbl (by show ¬ G.1 ≤ b; omega) hS hd (kk H locs ls hW hS hl)
theorem v_lawret (C : ns_Cx G p s m #[Value.ref b] meth c code own nL) (hr : meth.sig.returnType = ret) (hG : G.1 = s.heap.size) (hd : decode code pc = .ok (.ireturn, 1)) : VV G p l e room_1 s m #[Value.ref b] below meth c nL 82 14211 (lw_Z below #[Value.ref b] s) n σ pc lv [.int 1] := by
  intro H locs ls hW hS hl
  refine va_forget (fun q hq => by have := hS.2.2 q hq; omega) ?_
  refine W.widen (k := 600000) (n := 7302250) (by omega) (by omega) ?_
  exact lw_ret C.1 C.2.1 hr C.2.2.2.2.2.2.1 hd
end ROWS6
set_option maxRecDepth 20000 in
theorem tw_19 : (Jvm.Cond.classLink "NinthStepLaw" (7 : Nat) "NinthStep") ∈ ns_TB := ns_tb (mt_1 (List.mem_of_getElem? (i := 19) (by decide +kernel))) rfl
set_option maxRecDepth 20000 in
theorem tw_20 : (Jvm.Cond.instantiable "NinthStep" (12 : Nat)) ∈ ns_TB := ns_tb (mt_1 (List.mem_of_getElem? (i := 20) (by decide +kernel))) rfl
set_option maxRecDepth 20000 in
theorem tw_21 : (Jvm.Cond.methodLink "NinthStepLaw" (9 : Nat) ({ cls := "NinthStep", name := "<init>", desc := "()V" } : Jvm.MethodName)) ∈ ns_TB := ns_tb (mt_1 (List.mem_of_getElem? (i := 21) (by decide +kernel))) rfl
set_option maxRecDepth 20000 in
theorem tw_22 : (Jvm.Cond.instanceMethod ({ cls := "NinthStep", name := "<init>", desc := "()V" } : Jvm.MethodName)) ∈ ns_TB := ns_tb (mt_1 (List.mem_of_getElem? (i := 22) (by decide +kernel))) rfl
set_option maxRecDepth 20000 in
theorem tw_23 : (Jvm.Cond.code ({ cls := "NinthStep", name := "<init>", desc := "()V" } : Jvm.MethodName) prog_1_method_1_code (2 : Nat) (Option.none : Option Jvm.ClassFile.FieldType)) ∈ ns_TB := ns_tb (mt_1 (List.mem_of_getElem? (i := 23) rfl)) rfl
set_option maxRecDepth 20000 in
theorem tw_24 : (Jvm.Cond.methodLink "NinthStep" (3 : Nat) ({ cls := "java/lang/Object", name := "<init>", desc := "()V" } : Jvm.MethodName)) ∈ ns_TB := ns_tb (mt_1 (List.mem_of_getElem? (i := 24) (by decide +kernel))) rfl
set_option maxRecDepth 20000 in
theorem tw_25 : (Jvm.Cond.instanceMethod ({ cls := "java/lang/Object", name := "<init>", desc := "()V" } : Jvm.MethodName)) ∈ ns_TB := ns_tb (mt_1 (List.mem_of_getElem? (i := 25) (by decide +kernel))) rfl
set_option maxRecDepth 20000 in
theorem tw_26 : (Jvm.Cond.code ({ cls := "java/lang/Object", name := "<init>", desc := "()V" } : Jvm.MethodName) object_method_1_code (1 : Nat) (Option.none : Option Jvm.ClassFile.FieldType)) ∈ ns_TB := ns_tb (mt_1 (List.mem_of_getElem? (i := 26) rfl)) rfl
set_option maxRecDepth 20000 in
theorem tw_27 : (Jvm.Cond.classLink "NinthStep" (9 : Nat) "NinthStep$World") ∈ ns_TB := ns_tb (mt_1 (List.mem_of_getElem? (i := 27) (by decide +kernel))) rfl
set_option maxRecDepth 20000 in
theorem tw_28 : (Jvm.Cond.instantiable "NinthStep$World" (6 : Nat)) ∈ ns_TB := ns_tb (mt_1 (List.mem_of_getElem? (i := 28) (by decide +kernel))) rfl
set_option maxRecDepth 20000 in
theorem tw_29 : (Jvm.Cond.methodLinkNest "NinthStep" (11 : Nat) ({ cls := "NinthStep$World", name := "<init>", desc := "()V" } : Jvm.MethodName) "NinthStep") ∈ ns_NB := ns_nb (mt_1 (List.mem_of_getElem? (i := 29) (by decide +kernel))) rfl
set_option maxRecDepth 20000 in
theorem tw_30 : (Jvm.Cond.instanceMethod ({ cls := "NinthStep$World", name := "<init>", desc := "()V" } : Jvm.MethodName)) ∈ ns_TB := ns_tb (mt_1 (List.mem_of_getElem? (i := 30) (by decide +kernel))) rfl
set_option maxRecDepth 20000 in
theorem tw_31 : (Jvm.Cond.code ({ cls := "NinthStep$World", name := "<init>", desc := "()V" } : Jvm.MethodName) prog_9_method_1_code (2 : Nat) (Option.none : Option Jvm.ClassFile.FieldType)) ∈ ns_TB := ns_tb (mt_1 (List.mem_of_getElem? (i := 31) rfl)) rfl
set_option maxRecDepth 20000 in
theorem tw_32 : (Jvm.Cond.methodLink "NinthStep$World" (3 : Nat) ({ cls := "java/lang/Object", name := "<init>", desc := "()V" } : Jvm.MethodName)) ∈ ns_TB := ns_tb (mt_1 (List.mem_of_getElem? (i := 32) (by decide +kernel))) rfl
set_option maxRecDepth 20000 in
theorem tw_33 : (Jvm.Cond.classLink "NinthStep$World" (9 : Nat) "NinthStep$Ground") ∈ ns_TB := ns_tb (mt_1 (List.mem_of_getElem? (i := 33) (by decide +kernel))) rfl
set_option maxRecDepth 20000 in
theorem tw_34 : (Jvm.Cond.instantiable "NinthStep$Ground" (5 : Nat)) ∈ ns_TB := ns_tb (mt_1 (List.mem_of_getElem? (i := 34) (by decide +kernel))) rfl
set_option maxRecDepth 20000 in
theorem tw_35 : (Jvm.Cond.methodLinkNest "NinthStep$World" (11 : Nat) ({ cls := "NinthStep$Ground", name := "<init>", desc := "()V" } : Jvm.MethodName) "NinthStep") ∈ ns_NB := ns_nb (mt_1 (List.mem_of_getElem? (i := 35) (by decide +kernel))) rfl
set_option maxRecDepth 20000 in
theorem tw_36 : (Jvm.Cond.instanceMethod ({ cls := "NinthStep$Ground", name := "<init>", desc := "()V" } : Jvm.MethodName)) ∈ ns_TB := ns_tb (mt_1 (List.mem_of_getElem? (i := 36) (by decide +kernel))) rfl
set_option maxRecDepth 20000 in
theorem tw_37 : (Jvm.Cond.code ({ cls := "NinthStep$Ground", name := "<init>", desc := "()V" } : Jvm.MethodName) prog_3_method_1_code (1 : Nat) (Option.none : Option Jvm.ClassFile.FieldType)) ∈ ns_TB := ns_tb (mt_1 (List.mem_of_getElem? (i := 37) rfl)) rfl
set_option maxRecDepth 20000 in
theorem tw_38 : (Jvm.Cond.methodLink "NinthStep$Ground" (3 : Nat) ({ cls := "java/lang/Object", name := "<init>", desc := "()V" } : Jvm.MethodName)) ∈ ns_TB := ns_tb (mt_1 (List.mem_of_getElem? (i := 38) (by decide +kernel))) rfl
set_option maxRecDepth 20000 in
theorem tw_75 : (Jvm.Cond.classLink "NinthStep$World" (18 : Nat) "NinthStep$Mule") ∈ ns_TB := ns_tb (mt_1 (List.mem_of_getElem? (i := 75) (by decide +kernel))) rfl
set_option maxRecDepth 20000 in
theorem tw_77 : (Jvm.Cond.instantiable "NinthStep$Mule" (8 : Nat)) ∈ ns_TB := ns_tb (mt_1 (List.mem_of_getElem? (i := 77) (by decide +kernel))) rfl
set_option maxRecDepth 20000 in
theorem tw_78 : (Jvm.Cond.methodLinkNest "NinthStep$World" (28 : Nat) ({ cls := "NinthStep$Mule", name := "<init>", desc := "()V" } : Jvm.MethodName) "NinthStep") ∈ ns_NB := ns_nb (mt_1 (List.mem_of_getElem? (i := 78) (by decide +kernel))) rfl
set_option maxRecDepth 20000 in
theorem tw_79 : (Jvm.Cond.instanceMethod ({ cls := "NinthStep$Mule", name := "<init>", desc := "()V" } : Jvm.MethodName)) ∈ ns_TB := ns_tb (mt_1 (List.mem_of_getElem? (i := 79) (by decide +kernel))) rfl
set_option maxRecDepth 20000 in
theorem tw_80 : (Jvm.Cond.code ({ cls := "NinthStep$Mule", name := "<init>", desc := "()V" } : Jvm.MethodName) prog_4_method_1_code (1 : Nat) (Option.none : Option Jvm.ClassFile.FieldType)) ∈ ns_TB := ns_tb (mt_1 (List.mem_of_getElem? (i := 80) rfl)) rfl
set_option maxRecDepth 20000 in
theorem tw_81 : (Jvm.Cond.methodLink "NinthStep$Mule" (3 : Nat) ({ cls := "java/lang/Object", name := "<init>", desc := "()V" } : Jvm.MethodName)) ∈ ns_TB := ns_tb (mt_1 (List.mem_of_getElem? (i := 81) (by decide +kernel))) rfl
set_option maxRecDepth 20000 in
theorem tw_155 : (Jvm.Cond.classLink "NinthStep" (22 : Nat) "NinthStep$Shelf") ∈ ns_TB := ns_tb (mt_1 (List.mem_of_getElem? (i := 155) (by decide +kernel))) rfl
set_option maxRecDepth 20000 in
theorem tw_157 : (Jvm.Cond.classLink "NinthStep" (28 : Nat) "NinthStep$Tape") ∈ ns_TB := ns_tb (mt_1 (List.mem_of_getElem? (i := 157) (by decide +kernel))) rfl
set_option maxRecDepth 20000 in
theorem tw_158 : (Jvm.Cond.instantiable "NinthStep$Tape" (6 : Nat)) ∈ ns_TB := ns_tb (mt_1 (List.mem_of_getElem? (i := 158) (by decide +kernel))) rfl
set_option maxRecDepth 20000 in
theorem tw_159 : (Jvm.Cond.methodLinkNest "NinthStep" (30 : Nat) ({ cls := "NinthStep$Tape", name := "<init>", desc := "()V" } : Jvm.MethodName) "NinthStep") ∈ ns_NB := ns_nb (mt_1 (List.mem_of_getElem? (i := 159) (by decide +kernel))) rfl
set_option maxRecDepth 20000 in
theorem tw_160 : (Jvm.Cond.instanceMethod ({ cls := "NinthStep$Tape", name := "<init>", desc := "()V" } : Jvm.MethodName)) ∈ ns_TB := ns_tb (mt_1 (List.mem_of_getElem? (i := 160) (by decide +kernel))) rfl
set_option maxRecDepth 20000 in
theorem tw_161 : (Jvm.Cond.code ({ cls := "NinthStep$Tape", name := "<init>", desc := "()V" } : Jvm.MethodName) prog_7_method_1_code (1 : Nat) (Option.none : Option Jvm.ClassFile.FieldType)) ∈ ns_TB := ns_tb (mt_1 (List.mem_of_getElem? (i := 161) rfl)) rfl
set_option maxRecDepth 20000 in
theorem tw_162 : (Jvm.Cond.methodLink "NinthStep$Tape" (3 : Nat) ({ cls := "java/lang/Object", name := "<init>", desc := "()V" } : Jvm.MethodName)) ∈ ns_TB := ns_tb (mt_1 (List.mem_of_getElem? (i := 162) (by decide +kernel))) rfl
set_option maxRecDepth 20000 in
theorem tw_184 : (Jvm.Cond.arrayClass Jvm.ClassFile.FieldType.int) ∈ ns_TB := ns_tb (mt_1 (List.mem_of_getElem? (i := 184) (by decide +kernel))) rfl
set_option maxRecDepth 20000 in
theorem tw_185 : (Jvm.Cond.classLink "NinthStep" (35 : Nat) "NinthStep$TurnPlan") ∈ ns_TB := ns_tb (mt_1 (List.mem_of_getElem? (i := 185) (by decide +kernel))) rfl
set_option maxRecDepth 20000 in
theorem tw_186 : (Jvm.Cond.instantiable "NinthStep$TurnPlan" (6 : Nat)) ∈ ns_TB := ns_tb (mt_1 (List.mem_of_getElem? (i := 186) (by decide +kernel))) rfl
set_option maxRecDepth 20000 in
theorem tw_187 : (Jvm.Cond.methodLinkNest "NinthStep" (37 : Nat) ({ cls := "NinthStep$TurnPlan", name := "<init>", desc := "()V" } : Jvm.MethodName) "NinthStep") ∈ ns_NB := ns_nb (mt_1 (List.mem_of_getElem? (i := 187) (by decide +kernel))) rfl
set_option maxRecDepth 20000 in
theorem tw_188 : (Jvm.Cond.instanceMethod ({ cls := "NinthStep$TurnPlan", name := "<init>", desc := "()V" } : Jvm.MethodName)) ∈ ns_TB := ns_tb (mt_1 (List.mem_of_getElem? (i := 188) (by decide +kernel))) rfl
set_option maxRecDepth 20000 in
theorem tw_189 : (Jvm.Cond.code ({ cls := "NinthStep$TurnPlan", name := "<init>", desc := "()V" } : Jvm.MethodName) prog_8_method_1_code (1 : Nat) (Option.none : Option Jvm.ClassFile.FieldType)) ∈ ns_TB := ns_tb (mt_1 (List.mem_of_getElem? (i := 189) rfl)) rfl
set_option maxRecDepth 20000 in
theorem tw_190 : (Jvm.Cond.methodLink "NinthStep$TurnPlan" (3 : Nat) ({ cls := "java/lang/Object", name := "<init>", desc := "()V" } : Jvm.MethodName)) ∈ ns_TB := ns_tb (mt_1 (List.mem_of_getElem? (i := 190) (by decide +kernel))) rfl
set_option maxRecDepth 20000 in
theorem tw_191 : (Jvm.Cond.classLink "NinthStep$TurnPlan" (18 : Nat) "NinthStep$Mule") ∈ ns_TB := ns_tb (mt_1 (List.mem_of_getElem? (i := 191) (by decide +kernel))) rfl
set_option maxRecDepth 20000 in
theorem tw_192 : (Jvm.Cond.methodLinkNest "NinthStep$TurnPlan" (20 : Nat) ({ cls := "NinthStep$Mule", name := "<init>", desc := "()V" } : Jvm.MethodName) "NinthStep") ∈ ns_NB := ns_nb (mt_1 (List.mem_of_getElem? (i := 192) (by decide +kernel))) rfl
set_option maxRecDepth 20000 in
theorem tw_212 : (Jvm.Cond.classLink "NinthStep" (42 : Nat) "NinthStep$StonePlan") ∈ ns_TB := ns_tb (mt_1 (List.mem_of_getElem? (i := 212) (by decide +kernel))) rfl
set_option maxRecDepth 20000 in
theorem tw_213 : (Jvm.Cond.instantiable "NinthStep$StonePlan" (10 : Nat)) ∈ ns_TB := ns_tb (mt_1 (List.mem_of_getElem? (i := 213) (by decide +kernel))) rfl
set_option maxRecDepth 20000 in
theorem tw_214 : (Jvm.Cond.methodLinkNest "NinthStep" (44 : Nat) ({ cls := "NinthStep$StonePlan", name := "<init>", desc := "()V" } : Jvm.MethodName) "NinthStep") ∈ ns_NB := ns_nb (mt_1 (List.mem_of_getElem? (i := 214) (by decide +kernel))) rfl
set_option maxRecDepth 20000 in
theorem tw_215 : (Jvm.Cond.instanceMethod ({ cls := "NinthStep$StonePlan", name := "<init>", desc := "()V" } : Jvm.MethodName)) ∈ ns_TB := ns_tb (mt_1 (List.mem_of_getElem? (i := 215) (by decide +kernel))) rfl
set_option maxRecDepth 20000 in
theorem tw_216 : (Jvm.Cond.code ({ cls := "NinthStep$StonePlan", name := "<init>", desc := "()V" } : Jvm.MethodName) prog_6_method_1_code (1 : Nat) (Option.none : Option Jvm.ClassFile.FieldType)) ∈ ns_TB := ns_tb (mt_1 (List.mem_of_getElem? (i := 216) rfl)) rfl
set_option maxRecDepth 20000 in
theorem tw_217 : (Jvm.Cond.methodLink "NinthStep$StonePlan" (3 : Nat) ({ cls := "java/lang/Object", name := "<init>", desc := "()V" } : Jvm.MethodName)) ∈ ns_TB := ns_tb (mt_1 (List.mem_of_getElem? (i := 217) (by decide +kernel))) rfl
set_option maxRecDepth 20000 in
theorem tw_218 : (Jvm.Cond.classLink "NinthStep$StonePlan" (22 : Nat) "NinthStep$Mule") ∈ ns_TB := ns_tb (mt_1 (List.mem_of_getElem? (i := 218) (by decide +kernel))) rfl
set_option maxRecDepth 20000 in
theorem tw_219 : (Jvm.Cond.methodLinkNest "NinthStep$StonePlan" (24 : Nat) ({ cls := "NinthStep$Mule", name := "<init>", desc := "()V" } : Jvm.MethodName) "NinthStep") ∈ ns_NB := ns_nb (mt_1 (List.mem_of_getElem? (i := 219) (by decide +kernel))) rfl
set_option maxRecDepth 20000 in
theorem tw_253 : (Jvm.Cond.arrayClass Jvm.ClassFile.FieldType.long) ∈ ns_TB := ns_tb (mt_2 (List.mem_of_getElem? (i := 13) (by decide +kernel))) rfl
set_option maxRecDepth 20000 in
theorem tw_254 : (Jvm.Cond.classLink "NinthStep" (49 : Nat) "NinthStep$Chance") ∈ ns_TB := ns_tb (mt_2 (List.mem_of_getElem? (i := 14) (by decide +kernel))) rfl
set_option maxRecDepth 20000 in
theorem tw_255 : (Jvm.Cond.instantiable "NinthStep$Chance" (2 : Nat)) ∈ ns_TB := ns_tb (mt_2 (List.mem_of_getElem? (i := 15) (by decide +kernel))) rfl
set_option maxRecDepth 20000 in
theorem tw_256 : (Jvm.Cond.methodLinkNest "NinthStep" (51 : Nat) ({ cls := "NinthStep$Chance", name := "<init>", desc := "()V" } : Jvm.MethodName) "NinthStep") ∈ ns_NB := ns_nb (mt_2 (List.mem_of_getElem? (i := 16) (by decide +kernel))) rfl
set_option maxRecDepth 20000 in
theorem tw_257 : (Jvm.Cond.instanceMethod ({ cls := "NinthStep$Chance", name := "<init>", desc := "()V" } : Jvm.MethodName)) ∈ ns_TB := ns_tb (mt_2 (List.mem_of_getElem? (i := 17) (by decide +kernel))) rfl
set_option maxRecDepth 20000 in
theorem tw_258 : (Jvm.Cond.code ({ cls := "NinthStep$Chance", name := "<init>", desc := "()V" } : Jvm.MethodName) prog_2_method_1_code (1 : Nat) (Option.none : Option Jvm.ClassFile.FieldType)) ∈ ns_TB := ns_tb (mt_2 (List.mem_of_getElem? (i := 18) rfl)) rfl
set_option maxRecDepth 20000 in
theorem tw_259 : (Jvm.Cond.methodLink "NinthStep$Chance" (3 : Nat) ({ cls := "java/lang/Object", name := "<init>", desc := "()V" } : Jvm.MethodName)) ∈ ns_TB := ns_tb (mt_2 (List.mem_of_getElem? (i := 19) (by decide +kernel))) rfl
set_option maxRecDepth 20000 in
theorem tw_267 : (Jvm.Cond.classLink "NinthStep" (56 : Nat) "NinthStep$Mule") ∈ ns_TB := ns_tb (mt_2 (List.mem_of_getElem? (i := 27) (by decide +kernel))) rfl
set_option maxRecDepth 20000 in
theorem tw_268 : (Jvm.Cond.methodLinkNest "NinthStep" (58 : Nat) ({ cls := "NinthStep$Mule", name := "<init>", desc := "()V" } : Jvm.MethodName) "NinthStep") ∈ ns_NB := ns_nb (mt_2 (List.mem_of_getElem? (i := 28) (by decide +kernel))) rfl
set_option maxRecDepth 20000 in
theorem tw_269 : (Jvm.Cond.instantiable "NinthStep$Shelf" (3 : Nat)) ∈ ns_TB := ns_tb (mt_2 (List.mem_of_getElem? (i := 29) (by decide +kernel))) rfl
set_option maxRecDepth 20000 in
theorem tw_270 : (Jvm.Cond.methodLinkNest "NinthStep" (70 : Nat) ({ cls := "NinthStep$Shelf", name := "<init>", desc := "()V" } : Jvm.MethodName) "NinthStep") ∈ ns_NB := ns_nb (mt_2 (List.mem_of_getElem? (i := 30) (by decide +kernel))) rfl
set_option maxRecDepth 20000 in
theorem tw_271 : (Jvm.Cond.instanceMethod ({ cls := "NinthStep$Shelf", name := "<init>", desc := "()V" } : Jvm.MethodName)) ∈ ns_TB := ns_tb (mt_2 (List.mem_of_getElem? (i := 31) (by decide +kernel))) rfl
set_option maxRecDepth 20000 in
theorem tw_272 : (Jvm.Cond.code ({ cls := "NinthStep$Shelf", name := "<init>", desc := "()V" } : Jvm.MethodName) prog_5_method_1_code (1 : Nat) (Option.none : Option Jvm.ClassFile.FieldType)) ∈ ns_TB := ns_tb (mt_2 (List.mem_of_getElem? (i := 32) rfl)) rfl
set_option maxRecDepth 20000 in
theorem tw_273 : (Jvm.Cond.methodLink "NinthStep$Shelf" (3 : Nat) ({ cls := "java/lang/Object", name := "<init>", desc := "()V" } : Jvm.MethodName)) ∈ ns_TB := ns_tb (mt_2 (List.mem_of_getElem? (i := 33) (by decide +kernel))) rfl
set_option maxRecDepth 20000 in
theorem tw_324 : (Jvm.Cond.methodLink "NinthStepLaw" (13 : Nat) ({ cls := "NinthStep", name := "row", desc := "(III)I" } : Jvm.MethodName)) ∈ ns_TB := ns_tb (mt_2 (List.mem_of_getElem? (i := 84) (by decide +kernel))) rfl
set_option maxRecDepth 20000 in
theorem tw_325 : (Jvm.Cond.instanceMethod ({ cls := "NinthStep", name := "row", desc := "(III)I" } : Jvm.MethodName)) ∈ ns_TB := ns_tb (mt_2 (List.mem_of_getElem? (i := 85) (by decide +kernel))) rfl
set_option maxRecDepth 20000 in
theorem tw_326 : (Jvm.Cond.selects "NinthStep" ({ cls := "NinthStep", name := "row", desc := "(III)I" } : Jvm.MethodName) ({ cls := "NinthStep", name := "row", desc := "(III)I" } : Jvm.MethodName)) ∈ ns_TB := ns_tb (mt_2 (List.mem_of_getElem? (i := 86) (by decide +kernel))) rfl
set_option maxRecDepth 20000 in
theorem tw_327 : (Jvm.Cond.code ({ cls := "NinthStep", name := "row", desc := "(III)I" } : Jvm.MethodName) prog_1_method_2_code (5 : Nat) (Option.some Jvm.ClassFile.FieldType.int)) ∈ ns_TB := ns_tb (mt_2 (List.mem_of_getElem? (i := 87) rfl)) rfl
set_option maxRecDepth 20000 in
theorem tw_343 : (Jvm.Cond.methodLink "NinthStepLaw" (20 : Nat) ({ cls := "NinthStep", name := "set", desc := "(IIJ)I" } : Jvm.MethodName)) ∈ ns_TB := ns_tb (mt_2 (List.mem_of_getElem? (i := 103) (by decide +kernel))) rfl
set_option maxRecDepth 20000 in
theorem tw_344 : (Jvm.Cond.instanceMethod ({ cls := "NinthStep", name := "set", desc := "(IIJ)I" } : Jvm.MethodName)) ∈ ns_TB := ns_tb (mt_2 (List.mem_of_getElem? (i := 104) (by decide +kernel))) rfl
set_option maxRecDepth 20000 in
theorem tw_345 : (Jvm.Cond.selects "NinthStep" ({ cls := "NinthStep", name := "set", desc := "(IIJ)I" } : Jvm.MethodName) ({ cls := "NinthStep", name := "set", desc := "(IIJ)I" } : Jvm.MethodName)) ∈ ns_TB := ns_tb (mt_2 (List.mem_of_getElem? (i := 105) (by decide +kernel))) rfl
set_option maxRecDepth 20000 in
theorem tw_346 : (Jvm.Cond.code ({ cls := "NinthStep", name := "set", desc := "(IIJ)I" } : Jvm.MethodName) prog_1_method_3_code (7 : Nat) (Option.some Jvm.ClassFile.FieldType.int)) ∈ ns_TB := ns_tb (mt_2 (List.mem_of_getElem? (i := 106) rfl)) rfl
set_option maxRecDepth 20000 in
theorem tw_360 : (Jvm.Cond.methodLink "NinthStepLaw" (25 : Nat) ({ cls := "NinthStep", name := "copy", desc := "(IIIII)I" } : Jvm.MethodName)) ∈ ns_TB := ns_tb (mt_2 (List.mem_of_getElem? (i := 120) (by decide +kernel))) rfl
set_option maxRecDepth 20000 in
theorem tw_361 : (Jvm.Cond.instanceMethod ({ cls := "NinthStep", name := "copy", desc := "(IIIII)I" } : Jvm.MethodName)) ∈ ns_TB := ns_tb (mt_2 (List.mem_of_getElem? (i := 121) (by decide +kernel))) rfl
set_option maxRecDepth 20000 in
theorem tw_362 : (Jvm.Cond.selects "NinthStep" ({ cls := "NinthStep", name := "copy", desc := "(IIIII)I" } : Jvm.MethodName) ({ cls := "NinthStep", name := "copy", desc := "(IIIII)I" } : Jvm.MethodName)) ∈ ns_TB := ns_tb (mt_2 (List.mem_of_getElem? (i := 122) (by decide +kernel))) rfl
set_option maxRecDepth 20000 in
theorem tw_363 : (Jvm.Cond.code ({ cls := "NinthStep", name := "copy", desc := "(IIIII)I" } : Jvm.MethodName) prog_1_method_4_code (9 : Nat) (Option.some Jvm.ClassFile.FieldType.int)) ∈ ns_TB := ns_tb (mt_2 (List.mem_of_getElem? (i := 123) rfl)) rfl
set_option maxRecDepth 20000 in
theorem tw_370 : (Jvm.Cond.methodLink "NinthStepLaw" (30 : Nat) ({ cls := "NinthStep", name := "element", desc := "(II)J" } : Jvm.MethodName)) ∈ ns_TB := ns_tb (mt_2 (List.mem_of_getElem? (i := 130) (by decide +kernel))) rfl
set_option maxRecDepth 20000 in
theorem tw_371 : (Jvm.Cond.instanceMethod ({ cls := "NinthStep", name := "element", desc := "(II)J" } : Jvm.MethodName)) ∈ ns_TB := ns_tb (mt_2 (List.mem_of_getElem? (i := 131) (by decide +kernel))) rfl
set_option maxRecDepth 20000 in
theorem tw_372 : (Jvm.Cond.selects "NinthStep" ({ cls := "NinthStep", name := "element", desc := "(II)J" } : Jvm.MethodName) ({ cls := "NinthStep", name := "element", desc := "(II)J" } : Jvm.MethodName)) ∈ ns_TB := ns_tb (mt_2 (List.mem_of_getElem? (i := 132) (by decide +kernel))) rfl
set_option maxRecDepth 20000 in
theorem tw_373 : (Jvm.Cond.code ({ cls := "NinthStep", name := "element", desc := "(II)J" } : Jvm.MethodName) prog_1_method_5_code (4 : Nat) (Option.some Jvm.ClassFile.FieldType.long)) ∈ ns_TB := ns_tb (mt_2 (List.mem_of_getElem? (i := 133) rfl)) rfl
set_option maxRecDepth 20000 in
theorem tw_379 : (Jvm.Cond.methodLink "NinthStepLaw" (35 : Nat) ({ cls := "NinthStep", name := "holds", desc := "(I)I" } : Jvm.MethodName)) ∈ ns_TB := ns_tb (mt_2 (List.mem_of_getElem? (i := 139) (by decide +kernel))) rfl
set_option maxRecDepth 20000 in
theorem tw_380 : (Jvm.Cond.instanceMethod ({ cls := "NinthStep", name := "holds", desc := "(I)I" } : Jvm.MethodName)) ∈ ns_TB := ns_tb (mt_2 (List.mem_of_getElem? (i := 140) (by decide +kernel))) rfl
set_option maxRecDepth 20000 in
theorem tw_381 : (Jvm.Cond.selects "NinthStep" ({ cls := "NinthStep", name := "holds", desc := "(I)I" } : Jvm.MethodName) ({ cls := "NinthStep", name := "holds", desc := "(I)I" } : Jvm.MethodName)) ∈ ns_TB := ns_tb (mt_2 (List.mem_of_getElem? (i := 141) (by decide +kernel))) rfl
set_option maxRecDepth 20000 in
theorem tw_382 : (Jvm.Cond.code ({ cls := "NinthStep", name := "holds", desc := "(I)I" } : Jvm.MethodName) prog_1_method_6_code (3 : Nat) (Option.some Jvm.ClassFile.FieldType.int)) ∈ ns_TB := ns_tb (mt_2 (List.mem_of_getElem? (i := 142) rfl)) rfl
set_option maxRecDepth 20000 in
theorem tw_383 : (Jvm.Cond.methodLink "NinthStepLaw" (40 : Nat) ({ cls := "NinthStep", name := "show", desc := "(II)I" } : Jvm.MethodName)) ∈ ns_TB := ns_tb (mt_2 (List.mem_of_getElem? (i := 143) (by decide +kernel))) rfl
set_option maxRecDepth 20000 in
theorem tw_384 : (Jvm.Cond.instanceMethod ({ cls := "NinthStep", name := "show", desc := "(II)I" } : Jvm.MethodName)) ∈ ns_TB := ns_tb (mt_2 (List.mem_of_getElem? (i := 144) (by decide +kernel))) rfl
set_option maxRecDepth 20000 in
theorem tw_385 : (Jvm.Cond.selects "NinthStep" ({ cls := "NinthStep", name := "show", desc := "(II)I" } : Jvm.MethodName) ({ cls := "NinthStep", name := "show", desc := "(II)I" } : Jvm.MethodName)) ∈ ns_TB := ns_tb (mt_2 (List.mem_of_getElem? (i := 145) (by decide +kernel))) rfl
set_option maxRecDepth 20000 in
theorem tw_386 : (Jvm.Cond.code ({ cls := "NinthStep", name := "show", desc := "(II)I" } : Jvm.MethodName) prog_1_method_7_code (4 : Nat) (Option.some Jvm.ClassFile.FieldType.int)) ∈ ns_TB := ns_tb (mt_2 (List.mem_of_getElem? (i := 146) rfl)) rfl
set_option maxRecDepth 20000 in
theorem tw_391 : (Jvm.Cond.methodLink "NinthStepLaw" (45 : Nat) ({ cls := "NinthStep", name := "says", desc := "(II)I" } : Jvm.MethodName)) ∈ ns_TB := ns_tb (mt_2 (List.mem_of_getElem? (i := 151) (by decide +kernel))) rfl
set_option maxRecDepth 20000 in
theorem tw_392 : (Jvm.Cond.instanceMethod ({ cls := "NinthStep", name := "says", desc := "(II)I" } : Jvm.MethodName)) ∈ ns_TB := ns_tb (mt_2 (List.mem_of_getElem? (i := 152) (by decide +kernel))) rfl
set_option maxRecDepth 20000 in
theorem tw_393 : (Jvm.Cond.selects "NinthStep" ({ cls := "NinthStep", name := "says", desc := "(II)I" } : Jvm.MethodName) ({ cls := "NinthStep", name := "says", desc := "(II)I" } : Jvm.MethodName)) ∈ ns_TB := ns_tb (mt_2 (List.mem_of_getElem? (i := 153) (by decide +kernel))) rfl
set_option maxRecDepth 20000 in
theorem tw_394 : (Jvm.Cond.code ({ cls := "NinthStep", name := "says", desc := "(II)I" } : Jvm.MethodName) prog_1_method_8_code (5 : Nat) (Option.some Jvm.ClassFile.FieldType.int)) ∈ ns_TB := ns_tb (mt_2 (List.mem_of_getElem? (i := 154) rfl)) rfl
set_option maxRecDepth 20000 in
theorem tw_424 : (Jvm.Cond.methodLink "NinthStepLaw" (49 : Nat) ({ cls := "NinthStep", name := "length", desc := "(I)I" } : Jvm.MethodName)) ∈ ns_TB := ns_tb (mt_2 (List.mem_of_getElem? (i := 184) (by decide +kernel))) rfl
set_option maxRecDepth 20000 in
theorem tw_425 : (Jvm.Cond.instanceMethod ({ cls := "NinthStep", name := "length", desc := "(I)I" } : Jvm.MethodName)) ∈ ns_TB := ns_tb (mt_2 (List.mem_of_getElem? (i := 185) (by decide +kernel))) rfl
set_option maxRecDepth 20000 in
theorem tw_426 : (Jvm.Cond.selects "NinthStep" ({ cls := "NinthStep", name := "length", desc := "(I)I" } : Jvm.MethodName) ({ cls := "NinthStep", name := "length", desc := "(I)I" } : Jvm.MethodName)) ∈ ns_TB := ns_tb (mt_2 (List.mem_of_getElem? (i := 186) (by decide +kernel))) rfl
set_option maxRecDepth 20000 in
theorem tw_427 : (Jvm.Cond.code ({ cls := "NinthStep", name := "length", desc := "(I)I" } : Jvm.MethodName) prog_1_method_9_code (3 : Nat) (Option.some Jvm.ClassFile.FieldType.int)) ∈ ns_TB := ns_tb (mt_2 (List.mem_of_getElem? (i := 187) rfl)) rfl
set_option maxRecDepth 20000 in
theorem tw_441 : (Jvm.Cond.methodLink "NinthStepLaw" (53 : Nat) ({ cls := "NinthStep", name := "put", desc := "(IIZ)I" } : Jvm.MethodName)) ∈ ns_TB := ns_tb (mt_2 (List.mem_of_getElem? (i := 201) (by decide +kernel))) rfl
set_option maxRecDepth 20000 in
theorem tw_442 : (Jvm.Cond.instanceMethod ({ cls := "NinthStep", name := "put", desc := "(IIZ)I" } : Jvm.MethodName)) ∈ ns_TB := ns_tb (mt_2 (List.mem_of_getElem? (i := 202) (by decide +kernel))) rfl
set_option maxRecDepth 20000 in
theorem tw_443 : (Jvm.Cond.selects "NinthStep" ({ cls := "NinthStep", name := "put", desc := "(IIZ)I" } : Jvm.MethodName) ({ cls := "NinthStep", name := "put", desc := "(IIZ)I" } : Jvm.MethodName)) ∈ ns_TB := ns_tb (mt_2 (List.mem_of_getElem? (i := 203) (by decide +kernel))) rfl
set_option maxRecDepth 20000 in
theorem tw_444 : (Jvm.Cond.code ({ cls := "NinthStep", name := "put", desc := "(IIZ)I" } : Jvm.MethodName) prog_1_method_10_code (4 : Nat) (Option.some Jvm.ClassFile.FieldType.int)) ∈ ns_TB := ns_tb (mt_2 (List.mem_of_getElem? (i := 204) rfl)) rfl
set_option maxRecDepth 20000 in
theorem tw_470 : (Jvm.Cond.methodLink "NinthStepLaw" (58 : Nat) ({ cls := "NinthStep", name := "mule", desc := "(III)I" } : Jvm.MethodName)) ∈ ns_TB := ns_tb (mt_2 (List.mem_of_getElem? (i := 230) (by decide +kernel))) rfl
set_option maxRecDepth 20000 in
theorem tw_471 : (Jvm.Cond.instanceMethod ({ cls := "NinthStep", name := "mule", desc := "(III)I" } : Jvm.MethodName)) ∈ ns_TB := ns_tb (mt_2 (List.mem_of_getElem? (i := 231) (by decide +kernel))) rfl
set_option maxRecDepth 20000 in
theorem tw_472 : (Jvm.Cond.selects "NinthStep" ({ cls := "NinthStep", name := "mule", desc := "(III)I" } : Jvm.MethodName) ({ cls := "NinthStep", name := "mule", desc := "(III)I" } : Jvm.MethodName)) ∈ ns_TB := ns_tb (mt_2 (List.mem_of_getElem? (i := 232) (by decide +kernel))) rfl
set_option maxRecDepth 20000 in
theorem tw_473 : (Jvm.Cond.code ({ cls := "NinthStep", name := "mule", desc := "(III)I" } : Jvm.MethodName) prog_1_method_11_code (5 : Nat) (Option.some Jvm.ClassFile.FieldType.int)) ∈ ns_TB := ns_tb (mt_2 (List.mem_of_getElem? (i := 233) rfl)) rfl
set_option maxRecDepth 20000 in
theorem tw_483 : (Jvm.Cond.methodLink "NinthStepLaw" (62 : Nat) ({ cls := "NinthStep", name := "stand", desc := "(III)I" } : Jvm.MethodName)) ∈ ns_TB := ns_tb (mt_3 (List.mem_of_getElem? (i := 3) (by decide +kernel))) rfl
set_option maxRecDepth 20000 in
theorem tw_484 : (Jvm.Cond.instanceMethod ({ cls := "NinthStep", name := "stand", desc := "(III)I" } : Jvm.MethodName)) ∈ ns_TB := ns_tb (mt_3 (List.mem_of_getElem? (i := 4) (by decide +kernel))) rfl
set_option maxRecDepth 20000 in
theorem tw_485 : (Jvm.Cond.selects "NinthStep" ({ cls := "NinthStep", name := "stand", desc := "(III)I" } : Jvm.MethodName) ({ cls := "NinthStep", name := "stand", desc := "(III)I" } : Jvm.MethodName)) ∈ ns_TB := ns_tb (mt_3 (List.mem_of_getElem? (i := 5) (by decide +kernel))) rfl
set_option maxRecDepth 20000 in
theorem tw_486 : (Jvm.Cond.code ({ cls := "NinthStep", name := "stand", desc := "(III)I" } : Jvm.MethodName) prog_1_method_12_code (6 : Nat) (Option.some Jvm.ClassFile.FieldType.int)) ∈ ns_TB := ns_tb (mt_3 (List.mem_of_getElem? (i := 6) rfl)) rfl
set_option maxRecDepth 20000 in
theorem tw_487 : (Jvm.Cond.methodLink "NinthStepLaw" (66 : Nat) ({ cls := "NinthStep", name := "teach", desc := "(II)I" } : Jvm.MethodName)) ∈ ns_TB := ns_tb (mt_3 (List.mem_of_getElem? (i := 7) (by decide +kernel))) rfl
set_option maxRecDepth 20000 in
theorem tw_488 : (Jvm.Cond.instanceMethod ({ cls := "NinthStep", name := "teach", desc := "(II)I" } : Jvm.MethodName)) ∈ ns_TB := ns_tb (mt_3 (List.mem_of_getElem? (i := 8) (by decide +kernel))) rfl
set_option maxRecDepth 20000 in
theorem tw_489 : (Jvm.Cond.selects "NinthStep" ({ cls := "NinthStep", name := "teach", desc := "(II)I" } : Jvm.MethodName) ({ cls := "NinthStep", name := "teach", desc := "(II)I" } : Jvm.MethodName)) ∈ ns_TB := ns_tb (mt_3 (List.mem_of_getElem? (i := 9) (by decide +kernel))) rfl
set_option maxRecDepth 20000 in
theorem tw_490 : (Jvm.Cond.code ({ cls := "NinthStep", name := "teach", desc := "(II)I" } : Jvm.MethodName) prog_1_method_13_code (5 : Nat) (Option.some Jvm.ClassFile.FieldType.int)) ∈ ns_TB := ns_tb (mt_3 (List.mem_of_getElem? (i := 10) rfl)) rfl
set_option maxRecDepth 20000 in
theorem tw_491 : (Jvm.Cond.methodLink "NinthStepLaw" (70 : Nat) ({ cls := "NinthStep", name := "slip", desc := "(I)I" } : Jvm.MethodName)) ∈ ns_TB := ns_tb (mt_3 (List.mem_of_getElem? (i := 11) (by decide +kernel))) rfl
set_option maxRecDepth 20000 in
theorem tw_492 : (Jvm.Cond.instanceMethod ({ cls := "NinthStep", name := "slip", desc := "(I)I" } : Jvm.MethodName)) ∈ ns_TB := ns_tb (mt_3 (List.mem_of_getElem? (i := 12) (by decide +kernel))) rfl
set_option maxRecDepth 20000 in
theorem tw_493 : (Jvm.Cond.selects "NinthStep" ({ cls := "NinthStep", name := "slip", desc := "(I)I" } : Jvm.MethodName) ({ cls := "NinthStep", name := "slip", desc := "(I)I" } : Jvm.MethodName)) ∈ ns_TB := ns_tb (mt_3 (List.mem_of_getElem? (i := 13) (by decide +kernel))) rfl
set_option maxRecDepth 20000 in
theorem tw_494 : (Jvm.Cond.code ({ cls := "NinthStep", name := "slip", desc := "(I)I" } : Jvm.MethodName) prog_1_method_14_code (3 : Nat) (Option.some Jvm.ClassFile.FieldType.int)) ∈ ns_TB := ns_tb (mt_3 (List.mem_of_getElem? (i := 14) rfl)) rfl
set_option maxRecDepth 20000 in
theorem tw_495 : (Jvm.Cond.methodLink "NinthStepLaw" (74 : Nat) ({ cls := "NinthStep", name := "feed", desc := "(I)I" } : Jvm.MethodName)) ∈ ns_TB := ns_tb (mt_3 (List.mem_of_getElem? (i := 15) (by decide +kernel))) rfl
set_option maxRecDepth 20000 in
theorem tw_496 : (Jvm.Cond.instanceMethod ({ cls := "NinthStep", name := "feed", desc := "(I)I" } : Jvm.MethodName)) ∈ ns_TB := ns_tb (mt_3 (List.mem_of_getElem? (i := 16) (by decide +kernel))) rfl
set_option maxRecDepth 20000 in
theorem tw_497 : (Jvm.Cond.selects "NinthStep" ({ cls := "NinthStep", name := "feed", desc := "(I)I" } : Jvm.MethodName) ({ cls := "NinthStep", name := "feed", desc := "(I)I" } : Jvm.MethodName)) ∈ ns_TB := ns_tb (mt_3 (List.mem_of_getElem? (i := 17) (by decide +kernel))) rfl
set_option maxRecDepth 20000 in
theorem tw_498 : (Jvm.Cond.code ({ cls := "NinthStep", name := "feed", desc := "(I)I" } : Jvm.MethodName) prog_1_method_15_code (2 : Nat) (Option.some Jvm.ClassFile.FieldType.int)) ∈ ns_TB := ns_tb (mt_3 (List.mem_of_getElem? (i := 18) rfl)) rfl
set_option maxRecDepth 20000 in
theorem tw_503 : (Jvm.Cond.methodLink "NinthStepLaw" (78 : Nat) ({ cls := "NinthStep", name := "wipe", desc := "()I" } : Jvm.MethodName)) ∈ ns_TB := ns_tb (mt_3 (List.mem_of_getElem? (i := 23) (by decide +kernel))) rfl
set_option maxRecDepth 20000 in
theorem tw_504 : (Jvm.Cond.instanceMethod ({ cls := "NinthStep", name := "wipe", desc := "()I" } : Jvm.MethodName)) ∈ ns_TB := ns_tb (mt_3 (List.mem_of_getElem? (i := 24) (by decide +kernel))) rfl
set_option maxRecDepth 20000 in
theorem tw_505 : (Jvm.Cond.selects "NinthStep" ({ cls := "NinthStep", name := "wipe", desc := "()I" } : Jvm.MethodName) ({ cls := "NinthStep", name := "wipe", desc := "()I" } : Jvm.MethodName)) ∈ ns_TB := ns_tb (mt_3 (List.mem_of_getElem? (i := 25) (by decide +kernel))) rfl
set_option maxRecDepth 20000 in
theorem tw_506 : (Jvm.Cond.code ({ cls := "NinthStep", name := "wipe", desc := "()I" } : Jvm.MethodName) prog_1_method_16_code (2 : Nat) (Option.some Jvm.ClassFile.FieldType.int)) ∈ ns_TB := ns_tb (mt_3 (List.mem_of_getElem? (i := 26) rfl)) rfl
set_option maxRecDepth 20000 in
theorem tw_507 : (Jvm.Cond.methodLink "NinthStepLaw" (83 : Nat) ({ cls := "NinthStep", name := "pass", desc := "()I" } : Jvm.MethodName)) ∈ ns_TB := ns_tb (mt_3 (List.mem_of_getElem? (i := 27) (by decide +kernel))) rfl
set_option maxRecDepth 20000 in
theorem tw_508 : (Jvm.Cond.instanceMethod ({ cls := "NinthStep", name := "pass", desc := "()I" } : Jvm.MethodName)) ∈ ns_TB := ns_tb (mt_3 (List.mem_of_getElem? (i := 28) (by decide +kernel))) rfl
set_option maxRecDepth 20000 in
theorem tw_509 : (Jvm.Cond.selects "NinthStep" ({ cls := "NinthStep", name := "pass", desc := "()I" } : Jvm.MethodName) ({ cls := "NinthStep", name := "pass", desc := "()I" } : Jvm.MethodName)) ∈ ns_TB := ns_tb (mt_3 (List.mem_of_getElem? (i := 29) (by decide +kernel))) rfl
set_option maxRecDepth 20000 in
theorem tw_510 : (Jvm.Cond.code ({ cls := "NinthStep", name := "pass", desc := "()I" } : Jvm.MethodName) prog_1_method_17_code (2 : Nat) (Option.some Jvm.ClassFile.FieldType.int)) ∈ ns_TB := ns_tb (mt_3 (List.mem_of_getElem? (i := 30) rfl)) rfl
set_option maxRecDepth 20000 in
theorem tw_628 : (Jvm.Cond.methodLink "NinthStepLaw" (87 : Nat) ({ cls := "NinthStep", name := "muleOf", desc := "(II)I" } : Jvm.MethodName)) ∈ ns_TB := ns_tb (mt_3 (List.mem_of_getElem? (i := 148) (by decide +kernel))) rfl
set_option maxRecDepth 20000 in
theorem tw_629 : (Jvm.Cond.instanceMethod ({ cls := "NinthStep", name := "muleOf", desc := "(II)I" } : Jvm.MethodName)) ∈ ns_TB := ns_tb (mt_3 (List.mem_of_getElem? (i := 149) (by decide +kernel))) rfl
set_option maxRecDepth 20000 in
theorem tw_630 : (Jvm.Cond.selects "NinthStep" ({ cls := "NinthStep", name := "muleOf", desc := "(II)I" } : Jvm.MethodName) ({ cls := "NinthStep", name := "muleOf", desc := "(II)I" } : Jvm.MethodName)) ∈ ns_TB := ns_tb (mt_3 (List.mem_of_getElem? (i := 150) (by decide +kernel))) rfl
set_option maxRecDepth 20000 in
theorem tw_631 : (Jvm.Cond.code ({ cls := "NinthStep", name := "muleOf", desc := "(II)I" } : Jvm.MethodName) prog_1_method_18_code (4 : Nat) (Option.some Jvm.ClassFile.FieldType.int)) ∈ ns_TB := ns_tb (mt_3 (List.mem_of_getElem? (i := 151) rfl)) rfl
set_option maxRecDepth 20000 in
theorem tw_632 : (Jvm.Cond.methodLink "NinthStepLaw" (91 : Nat) ({ cls := "NinthStep", name := "placeOf", desc := "(I)I" } : Jvm.MethodName)) ∈ ns_TB := ns_tb (mt_3 (List.mem_of_getElem? (i := 152) (by decide +kernel))) rfl
set_option maxRecDepth 20000 in
theorem tw_633 : (Jvm.Cond.instanceMethod ({ cls := "NinthStep", name := "placeOf", desc := "(I)I" } : Jvm.MethodName)) ∈ ns_TB := ns_tb (mt_3 (List.mem_of_getElem? (i := 153) (by decide +kernel))) rfl
set_option maxRecDepth 20000 in
theorem tw_634 : (Jvm.Cond.selects "NinthStep" ({ cls := "NinthStep", name := "placeOf", desc := "(I)I" } : Jvm.MethodName) ({ cls := "NinthStep", name := "placeOf", desc := "(I)I" } : Jvm.MethodName)) ∈ ns_TB := ns_tb (mt_3 (List.mem_of_getElem? (i := 154) (by decide +kernel))) rfl
set_option maxRecDepth 20000 in
theorem tw_635 : (Jvm.Cond.code ({ cls := "NinthStep", name := "placeOf", desc := "(I)I" } : Jvm.MethodName) prog_1_method_19_code (4 : Nat) (Option.some Jvm.ClassFile.FieldType.int)) ∈ ns_TB := ns_tb (mt_3 (List.mem_of_getElem? (i := 155) rfl)) rfl
set_option maxRecDepth 20000 in
theorem tw_636 : (Jvm.Cond.methodLink "NinthStepLaw" (95 : Nat) ({ cls := "NinthStep", name := "stops", desc := "(II)I" } : Jvm.MethodName)) ∈ ns_TB := ns_tb (mt_3 (List.mem_of_getElem? (i := 156) (by decide +kernel))) rfl
set_option maxRecDepth 20000 in
theorem tw_637 : (Jvm.Cond.instanceMethod ({ cls := "NinthStep", name := "stops", desc := "(II)I" } : Jvm.MethodName)) ∈ ns_TB := ns_tb (mt_3 (List.mem_of_getElem? (i := 157) (by decide +kernel))) rfl
set_option maxRecDepth 20000 in
theorem tw_638 : (Jvm.Cond.selects "NinthStep" ({ cls := "NinthStep", name := "stops", desc := "(II)I" } : Jvm.MethodName) ({ cls := "NinthStep", name := "stops", desc := "(II)I" } : Jvm.MethodName)) ∈ ns_TB := ns_tb (mt_3 (List.mem_of_getElem? (i := 158) (by decide +kernel))) rfl
set_option maxRecDepth 20000 in
theorem tw_639 : (Jvm.Cond.code ({ cls := "NinthStep", name := "stops", desc := "(II)I" } : Jvm.MethodName) prog_1_method_20_code (7 : Nat) (Option.some Jvm.ClassFile.FieldType.int)) ∈ ns_TB := ns_tb (mt_3 (List.mem_of_getElem? (i := 159) rfl)) rfl
set_option maxRecDepth 20000 in
theorem tw_665 : (Jvm.Cond.methodLink "NinthStepLaw" (99 : Nat) ({ cls := "NinthStep", name := "minutes", desc := "(I)I" } : Jvm.MethodName)) ∈ ns_TB := ns_tb (mt_3 (List.mem_of_getElem? (i := 185) (by decide +kernel))) rfl
set_option maxRecDepth 20000 in
theorem tw_666 : (Jvm.Cond.instanceMethod ({ cls := "NinthStep", name := "minutes", desc := "(I)I" } : Jvm.MethodName)) ∈ ns_TB := ns_tb (mt_3 (List.mem_of_getElem? (i := 186) (by decide +kernel))) rfl
set_option maxRecDepth 20000 in
theorem tw_667 : (Jvm.Cond.selects "NinthStep" ({ cls := "NinthStep", name := "minutes", desc := "(I)I" } : Jvm.MethodName) ({ cls := "NinthStep", name := "minutes", desc := "(I)I" } : Jvm.MethodName)) ∈ ns_TB := ns_tb (mt_3 (List.mem_of_getElem? (i := 187) (by decide +kernel))) rfl
set_option maxRecDepth 20000 in
theorem tw_668 : (Jvm.Cond.code ({ cls := "NinthStep", name := "minutes", desc := "(I)I" } : Jvm.MethodName) prog_1_method_21_code (3 : Nat) (Option.some Jvm.ClassFile.FieldType.int)) ∈ ns_TB := ns_tb (mt_3 (List.mem_of_getElem? (i := 188) rfl)) rfl
set_option maxRecDepth 20000 in
theorem tw_673 : (Jvm.Cond.methodLink "NinthStepLaw" (103 : Nat) ({ cls := "NinthStep", name := "after", desc := "(II)I" } : Jvm.MethodName)) ∈ ns_TB := ns_tb (mt_3 (List.mem_of_getElem? (i := 193) (by decide +kernel))) rfl
set_option maxRecDepth 20000 in
theorem tw_674 : (Jvm.Cond.instanceMethod ({ cls := "NinthStep", name := "after", desc := "(II)I" } : Jvm.MethodName)) ∈ ns_TB := ns_tb (mt_3 (List.mem_of_getElem? (i := 194) (by decide +kernel))) rfl
set_option maxRecDepth 20000 in
theorem tw_675 : (Jvm.Cond.selects "NinthStep" ({ cls := "NinthStep", name := "after", desc := "(II)I" } : Jvm.MethodName) ({ cls := "NinthStep", name := "after", desc := "(II)I" } : Jvm.MethodName)) ∈ ns_TB := ns_tb (mt_3 (List.mem_of_getElem? (i := 195) (by decide +kernel))) rfl
set_option maxRecDepth 20000 in
theorem tw_676 : (Jvm.Cond.code ({ cls := "NinthStep", name := "after", desc := "(II)I" } : Jvm.MethodName) prog_1_method_22_code (8 : Nat) (Option.some Jvm.ClassFile.FieldType.int)) ∈ ns_TB := ns_tb (mt_3 (List.mem_of_getElem? (i := 196) rfl)) rfl
set_option maxRecDepth 20000 in
theorem tw_683 : (Jvm.Cond.methodLink "NinthStepLaw" (107 : Nat) ({ cls := "NinthStep", name := "good", desc := "(I)I" } : Jvm.MethodName)) ∈ ns_TB := ns_tb (mt_3 (List.mem_of_getElem? (i := 203) (by decide +kernel))) rfl
set_option maxRecDepth 20000 in
theorem tw_684 : (Jvm.Cond.instanceMethod ({ cls := "NinthStep", name := "good", desc := "(I)I" } : Jvm.MethodName)) ∈ ns_TB := ns_tb (mt_3 (List.mem_of_getElem? (i := 204) (by decide +kernel))) rfl
set_option maxRecDepth 20000 in
theorem tw_685 : (Jvm.Cond.selects "NinthStep" ({ cls := "NinthStep", name := "good", desc := "(I)I" } : Jvm.MethodName) ({ cls := "NinthStep", name := "good", desc := "(I)I" } : Jvm.MethodName)) ∈ ns_TB := ns_tb (mt_3 (List.mem_of_getElem? (i := 205) (by decide +kernel))) rfl
set_option maxRecDepth 20000 in
theorem tw_686 : (Jvm.Cond.code ({ cls := "NinthStep", name := "good", desc := "(I)I" } : Jvm.MethodName) prog_1_method_23_code (3 : Nat) (Option.some Jvm.ClassFile.FieldType.int)) ∈ ns_TB := ns_tb (mt_3 (List.mem_of_getElem? (i := 206) rfl)) rfl
set_option maxRecDepth 20000 in
theorem tw_696 : (Jvm.Cond.methodLink "NinthStepLaw" (111 : Nat) ({ cls := "NinthStep", name := "falls", desc := "(I)I" } : Jvm.MethodName)) ∈ ns_TB := ns_tb (mt_3 (List.mem_of_getElem? (i := 216) (by decide +kernel))) rfl
set_option maxRecDepth 20000 in
theorem tw_697 : (Jvm.Cond.instanceMethod ({ cls := "NinthStep", name := "falls", desc := "(I)I" } : Jvm.MethodName)) ∈ ns_TB := ns_tb (mt_3 (List.mem_of_getElem? (i := 217) (by decide +kernel))) rfl
set_option maxRecDepth 20000 in
theorem tw_698 : (Jvm.Cond.selects "NinthStep" ({ cls := "NinthStep", name := "falls", desc := "(I)I" } : Jvm.MethodName) ({ cls := "NinthStep", name := "falls", desc := "(I)I" } : Jvm.MethodName)) ∈ ns_TB := ns_tb (mt_3 (List.mem_of_getElem? (i := 218) (by decide +kernel))) rfl
set_option maxRecDepth 20000 in
theorem tw_699 : (Jvm.Cond.code ({ cls := "NinthStep", name := "falls", desc := "(I)I" } : Jvm.MethodName) prog_1_method_24_code (3 : Nat) (Option.some Jvm.ClassFile.FieldType.int)) ∈ ns_TB := ns_tb (mt_3 (List.mem_of_getElem? (i := 219) rfl)) rfl
set_option maxRecDepth 20000 in
theorem tw_700 : (Jvm.Cond.methodLink "NinthStepLaw" (115 : Nat) ({ cls := "NinthStep", name := "missed", desc := "(I)I" } : Jvm.MethodName)) ∈ ns_TB := ns_tb (mt_3 (List.mem_of_getElem? (i := 220) (by decide +kernel))) rfl
set_option maxRecDepth 20000 in
theorem tw_701 : (Jvm.Cond.instanceMethod ({ cls := "NinthStep", name := "missed", desc := "(I)I" } : Jvm.MethodName)) ∈ ns_TB := ns_tb (mt_3 (List.mem_of_getElem? (i := 221) (by decide +kernel))) rfl
set_option maxRecDepth 20000 in
theorem tw_702 : (Jvm.Cond.selects "NinthStep" ({ cls := "NinthStep", name := "missed", desc := "(I)I" } : Jvm.MethodName) ({ cls := "NinthStep", name := "missed", desc := "(I)I" } : Jvm.MethodName)) ∈ ns_TB := ns_tb (mt_3 (List.mem_of_getElem? (i := 222) (by decide +kernel))) rfl
set_option maxRecDepth 20000 in
theorem tw_703 : (Jvm.Cond.code ({ cls := "NinthStep", name := "missed", desc := "(I)I" } : Jvm.MethodName) prog_1_method_25_code (3 : Nat) (Option.some Jvm.ClassFile.FieldType.int)) ∈ ns_TB := ns_tb (mt_3 (List.mem_of_getElem? (i := 223) rfl)) rfl
set_option maxRecDepth 20000 in
theorem tw_704 : (Jvm.Cond.methodLink "NinthStepLaw" (119 : Nat) ({ cls := "NinthStep", name := "turns", desc := "(II)I" } : Jvm.MethodName)) ∈ ns_TB := ns_tb (mt_3 (List.mem_of_getElem? (i := 224) (by decide +kernel))) rfl
set_option maxRecDepth 20000 in
theorem tw_705 : (Jvm.Cond.instanceMethod ({ cls := "NinthStep", name := "turns", desc := "(II)I" } : Jvm.MethodName)) ∈ ns_TB := ns_tb (mt_3 (List.mem_of_getElem? (i := 225) (by decide +kernel))) rfl
set_option maxRecDepth 20000 in
theorem tw_706 : (Jvm.Cond.selects "NinthStep" ({ cls := "NinthStep", name := "turns", desc := "(II)I" } : Jvm.MethodName) ({ cls := "NinthStep", name := "turns", desc := "(II)I" } : Jvm.MethodName)) ∈ ns_TB := ns_tb (mt_3 (List.mem_of_getElem? (i := 226) (by decide +kernel))) rfl
set_option maxRecDepth 20000 in
theorem tw_707 : (Jvm.Cond.code ({ cls := "NinthStep", name := "turns", desc := "(II)I" } : Jvm.MethodName) prog_1_method_26_code (5 : Nat) (Option.some Jvm.ClassFile.FieldType.int)) ∈ ns_TB := ns_tb (mt_3 (List.mem_of_getElem? (i := 227) rfl)) rfl
set_option maxRecDepth 20000 in
theorem tw_751 : (Jvm.Cond.methodLink "NinthStepLaw" (123 : Nat) ({ cls := "NinthStep", name := "roped", desc := "(III)I" } : Jvm.MethodName)) ∈ ns_TB := ns_tb (mt_4 (List.mem_of_getElem? (i := 31) (by decide +kernel))) rfl
set_option maxRecDepth 20000 in
theorem tw_752 : (Jvm.Cond.instanceMethod ({ cls := "NinthStep", name := "roped", desc := "(III)I" } : Jvm.MethodName)) ∈ ns_TB := ns_tb (mt_4 (List.mem_of_getElem? (i := 32) (by decide +kernel))) rfl
set_option maxRecDepth 20000 in
theorem tw_753 : (Jvm.Cond.selects "NinthStep" ({ cls := "NinthStep", name := "roped", desc := "(III)I" } : Jvm.MethodName) ({ cls := "NinthStep", name := "roped", desc := "(III)I" } : Jvm.MethodName)) ∈ ns_TB := ns_tb (mt_4 (List.mem_of_getElem? (i := 33) (by decide +kernel))) rfl
set_option maxRecDepth 20000 in
theorem tw_754 : (Jvm.Cond.code ({ cls := "NinthStep", name := "roped", desc := "(III)I" } : Jvm.MethodName) prog_1_method_27_code (11 : Nat) (Option.some Jvm.ClassFile.FieldType.int)) ∈ ns_TB := ns_tb (mt_4 (List.mem_of_getElem? (i := 34) rfl)) rfl
set_option maxRecDepth 20000 in
theorem tw_756 : (Jvm.Cond.methodLink "NinthStepLaw" (127 : Nat) ({ cls := "NinthStep", name := "meets", desc := "(II)I" } : Jvm.MethodName)) ∈ ns_TB := ns_tb (mt_4 (List.mem_of_getElem? (i := 36) (by decide +kernel))) rfl
set_option maxRecDepth 20000 in
theorem tw_757 : (Jvm.Cond.instanceMethod ({ cls := "NinthStep", name := "meets", desc := "(II)I" } : Jvm.MethodName)) ∈ ns_TB := ns_tb (mt_4 (List.mem_of_getElem? (i := 37) (by decide +kernel))) rfl
set_option maxRecDepth 20000 in
theorem tw_758 : (Jvm.Cond.selects "NinthStep" ({ cls := "NinthStep", name := "meets", desc := "(II)I" } : Jvm.MethodName) ({ cls := "NinthStep", name := "meets", desc := "(II)I" } : Jvm.MethodName)) ∈ ns_TB := ns_tb (mt_4 (List.mem_of_getElem? (i := 38) (by decide +kernel))) rfl
set_option maxRecDepth 20000 in
theorem tw_759 : (Jvm.Cond.code ({ cls := "NinthStep", name := "meets", desc := "(II)I" } : Jvm.MethodName) prog_1_method_28_code (6 : Nat) (Option.some Jvm.ClassFile.FieldType.int)) ∈ ns_TB := ns_tb (mt_4 (List.mem_of_getElem? (i := 39) rfl)) rfl
set_option maxRecDepth 20000 in
theorem tw_765 : (Jvm.Cond.methodLink "NinthStepLaw" (131 : Nat) ({ cls := "NinthStep", name := "last", desc := "()I" } : Jvm.MethodName)) ∈ ns_TB := ns_tb (mt_4 (List.mem_of_getElem? (i := 45) (by decide +kernel))) rfl
set_option maxRecDepth 20000 in
theorem tw_766 : (Jvm.Cond.instanceMethod ({ cls := "NinthStep", name := "last", desc := "()I" } : Jvm.MethodName)) ∈ ns_TB := ns_tb (mt_4 (List.mem_of_getElem? (i := 46) (by decide +kernel))) rfl
set_option maxRecDepth 20000 in
theorem tw_767 : (Jvm.Cond.selects "NinthStep" ({ cls := "NinthStep", name := "last", desc := "()I" } : Jvm.MethodName) ({ cls := "NinthStep", name := "last", desc := "()I" } : Jvm.MethodName)) ∈ ns_TB := ns_tb (mt_4 (List.mem_of_getElem? (i := 47) (by decide +kernel))) rfl
set_option maxRecDepth 20000 in
theorem tw_768 : (Jvm.Cond.code ({ cls := "NinthStep", name := "last", desc := "()I" } : Jvm.MethodName) prog_1_method_29_code (5 : Nat) (Option.some Jvm.ClassFile.FieldType.int)) ∈ ns_TB := ns_tb (mt_4 (List.mem_of_getElem? (i := 48) rfl)) rfl
set_option maxRecDepth 20000 in
theorem tw_769 : (Jvm.Cond.methodLink "NinthStepLaw" (135 : Nat) ({ cls := "NinthStep", name := "train", desc := "(II)I" } : Jvm.MethodName)) ∈ ns_TB := ns_tb (mt_4 (List.mem_of_getElem? (i := 49) (by decide +kernel))) rfl
set_option maxRecDepth 20000 in
theorem tw_770 : (Jvm.Cond.instanceMethod ({ cls := "NinthStep", name := "train", desc := "(II)I" } : Jvm.MethodName)) ∈ ns_TB := ns_tb (mt_4 (List.mem_of_getElem? (i := 50) (by decide +kernel))) rfl
set_option maxRecDepth 20000 in
theorem tw_771 : (Jvm.Cond.selects "NinthStep" ({ cls := "NinthStep", name := "train", desc := "(II)I" } : Jvm.MethodName) ({ cls := "NinthStep", name := "train", desc := "(II)I" } : Jvm.MethodName)) ∈ ns_TB := ns_tb (mt_4 (List.mem_of_getElem? (i := 51) (by decide +kernel))) rfl
set_option maxRecDepth 20000 in
theorem tw_772 : (Jvm.Cond.code ({ cls := "NinthStep", name := "train", desc := "(II)I" } : Jvm.MethodName) prog_1_method_30_code (6 : Nat) (Option.some Jvm.ClassFile.FieldType.int)) ∈ ns_TB := ns_tb (mt_4 (List.mem_of_getElem? (i := 52) rfl)) rfl
set_option maxRecDepth 20000 in
theorem tw_781 : (Jvm.Cond.methodLink "NinthStepLaw" (139 : Nat) ({ cls := "NinthStep", name := "crowd", desc := "(I)I" } : Jvm.MethodName)) ∈ ns_TB := ns_tb (mt_4 (List.mem_of_getElem? (i := 61) (by decide +kernel))) rfl
set_option maxRecDepth 20000 in
theorem tw_782 : (Jvm.Cond.instanceMethod ({ cls := "NinthStep", name := "crowd", desc := "(I)I" } : Jvm.MethodName)) ∈ ns_TB := ns_tb (mt_4 (List.mem_of_getElem? (i := 62) (by decide +kernel))) rfl
set_option maxRecDepth 20000 in
theorem tw_783 : (Jvm.Cond.selects "NinthStep" ({ cls := "NinthStep", name := "crowd", desc := "(I)I" } : Jvm.MethodName) ({ cls := "NinthStep", name := "crowd", desc := "(I)I" } : Jvm.MethodName)) ∈ ns_TB := ns_tb (mt_4 (List.mem_of_getElem? (i := 63) (by decide +kernel))) rfl
set_option maxRecDepth 20000 in
theorem tw_784 : (Jvm.Cond.code ({ cls := "NinthStep", name := "crowd", desc := "(I)I" } : Jvm.MethodName) prog_1_method_31_code (2 : Nat) (Option.some Jvm.ClassFile.FieldType.int)) ∈ ns_TB := ns_tb (mt_4 (List.mem_of_getElem? (i := 64) rfl)) rfl
set_option maxRecDepth 20000 in
theorem tw_789 : (Jvm.Cond.methodLink "NinthStepLaw" (143 : Nat) ({ cls := "NinthStep", name := "best", desc := "(I)I" } : Jvm.MethodName)) ∈ ns_TB := ns_tb (mt_4 (List.mem_of_getElem? (i := 69) (by decide +kernel))) rfl
set_option maxRecDepth 20000 in
theorem tw_790 : (Jvm.Cond.instanceMethod ({ cls := "NinthStep", name := "best", desc := "(I)I" } : Jvm.MethodName)) ∈ ns_TB := ns_tb (mt_4 (List.mem_of_getElem? (i := 70) (by decide +kernel))) rfl
set_option maxRecDepth 20000 in
theorem tw_791 : (Jvm.Cond.selects "NinthStep" ({ cls := "NinthStep", name := "best", desc := "(I)I" } : Jvm.MethodName) ({ cls := "NinthStep", name := "best", desc := "(I)I" } : Jvm.MethodName)) ∈ ns_TB := ns_tb (mt_4 (List.mem_of_getElem? (i := 71) (by decide +kernel))) rfl
set_option maxRecDepth 20000 in
theorem tw_792 : (Jvm.Cond.code ({ cls := "NinthStep", name := "best", desc := "(I)I" } : Jvm.MethodName) prog_1_method_32_code (4 : Nat) (Option.some Jvm.ClassFile.FieldType.int)) ∈ ns_TB := ns_tb (mt_4 (List.mem_of_getElem? (i := 72) rfl)) rfl
set_option maxRecDepth 20000 in
theorem tw_797 : (Jvm.Cond.methodLink "NinthStepLaw" (147 : Nat) ({ cls := "NinthStep", name := "stones", desc := "(I)I" } : Jvm.MethodName)) ∈ ns_TB := ns_tb (mt_4 (List.mem_of_getElem? (i := 77) (by decide +kernel))) rfl
set_option maxRecDepth 20000 in
theorem tw_798 : (Jvm.Cond.instanceMethod ({ cls := "NinthStep", name := "stones", desc := "(I)I" } : Jvm.MethodName)) ∈ ns_TB := ns_tb (mt_4 (List.mem_of_getElem? (i := 78) (by decide +kernel))) rfl
set_option maxRecDepth 20000 in
theorem tw_799 : (Jvm.Cond.selects "NinthStep" ({ cls := "NinthStep", name := "stones", desc := "(I)I" } : Jvm.MethodName) ({ cls := "NinthStep", name := "stones", desc := "(I)I" } : Jvm.MethodName)) ∈ ns_TB := ns_tb (mt_4 (List.mem_of_getElem? (i := 79) (by decide +kernel))) rfl
set_option maxRecDepth 20000 in
theorem tw_800 : (Jvm.Cond.code ({ cls := "NinthStep", name := "stones", desc := "(I)I" } : Jvm.MethodName) prog_1_method_33_code (3 : Nat) (Option.some Jvm.ClassFile.FieldType.int)) ∈ ns_TB := ns_tb (mt_4 (List.mem_of_getElem? (i := 80) rfl)) rfl
set_option maxRecDepth 20000 in
theorem tw_857 : (Jvm.Cond.methodLink "NinthStepLaw" (151 : Nat) ({ cls := "NinthStep", name := "numbers", desc := "(III)I" } : Jvm.MethodName)) ∈ ns_TB := ns_tb (mt_4 (List.mem_of_getElem? (i := 137) (by decide +kernel))) rfl
set_option maxRecDepth 20000 in
theorem tw_858 : (Jvm.Cond.instanceMethod ({ cls := "NinthStep", name := "numbers", desc := "(III)I" } : Jvm.MethodName)) ∈ ns_TB := ns_tb (mt_4 (List.mem_of_getElem? (i := 138) (by decide +kernel))) rfl
set_option maxRecDepth 20000 in
theorem tw_859 : (Jvm.Cond.selects "NinthStep" ({ cls := "NinthStep", name := "numbers", desc := "(III)I" } : Jvm.MethodName) ({ cls := "NinthStep", name := "numbers", desc := "(III)I" } : Jvm.MethodName)) ∈ ns_TB := ns_tb (mt_4 (List.mem_of_getElem? (i := 139) (by decide +kernel))) rfl
set_option maxRecDepth 20000 in
theorem tw_860 : (Jvm.Cond.code ({ cls := "NinthStep", name := "numbers", desc := "(III)I" } : Jvm.MethodName) prog_1_method_34_code (8 : Nat) (Option.some Jvm.ClassFile.FieldType.int)) ∈ ns_TB := ns_tb (mt_4 (List.mem_of_getElem? (i := 140) rfl)) rfl
set_option maxRecDepth 20000 in
theorem tw_874 : (Jvm.Cond.methodLink "NinthStepLaw" (155 : Nat) ({ cls := "NinthStep", name := "sure", desc := "(II)I" } : Jvm.MethodName)) ∈ ns_TB := ns_tb (mt_4 (List.mem_of_getElem? (i := 154) (by decide +kernel))) rfl
set_option maxRecDepth 20000 in
theorem tw_875 : (Jvm.Cond.instanceMethod ({ cls := "NinthStep", name := "sure", desc := "(II)I" } : Jvm.MethodName)) ∈ ns_TB := ns_tb (mt_4 (List.mem_of_getElem? (i := 155) (by decide +kernel))) rfl
set_option maxRecDepth 20000 in
theorem tw_876 : (Jvm.Cond.selects "NinthStep" ({ cls := "NinthStep", name := "sure", desc := "(II)I" } : Jvm.MethodName) ({ cls := "NinthStep", name := "sure", desc := "(II)I" } : Jvm.MethodName)) ∈ ns_TB := ns_tb (mt_4 (List.mem_of_getElem? (i := 156) (by decide +kernel))) rfl
set_option maxRecDepth 20000 in
theorem tw_877 : (Jvm.Cond.code ({ cls := "NinthStep", name := "sure", desc := "(II)I" } : Jvm.MethodName) prog_1_method_35_code (4 : Nat) (Option.some Jvm.ClassFile.FieldType.int)) ∈ ns_TB := ns_tb (mt_4 (List.mem_of_getElem? (i := 157) rfl)) rfl
set_option maxRecDepth 20000 in
theorem tw_893 : (Jvm.Cond.methodLink "NinthStepLaw" (159 : Nat) ({ cls := "NinthStep", name := "judge", desc := "(III)I" } : Jvm.MethodName)) ∈ ns_TB := ns_tb (mt_4 (List.mem_of_getElem? (i := 173) (by decide +kernel))) rfl
set_option maxRecDepth 20000 in
theorem tw_894 : (Jvm.Cond.instanceMethod ({ cls := "NinthStep", name := "judge", desc := "(III)I" } : Jvm.MethodName)) ∈ ns_TB := ns_tb (mt_4 (List.mem_of_getElem? (i := 174) (by decide +kernel))) rfl
set_option maxRecDepth 20000 in
theorem tw_895 : (Jvm.Cond.selects "NinthStep" ({ cls := "NinthStep", name := "judge", desc := "(III)I" } : Jvm.MethodName) ({ cls := "NinthStep", name := "judge", desc := "(III)I" } : Jvm.MethodName)) ∈ ns_TB := ns_tb (mt_4 (List.mem_of_getElem? (i := 175) (by decide +kernel))) rfl
set_option maxRecDepth 20000 in
theorem tw_896 : (Jvm.Cond.code ({ cls := "NinthStep", name := "judge", desc := "(III)I" } : Jvm.MethodName) prog_1_method_36_code (7 : Nat) (Option.some Jvm.ClassFile.FieldType.int)) ∈ ns_TB := ns_tb (mt_4 (List.mem_of_getElem? (i := 176) rfl)) rfl
set_option maxRecDepth 20000 in
theorem tw_900 : (Jvm.Cond.methodLink "NinthStepLaw" (163 : Nat) ({ cls := "NinthStep", name := "worst", desc := "()I" } : Jvm.MethodName)) ∈ ns_TB := ns_tb (mt_4 (List.mem_of_getElem? (i := 180) (by decide +kernel))) rfl
set_option maxRecDepth 20000 in
theorem tw_901 : (Jvm.Cond.instanceMethod ({ cls := "NinthStep", name := "worst", desc := "()I" } : Jvm.MethodName)) ∈ ns_TB := ns_tb (mt_4 (List.mem_of_getElem? (i := 181) (by decide +kernel))) rfl
set_option maxRecDepth 20000 in
theorem tw_902 : (Jvm.Cond.selects "NinthStep" ({ cls := "NinthStep", name := "worst", desc := "()I" } : Jvm.MethodName) ({ cls := "NinthStep", name := "worst", desc := "()I" } : Jvm.MethodName)) ∈ ns_TB := ns_tb (mt_4 (List.mem_of_getElem? (i := 182) (by decide +kernel))) rfl
set_option maxRecDepth 20000 in
theorem tw_903 : (Jvm.Cond.code ({ cls := "NinthStep", name := "worst", desc := "()I" } : Jvm.MethodName) prog_1_method_37_code (5 : Nat) (Option.some Jvm.ClassFile.FieldType.int)) ∈ ns_TB := ns_tb (mt_4 (List.mem_of_getElem? (i := 183) rfl)) rfl
set_option maxRecDepth 20000 in
theorem tw_904 : (Jvm.Cond.methodLink "NinthStepLaw" (167 : Nat) ({ cls := "NinthStep", name := "lucky", desc := "(I)I" } : Jvm.MethodName)) ∈ ns_TB := ns_tb (mt_4 (List.mem_of_getElem? (i := 184) (by decide +kernel))) rfl
set_option maxRecDepth 20000 in
theorem tw_905 : (Jvm.Cond.instanceMethod ({ cls := "NinthStep", name := "lucky", desc := "(I)I" } : Jvm.MethodName)) ∈ ns_TB := ns_tb (mt_4 (List.mem_of_getElem? (i := 185) (by decide +kernel))) rfl
set_option maxRecDepth 20000 in
theorem tw_906 : (Jvm.Cond.selects "NinthStep" ({ cls := "NinthStep", name := "lucky", desc := "(I)I" } : Jvm.MethodName) ({ cls := "NinthStep", name := "lucky", desc := "(I)I" } : Jvm.MethodName)) ∈ ns_TB := ns_tb (mt_4 (List.mem_of_getElem? (i := 186) (by decide +kernel))) rfl
set_option maxRecDepth 20000 in
theorem tw_907 : (Jvm.Cond.code ({ cls := "NinthStep", name := "lucky", desc := "(I)I" } : Jvm.MethodName) prog_1_method_38_code (4 : Nat) (Option.some Jvm.ClassFile.FieldType.int)) ∈ ns_TB := ns_tb (mt_4 (List.mem_of_getElem? (i := 187) rfl)) rfl
set_option maxRecDepth 20000 in
theorem tw_908 : (Jvm.Cond.methodLink "NinthStepLaw" (171 : Nat) ({ cls := "NinthStep", name := "goes", desc := "(II)I" } : Jvm.MethodName)) ∈ ns_TB := ns_tb (mt_4 (List.mem_of_getElem? (i := 188) (by decide +kernel))) rfl
set_option maxRecDepth 20000 in
theorem tw_909 : (Jvm.Cond.instanceMethod ({ cls := "NinthStep", name := "goes", desc := "(II)I" } : Jvm.MethodName)) ∈ ns_TB := ns_tb (mt_4 (List.mem_of_getElem? (i := 189) (by decide +kernel))) rfl
set_option maxRecDepth 20000 in
theorem tw_910 : (Jvm.Cond.selects "NinthStep" ({ cls := "NinthStep", name := "goes", desc := "(II)I" } : Jvm.MethodName) ({ cls := "NinthStep", name := "goes", desc := "(II)I" } : Jvm.MethodName)) ∈ ns_TB := ns_tb (mt_4 (List.mem_of_getElem? (i := 190) (by decide +kernel))) rfl
set_option maxRecDepth 20000 in
theorem tw_911 : (Jvm.Cond.code ({ cls := "NinthStep", name := "goes", desc := "(II)I" } : Jvm.MethodName) prog_1_method_39_code (5 : Nat) (Option.some Jvm.ClassFile.FieldType.int)) ∈ ns_TB := ns_tb (mt_4 (List.mem_of_getElem? (i := 191) rfl)) rfl
set_option maxRecDepth 20000 in
theorem tw_922 : (Jvm.Cond.methodLink "NinthStepLaw" (175 : Nat) ({ cls := "NinthStep", name := "turn", desc := "(I)I" } : Jvm.MethodName)) ∈ ns_TB := ns_tb (mt_4 (List.mem_of_getElem? (i := 202) (by decide +kernel))) rfl
set_option maxRecDepth 20000 in
theorem tw_923 : (Jvm.Cond.instanceMethod ({ cls := "NinthStep", name := "turn", desc := "(I)I" } : Jvm.MethodName)) ∈ ns_TB := ns_tb (mt_4 (List.mem_of_getElem? (i := 203) (by decide +kernel))) rfl
set_option maxRecDepth 20000 in
theorem tw_924 : (Jvm.Cond.selects "NinthStep" ({ cls := "NinthStep", name := "turn", desc := "(I)I" } : Jvm.MethodName) ({ cls := "NinthStep", name := "turn", desc := "(I)I" } : Jvm.MethodName)) ∈ ns_TB := ns_tb (mt_4 (List.mem_of_getElem? (i := 204) (by decide +kernel))) rfl
set_option maxRecDepth 20000 in
theorem tw_925 : (Jvm.Cond.code ({ cls := "NinthStep", name := "turn", desc := "(I)I" } : Jvm.MethodName) prog_1_method_40_code (3 : Nat) (Option.some Jvm.ClassFile.FieldType.int)) ∈ ns_TB := ns_tb (mt_4 (List.mem_of_getElem? (i := 205) rfl)) rfl
set_option maxRecDepth 20000 in
theorem tw_931 : (Jvm.Cond.methodLink "NinthStepLaw" (179 : Nat) ({ cls := "NinthStep", name := "day", desc := "()I" } : Jvm.MethodName)) ∈ ns_TB := ns_tb (mt_4 (List.mem_of_getElem? (i := 211) (by decide +kernel))) rfl
set_option maxRecDepth 20000 in
theorem tw_932 : (Jvm.Cond.instanceMethod ({ cls := "NinthStep", name := "day", desc := "()I" } : Jvm.MethodName)) ∈ ns_TB := ns_tb (mt_4 (List.mem_of_getElem? (i := 212) (by decide +kernel))) rfl
set_option maxRecDepth 20000 in
theorem tw_933 : (Jvm.Cond.selects "NinthStep" ({ cls := "NinthStep", name := "day", desc := "()I" } : Jvm.MethodName) ({ cls := "NinthStep", name := "day", desc := "()I" } : Jvm.MethodName)) ∈ ns_TB := ns_tb (mt_4 (List.mem_of_getElem? (i := 213) (by decide +kernel))) rfl
set_option maxRecDepth 20000 in
theorem tw_934 : (Jvm.Cond.code ({ cls := "NinthStep", name := "day", desc := "()I" } : Jvm.MethodName) prog_1_method_41_code (3 : Nat) (Option.some Jvm.ClassFile.FieldType.int)) ∈ ns_TB := ns_tb (mt_4 (List.mem_of_getElem? (i := 214) rfl)) rfl
set_option maxRecDepth 20000 in
theorem tw_945 : (Jvm.Cond.methodLink "NinthStepLaw" (183 : Nat) ({ cls := "NinthStep", name := "home", desc := "()I" } : Jvm.MethodName)) ∈ ns_TB := ns_tb (mt_4 (List.mem_of_getElem? (i := 225) (by decide +kernel))) rfl
set_option maxRecDepth 20000 in
theorem tw_946 : (Jvm.Cond.instanceMethod ({ cls := "NinthStep", name := "home", desc := "()I" } : Jvm.MethodName)) ∈ ns_TB := ns_tb (mt_4 (List.mem_of_getElem? (i := 226) (by decide +kernel))) rfl
set_option maxRecDepth 20000 in
theorem tw_947 : (Jvm.Cond.selects "NinthStep" ({ cls := "NinthStep", name := "home", desc := "()I" } : Jvm.MethodName) ({ cls := "NinthStep", name := "home", desc := "()I" } : Jvm.MethodName)) ∈ ns_TB := ns_tb (mt_4 (List.mem_of_getElem? (i := 227) (by decide +kernel))) rfl
set_option maxRecDepth 20000 in
theorem tw_948 : (Jvm.Cond.code ({ cls := "NinthStep", name := "home", desc := "()I" } : Jvm.MethodName) prog_1_method_42_code (4 : Nat) (Option.some Jvm.ClassFile.FieldType.int)) ∈ ns_TB := ns_tb (mt_4 (List.mem_of_getElem? (i := 228) rfl)) rfl
set_option maxRecDepth 20000 in
theorem tw_949 : (Jvm.Cond.methodLink "NinthStepLaw" (187 : Nat) ({ cls := "NinthStep", name := "seed", desc := "(I)I" } : Jvm.MethodName)) ∈ ns_TB := ns_tb (mt_4 (List.mem_of_getElem? (i := 229) (by decide +kernel))) rfl
set_option maxRecDepth 20000 in
theorem tw_950 : (Jvm.Cond.instanceMethod ({ cls := "NinthStep", name := "seed", desc := "(I)I" } : Jvm.MethodName)) ∈ ns_TB := ns_tb (mt_4 (List.mem_of_getElem? (i := 230) (by decide +kernel))) rfl
set_option maxRecDepth 20000 in
theorem tw_951 : (Jvm.Cond.selects "NinthStep" ({ cls := "NinthStep", name := "seed", desc := "(I)I" } : Jvm.MethodName) ({ cls := "NinthStep", name := "seed", desc := "(I)I" } : Jvm.MethodName)) ∈ ns_TB := ns_tb (mt_4 (List.mem_of_getElem? (i := 231) (by decide +kernel))) rfl
set_option maxRecDepth 20000 in
theorem tw_952 : (Jvm.Cond.code ({ cls := "NinthStep", name := "seed", desc := "(I)I" } : Jvm.MethodName) prog_1_method_43_code (3 : Nat) (Option.some Jvm.ClassFile.FieldType.int)) ∈ ns_TB := ns_tb (mt_4 (List.mem_of_getElem? (i := 232) rfl)) rfl
set_option maxRecDepth 20000 in
theorem tw_953 : (Jvm.Cond.methodLink "NinthStepLaw" (191 : Nat) ({ cls := "NinthStep", name := "image", desc := "()I" } : Jvm.MethodName)) ∈ ns_TB := ns_tb (mt_4 (List.mem_of_getElem? (i := 233) (by decide +kernel))) rfl
set_option maxRecDepth 20000 in
theorem tw_954 : (Jvm.Cond.instanceMethod ({ cls := "NinthStep", name := "image", desc := "()I" } : Jvm.MethodName)) ∈ ns_TB := ns_tb (mt_4 (List.mem_of_getElem? (i := 234) (by decide +kernel))) rfl
set_option maxRecDepth 20000 in
theorem tw_955 : (Jvm.Cond.selects "NinthStep" ({ cls := "NinthStep", name := "image", desc := "()I" } : Jvm.MethodName) ({ cls := "NinthStep", name := "image", desc := "()I" } : Jvm.MethodName)) ∈ ns_TB := ns_tb (mt_4 (List.mem_of_getElem? (i := 235) (by decide +kernel))) rfl
set_option maxRecDepth 20000 in
theorem tw_956 : (Jvm.Cond.code ({ cls := "NinthStep", name := "image", desc := "()I" } : Jvm.MethodName) prog_1_method_44_code (1 : Nat) (Option.some Jvm.ClassFile.FieldType.int)) ∈ ns_TB := ns_tb (mt_4 (List.mem_of_getElem? (i := 236) rfl)) rfl
set_option maxRecDepth 20000 in
theorem tw_957 : (Jvm.Cond.methodLink "NinthStepLaw" (195 : Nat) ({ cls := "NinthStep", name := "back", desc := "()I" } : Jvm.MethodName)) ∈ ns_TB := ns_tb (mt_4 (List.mem_of_getElem? (i := 237) (by decide +kernel))) rfl
set_option maxRecDepth 20000 in
theorem tw_958 : (Jvm.Cond.instanceMethod ({ cls := "NinthStep", name := "back", desc := "()I" } : Jvm.MethodName)) ∈ ns_TB := ns_tb (mt_4 (List.mem_of_getElem? (i := 238) (by decide +kernel))) rfl
set_option maxRecDepth 20000 in
theorem tw_959 : (Jvm.Cond.selects "NinthStep" ({ cls := "NinthStep", name := "back", desc := "()I" } : Jvm.MethodName) ({ cls := "NinthStep", name := "back", desc := "()I" } : Jvm.MethodName)) ∈ ns_TB := ns_tb (mt_4 (List.mem_of_getElem? (i := 239) (by decide +kernel))) rfl
set_option maxRecDepth 20000 in
theorem tw_960 : (Jvm.Cond.code ({ cls := "NinthStep", name := "back", desc := "()I" } : Jvm.MethodName) prog_1_method_45_code (2 : Nat) (Option.some Jvm.ClassFile.FieldType.int)) ∈ ns_TB := ns_tb (mt_5 (List.mem_of_getElem? (i := 0) rfl)) rfl
set_option maxRecDepth 20000 in
theorem tw_961 : (Jvm.Cond.methodLink "NinthStepLaw" (199 : Nat) ({ cls := "NinthStep", name := "status", desc := "(I)I" } : Jvm.MethodName)) ∈ ns_TB := ns_tb (mt_5 (List.mem_of_getElem? (i := 1) (by decide +kernel))) rfl
set_option maxRecDepth 20000 in
theorem tw_962 : (Jvm.Cond.instanceMethod ({ cls := "NinthStep", name := "status", desc := "(I)I" } : Jvm.MethodName)) ∈ ns_TB := ns_tb (mt_5 (List.mem_of_getElem? (i := 2) (by decide +kernel))) rfl
set_option maxRecDepth 20000 in
theorem tw_963 : (Jvm.Cond.selects "NinthStep" ({ cls := "NinthStep", name := "status", desc := "(I)I" } : Jvm.MethodName) ({ cls := "NinthStep", name := "status", desc := "(I)I" } : Jvm.MethodName)) ∈ ns_TB := ns_tb (mt_5 (List.mem_of_getElem? (i := 3) (by decide +kernel))) rfl
set_option maxRecDepth 20000 in
theorem tw_964 : (Jvm.Cond.code ({ cls := "NinthStep", name := "status", desc := "(I)I" } : Jvm.MethodName) prog_1_method_46_code (2 : Nat) (Option.some Jvm.ClassFile.FieldType.int)) ∈ ns_TB := ns_tb (mt_5 (List.mem_of_getElem? (i := 4) rfl)) rfl
set_option maxRecDepth 20000 in
theorem tw_969 : (Jvm.Cond.classLink "NinthStepLaw" (10 : Nat) "NinthStepModel") ∈ ns_TB := ns_tb (mt_5 (List.mem_of_getElem? (i := 9) (by decide +kernel))) rfl
set_option maxRecDepth 20000 in
theorem tw_970 : (Jvm.Cond.instantiable "NinthStepModel" (31 : Nat)) ∈ ns_TB := ns_tb (mt_5 (List.mem_of_getElem? (i := 10) (by decide +kernel))) rfl
set_option maxRecDepth 20000 in
theorem tw_971 : (Jvm.Cond.methodLink "NinthStepLaw" (12 : Nat) ({ cls := "NinthStepModel", name := "<init>", desc := "()V" } : Jvm.MethodName)) ∈ ns_TB := ns_tb (mt_5 (List.mem_of_getElem? (i := 11) (by decide +kernel))) rfl
set_option maxRecDepth 20000 in
theorem tw_972 : (Jvm.Cond.instanceMethod ({ cls := "NinthStepModel", name := "<init>", desc := "()V" } : Jvm.MethodName)) ∈ ns_TB := ns_tb (mt_5 (List.mem_of_getElem? (i := 12) (by decide +kernel))) rfl
set_option maxRecDepth 20000 in
theorem tw_973 : (Jvm.Cond.code ({ cls := "NinthStepModel", name := "<init>", desc := "()V" } : Jvm.MethodName) prog_11_method_1_code (2 : Nat) (Option.none : Option Jvm.ClassFile.FieldType)) ∈ ns_TB := ns_tb (mt_5 (List.mem_of_getElem? (i := 13) rfl)) rfl
set_option maxRecDepth 20000 in
theorem tw_974 : (Jvm.Cond.methodLink "NinthStepModel" (1 : Nat) ({ cls := "java/lang/Object", name := "<init>", desc := "()V" } : Jvm.MethodName)) ∈ ns_TB := ns_tb (mt_5 (List.mem_of_getElem? (i := 14) (by decide +kernel))) rfl
set_option maxRecDepth 20000 in
theorem tw_1069 : (Jvm.Cond.methodLink "NinthStepLaw" (17 : Nat) ({ cls := "NinthStepModel", name := "row", desc := "(III)I" } : Jvm.MethodName)) ∈ ns_TB := ns_tb (mt_5 (List.mem_of_getElem? (i := 109) (by decide +kernel))) rfl
set_option maxRecDepth 20000 in
theorem tw_1070 : (Jvm.Cond.instanceMethod ({ cls := "NinthStepModel", name := "row", desc := "(III)I" } : Jvm.MethodName)) ∈ ns_TB := ns_tb (mt_5 (List.mem_of_getElem? (i := 110) (by decide +kernel))) rfl
set_option maxRecDepth 20000 in
theorem tw_1071 : (Jvm.Cond.selects "NinthStepModel" ({ cls := "NinthStepModel", name := "row", desc := "(III)I" } : Jvm.MethodName) ({ cls := "NinthStepModel", name := "row", desc := "(III)I" } : Jvm.MethodName)) ∈ ns_TB := ns_tb (mt_5 (List.mem_of_getElem? (i := 111) (by decide +kernel))) rfl
set_option maxRecDepth 20000 in
theorem tw_1072 : (Jvm.Cond.code ({ cls := "NinthStepModel", name := "row", desc := "(III)I" } : Jvm.MethodName) prog_11_method_8_code (5 : Nat) (Option.some Jvm.ClassFile.FieldType.int)) ∈ ns_TB := ns_tb (mt_5 (List.mem_of_getElem? (i := 112) rfl)) rfl
set_option maxRecDepth 20000 in
theorem tw_1080 : (Jvm.Cond.methodLink "NinthStepLaw" (24 : Nat) ({ cls := "NinthStepModel", name := "set", desc := "(IIJ)I" } : Jvm.MethodName)) ∈ ns_TB := ns_tb (mt_5 (List.mem_of_getElem? (i := 120) (by decide +kernel))) rfl
set_option maxRecDepth 20000 in
theorem tw_1081 : (Jvm.Cond.instanceMethod ({ cls := "NinthStepModel", name := "set", desc := "(IIJ)I" } : Jvm.MethodName)) ∈ ns_TB := ns_tb (mt_5 (List.mem_of_getElem? (i := 121) (by decide +kernel))) rfl
set_option maxRecDepth 20000 in
theorem tw_1082 : (Jvm.Cond.selects "NinthStepModel" ({ cls := "NinthStepModel", name := "set", desc := "(IIJ)I" } : Jvm.MethodName) ({ cls := "NinthStepModel", name := "set", desc := "(IIJ)I" } : Jvm.MethodName)) ∈ ns_TB := ns_tb (mt_5 (List.mem_of_getElem? (i := 122) (by decide +kernel))) rfl
set_option maxRecDepth 20000 in
theorem tw_1083 : (Jvm.Cond.code ({ cls := "NinthStepModel", name := "set", desc := "(IIJ)I" } : Jvm.MethodName) prog_11_method_10_code (8 : Nat) (Option.some Jvm.ClassFile.FieldType.int)) ∈ ns_TB := ns_tb (mt_5 (List.mem_of_getElem? (i := 123) rfl)) rfl
set_option maxRecDepth 20000 in
theorem tw_1088 : (Jvm.Cond.methodLink "NinthStepLaw" (29 : Nat) ({ cls := "NinthStepModel", name := "copy", desc := "(IIIII)I" } : Jvm.MethodName)) ∈ ns_TB := ns_tb (mt_5 (List.mem_of_getElem? (i := 128) (by decide +kernel))) rfl
set_option maxRecDepth 20000 in
theorem tw_1089 : (Jvm.Cond.instanceMethod ({ cls := "NinthStepModel", name := "copy", desc := "(IIIII)I" } : Jvm.MethodName)) ∈ ns_TB := ns_tb (mt_5 (List.mem_of_getElem? (i := 129) (by decide +kernel))) rfl
set_option maxRecDepth 20000 in
theorem tw_1090 : (Jvm.Cond.selects "NinthStepModel" ({ cls := "NinthStepModel", name := "copy", desc := "(IIIII)I" } : Jvm.MethodName) ({ cls := "NinthStepModel", name := "copy", desc := "(IIIII)I" } : Jvm.MethodName)) ∈ ns_TB := ns_tb (mt_5 (List.mem_of_getElem? (i := 130) (by decide +kernel))) rfl
set_option maxRecDepth 20000 in
theorem tw_1091 : (Jvm.Cond.code ({ cls := "NinthStepModel", name := "copy", desc := "(IIIII)I" } : Jvm.MethodName) prog_11_method_11_code (7 : Nat) (Option.some Jvm.ClassFile.FieldType.int)) ∈ ns_TB := ns_tb (mt_5 (List.mem_of_getElem? (i := 131) rfl)) rfl
set_option maxRecDepth 20000 in
theorem tw_1096 : (Jvm.Cond.methodLink "NinthStepLaw" (34 : Nat) ({ cls := "NinthStepModel", name := "element", desc := "(II)J" } : Jvm.MethodName)) ∈ ns_TB := ns_tb (mt_5 (List.mem_of_getElem? (i := 136) (by decide +kernel))) rfl
set_option maxRecDepth 20000 in
theorem tw_1097 : (Jvm.Cond.instanceMethod ({ cls := "NinthStepModel", name := "element", desc := "(II)J" } : Jvm.MethodName)) ∈ ns_TB := ns_tb (mt_5 (List.mem_of_getElem? (i := 137) (by decide +kernel))) rfl
set_option maxRecDepth 20000 in
theorem tw_1098 : (Jvm.Cond.selects "NinthStepModel" ({ cls := "NinthStepModel", name := "element", desc := "(II)J" } : Jvm.MethodName) ({ cls := "NinthStepModel", name := "element", desc := "(II)J" } : Jvm.MethodName)) ∈ ns_TB := ns_tb (mt_5 (List.mem_of_getElem? (i := 138) (by decide +kernel))) rfl
set_option maxRecDepth 20000 in
theorem tw_1099 : (Jvm.Cond.code ({ cls := "NinthStepModel", name := "element", desc := "(II)J" } : Jvm.MethodName) prog_11_method_12_code (3 : Nat) (Option.some Jvm.ClassFile.FieldType.long)) ∈ ns_TB := ns_tb (mt_5 (List.mem_of_getElem? (i := 139) rfl)) rfl
set_option maxRecDepth 20000 in
theorem tw_1100 : (Jvm.Cond.methodLink "NinthStepLaw" (39 : Nat) ({ cls := "NinthStepModel", name := "holds", desc := "(I)I" } : Jvm.MethodName)) ∈ ns_TB := ns_tb (mt_5 (List.mem_of_getElem? (i := 140) (by decide +kernel))) rfl
set_option maxRecDepth 20000 in
theorem tw_1101 : (Jvm.Cond.instanceMethod ({ cls := "NinthStepModel", name := "holds", desc := "(I)I" } : Jvm.MethodName)) ∈ ns_TB := ns_tb (mt_5 (List.mem_of_getElem? (i := 141) (by decide +kernel))) rfl
set_option maxRecDepth 20000 in
theorem tw_1102 : (Jvm.Cond.selects "NinthStepModel" ({ cls := "NinthStepModel", name := "holds", desc := "(I)I" } : Jvm.MethodName) ({ cls := "NinthStepModel", name := "holds", desc := "(I)I" } : Jvm.MethodName)) ∈ ns_TB := ns_tb (mt_5 (List.mem_of_getElem? (i := 142) (by decide +kernel))) rfl
set_option maxRecDepth 20000 in
theorem tw_1103 : (Jvm.Cond.code ({ cls := "NinthStepModel", name := "holds", desc := "(I)I" } : Jvm.MethodName) prog_11_method_13_code (2 : Nat) (Option.some Jvm.ClassFile.FieldType.int)) ∈ ns_TB := ns_tb (mt_5 (List.mem_of_getElem? (i := 143) rfl)) rfl
set_option maxRecDepth 20000 in
theorem tw_1104 : (Jvm.Cond.methodLink "NinthStepLaw" (44 : Nat) ({ cls := "NinthStepModel", name := "show", desc := "(II)I" } : Jvm.MethodName)) ∈ ns_TB := ns_tb (mt_5 (List.mem_of_getElem? (i := 144) (by decide +kernel))) rfl
set_option maxRecDepth 20000 in
theorem tw_1105 : (Jvm.Cond.instanceMethod ({ cls := "NinthStepModel", name := "show", desc := "(II)I" } : Jvm.MethodName)) ∈ ns_TB := ns_tb (mt_5 (List.mem_of_getElem? (i := 145) (by decide +kernel))) rfl
set_option maxRecDepth 20000 in
theorem tw_1106 : (Jvm.Cond.selects "NinthStepModel" ({ cls := "NinthStepModel", name := "show", desc := "(II)I" } : Jvm.MethodName) ({ cls := "NinthStepModel", name := "show", desc := "(II)I" } : Jvm.MethodName)) ∈ ns_TB := ns_tb (mt_5 (List.mem_of_getElem? (i := 146) (by decide +kernel))) rfl
set_option maxRecDepth 20000 in
theorem tw_1107 : (Jvm.Cond.code ({ cls := "NinthStepModel", name := "show", desc := "(II)I" } : Jvm.MethodName) prog_11_method_14_code (3 : Nat) (Option.some Jvm.ClassFile.FieldType.int)) ∈ ns_TB := ns_tb (mt_5 (List.mem_of_getElem? (i := 147) rfl)) rfl
set_option maxRecDepth 20000 in
theorem tw_1112 : (Jvm.Cond.methodLink "NinthStepLaw" (48 : Nat) ({ cls := "NinthStepModel", name := "says", desc := "(II)I" } : Jvm.MethodName)) ∈ ns_TB := ns_tb (mt_5 (List.mem_of_getElem? (i := 152) (by decide +kernel))) rfl
set_option maxRecDepth 20000 in
theorem tw_1113 : (Jvm.Cond.instanceMethod ({ cls := "NinthStepModel", name := "says", desc := "(II)I" } : Jvm.MethodName)) ∈ ns_TB := ns_tb (mt_5 (List.mem_of_getElem? (i := 153) (by decide +kernel))) rfl
set_option maxRecDepth 20000 in
theorem tw_1114 : (Jvm.Cond.selects "NinthStepModel" ({ cls := "NinthStepModel", name := "says", desc := "(II)I" } : Jvm.MethodName) ({ cls := "NinthStepModel", name := "says", desc := "(II)I" } : Jvm.MethodName)) ∈ ns_TB := ns_tb (mt_5 (List.mem_of_getElem? (i := 154) (by decide +kernel))) rfl
set_option maxRecDepth 20000 in
theorem tw_1115 : (Jvm.Cond.code ({ cls := "NinthStepModel", name := "says", desc := "(II)I" } : Jvm.MethodName) prog_11_method_17_code (5 : Nat) (Option.some Jvm.ClassFile.FieldType.int)) ∈ ns_TB := ns_tb (mt_5 (List.mem_of_getElem? (i := 155) rfl)) rfl
set_option maxRecDepth 20000 in
theorem tw_1131 : (Jvm.Cond.methodLink "NinthStepLaw" (52 : Nat) ({ cls := "NinthStepModel", name := "length", desc := "(I)I" } : Jvm.MethodName)) ∈ ns_TB := ns_tb (mt_5 (List.mem_of_getElem? (i := 171) (by decide +kernel))) rfl
set_option maxRecDepth 20000 in
theorem tw_1132 : (Jvm.Cond.instanceMethod ({ cls := "NinthStepModel", name := "length", desc := "(I)I" } : Jvm.MethodName)) ∈ ns_TB := ns_tb (mt_5 (List.mem_of_getElem? (i := 172) (by decide +kernel))) rfl
set_option maxRecDepth 20000 in
theorem tw_1133 : (Jvm.Cond.selects "NinthStepModel" ({ cls := "NinthStepModel", name := "length", desc := "(I)I" } : Jvm.MethodName) ({ cls := "NinthStepModel", name := "length", desc := "(I)I" } : Jvm.MethodName)) ∈ ns_TB := ns_tb (mt_5 (List.mem_of_getElem? (i := 173) (by decide +kernel))) rfl
set_option maxRecDepth 20000 in
theorem tw_1134 : (Jvm.Cond.code ({ cls := "NinthStepModel", name := "length", desc := "(I)I" } : Jvm.MethodName) prog_11_method_20_code (3 : Nat) (Option.some Jvm.ClassFile.FieldType.int)) ∈ ns_TB := ns_tb (mt_5 (List.mem_of_getElem? (i := 174) rfl)) rfl
set_option maxRecDepth 20000 in
theorem tw_1143 : (Jvm.Cond.methodLink "NinthStepLaw" (57 : Nat) ({ cls := "NinthStepModel", name := "put", desc := "(IIZ)I" } : Jvm.MethodName)) ∈ ns_TB := ns_tb (mt_5 (List.mem_of_getElem? (i := 183) (by decide +kernel))) rfl
set_option maxRecDepth 20000 in
theorem tw_1144 : (Jvm.Cond.instanceMethod ({ cls := "NinthStepModel", name := "put", desc := "(IIZ)I" } : Jvm.MethodName)) ∈ ns_TB := ns_tb (mt_5 (List.mem_of_getElem? (i := 184) (by decide +kernel))) rfl
set_option maxRecDepth 20000 in
theorem tw_1145 : (Jvm.Cond.selects "NinthStepModel" ({ cls := "NinthStepModel", name := "put", desc := "(IIZ)I" } : Jvm.MethodName) ({ cls := "NinthStepModel", name := "put", desc := "(IIZ)I" } : Jvm.MethodName)) ∈ ns_TB := ns_tb (mt_5 (List.mem_of_getElem? (i := 185) (by decide +kernel))) rfl
set_option maxRecDepth 20000 in
theorem tw_1146 : (Jvm.Cond.code ({ cls := "NinthStepModel", name := "put", desc := "(IIZ)I" } : Jvm.MethodName) prog_11_method_22_code (5 : Nat) (Option.some Jvm.ClassFile.FieldType.int)) ∈ ns_TB := ns_tb (mt_5 (List.mem_of_getElem? (i := 186) rfl)) rfl
set_option maxRecDepth 20000 in
theorem tw_1155 : (Jvm.Cond.methodLink "NinthStepLaw" (61 : Nat) ({ cls := "NinthStepModel", name := "mule", desc := "(III)I" } : Jvm.MethodName)) ∈ ns_TB := ns_tb (mt_5 (List.mem_of_getElem? (i := 195) (by decide +kernel))) rfl
set_option maxRecDepth 20000 in
theorem tw_1156 : (Jvm.Cond.instanceMethod ({ cls := "NinthStepModel", name := "mule", desc := "(III)I" } : Jvm.MethodName)) ∈ ns_TB := ns_tb (mt_5 (List.mem_of_getElem? (i := 196) (by decide +kernel))) rfl
set_option maxRecDepth 20000 in
theorem tw_1157 : (Jvm.Cond.selects "NinthStepModel" ({ cls := "NinthStepModel", name := "mule", desc := "(III)I" } : Jvm.MethodName) ({ cls := "NinthStepModel", name := "mule", desc := "(III)I" } : Jvm.MethodName)) ∈ ns_TB := ns_tb (mt_5 (List.mem_of_getElem? (i := 197) (by decide +kernel))) rfl
set_option maxRecDepth 20000 in
theorem tw_1158 : (Jvm.Cond.code ({ cls := "NinthStepModel", name := "mule", desc := "(III)I" } : Jvm.MethodName) prog_11_method_24_code (4 : Nat) (Option.some Jvm.ClassFile.FieldType.int)) ∈ ns_TB := ns_tb (mt_5 (List.mem_of_getElem? (i := 198) rfl)) rfl
set_option maxRecDepth 20000 in
theorem tw_1163 : (Jvm.Cond.methodLink "NinthStepLaw" (65 : Nat) ({ cls := "NinthStepModel", name := "stand", desc := "(III)I" } : Jvm.MethodName)) ∈ ns_TB := ns_tb (mt_5 (List.mem_of_getElem? (i := 203) (by decide +kernel))) rfl
set_option maxRecDepth 20000 in
theorem tw_1164 : (Jvm.Cond.instanceMethod ({ cls := "NinthStepModel", name := "stand", desc := "(III)I" } : Jvm.MethodName)) ∈ ns_TB := ns_tb (mt_5 (List.mem_of_getElem? (i := 204) (by decide +kernel))) rfl
set_option maxRecDepth 20000 in
theorem tw_1165 : (Jvm.Cond.selects "NinthStepModel" ({ cls := "NinthStepModel", name := "stand", desc := "(III)I" } : Jvm.MethodName) ({ cls := "NinthStepModel", name := "stand", desc := "(III)I" } : Jvm.MethodName)) ∈ ns_TB := ns_tb (mt_5 (List.mem_of_getElem? (i := 205) (by decide +kernel))) rfl
set_option maxRecDepth 20000 in
theorem tw_1166 : (Jvm.Cond.code ({ cls := "NinthStepModel", name := "stand", desc := "(III)I" } : Jvm.MethodName) prog_11_method_25_code (5 : Nat) (Option.some Jvm.ClassFile.FieldType.int)) ∈ ns_TB := ns_tb (mt_5 (List.mem_of_getElem? (i := 206) rfl)) rfl
set_option maxRecDepth 20000 in
theorem tw_1167 : (Jvm.Cond.methodLink "NinthStepLaw" (69 : Nat) ({ cls := "NinthStepModel", name := "teach", desc := "(II)I" } : Jvm.MethodName)) ∈ ns_TB := ns_tb (mt_5 (List.mem_of_getElem? (i := 207) (by decide +kernel))) rfl
set_option maxRecDepth 20000 in
theorem tw_1168 : (Jvm.Cond.instanceMethod ({ cls := "NinthStepModel", name := "teach", desc := "(II)I" } : Jvm.MethodName)) ∈ ns_TB := ns_tb (mt_5 (List.mem_of_getElem? (i := 208) (by decide +kernel))) rfl
set_option maxRecDepth 20000 in
theorem tw_1169 : (Jvm.Cond.selects "NinthStepModel" ({ cls := "NinthStepModel", name := "teach", desc := "(II)I" } : Jvm.MethodName) ({ cls := "NinthStepModel", name := "teach", desc := "(II)I" } : Jvm.MethodName)) ∈ ns_TB := ns_tb (mt_5 (List.mem_of_getElem? (i := 209) (by decide +kernel))) rfl
set_option maxRecDepth 20000 in
theorem tw_1170 : (Jvm.Cond.code ({ cls := "NinthStepModel", name := "teach", desc := "(II)I" } : Jvm.MethodName) prog_11_method_26_code (4 : Nat) (Option.some Jvm.ClassFile.FieldType.int)) ∈ ns_TB := ns_tb (mt_5 (List.mem_of_getElem? (i := 210) rfl)) rfl
set_option maxRecDepth 20000 in
theorem tw_1171 : (Jvm.Cond.methodLink "NinthStepLaw" (73 : Nat) ({ cls := "NinthStepModel", name := "slip", desc := "(I)I" } : Jvm.MethodName)) ∈ ns_TB := ns_tb (mt_5 (List.mem_of_getElem? (i := 211) (by decide +kernel))) rfl
set_option maxRecDepth 20000 in
theorem tw_1172 : (Jvm.Cond.instanceMethod ({ cls := "NinthStepModel", name := "slip", desc := "(I)I" } : Jvm.MethodName)) ∈ ns_TB := ns_tb (mt_5 (List.mem_of_getElem? (i := 212) (by decide +kernel))) rfl
set_option maxRecDepth 20000 in
theorem tw_1173 : (Jvm.Cond.selects "NinthStepModel" ({ cls := "NinthStepModel", name := "slip", desc := "(I)I" } : Jvm.MethodName) ({ cls := "NinthStepModel", name := "slip", desc := "(I)I" } : Jvm.MethodName)) ∈ ns_TB := ns_tb (mt_5 (List.mem_of_getElem? (i := 213) (by decide +kernel))) rfl
set_option maxRecDepth 20000 in
theorem tw_1174 : (Jvm.Cond.code ({ cls := "NinthStepModel", name := "slip", desc := "(I)I" } : Jvm.MethodName) prog_11_method_27_code (3 : Nat) (Option.some Jvm.ClassFile.FieldType.int)) ∈ ns_TB := ns_tb (mt_5 (List.mem_of_getElem? (i := 214) rfl)) rfl
set_option maxRecDepth 20000 in
theorem tw_1175 : (Jvm.Cond.methodLink "NinthStepLaw" (77 : Nat) ({ cls := "NinthStepModel", name := "feed", desc := "(I)I" } : Jvm.MethodName)) ∈ ns_TB := ns_tb (mt_5 (List.mem_of_getElem? (i := 215) (by decide +kernel))) rfl
set_option maxRecDepth 20000 in
theorem tw_1176 : (Jvm.Cond.instanceMethod ({ cls := "NinthStepModel", name := "feed", desc := "(I)I" } : Jvm.MethodName)) ∈ ns_TB := ns_tb (mt_5 (List.mem_of_getElem? (i := 216) (by decide +kernel))) rfl
set_option maxRecDepth 20000 in
theorem tw_1177 : (Jvm.Cond.selects "NinthStepModel" ({ cls := "NinthStepModel", name := "feed", desc := "(I)I" } : Jvm.MethodName) ({ cls := "NinthStepModel", name := "feed", desc := "(I)I" } : Jvm.MethodName)) ∈ ns_TB := ns_tb (mt_5 (List.mem_of_getElem? (i := 217) (by decide +kernel))) rfl
set_option maxRecDepth 20000 in
theorem tw_1178 : (Jvm.Cond.code ({ cls := "NinthStepModel", name := "feed", desc := "(I)I" } : Jvm.MethodName) prog_11_method_28_code (2 : Nat) (Option.some Jvm.ClassFile.FieldType.int)) ∈ ns_TB := ns_tb (mt_5 (List.mem_of_getElem? (i := 218) rfl)) rfl
set_option maxRecDepth 20000 in
theorem tw_1179 : (Jvm.Cond.methodLink "NinthStepLaw" (82 : Nat) ({ cls := "NinthStepModel", name := "wipe", desc := "()I" } : Jvm.MethodName)) ∈ ns_TB := ns_tb (mt_5 (List.mem_of_getElem? (i := 219) (by decide +kernel))) rfl
set_option maxRecDepth 20000 in
theorem tw_1180 : (Jvm.Cond.instanceMethod ({ cls := "NinthStepModel", name := "wipe", desc := "()I" } : Jvm.MethodName)) ∈ ns_TB := ns_tb (mt_5 (List.mem_of_getElem? (i := 220) (by decide +kernel))) rfl
set_option maxRecDepth 20000 in
theorem tw_1181 : (Jvm.Cond.selects "NinthStepModel" ({ cls := "NinthStepModel", name := "wipe", desc := "()I" } : Jvm.MethodName) ({ cls := "NinthStepModel", name := "wipe", desc := "()I" } : Jvm.MethodName)) ∈ ns_TB := ns_tb (mt_5 (List.mem_of_getElem? (i := 221) (by decide +kernel))) rfl
set_option maxRecDepth 20000 in
theorem tw_1182 : (Jvm.Cond.code ({ cls := "NinthStepModel", name := "wipe", desc := "()I" } : Jvm.MethodName) prog_11_method_29_code (2 : Nat) (Option.some Jvm.ClassFile.FieldType.int)) ∈ ns_TB := ns_tb (mt_5 (List.mem_of_getElem? (i := 222) rfl)) rfl
set_option maxRecDepth 20000 in
theorem tw_1183 : (Jvm.Cond.methodLink "NinthStepLaw" (86 : Nat) ({ cls := "NinthStepModel", name := "pass", desc := "()I" } : Jvm.MethodName)) ∈ ns_TB := ns_tb (mt_5 (List.mem_of_getElem? (i := 223) (by decide +kernel))) rfl
set_option maxRecDepth 20000 in
theorem tw_1184 : (Jvm.Cond.instanceMethod ({ cls := "NinthStepModel", name := "pass", desc := "()I" } : Jvm.MethodName)) ∈ ns_TB := ns_tb (mt_5 (List.mem_of_getElem? (i := 224) (by decide +kernel))) rfl
set_option maxRecDepth 20000 in
theorem tw_1185 : (Jvm.Cond.selects "NinthStepModel" ({ cls := "NinthStepModel", name := "pass", desc := "()I" } : Jvm.MethodName) ({ cls := "NinthStepModel", name := "pass", desc := "()I" } : Jvm.MethodName)) ∈ ns_TB := ns_tb (mt_5 (List.mem_of_getElem? (i := 225) (by decide +kernel))) rfl
set_option maxRecDepth 20000 in
theorem tw_1186 : (Jvm.Cond.code ({ cls := "NinthStepModel", name := "pass", desc := "()I" } : Jvm.MethodName) prog_11_method_36_code (3 : Nat) (Option.some Jvm.ClassFile.FieldType.int)) ∈ ns_TB := ns_tb (mt_5 (List.mem_of_getElem? (i := 226) rfl)) rfl
set_option maxRecDepth 20000 in
theorem tw_1227 : (Jvm.Cond.methodLink "NinthStepLaw" (90 : Nat) ({ cls := "NinthStepModel", name := "muleOf", desc := "(II)I" } : Jvm.MethodName)) ∈ ns_TB := ns_tb (mt_6 (List.mem_of_getElem? (i := 27) (by decide +kernel))) rfl
set_option maxRecDepth 20000 in
theorem tw_1228 : (Jvm.Cond.instanceMethod ({ cls := "NinthStepModel", name := "muleOf", desc := "(II)I" } : Jvm.MethodName)) ∈ ns_TB := ns_tb (mt_6 (List.mem_of_getElem? (i := 28) (by decide +kernel))) rfl
set_option maxRecDepth 20000 in
theorem tw_1229 : (Jvm.Cond.selects "NinthStepModel" ({ cls := "NinthStepModel", name := "muleOf", desc := "(II)I" } : Jvm.MethodName) ({ cls := "NinthStepModel", name := "muleOf", desc := "(II)I" } : Jvm.MethodName)) ∈ ns_TB := ns_tb (mt_6 (List.mem_of_getElem? (i := 29) (by decide +kernel))) rfl
set_option maxRecDepth 20000 in
theorem tw_1230 : (Jvm.Cond.code ({ cls := "NinthStepModel", name := "muleOf", desc := "(II)I" } : Jvm.MethodName) prog_11_method_37_code (3 : Nat) (Option.some Jvm.ClassFile.FieldType.int)) ∈ ns_TB := ns_tb (mt_6 (List.mem_of_getElem? (i := 30) rfl)) rfl
set_option maxRecDepth 20000 in
theorem tw_1231 : (Jvm.Cond.methodLink "NinthStepLaw" (94 : Nat) ({ cls := "NinthStepModel", name := "placeOf", desc := "(I)I" } : Jvm.MethodName)) ∈ ns_TB := ns_tb (mt_6 (List.mem_of_getElem? (i := 31) (by decide +kernel))) rfl
set_option maxRecDepth 20000 in
theorem tw_1232 : (Jvm.Cond.instanceMethod ({ cls := "NinthStepModel", name := "placeOf", desc := "(I)I" } : Jvm.MethodName)) ∈ ns_TB := ns_tb (mt_6 (List.mem_of_getElem? (i := 32) (by decide +kernel))) rfl
set_option maxRecDepth 20000 in
theorem tw_1233 : (Jvm.Cond.selects "NinthStepModel" ({ cls := "NinthStepModel", name := "placeOf", desc := "(I)I" } : Jvm.MethodName) ({ cls := "NinthStepModel", name := "placeOf", desc := "(I)I" } : Jvm.MethodName)) ∈ ns_TB := ns_tb (mt_6 (List.mem_of_getElem? (i := 33) (by decide +kernel))) rfl
set_option maxRecDepth 20000 in
theorem tw_1234 : (Jvm.Cond.code ({ cls := "NinthStepModel", name := "placeOf", desc := "(I)I" } : Jvm.MethodName) prog_11_method_38_code (2 : Nat) (Option.some Jvm.ClassFile.FieldType.int)) ∈ ns_TB := ns_tb (mt_6 (List.mem_of_getElem? (i := 34) rfl)) rfl
set_option maxRecDepth 20000 in
theorem tw_1235 : (Jvm.Cond.methodLink "NinthStepLaw" (98 : Nat) ({ cls := "NinthStepModel", name := "stops", desc := "(II)I" } : Jvm.MethodName)) ∈ ns_TB := ns_tb (mt_6 (List.mem_of_getElem? (i := 35) (by decide +kernel))) rfl
set_option maxRecDepth 20000 in
theorem tw_1236 : (Jvm.Cond.instanceMethod ({ cls := "NinthStepModel", name := "stops", desc := "(II)I" } : Jvm.MethodName)) ∈ ns_TB := ns_tb (mt_6 (List.mem_of_getElem? (i := 36) (by decide +kernel))) rfl
set_option maxRecDepth 20000 in
theorem tw_1237 : (Jvm.Cond.selects "NinthStepModel" ({ cls := "NinthStepModel", name := "stops", desc := "(II)I" } : Jvm.MethodName) ({ cls := "NinthStepModel", name := "stops", desc := "(II)I" } : Jvm.MethodName)) ∈ ns_TB := ns_tb (mt_6 (List.mem_of_getElem? (i := 37) (by decide +kernel))) rfl
set_option maxRecDepth 20000 in
theorem tw_1238 : (Jvm.Cond.code ({ cls := "NinthStepModel", name := "stops", desc := "(II)I" } : Jvm.MethodName) prog_11_method_43_code (4 : Nat) (Option.some Jvm.ClassFile.FieldType.int)) ∈ ns_TB := ns_tb (mt_6 (List.mem_of_getElem? (i := 38) rfl)) rfl
set_option maxRecDepth 20000 in
theorem tw_1252 : (Jvm.Cond.methodLink "NinthStepLaw" (102 : Nat) ({ cls := "NinthStepModel", name := "minutes", desc := "(I)I" } : Jvm.MethodName)) ∈ ns_TB := ns_tb (mt_6 (List.mem_of_getElem? (i := 52) (by decide +kernel))) rfl
set_option maxRecDepth 20000 in
theorem tw_1253 : (Jvm.Cond.instanceMethod ({ cls := "NinthStepModel", name := "minutes", desc := "(I)I" } : Jvm.MethodName)) ∈ ns_TB := ns_tb (mt_6 (List.mem_of_getElem? (i := 53) (by decide +kernel))) rfl
set_option maxRecDepth 20000 in
theorem tw_1254 : (Jvm.Cond.selects "NinthStepModel" ({ cls := "NinthStepModel", name := "minutes", desc := "(I)I" } : Jvm.MethodName) ({ cls := "NinthStepModel", name := "minutes", desc := "(I)I" } : Jvm.MethodName)) ∈ ns_TB := ns_tb (mt_6 (List.mem_of_getElem? (i := 54) (by decide +kernel))) rfl
set_option maxRecDepth 20000 in
theorem tw_1255 : (Jvm.Cond.code ({ cls := "NinthStepModel", name := "minutes", desc := "(I)I" } : Jvm.MethodName) prog_11_method_45_code (2 : Nat) (Option.some Jvm.ClassFile.FieldType.int)) ∈ ns_TB := ns_tb (mt_6 (List.mem_of_getElem? (i := 55) rfl)) rfl
set_option maxRecDepth 20000 in
theorem tw_1260 : (Jvm.Cond.methodLink "NinthStepLaw" (106 : Nat) ({ cls := "NinthStepModel", name := "after", desc := "(II)I" } : Jvm.MethodName)) ∈ ns_TB := ns_tb (mt_6 (List.mem_of_getElem? (i := 60) (by decide +kernel))) rfl
set_option maxRecDepth 20000 in
theorem tw_1261 : (Jvm.Cond.instanceMethod ({ cls := "NinthStepModel", name := "after", desc := "(II)I" } : Jvm.MethodName)) ∈ ns_TB := ns_tb (mt_6 (List.mem_of_getElem? (i := 61) (by decide +kernel))) rfl
set_option maxRecDepth 20000 in
theorem tw_1262 : (Jvm.Cond.selects "NinthStepModel" ({ cls := "NinthStepModel", name := "after", desc := "(II)I" } : Jvm.MethodName) ({ cls := "NinthStepModel", name := "after", desc := "(II)I" } : Jvm.MethodName)) ∈ ns_TB := ns_tb (mt_6 (List.mem_of_getElem? (i := 62) (by decide +kernel))) rfl
set_option maxRecDepth 20000 in
theorem tw_1263 : (Jvm.Cond.code ({ cls := "NinthStepModel", name := "after", desc := "(II)I" } : Jvm.MethodName) prog_11_method_47_code (3 : Nat) (Option.some Jvm.ClassFile.FieldType.int)) ∈ ns_TB := ns_tb (mt_6 (List.mem_of_getElem? (i := 63) rfl)) rfl
set_option maxRecDepth 20000 in
theorem tw_1268 : (Jvm.Cond.methodLink "NinthStepLaw" (110 : Nat) ({ cls := "NinthStepModel", name := "good", desc := "(I)I" } : Jvm.MethodName)) ∈ ns_TB := ns_tb (mt_6 (List.mem_of_getElem? (i := 68) (by decide +kernel))) rfl
set_option maxRecDepth 20000 in
theorem tw_1269 : (Jvm.Cond.instanceMethod ({ cls := "NinthStepModel", name := "good", desc := "(I)I" } : Jvm.MethodName)) ∈ ns_TB := ns_tb (mt_6 (List.mem_of_getElem? (i := 69) (by decide +kernel))) rfl
set_option maxRecDepth 20000 in
theorem tw_1270 : (Jvm.Cond.selects "NinthStepModel" ({ cls := "NinthStepModel", name := "good", desc := "(I)I" } : Jvm.MethodName) ({ cls := "NinthStepModel", name := "good", desc := "(I)I" } : Jvm.MethodName)) ∈ ns_TB := ns_tb (mt_6 (List.mem_of_getElem? (i := 70) (by decide +kernel))) rfl
set_option maxRecDepth 20000 in
theorem tw_1271 : (Jvm.Cond.code ({ cls := "NinthStepModel", name := "good", desc := "(I)I" } : Jvm.MethodName) prog_11_method_50_code (2 : Nat) (Option.some Jvm.ClassFile.FieldType.int)) ∈ ns_TB := ns_tb (mt_6 (List.mem_of_getElem? (i := 71) rfl)) rfl
set_option maxRecDepth 20000 in
theorem tw_1280 : (Jvm.Cond.methodLink "NinthStepLaw" (114 : Nat) ({ cls := "NinthStepModel", name := "falls", desc := "(I)I" } : Jvm.MethodName)) ∈ ns_TB := ns_tb (mt_6 (List.mem_of_getElem? (i := 80) (by decide +kernel))) rfl
set_option maxRecDepth 20000 in
theorem tw_1281 : (Jvm.Cond.instanceMethod ({ cls := "NinthStepModel", name := "falls", desc := "(I)I" } : Jvm.MethodName)) ∈ ns_TB := ns_tb (mt_6 (List.mem_of_getElem? (i := 81) (by decide +kernel))) rfl
set_option maxRecDepth 20000 in
theorem tw_1282 : (Jvm.Cond.selects "NinthStepModel" ({ cls := "NinthStepModel", name := "falls", desc := "(I)I" } : Jvm.MethodName) ({ cls := "NinthStepModel", name := "falls", desc := "(I)I" } : Jvm.MethodName)) ∈ ns_TB := ns_tb (mt_6 (List.mem_of_getElem? (i := 82) (by decide +kernel))) rfl
set_option maxRecDepth 20000 in
theorem tw_1283 : (Jvm.Cond.code ({ cls := "NinthStepModel", name := "falls", desc := "(I)I" } : Jvm.MethodName) prog_11_method_51_code (2 : Nat) (Option.some Jvm.ClassFile.FieldType.int)) ∈ ns_TB := ns_tb (mt_6 (List.mem_of_getElem? (i := 83) rfl)) rfl
set_option maxRecDepth 20000 in
theorem tw_1284 : (Jvm.Cond.methodLink "NinthStepLaw" (118 : Nat) ({ cls := "NinthStepModel", name := "missed", desc := "(I)I" } : Jvm.MethodName)) ∈ ns_TB := ns_tb (mt_6 (List.mem_of_getElem? (i := 84) (by decide +kernel))) rfl
set_option maxRecDepth 20000 in
theorem tw_1285 : (Jvm.Cond.instanceMethod ({ cls := "NinthStepModel", name := "missed", desc := "(I)I" } : Jvm.MethodName)) ∈ ns_TB := ns_tb (mt_6 (List.mem_of_getElem? (i := 85) (by decide +kernel))) rfl
set_option maxRecDepth 20000 in
theorem tw_1286 : (Jvm.Cond.selects "NinthStepModel" ({ cls := "NinthStepModel", name := "missed", desc := "(I)I" } : Jvm.MethodName) ({ cls := "NinthStepModel", name := "missed", desc := "(I)I" } : Jvm.MethodName)) ∈ ns_TB := ns_tb (mt_6 (List.mem_of_getElem? (i := 86) (by decide +kernel))) rfl
set_option maxRecDepth 20000 in
theorem tw_1287 : (Jvm.Cond.code ({ cls := "NinthStepModel", name := "missed", desc := "(I)I" } : Jvm.MethodName) prog_11_method_52_code (2 : Nat) (Option.some Jvm.ClassFile.FieldType.int)) ∈ ns_TB := ns_tb (mt_6 (List.mem_of_getElem? (i := 87) rfl)) rfl
set_option maxRecDepth 20000 in
theorem tw_1288 : (Jvm.Cond.methodLink "NinthStepLaw" (122 : Nat) ({ cls := "NinthStepModel", name := "turns", desc := "(II)I" } : Jvm.MethodName)) ∈ ns_TB := ns_tb (mt_6 (List.mem_of_getElem? (i := 88) (by decide +kernel))) rfl
set_option maxRecDepth 20000 in
theorem tw_1289 : (Jvm.Cond.instanceMethod ({ cls := "NinthStepModel", name := "turns", desc := "(II)I" } : Jvm.MethodName)) ∈ ns_TB := ns_tb (mt_6 (List.mem_of_getElem? (i := 89) (by decide +kernel))) rfl
set_option maxRecDepth 20000 in
theorem tw_1290 : (Jvm.Cond.selects "NinthStepModel" ({ cls := "NinthStepModel", name := "turns", desc := "(II)I" } : Jvm.MethodName) ({ cls := "NinthStepModel", name := "turns", desc := "(II)I" } : Jvm.MethodName)) ∈ ns_TB := ns_tb (mt_6 (List.mem_of_getElem? (i := 90) (by decide +kernel))) rfl
set_option maxRecDepth 20000 in
theorem tw_1291 : (Jvm.Cond.code ({ cls := "NinthStepModel", name := "turns", desc := "(II)I" } : Jvm.MethodName) prog_11_method_55_code (4 : Nat) (Option.some Jvm.ClassFile.FieldType.int)) ∈ ns_TB := ns_tb (mt_6 (List.mem_of_getElem? (i := 91) rfl)) rfl
set_option maxRecDepth 20000 in
theorem tw_1300 : (Jvm.Cond.methodLink "NinthStepLaw" (126 : Nat) ({ cls := "NinthStepModel", name := "roped", desc := "(III)I" } : Jvm.MethodName)) ∈ ns_TB := ns_tb (mt_6 (List.mem_of_getElem? (i := 100) (by decide +kernel))) rfl
set_option maxRecDepth 20000 in
theorem tw_1301 : (Jvm.Cond.instanceMethod ({ cls := "NinthStepModel", name := "roped", desc := "(III)I" } : Jvm.MethodName)) ∈ ns_TB := ns_tb (mt_6 (List.mem_of_getElem? (i := 101) (by decide +kernel))) rfl
set_option maxRecDepth 20000 in
theorem tw_1302 : (Jvm.Cond.selects "NinthStepModel" ({ cls := "NinthStepModel", name := "roped", desc := "(III)I" } : Jvm.MethodName) ({ cls := "NinthStepModel", name := "roped", desc := "(III)I" } : Jvm.MethodName)) ∈ ns_TB := ns_tb (mt_6 (List.mem_of_getElem? (i := 102) (by decide +kernel))) rfl
set_option maxRecDepth 20000 in
theorem tw_1303 : (Jvm.Cond.code ({ cls := "NinthStepModel", name := "roped", desc := "(III)I" } : Jvm.MethodName) prog_11_method_57_code (10 : Nat) (Option.some Jvm.ClassFile.FieldType.int)) ∈ ns_TB := ns_tb (mt_6 (List.mem_of_getElem? (i := 103) rfl)) rfl
set_option maxRecDepth 20000 in
theorem tw_1309 : (Jvm.Cond.methodLink "NinthStepLaw" (130 : Nat) ({ cls := "NinthStepModel", name := "meets", desc := "(II)I" } : Jvm.MethodName)) ∈ ns_TB := ns_tb (mt_6 (List.mem_of_getElem? (i := 109) (by decide +kernel))) rfl
set_option maxRecDepth 20000 in
theorem tw_1310 : (Jvm.Cond.instanceMethod ({ cls := "NinthStepModel", name := "meets", desc := "(II)I" } : Jvm.MethodName)) ∈ ns_TB := ns_tb (mt_6 (List.mem_of_getElem? (i := 110) (by decide +kernel))) rfl
set_option maxRecDepth 20000 in
theorem tw_1311 : (Jvm.Cond.selects "NinthStepModel" ({ cls := "NinthStepModel", name := "meets", desc := "(II)I" } : Jvm.MethodName) ({ cls := "NinthStepModel", name := "meets", desc := "(II)I" } : Jvm.MethodName)) ∈ ns_TB := ns_tb (mt_6 (List.mem_of_getElem? (i := 111) (by decide +kernel))) rfl
set_option maxRecDepth 20000 in
theorem tw_1312 : (Jvm.Cond.code ({ cls := "NinthStepModel", name := "meets", desc := "(II)I" } : Jvm.MethodName) prog_11_method_58_code (4 : Nat) (Option.some Jvm.ClassFile.FieldType.int)) ∈ ns_TB := ns_tb (mt_6 (List.mem_of_getElem? (i := 112) rfl)) rfl
set_option maxRecDepth 20000 in
theorem tw_1313 : (Jvm.Cond.methodLink "NinthStepLaw" (134 : Nat) ({ cls := "NinthStepModel", name := "last", desc := "()I" } : Jvm.MethodName)) ∈ ns_TB := ns_tb (mt_6 (List.mem_of_getElem? (i := 113) (by decide +kernel))) rfl
set_option maxRecDepth 20000 in
theorem tw_1314 : (Jvm.Cond.instanceMethod ({ cls := "NinthStepModel", name := "last", desc := "()I" } : Jvm.MethodName)) ∈ ns_TB := ns_tb (mt_6 (List.mem_of_getElem? (i := 114) (by decide +kernel))) rfl
set_option maxRecDepth 20000 in
theorem tw_1315 : (Jvm.Cond.selects "NinthStepModel" ({ cls := "NinthStepModel", name := "last", desc := "()I" } : Jvm.MethodName) ({ cls := "NinthStepModel", name := "last", desc := "()I" } : Jvm.MethodName)) ∈ ns_TB := ns_tb (mt_6 (List.mem_of_getElem? (i := 115) (by decide +kernel))) rfl
set_option maxRecDepth 20000 in
theorem tw_1316 : (Jvm.Cond.code ({ cls := "NinthStepModel", name := "last", desc := "()I" } : Jvm.MethodName) prog_11_method_59_code (3 : Nat) (Option.some Jvm.ClassFile.FieldType.int)) ∈ ns_TB := ns_tb (mt_6 (List.mem_of_getElem? (i := 116) rfl)) rfl
set_option maxRecDepth 20000 in
theorem tw_1317 : (Jvm.Cond.methodLink "NinthStepLaw" (138 : Nat) ({ cls := "NinthStepModel", name := "train", desc := "(II)I" } : Jvm.MethodName)) ∈ ns_TB := ns_tb (mt_6 (List.mem_of_getElem? (i := 117) (by decide +kernel))) rfl
set_option maxRecDepth 20000 in
theorem tw_1318 : (Jvm.Cond.instanceMethod ({ cls := "NinthStepModel", name := "train", desc := "(II)I" } : Jvm.MethodName)) ∈ ns_TB := ns_tb (mt_6 (List.mem_of_getElem? (i := 118) (by decide +kernel))) rfl
set_option maxRecDepth 20000 in
theorem tw_1319 : (Jvm.Cond.selects "NinthStepModel" ({ cls := "NinthStepModel", name := "train", desc := "(II)I" } : Jvm.MethodName) ({ cls := "NinthStepModel", name := "train", desc := "(II)I" } : Jvm.MethodName)) ∈ ns_TB := ns_tb (mt_6 (List.mem_of_getElem? (i := 119) (by decide +kernel))) rfl
set_option maxRecDepth 20000 in
theorem tw_1320 : (Jvm.Cond.code ({ cls := "NinthStepModel", name := "train", desc := "(II)I" } : Jvm.MethodName) prog_11_method_60_code (10 : Nat) (Option.some Jvm.ClassFile.FieldType.int)) ∈ ns_TB := ns_tb (mt_6 (List.mem_of_getElem? (i := 120) rfl)) rfl
set_option maxRecDepth 20000 in
theorem tw_1321 : (Jvm.Cond.methodLink "NinthStepLaw" (142 : Nat) ({ cls := "NinthStepModel", name := "crowd", desc := "(I)I" } : Jvm.MethodName)) ∈ ns_TB := ns_tb (mt_6 (List.mem_of_getElem? (i := 121) (by decide +kernel))) rfl
set_option maxRecDepth 20000 in
theorem tw_1322 : (Jvm.Cond.instanceMethod ({ cls := "NinthStepModel", name := "crowd", desc := "(I)I" } : Jvm.MethodName)) ∈ ns_TB := ns_tb (mt_6 (List.mem_of_getElem? (i := 122) (by decide +kernel))) rfl
set_option maxRecDepth 20000 in
theorem tw_1323 : (Jvm.Cond.selects "NinthStepModel" ({ cls := "NinthStepModel", name := "crowd", desc := "(I)I" } : Jvm.MethodName) ({ cls := "NinthStepModel", name := "crowd", desc := "(I)I" } : Jvm.MethodName)) ∈ ns_TB := ns_tb (mt_6 (List.mem_of_getElem? (i := 123) (by decide +kernel))) rfl
set_option maxRecDepth 20000 in
theorem tw_1324 : (Jvm.Cond.code ({ cls := "NinthStepModel", name := "crowd", desc := "(I)I" } : Jvm.MethodName) prog_11_method_62_code (2 : Nat) (Option.some Jvm.ClassFile.FieldType.int)) ∈ ns_TB := ns_tb (mt_6 (List.mem_of_getElem? (i := 124) rfl)) rfl
set_option maxRecDepth 20000 in
theorem tw_1329 : (Jvm.Cond.methodLink "NinthStepLaw" (146 : Nat) ({ cls := "NinthStepModel", name := "best", desc := "(I)I" } : Jvm.MethodName)) ∈ ns_TB := ns_tb (mt_6 (List.mem_of_getElem? (i := 129) (by decide +kernel))) rfl
set_option maxRecDepth 20000 in
theorem tw_1330 : (Jvm.Cond.instanceMethod ({ cls := "NinthStepModel", name := "best", desc := "(I)I" } : Jvm.MethodName)) ∈ ns_TB := ns_tb (mt_6 (List.mem_of_getElem? (i := 130) (by decide +kernel))) rfl
set_option maxRecDepth 20000 in
theorem tw_1331 : (Jvm.Cond.selects "NinthStepModel" ({ cls := "NinthStepModel", name := "best", desc := "(I)I" } : Jvm.MethodName) ({ cls := "NinthStepModel", name := "best", desc := "(I)I" } : Jvm.MethodName)) ∈ ns_TB := ns_tb (mt_6 (List.mem_of_getElem? (i := 131) (by decide +kernel))) rfl
set_option maxRecDepth 20000 in
theorem tw_1332 : (Jvm.Cond.code ({ cls := "NinthStepModel", name := "best", desc := "(I)I" } : Jvm.MethodName) prog_11_method_63_code (5 : Nat) (Option.some Jvm.ClassFile.FieldType.int)) ∈ ns_TB := ns_tb (mt_6 (List.mem_of_getElem? (i := 132) rfl)) rfl
set_option maxRecDepth 20000 in
theorem tw_1333 : (Jvm.Cond.methodLink "NinthStepLaw" (150 : Nat) ({ cls := "NinthStepModel", name := "stones", desc := "(I)I" } : Jvm.MethodName)) ∈ ns_TB := ns_tb (mt_6 (List.mem_of_getElem? (i := 133) (by decide +kernel))) rfl
set_option maxRecDepth 20000 in
theorem tw_1334 : (Jvm.Cond.instanceMethod ({ cls := "NinthStepModel", name := "stones", desc := "(I)I" } : Jvm.MethodName)) ∈ ns_TB := ns_tb (mt_6 (List.mem_of_getElem? (i := 134) (by decide +kernel))) rfl
set_option maxRecDepth 20000 in
theorem tw_1335 : (Jvm.Cond.selects "NinthStepModel" ({ cls := "NinthStepModel", name := "stones", desc := "(I)I" } : Jvm.MethodName) ({ cls := "NinthStepModel", name := "stones", desc := "(I)I" } : Jvm.MethodName)) ∈ ns_TB := ns_tb (mt_6 (List.mem_of_getElem? (i := 135) (by decide +kernel))) rfl
set_option maxRecDepth 20000 in
theorem tw_1336 : (Jvm.Cond.code ({ cls := "NinthStepModel", name := "stones", desc := "(I)I" } : Jvm.MethodName) prog_11_method_66_code (4 : Nat) (Option.some Jvm.ClassFile.FieldType.int)) ∈ ns_TB := ns_tb (mt_6 (List.mem_of_getElem? (i := 136) rfl)) rfl
set_option maxRecDepth 20000 in
theorem tw_1345 : (Jvm.Cond.methodLink "NinthStepLaw" (154 : Nat) ({ cls := "NinthStepModel", name := "numbers", desc := "(III)I" } : Jvm.MethodName)) ∈ ns_TB := ns_tb (mt_6 (List.mem_of_getElem? (i := 145) (by decide +kernel))) rfl
set_option maxRecDepth 20000 in
theorem tw_1346 : (Jvm.Cond.instanceMethod ({ cls := "NinthStepModel", name := "numbers", desc := "(III)I" } : Jvm.MethodName)) ∈ ns_TB := ns_tb (mt_6 (List.mem_of_getElem? (i := 146) (by decide +kernel))) rfl
set_option maxRecDepth 20000 in
theorem tw_1347 : (Jvm.Cond.selects "NinthStepModel" ({ cls := "NinthStepModel", name := "numbers", desc := "(III)I" } : Jvm.MethodName) ({ cls := "NinthStepModel", name := "numbers", desc := "(III)I" } : Jvm.MethodName)) ∈ ns_TB := ns_tb (mt_6 (List.mem_of_getElem? (i := 147) (by decide +kernel))) rfl
set_option maxRecDepth 20000 in
theorem tw_1348 : (Jvm.Cond.code ({ cls := "NinthStepModel", name := "numbers", desc := "(III)I" } : Jvm.MethodName) prog_11_method_67_code (13 : Nat) (Option.some Jvm.ClassFile.FieldType.int)) ∈ ns_TB := ns_tb (mt_6 (List.mem_of_getElem? (i := 148) rfl)) rfl
set_option maxRecDepth 20000 in
theorem tw_1349 : (Jvm.Cond.methodLink "NinthStepLaw" (158 : Nat) ({ cls := "NinthStepModel", name := "sure", desc := "(II)I" } : Jvm.MethodName)) ∈ ns_TB := ns_tb (mt_6 (List.mem_of_getElem? (i := 149) (by decide +kernel))) rfl
set_option maxRecDepth 20000 in
theorem tw_1350 : (Jvm.Cond.instanceMethod ({ cls := "NinthStepModel", name := "sure", desc := "(II)I" } : Jvm.MethodName)) ∈ ns_TB := ns_tb (mt_6 (List.mem_of_getElem? (i := 150) (by decide +kernel))) rfl
set_option maxRecDepth 20000 in
theorem tw_1351 : (Jvm.Cond.selects "NinthStepModel" ({ cls := "NinthStepModel", name := "sure", desc := "(II)I" } : Jvm.MethodName) ({ cls := "NinthStepModel", name := "sure", desc := "(II)I" } : Jvm.MethodName)) ∈ ns_TB := ns_tb (mt_6 (List.mem_of_getElem? (i := 151) (by decide +kernel))) rfl
set_option maxRecDepth 20000 in
theorem tw_1352 : (Jvm.Cond.code ({ cls := "NinthStepModel", name := "sure", desc := "(II)I" } : Jvm.MethodName) prog_11_method_68_code (9 : Nat) (Option.some Jvm.ClassFile.FieldType.int)) ∈ ns_TB := ns_tb (mt_6 (List.mem_of_getElem? (i := 152) rfl)) rfl
set_option maxRecDepth 20000 in
theorem tw_1355 : (Jvm.Cond.methodLink "NinthStepLaw" (162 : Nat) ({ cls := "NinthStepModel", name := "judge", desc := "(III)I" } : Jvm.MethodName)) ∈ ns_TB := ns_tb (mt_6 (List.mem_of_getElem? (i := 155) (by decide +kernel))) rfl
set_option maxRecDepth 20000 in
theorem tw_1356 : (Jvm.Cond.instanceMethod ({ cls := "NinthStepModel", name := "judge", desc := "(III)I" } : Jvm.MethodName)) ∈ ns_TB := ns_tb (mt_6 (List.mem_of_getElem? (i := 156) (by decide +kernel))) rfl
set_option maxRecDepth 20000 in
theorem tw_1357 : (Jvm.Cond.selects "NinthStepModel" ({ cls := "NinthStepModel", name := "judge", desc := "(III)I" } : Jvm.MethodName) ({ cls := "NinthStepModel", name := "judge", desc := "(III)I" } : Jvm.MethodName)) ∈ ns_TB := ns_tb (mt_6 (List.mem_of_getElem? (i := 157) (by decide +kernel))) rfl
set_option maxRecDepth 20000 in
theorem tw_1358 : (Jvm.Cond.code ({ cls := "NinthStepModel", name := "judge", desc := "(III)I" } : Jvm.MethodName) prog_11_method_69_code (6 : Nat) (Option.some Jvm.ClassFile.FieldType.int)) ∈ ns_TB := ns_tb (mt_6 (List.mem_of_getElem? (i := 158) rfl)) rfl
set_option maxRecDepth 20000 in
theorem tw_1359 : (Jvm.Cond.methodLink "NinthStepLaw" (166 : Nat) ({ cls := "NinthStepModel", name := "worst", desc := "()I" } : Jvm.MethodName)) ∈ ns_TB := ns_tb (mt_6 (List.mem_of_getElem? (i := 159) (by decide +kernel))) rfl
set_option maxRecDepth 20000 in
theorem tw_1360 : (Jvm.Cond.instanceMethod ({ cls := "NinthStepModel", name := "worst", desc := "()I" } : Jvm.MethodName)) ∈ ns_TB := ns_tb (mt_6 (List.mem_of_getElem? (i := 160) (by decide +kernel))) rfl
set_option maxRecDepth 20000 in
theorem tw_1361 : (Jvm.Cond.selects "NinthStepModel" ({ cls := "NinthStepModel", name := "worst", desc := "()I" } : Jvm.MethodName) ({ cls := "NinthStepModel", name := "worst", desc := "()I" } : Jvm.MethodName)) ∈ ns_TB := ns_tb (mt_6 (List.mem_of_getElem? (i := 161) (by decide +kernel))) rfl
set_option maxRecDepth 20000 in
theorem tw_1362 : (Jvm.Cond.code ({ cls := "NinthStepModel", name := "worst", desc := "()I" } : Jvm.MethodName) prog_11_method_70_code (3 : Nat) (Option.some Jvm.ClassFile.FieldType.int)) ∈ ns_TB := ns_tb (mt_6 (List.mem_of_getElem? (i := 162) rfl)) rfl
set_option maxRecDepth 20000 in
theorem tw_1363 : (Jvm.Cond.methodLink "NinthStepLaw" (170 : Nat) ({ cls := "NinthStepModel", name := "lucky", desc := "(I)I" } : Jvm.MethodName)) ∈ ns_TB := ns_tb (mt_6 (List.mem_of_getElem? (i := 163) (by decide +kernel))) rfl
set_option maxRecDepth 20000 in
theorem tw_1364 : (Jvm.Cond.instanceMethod ({ cls := "NinthStepModel", name := "lucky", desc := "(I)I" } : Jvm.MethodName)) ∈ ns_TB := ns_tb (mt_6 (List.mem_of_getElem? (i := 164) (by decide +kernel))) rfl
set_option maxRecDepth 20000 in
theorem tw_1365 : (Jvm.Cond.selects "NinthStepModel" ({ cls := "NinthStepModel", name := "lucky", desc := "(I)I" } : Jvm.MethodName) ({ cls := "NinthStepModel", name := "lucky", desc := "(I)I" } : Jvm.MethodName)) ∈ ns_TB := ns_tb (mt_6 (List.mem_of_getElem? (i := 165) (by decide +kernel))) rfl
set_option maxRecDepth 20000 in
theorem tw_1366 : (Jvm.Cond.code ({ cls := "NinthStepModel", name := "lucky", desc := "(I)I" } : Jvm.MethodName) prog_11_method_71_code (6 : Nat) (Option.some Jvm.ClassFile.FieldType.int)) ∈ ns_TB := ns_tb (mt_6 (List.mem_of_getElem? (i := 166) rfl)) rfl
set_option maxRecDepth 20000 in
theorem tw_1367 : (Jvm.Cond.methodLink "NinthStepLaw" (174 : Nat) ({ cls := "NinthStepModel", name := "goes", desc := "(II)I" } : Jvm.MethodName)) ∈ ns_TB := ns_tb (mt_6 (List.mem_of_getElem? (i := 167) (by decide +kernel))) rfl
set_option maxRecDepth 20000 in
theorem tw_1368 : (Jvm.Cond.instanceMethod ({ cls := "NinthStepModel", name := "goes", desc := "(II)I" } : Jvm.MethodName)) ∈ ns_TB := ns_tb (mt_6 (List.mem_of_getElem? (i := 168) (by decide +kernel))) rfl
set_option maxRecDepth 20000 in
theorem tw_1369 : (Jvm.Cond.selects "NinthStepModel" ({ cls := "NinthStepModel", name := "goes", desc := "(II)I" } : Jvm.MethodName) ({ cls := "NinthStepModel", name := "goes", desc := "(II)I" } : Jvm.MethodName)) ∈ ns_TB := ns_tb (mt_6 (List.mem_of_getElem? (i := 169) (by decide +kernel))) rfl
set_option maxRecDepth 20000 in
theorem tw_1370 : (Jvm.Cond.code ({ cls := "NinthStepModel", name := "goes", desc := "(II)I" } : Jvm.MethodName) prog_11_method_74_code (4 : Nat) (Option.some Jvm.ClassFile.FieldType.int)) ∈ ns_TB := ns_tb (mt_6 (List.mem_of_getElem? (i := 170) rfl)) rfl
set_option maxRecDepth 20000 in
theorem tw_1379 : (Jvm.Cond.methodLink "NinthStepLaw" (178 : Nat) ({ cls := "NinthStepModel", name := "turn", desc := "(I)I" } : Jvm.MethodName)) ∈ ns_TB := ns_tb (mt_6 (List.mem_of_getElem? (i := 179) (by decide +kernel))) rfl
set_option maxRecDepth 20000 in
theorem tw_1380 : (Jvm.Cond.instanceMethod ({ cls := "NinthStepModel", name := "turn", desc := "(I)I" } : Jvm.MethodName)) ∈ ns_TB := ns_tb (mt_6 (List.mem_of_getElem? (i := 180) (by decide +kernel))) rfl
set_option maxRecDepth 20000 in
theorem tw_1381 : (Jvm.Cond.selects "NinthStepModel" ({ cls := "NinthStepModel", name := "turn", desc := "(I)I" } : Jvm.MethodName) ({ cls := "NinthStepModel", name := "turn", desc := "(I)I" } : Jvm.MethodName)) ∈ ns_TB := ns_tb (mt_6 (List.mem_of_getElem? (i := 181) (by decide +kernel))) rfl
set_option maxRecDepth 20000 in
theorem tw_1382 : (Jvm.Cond.code ({ cls := "NinthStepModel", name := "turn", desc := "(I)I" } : Jvm.MethodName) prog_11_method_75_code (3 : Nat) (Option.some Jvm.ClassFile.FieldType.int)) ∈ ns_TB := ns_tb (mt_6 (List.mem_of_getElem? (i := 182) rfl)) rfl
set_option maxRecDepth 20000 in
theorem tw_1383 : (Jvm.Cond.methodLink "NinthStepLaw" (182 : Nat) ({ cls := "NinthStepModel", name := "day", desc := "()I" } : Jvm.MethodName)) ∈ ns_TB := ns_tb (mt_6 (List.mem_of_getElem? (i := 183) (by decide +kernel))) rfl
set_option maxRecDepth 20000 in
theorem tw_1384 : (Jvm.Cond.instanceMethod ({ cls := "NinthStepModel", name := "day", desc := "()I" } : Jvm.MethodName)) ∈ ns_TB := ns_tb (mt_6 (List.mem_of_getElem? (i := 184) (by decide +kernel))) rfl
set_option maxRecDepth 20000 in
theorem tw_1385 : (Jvm.Cond.selects "NinthStepModel" ({ cls := "NinthStepModel", name := "day", desc := "()I" } : Jvm.MethodName) ({ cls := "NinthStepModel", name := "day", desc := "()I" } : Jvm.MethodName)) ∈ ns_TB := ns_tb (mt_6 (List.mem_of_getElem? (i := 185) (by decide +kernel))) rfl
set_option maxRecDepth 20000 in
theorem tw_1386 : (Jvm.Cond.code ({ cls := "NinthStepModel", name := "day", desc := "()I" } : Jvm.MethodName) prog_11_method_77_code (3 : Nat) (Option.some Jvm.ClassFile.FieldType.int)) ∈ ns_TB := ns_tb (mt_6 (List.mem_of_getElem? (i := 186) rfl)) rfl
set_option maxRecDepth 20000 in
theorem tw_1392 : (Jvm.Cond.methodLink "NinthStepLaw" (186 : Nat) ({ cls := "NinthStepModel", name := "home", desc := "()I" } : Jvm.MethodName)) ∈ ns_TB := ns_tb (mt_6 (List.mem_of_getElem? (i := 192) (by decide +kernel))) rfl
set_option maxRecDepth 20000 in
theorem tw_1393 : (Jvm.Cond.instanceMethod ({ cls := "NinthStepModel", name := "home", desc := "()I" } : Jvm.MethodName)) ∈ ns_TB := ns_tb (mt_6 (List.mem_of_getElem? (i := 193) (by decide +kernel))) rfl
set_option maxRecDepth 20000 in
theorem tw_1394 : (Jvm.Cond.selects "NinthStepModel" ({ cls := "NinthStepModel", name := "home", desc := "()I" } : Jvm.MethodName) ({ cls := "NinthStepModel", name := "home", desc := "()I" } : Jvm.MethodName)) ∈ ns_TB := ns_tb (mt_6 (List.mem_of_getElem? (i := 194) (by decide +kernel))) rfl
set_option maxRecDepth 20000 in
theorem tw_1395 : (Jvm.Cond.code ({ cls := "NinthStepModel", name := "home", desc := "()I" } : Jvm.MethodName) prog_11_method_78_code (3 : Nat) (Option.some Jvm.ClassFile.FieldType.int)) ∈ ns_TB := ns_tb (mt_6 (List.mem_of_getElem? (i := 195) rfl)) rfl
set_option maxRecDepth 20000 in
theorem tw_1396 : (Jvm.Cond.methodLink "NinthStepLaw" (190 : Nat) ({ cls := "NinthStepModel", name := "seed", desc := "(I)I" } : Jvm.MethodName)) ∈ ns_TB := ns_tb (mt_6 (List.mem_of_getElem? (i := 196) (by decide +kernel))) rfl
set_option maxRecDepth 20000 in
theorem tw_1397 : (Jvm.Cond.instanceMethod ({ cls := "NinthStepModel", name := "seed", desc := "(I)I" } : Jvm.MethodName)) ∈ ns_TB := ns_tb (mt_6 (List.mem_of_getElem? (i := 197) (by decide +kernel))) rfl
set_option maxRecDepth 20000 in
theorem tw_1398 : (Jvm.Cond.selects "NinthStepModel" ({ cls := "NinthStepModel", name := "seed", desc := "(I)I" } : Jvm.MethodName) ({ cls := "NinthStepModel", name := "seed", desc := "(I)I" } : Jvm.MethodName)) ∈ ns_TB := ns_tb (mt_6 (List.mem_of_getElem? (i := 198) (by decide +kernel))) rfl
set_option maxRecDepth 20000 in
theorem tw_1399 : (Jvm.Cond.code ({ cls := "NinthStepModel", name := "seed", desc := "(I)I" } : Jvm.MethodName) prog_11_method_79_code (3 : Nat) (Option.some Jvm.ClassFile.FieldType.int)) ∈ ns_TB := ns_tb (mt_6 (List.mem_of_getElem? (i := 199) rfl)) rfl
set_option maxRecDepth 20000 in
theorem tw_1400 : (Jvm.Cond.methodLink "NinthStepLaw" (194 : Nat) ({ cls := "NinthStepModel", name := "image", desc := "()I" } : Jvm.MethodName)) ∈ ns_TB := ns_tb (mt_6 (List.mem_of_getElem? (i := 200) (by decide +kernel))) rfl
set_option maxRecDepth 20000 in
theorem tw_1401 : (Jvm.Cond.instanceMethod ({ cls := "NinthStepModel", name := "image", desc := "()I" } : Jvm.MethodName)) ∈ ns_TB := ns_tb (mt_6 (List.mem_of_getElem? (i := 201) (by decide +kernel))) rfl
set_option maxRecDepth 20000 in
theorem tw_1402 : (Jvm.Cond.selects "NinthStepModel" ({ cls := "NinthStepModel", name := "image", desc := "()I" } : Jvm.MethodName) ({ cls := "NinthStepModel", name := "image", desc := "()I" } : Jvm.MethodName)) ∈ ns_TB := ns_tb (mt_6 (List.mem_of_getElem? (i := 202) (by decide +kernel))) rfl
set_option maxRecDepth 20000 in
theorem tw_1403 : (Jvm.Cond.code ({ cls := "NinthStepModel", name := "image", desc := "()I" } : Jvm.MethodName) prog_11_method_82_code (1 : Nat) (Option.some Jvm.ClassFile.FieldType.int)) ∈ ns_TB := ns_tb (mt_6 (List.mem_of_getElem? (i := 203) rfl)) rfl
set_option maxRecDepth 20000 in
theorem tw_1404 : (Jvm.Cond.methodLink "NinthStepLaw" (198 : Nat) ({ cls := "NinthStepModel", name := "back", desc := "()I" } : Jvm.MethodName)) ∈ ns_TB := ns_tb (mt_6 (List.mem_of_getElem? (i := 204) (by decide +kernel))) rfl
set_option maxRecDepth 20000 in
theorem tw_1405 : (Jvm.Cond.instanceMethod ({ cls := "NinthStepModel", name := "back", desc := "()I" } : Jvm.MethodName)) ∈ ns_TB := ns_tb (mt_6 (List.mem_of_getElem? (i := 205) (by decide +kernel))) rfl
set_option maxRecDepth 20000 in
theorem tw_1406 : (Jvm.Cond.selects "NinthStepModel" ({ cls := "NinthStepModel", name := "back", desc := "()I" } : Jvm.MethodName) ({ cls := "NinthStepModel", name := "back", desc := "()I" } : Jvm.MethodName)) ∈ ns_TB := ns_tb (mt_6 (List.mem_of_getElem? (i := 206) (by decide +kernel))) rfl
set_option maxRecDepth 20000 in
theorem tw_1407 : (Jvm.Cond.code ({ cls := "NinthStepModel", name := "back", desc := "()I" } : Jvm.MethodName) prog_11_method_83_code (2 : Nat) (Option.some Jvm.ClassFile.FieldType.int)) ∈ ns_TB := ns_tb (mt_6 (List.mem_of_getElem? (i := 207) rfl)) rfl
set_option maxRecDepth 20000 in
theorem tw_1408 : (Jvm.Cond.methodLink "NinthStepLaw" (202 : Nat) ({ cls := "NinthStepModel", name := "status", desc := "(I)I" } : Jvm.MethodName)) ∈ ns_TB := ns_tb (mt_6 (List.mem_of_getElem? (i := 208) (by decide +kernel))) rfl
set_option maxRecDepth 20000 in
theorem tw_1409 : (Jvm.Cond.instanceMethod ({ cls := "NinthStepModel", name := "status", desc := "(I)I" } : Jvm.MethodName)) ∈ ns_TB := ns_tb (mt_6 (List.mem_of_getElem? (i := 209) (by decide +kernel))) rfl
set_option maxRecDepth 20000 in
theorem tw_1410 : (Jvm.Cond.selects "NinthStepModel" ({ cls := "NinthStepModel", name := "status", desc := "(I)I" } : Jvm.MethodName) ({ cls := "NinthStepModel", name := "status", desc := "(I)I" } : Jvm.MethodName)) ∈ ns_TB := ns_tb (mt_6 (List.mem_of_getElem? (i := 210) (by decide +kernel))) rfl
set_option maxRecDepth 20000 in
theorem tw_1411 : (Jvm.Cond.code ({ cls := "NinthStepModel", name := "status", desc := "(I)I" } : Jvm.MethodName) prog_11_method_85_code (4 : Nat) (Option.some Jvm.ClassFile.FieldType.int)) ∈ ns_TB := ns_tb (mt_6 (List.mem_of_getElem? (i := 211) rfl)) rfl
set_option maxRecDepth 20000 in
theorem tw_1416 : (Jvm.Cond.constantLong "NinthStepLaw" (18 : Nat) (4294967295 : Int64)) ∈ ns_TB := ns_tb (mt_6 (List.mem_of_getElem? (i := 216) (by decide +kernel))) rfl
