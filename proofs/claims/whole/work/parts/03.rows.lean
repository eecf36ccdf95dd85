theorem ret_e {α : Type} {a r : α} {b s : ns_St} (h : some (a, b) = some (r, s)) : r = a ∧ s = b := by
  injection h with h1
  injection h1 with h2 h3
  exact ⟨h2.symm, h3.symm⟩
section ROWS
variable {G : ns_G} {p : Program} {l : Launch} {e : Env} {R : Room} {s : State} {m : MethodId} {args : Array Value} {below : List Frame} {meth : Method} {c : Code} {cc : ByteArray} {own : String} {nL cells slots : Nat} {Q : State → Prop} {n : Nat} {σ : ns_St} {pc : Nat} {lv : List (Nat × Value)} {st : List Value}
theorem v_open {y : MethodName} {maxL : Nat} {ret : Option FieldType} {fr lo mc ms : Nat} {av : List Value} {o : Option Value} {n' : Nat} {σ' : ns_St} {lv : List (Nat × Value)} (hy : plainName y.cls = true) (hlen : (lg_sl av).length ≤ maxL) (hlv : lv_args 0 av = lv)
    (body : ∀ (p : Program) (e : Env) (s : State) (m : MethodId) (below : List Frame) (meth : Method) (c : Code), ns_Cx G p s m av.toArray meth c cc y.cls maxL → meth.sig.returnType = ret → meth.name = y.name →
      VV G p l e { frames := fr, cells := mc, slots := ms, locals := lo } s m av.toArray below meth c maxL 0 0 (MQ below (ns_Qc G o n' σ') av.toArray s mc ms (ns_A G)) n σ 0 lv []) : ns_ok G l y cc maxL ret fr lo mc ms av n σ o n' σ' := by
  refine Met.ofW (cc := cc) (maxL := maxL) (ret := ret) hy rfl ?_
  intro p e s m args below meth c s₁ B hml hv
  obtain ⟨rfl, hWd, hK⟩ := hv
  have hts := atoms_spec (ws := (.code y cc maxL ret :: ns_TB)) B.pre
  have hl := lv_entry av (n := maxL) hlen
  rw [hlv] at hl
  rw [lg_entry_eq]
  exact body p e s m below meth c ⟨B.exec, B.bytes, hml, findClass_of_methodNamed B.named, fun w hw => hts w (List.mem_cons_of_mem _ hw), hK, B.notSynchronized, hWd.1.1⟩ B.returns (name_of_methodNamed B.named B.method).1 s.heap [] _ hWd va_S.rf hl
theorem v_openF {y : MethodName} {maxL : Nat} {ret : Option FieldType} {fr lo mc ms : Nat} {av : List Value} {o : Option Value} {n' : Nat} {σ' : ns_St} {lv : List (Nat × Value)} (hy : plainFor y = true) (hlen : (lg_sl av).length ≤ maxL) (hlv : lv_args 0 av = lv)
    (body : ∀ (p : Program) (e : Env) (s : State) (m : MethodId) (below : List Frame) (meth : Method) (c : Code), ns_Cx G p s m av.toArray meth c cc y.cls maxL → meth.sig.returnType = ret → meth.name = y.name →
      VV G p l e { frames := fr, cells := mc, slots := ms, locals := lo } s m av.toArray below meth c maxL 0 0 (MQ below (ns_Qc G o n' σ') av.toArray s mc ms (ns_A G)) n σ 0 lv []) : ns_ok G l y cc maxL ret fr lo mc ms av n σ o n' σ' := by
  refine va_MetF (cc := cc) (maxL := maxL) (ret := ret) hy rfl ?_
  intro p e s m args below meth c s₁ B hml hv
  obtain ⟨rfl, hWd, hK⟩ := hv
  have hts := atoms_spec (ws := (.code y cc maxL ret :: ns_TB)) B.pre
  have hl := lv_entry av (n := maxL) hlen
  rw [hlv] at hl
  rw [lg_entry_eq]
  exact body p e s m below meth c ⟨B.exec, B.bytes, hml, findClass_of_methodNamed B.named, fun w hw => hts w (List.mem_cons_of_mem _ hw), hK, B.notSynchronized, hWd.1.1⟩ B.returns (name_of_methodNamed B.named B.method).1 s.heap [] _ hWd va_S.rf hl
theorem v_sub {lv' : List (Nat × Value)} (ks : List Nat) (hl : lv_pick lv ks = lv') (k : VV G p l e R s m args below meth c nL cells slots Q n σ pc lv' st) : VV G p l e R s m args below meth c nL cells slots Q n σ pc lv st :=
  fun H locs ls a b d => k H locs ls a b (lv_sub d ks hl)
theorem v_nmI {x y : Int32} (h : y = x) (k : VV G p l e R s m args below meth c nL cells slots Q n σ pc lv (.int y :: st)) : VV G p l e R s m args below meth c nL cells slots Q n σ pc lv (.int x :: st) := h ▸ k
theorem v_nmJ {x y : Int64} (h : y = x) (k : VV G p l e R s m args below meth c nL cells slots Q n σ pc lv (.long y :: st)) : VV G p l e R s m args below meth c nL cells slots Q n σ pc lv (.long x :: st) := h ▸ k
theorem v_iconst (C : ns_Cx G p s m args meth c cc own nL) (i : Int) (x : Int32) (hx : Int32.ofInt i = x) (pc' : Nat) (hp : pc + 1 = pc') (hd : decode cc pc = .ok (.iconst i, 1)) (k : VV G p l e R s m args below meth c nL cells slots Q n σ pc' lv (.int x :: st)) : VV G p l e R s m args below meth c nL cells slots Q n σ pc lv st := by
  subst hp; exact fun H locs ls a b d => lv_iconst C.1 C.2.1 hd hx (k H locs ls a b d)
theorem v_bipush (C : ns_Cx G p s m args meth c cc own nL) (i : Int) (x : Int32) (hx : (Int8.ofInt i).toInt32 = x) (pc' : Nat) (hp : pc + 2 = pc') (hd : decode cc pc = .ok (.bipush i, 2)) (k : VV G p l e R s m args below meth c nL cells slots Q n σ pc' lv (.int x :: st)) : VV G p l e R s m args below meth c nL cells slots Q n σ pc lv st := by
  subst hp; exact fun H locs ls a b d => lv_bipush C.1 C.2.1 hd hx (k H locs ls a b d)
theorem v_sipush (C : ns_Cx G p s m args meth c cc own nL) (i : Int) (x : Int32) (hx : (Int16.ofInt i).toInt32 = x) (pc' : Nat) (hp : pc + 3 = pc') (hd : decode cc pc = .ok (.sipush i, 3)) (k : VV G p l e R s m args below meth c nL cells slots Q n σ pc' lv (.int x :: st)) : VV G p l e R s m args below meth c nL cells slots Q n σ pc lv st := by
  subst hp; exact fun H locs ls a b d => lv_sipush C.1 C.2.1 hd hx (k H locs ls a b d)
theorem v_lconst (C : ns_Cx G p s m args meth c cc own nL) (i : Fin 2) (x : Int64) (hx : Int64.ofNat (i : Nat) = x) (pc' : Nat) (hp : pc + 1 = pc') (hd : decode cc pc = .ok (.lconst i, 1)) (k : VV G p l e R s m args below meth c nL cells slots Q n σ pc' lv (.long x :: st)) : VV G p l e R s m args below meth c nL cells slots Q n σ pc lv st := by
  subst hp; exact fun H locs ls a b d => lv_lconst C.1 C.2.1 hd hx (k H locs ls a b d)
theorem v_ldc (C : ns_Cx G p s m args meth c cc own nL) (i : Nat) (x : Int32) (hw : Jvm.Cond.constant own i x ∈ ns_TB) (pc' : Nat) (hp : pc + 2 = pc') (hd : decode cc pc = .ok (.ldc i, 2)) (k : VV G p l e R s m args below meth c nL cells slots Q n σ pc' lv (.int x :: st)) : VV G p l e R s m args below meth c nL cells slots Q n σ pc lv st := by
  subst hp; exact fun H locs ls a b d => lv_ldc C.1 C.2.1 C.2.2.2.1 (C.2.2.2.2.1 _ hw) hd (k H locs ls a b d)
theorem v_ldcw (C : ns_Cx G p s m args meth c cc own nL) (i : Nat) (x : Int32) (hw : Jvm.Cond.constant own i x ∈ ns_TB) (pc' : Nat) (hp : pc + 3 = pc') (hd : decode cc pc = .ok (.ldc_w i, 3)) (k : VV G p l e R s m args below meth c nL cells slots Q n σ pc' lv (.int x :: st)) : VV G p l e R s m args below meth c nL cells slots Q n σ pc lv st := by
  subst hp; exact fun H locs ls a b d => lv_ldcw C.1 C.2.1 C.2.2.2.1 (C.2.2.2.2.1 _ hw) hd (k H locs ls a b d)
theorem v_ldc2 (C : ns_Cx G p s m args meth c cc own nL) (i : Nat) (x : Int64) (hw : Jvm.Cond.constantLong own i x ∈ ns_TB) (pc' : Nat) (hp : pc + 3 = pc') (hd : decode cc pc = .ok (.ldc2_w i, 3)) (k : VV G p l e R s m args below meth c nL cells slots Q n σ pc' lv (.long x :: st)) : VV G p l e R s m args below meth c nL cells slots Q n σ pc lv st := by
  subst hp; exact fun H locs ls a b d => lv_ldc2 C.1 C.2.1 C.2.2.2.1 (C.2.2.2.2.1 _ hw) hd (k H locs ls a b d)
theorem v_null (C : ns_Cx G p s m args meth c cc own nL) (pc' : Nat) (hp : pc + 1 = pc') (hd : decode cc pc = .ok (.aconst_null, 1)) (k : VV G p l e R s m args below meth c nL cells slots Q n σ pc' lv (.null :: st)) : VV G p l e R s m args below meth c nL cells slots Q n σ pc lv st := by
  subst hp; exact fun H locs ls a b d => lv_null C.1 C.2.1 hd (k H locs ls a b d)
theorem v_iload_n (C : ns_Cx G p s m args meth c cc own nL) (i : Fin 4) (q : Nat) {x : Int32} (hl : lv[q]? = some ((i : Nat), .int x)) (pc' : Nat) (hp : pc + 1 = pc') (hd : decode cc pc = .ok (.iload_n i, 1)) (k : VV G p l e R s m args below meth c nL cells slots Q n σ pc' lv (.int x :: st)) : VV G p l e R s m args below meth c nL cells slots Q n σ pc lv st := by
  subst hp; exact fun H locs ls a b d => lv_iload_n C.1 C.2.1 hd rfl (lv_at d q hl) (k H locs ls a b d)
theorem v_iload (C : ns_Cx G p s m args meth c cc own nL) (i : Nat) (q : Nat) {x : Int32} (hl : lv[q]? = some (i, .int x)) (pc' : Nat) (hp : pc + 2 = pc') (hd : decode cc pc = .ok (.iload i, 2)) (k : VV G p l e R s m args below meth c nL cells slots Q n σ pc' lv (.int x :: st)) : VV G p l e R s m args below meth c nL cells slots Q n σ pc lv st := by
  subst hp; exact fun H locs ls a b d => lv_iload C.1 C.2.1 hd (lv_at d q hl) (k H locs ls a b d)
theorem v_lload_n (C : ns_Cx G p s m args meth c cc own nL) (i : Fin 4) (q : Nat) {x : Int64} (hl : lv[q]? = some ((i : Nat), .long x)) (pc' : Nat) (hp : pc + 1 = pc') (hd : decode cc pc = .ok (.lload_n i, 1)) (k : VV G p l e R s m args below meth c nL cells slots Q n σ pc' lv (.long x :: st)) : VV G p l e R s m args below meth c nL cells slots Q n σ pc lv st := by
  subst hp; exact fun H locs ls a b d => lv_lload_n C.1 C.2.1 hd rfl (lv_at d q hl) (k H locs ls a b d)
theorem v_lload (C : ns_Cx G p s m args meth c cc own nL) (i : Nat) (q : Nat) {x : Int64} (hl : lv[q]? = some (i, .long x)) (pc' : Nat) (hp : pc + 2 = pc') (hd : decode cc pc = .ok (.lload i, 2)) (k : VV G p l e R s m args below meth c nL cells slots Q n σ pc' lv (.long x :: st)) : VV G p l e R s m args below meth c nL cells slots Q n σ pc lv st := by
  subst hp; exact fun H locs ls a b d => lv_lload C.1 C.2.1 hd (lv_at d q hl) (k H locs ls a b d)
theorem v_aload_n (C : ns_Cx G p s m args meth c cc own nL) (i : Fin 4) (q : Nat) {x : Nat} (hl : lv[q]? = some ((i : Nat), .ref x)) (pc' : Nat) (hp : pc + 1 = pc') (hd : decode cc pc = .ok (.aload_n i, 1)) (k : VV G p l e R s m args below meth c nL cells slots Q n σ pc' lv (.ref x :: st)) : VV G p l e R s m args below meth c nL cells slots Q n σ pc lv st := by
  subst hp; exact fun H locs ls a b d => lv_aload_n C.1 C.2.1 hd rfl (lv_at d q hl) (k H locs ls a b d)
theorem v_aload_nN (C : ns_Cx G p s m args meth c cc own nL) (i : Fin 4) (q : Nat) (hl : lv[q]? = some ((i : Nat), .null)) (pc' : Nat) (hp : pc + 1 = pc') (hd : decode cc pc = .ok (.aload_n i, 1)) (k : VV G p l e R s m args below meth c nL cells slots Q n σ pc' lv (.null :: st)) : VV G p l e R s m args below meth c nL cells slots Q n σ pc lv st := by
  subst hp; exact fun H locs ls a b d => lv_aload_nN C.1 C.2.1 hd rfl (lv_at d q hl) (k H locs ls a b d)
theorem v_aload (C : ns_Cx G p s m args meth c cc own nL) (i : Nat) (q : Nat) {x : Nat} (hl : lv[q]? = some (i, .ref x)) (pc' : Nat) (hp : pc + 2 = pc') (hd : decode cc pc = .ok (.aload i, 2)) (k : VV G p l e R s m args below meth c nL cells slots Q n σ pc' lv (.ref x :: st)) : VV G p l e R s m args below meth c nL cells slots Q n σ pc lv st := by
  subst hp; exact fun H locs ls a b d => lv_aload C.1 C.2.1 hd (lv_at d q hl) (k H locs ls a b d)
theorem v_aloadN (C : ns_Cx G p s m args meth c cc own nL) (i : Nat) (q : Nat) (hl : lv[q]? = some (i, .null)) (pc' : Nat) (hp : pc + 2 = pc') (hd : decode cc pc = .ok (.aload i, 2)) (k : VV G p l e R s m args below meth c nL cells slots Q n σ pc' lv (.null :: st)) : VV G p l e R s m args below meth c nL cells slots Q n σ pc lv st := by
  subst hp; exact fun H locs ls a b d => lv_aloadN C.1 C.2.1 hd (lv_at d q hl) (k H locs ls a b d)
theorem v_istore_n (C : ns_Cx G p s m args meth c cc own nL) (i : Fin 4) {x : Int32} (lv' : List (Nat × Value)) (hn : (i : Nat) < nL) (hl : ((i : Nat), Value.int x) :: lv.filter (fun q => !(q.1 == (i : Nat)) && !(q.1 + 1 == (i : Nat) && q.2.category == 2)) = lv') (pc' : Nat) (hp : pc + 1 = pc') (hd : decode cc pc = .ok (.istore_n i, 1)) (k : VV G p l e R s m args below meth c nL cells slots Q n σ pc' lv' st) : VV G p l e R s m args below meth c nL cells slots Q n σ pc lv (.int x :: st) := by
  subst hp; exact fun H locs ls a b d => lv_istore_n C.1 C.2.1 hd rfl d hn hl (fun ls' d' => k H locs ls' a b d')
theorem v_istore (C : ns_Cx G p s m args meth c cc own nL) (i : Nat) {x : Int32} (lv' : List (Nat × Value)) (hn : i < nL) (hl : (i, Value.int x) :: lv.filter (fun q => !(q.1 == i) && !(q.1 + 1 == i && q.2.category == 2)) = lv') (pc' : Nat) (hp : pc + 2 = pc') (hd : decode cc pc = .ok (.istore i, 2)) (k : VV G p l e R s m args below meth c nL cells slots Q n σ pc' lv' st) : VV G p l e R s m args below meth c nL cells slots Q n σ pc lv (.int x :: st) := by
  subst hp; exact fun H locs ls a b d => lv_istore C.1 C.2.1 hd d hn hl (fun ls' d' => k H locs ls' a b d')
theorem v_lstore_n (C : ns_Cx G p s m args meth c cc own nL) (i : Fin 4) {x : Int64} (lv' : List (Nat × Value)) (hn : (i : Nat) + 1 < nL) (hl : ((i : Nat), Value.long x) :: lv.filter (fun q => !(q.1 == (i : Nat)) && (!(q.1 == (i : Nat) + 1) && !(q.1 + 1 == (i : Nat) && q.2.category == 2))) = lv') (pc' : Nat) (hp : pc + 1 = pc') (hd : decode cc pc = .ok (.lstore_n i, 1)) (k : VV G p l e R s m args below meth c nL cells slots Q n σ pc' lv' st) : VV G p l e R s m args below meth c nL cells slots Q n σ pc lv (.long x :: st) := by
  subst hp; exact fun H locs ls a b d => lv_lstore_n C.1 C.2.1 hd rfl d hn hl (fun ls' d' => k H locs ls' a b d')
theorem v_lstore (C : ns_Cx G p s m args meth c cc own nL) (i : Nat) {x : Int64} (lv' : List (Nat × Value)) (hn : i + 1 < nL) (hl : (i, Value.long x) :: lv.filter (fun q => !(q.1 == i) && (!(q.1 == i + 1) && !(q.1 + 1 == i && q.2.category == 2))) = lv') (pc' : Nat) (hp : pc + 2 = pc') (hd : decode cc pc = .ok (.lstore i, 2)) (k : VV G p l e R s m args below meth c nL cells slots Q n σ pc' lv' st) : VV G p l e R s m args below meth c nL cells slots Q n σ pc lv (.long x :: st) := by
  subst hp; exact fun H locs ls a b d => lv_lstore C.1 C.2.1 hd d hn hl (fun ls' d' => k H locs ls' a b d')
theorem v_astore_n (C : ns_Cx G p s m args meth c cc own nL) (i : Fin 4) {x : Nat} (lv' : List (Nat × Value)) (hn : (i : Nat) < nL) (hl : ((i : Nat), Value.ref x) :: lv.filter (fun q => !(q.1 == (i : Nat)) && !(q.1 + 1 == (i : Nat) && q.2.category == 2)) = lv') (pc' : Nat) (hp : pc + 1 = pc') (hd : decode cc pc = .ok (.astore_n i, 1)) (k : VV G p l e R s m args below meth c nL cells slots Q n σ pc' lv' st) : VV G p l e R s m args below meth c nL cells slots Q n σ pc lv (.ref x :: st) := by
  subst hp; exact fun H locs ls a b d => lv_astore_n C.1 C.2.1 hd rfl d hn hl (fun ls' d' => k H locs ls' a b d')
theorem v_astore_nN (C : ns_Cx G p s m args meth c cc own nL) (i : Fin 4) (lv' : List (Nat × Value)) (hn : (i : Nat) < nL) (hl : ((i : Nat), Value.null) :: lv.filter (fun q => !(q.1 == (i : Nat)) && !(q.1 + 1 == (i : Nat) && q.2.category == 2)) = lv') (pc' : Nat) (hp : pc + 1 = pc') (hd : decode cc pc = .ok (.astore_n i, 1)) (k : VV G p l e R s m args below meth c nL cells slots Q n σ pc' lv' st) : VV G p l e R s m args below meth c nL cells slots Q n σ pc lv (.null :: st) := by
  subst hp; exact fun H locs ls a b d => lv_astore_nN C.1 C.2.1 hd rfl d hn hl (fun ls' d' => k H locs ls' a b d')
theorem v_astore (C : ns_Cx G p s m args meth c cc own nL) (i : Nat) {x : Nat} (lv' : List (Nat × Value)) (hn : i < nL) (hl : (i, Value.ref x) :: lv.filter (fun q => !(q.1 == i) && !(q.1 + 1 == i && q.2.category == 2)) = lv') (pc' : Nat) (hp : pc + 2 = pc') (hd : decode cc pc = .ok (.astore i, 2)) (k : VV G p l e R s m args below meth c nL cells slots Q n σ pc' lv' st) : VV G p l e R s m args below meth c nL cells slots Q n σ pc lv (.ref x :: st) := by
  subst hp; exact fun H locs ls a b d => lv_astore C.1 C.2.1 hd d hn hl (fun ls' d' => k H locs ls' a b d')
theorem v_astoreN (C : ns_Cx G p s m args meth c cc own nL) (i : Nat) (lv' : List (Nat × Value)) (hn : i < nL) (hl : (i, Value.null) :: lv.filter (fun q => !(q.1 == i) && !(q.1 + 1 == i && q.2.category == 2)) = lv') (pc' : Nat) (hp : pc + 2 = pc') (hd : decode cc pc = .ok (.astore i, 2)) (k : VV G p l e R s m args below meth c nL cells slots Q n σ pc' lv' st) : VV G p l e R s m args below meth c nL cells slots Q n σ pc lv (.null :: st) := by
  subst hp; exact fun H locs ls a b d => lv_astoreN C.1 C.2.1 hd d hn hl (fun ls' d' => k H locs ls' a b d')
theorem v_iinc (C : ns_Cx G p s m args meth c cc own nL) (i : Nat) (dx : Int) (q : Nat) {x : Int32} (y : Int32) (hk : lv[q]? = some (i, .int x)) (hv : y = x + Int32.ofInt dx) (lv' : List (Nat × Value)) (hn : i < nL) (hl : (i, Value.int y) :: lv.filter (fun q => !(q.1 == i) && !(q.1 + 1 == i && q.2.category == 2)) = lv') (pc' : Nat) (hp : pc + 3 = pc') (hd : decode cc pc = .ok (.iinc i dx, 3)) (k : VV G p l e R s m args below meth c nL cells slots Q n σ pc' lv' st) : VV G p l e R s m args below meth c nL cells slots Q n σ pc lv st := by
  subst hp; exact fun H locs ls a b d => lv_iinc C.1 C.2.1 hd d hk hv.symm hn hl (fun ls' d' => k H locs ls' a b d')
theorem v_iadd (C : ns_Cx G p s m args meth c cc own nL) {x : Int32} {y : Int32} (pc' : Nat) (hp : pc + 1 = pc') (hd : decode cc pc = .ok (.iadd, 1)) (k : VV G p l e R s m args below meth c nL cells slots Q n σ pc' lv (.int (x + y) :: st)) : VV G p l e R s m args below meth c nL cells slots Q n σ pc lv (.int y :: .int x :: st) := by
  subst hp; exact fun H locs ls a b d => lv_iadd C.1 C.2.1 hd (k H locs ls a b d)
theorem v_isub (C : ns_Cx G p s m args meth c cc own nL) {x : Int32} {y : Int32} (pc' : Nat) (hp : pc + 1 = pc') (hd : decode cc pc = .ok (.isub, 1)) (k : VV G p l e R s m args below meth c nL cells slots Q n σ pc' lv (.int (x - y) :: st)) : VV G p l e R s m args below meth c nL cells slots Q n σ pc lv (.int y :: .int x :: st) := by
  subst hp; exact fun H locs ls a b d => lv_isub C.1 C.2.1 hd (k H locs ls a b d)
theorem v_imul (C : ns_Cx G p s m args meth c cc own nL) {x : Int32} {y : Int32} (pc' : Nat) (hp : pc + 1 = pc') (hd : decode cc pc = .ok (.imul, 1)) (k : VV G p l e R s m args below meth c nL cells slots Q n σ pc' lv (.int (x * y) :: st)) : VV G p l e R s m args below meth c nL cells slots Q n σ pc lv (.int y :: .int x :: st) := by
  subst hp; exact fun H locs ls a b d => lv_imul C.1 C.2.1 hd (k H locs ls a b d)
theorem v_iand (C : ns_Cx G p s m args meth c cc own nL) {x : Int32} {y : Int32} (pc' : Nat) (hp : pc + 1 = pc') (hd : decode cc pc = .ok (.iand, 1)) (k : VV G p l e R s m args below meth c nL cells slots Q n σ pc' lv (.int (x &&& y) :: st)) : VV G p l e R s m args below meth c nL cells slots Q n σ pc lv (.int y :: .int x :: st) := by
  subst hp; exact fun H locs ls a b d => lv_iand C.1 C.2.1 hd (k H locs ls a b d)
theorem v_ior (C : ns_Cx G p s m args meth c cc own nL) {x : Int32} {y : Int32} (pc' : Nat) (hp : pc + 1 = pc') (hd : decode cc pc = .ok (.ior, 1)) (k : VV G p l e R s m args below meth c nL cells slots Q n σ pc' lv (.int (x ||| y) :: st)) : VV G p l e R s m args below meth c nL cells slots Q n σ pc lv (.int y :: .int x :: st) := by
  subst hp; exact fun H locs ls a b d => lv_ior C.1 C.2.1 hd (k H locs ls a b d)
theorem v_ixor (C : ns_Cx G p s m args meth c cc own nL) {x : Int32} {y : Int32} (pc' : Nat) (hp : pc + 1 = pc') (hd : decode cc pc = .ok (.ixor, 1)) (k : VV G p l e R s m args below meth c nL cells slots Q n σ pc' lv (.int (x ^^^ y) :: st)) : VV G p l e R s m args below meth c nL cells slots Q n σ pc lv (.int y :: .int x :: st) := by
  subst hp; exact fun H locs ls a b d => lv_ixor C.1 C.2.1 hd (k H locs ls a b d)
theorem v_ladd (C : ns_Cx G p s m args meth c cc own nL) {x : Int64} {y : Int64} (pc' : Nat) (hp : pc + 1 = pc') (hd : decode cc pc = .ok (.ladd, 1)) (k : VV G p l e R s m args below meth c nL cells slots Q n σ pc' lv (.long (x + y) :: st)) : VV G p l e R s m args below meth c nL cells slots Q n σ pc lv (.long y :: .long x :: st) := by
  subst hp; exact fun H locs ls a b d => lv_ladd C.1 C.2.1 hd (k H locs ls a b d)
theorem v_lsub (C : ns_Cx G p s m args meth c cc own nL) {x : Int64} {y : Int64} (pc' : Nat) (hp : pc + 1 = pc') (hd : decode cc pc = .ok (.lsub, 1)) (k : VV G p l e R s m args below meth c nL cells slots Q n σ pc' lv (.long (x - y) :: st)) : VV G p l e R s m args below meth c nL cells slots Q n σ pc lv (.long y :: .long x :: st) := by
  subst hp; exact fun H locs ls a b d => lv_lsub C.1 C.2.1 hd (k H locs ls a b d)
theorem v_lmul (C : ns_Cx G p s m args meth c cc own nL) {x : Int64} {y : Int64} (pc' : Nat) (hp : pc + 1 = pc') (hd : decode cc pc = .ok (.lmul, 1)) (k : VV G p l e R s m args below meth c nL cells slots Q n σ pc' lv (.long (x * y) :: st)) : VV G p l e R s m args below meth c nL cells slots Q n σ pc lv (.long y :: .long x :: st) := by
  subst hp; exact fun H locs ls a b d => lv_lmul C.1 C.2.1 hd (k H locs ls a b d)
theorem v_land (C : ns_Cx G p s m args meth c cc own nL) {x : Int64} {y : Int64} (pc' : Nat) (hp : pc + 1 = pc') (hd : decode cc pc = .ok (.land, 1)) (k : VV G p l e R s m args below meth c nL cells slots Q n σ pc' lv (.long (x &&& y) :: st)) : VV G p l e R s m args below meth c nL cells slots Q n σ pc lv (.long y :: .long x :: st) := by
  subst hp; exact fun H locs ls a b d => lv_land C.1 C.2.1 hd (k H locs ls a b d)
theorem v_lor (C : ns_Cx G p s m args meth c cc own nL) {x : Int64} {y : Int64} (pc' : Nat) (hp : pc + 1 = pc') (hd : decode cc pc = .ok (.lor, 1)) (k : VV G p l e R s m args below meth c nL cells slots Q n σ pc' lv (.long (x ||| y) :: st)) : VV G p l e R s m args below meth c nL cells slots Q n σ pc lv (.long y :: .long x :: st) := by
  subst hp; exact fun H locs ls a b d => lv_lor C.1 C.2.1 hd (k H locs ls a b d)
theorem v_lxor (C : ns_Cx G p s m args meth c cc own nL) {x : Int64} {y : Int64} (pc' : Nat) (hp : pc + 1 = pc') (hd : decode cc pc = .ok (.lxor, 1)) (k : VV G p l e R s m args below meth c nL cells slots Q n σ pc' lv (.long (x ^^^ y) :: st)) : VV G p l e R s m args below meth c nL cells slots Q n σ pc lv (.long y :: .long x :: st) := by
  subst hp; exact fun H locs ls a b d => lv_lxor C.1 C.2.1 hd (k H locs ls a b d)
theorem v_idiv (C : ns_Cx G p s m args meth c cc own nL) {x : Int32} {y : Int32} (hne : ¬ y = 0) (pc' : Nat) (hp : pc + 1 = pc') (hd : decode cc pc = .ok (.idiv, 1)) (k : VV G p l e R s m args below meth c nL cells slots Q n σ pc' lv (.int (x / y) :: st)) : VV G p l e R s m args below meth c nL cells slots Q n σ pc lv (.int y :: .int x :: st) := by
  subst hp; exact fun H locs ls a b d => lv_idiv C.1 C.2.1 hd hne (k H locs ls a b d)
theorem v_irem (C : ns_Cx G p s m args meth c cc own nL) {x : Int32} {y : Int32} (hne : ¬ y = 0) (pc' : Nat) (hp : pc + 1 = pc') (hd : decode cc pc = .ok (.irem, 1)) (k : VV G p l e R s m args below meth c nL cells slots Q n σ pc' lv (.int (x - x / y * y) :: st)) : VV G p l e R s m args below meth c nL cells slots Q n σ pc lv (.int y :: .int x :: st) := by
  subst hp; exact fun H locs ls a b d => lv_irem C.1 C.2.1 hd hne (k H locs ls a b d)
theorem v_ldiv (C : ns_Cx G p s m args meth c cc own nL) {x : Int64} {y : Int64} (hne : ¬ y = 0) (pc' : Nat) (hp : pc + 1 = pc') (hd : decode cc pc = .ok (.ldiv, 1)) (k : VV G p l e R s m args below meth c nL cells slots Q n σ pc' lv (.long (x / y) :: st)) : VV G p l e R s m args below meth c nL cells slots Q n σ pc lv (.long y :: .long x :: st) := by
  subst hp; exact fun H locs ls a b d => lv_ldiv C.1 C.2.1 hd hne (k H locs ls a b d)
theorem v_ishl (C : ns_Cx G p s m args meth c cc own nL) {x : Int32} {y : Int32} (pc' : Nat) (hp : pc + 1 = pc') (hd : decode cc pc = .ok (.ishl, 1)) (k : VV G p l e R s m args below meth c nL cells slots Q n σ pc' lv (.int (x <<< (y &&& 31)) :: st)) : VV G p l e R s m args below meth c nL cells slots Q n σ pc lv (.int y :: .int x :: st) := by
  subst hp; exact fun H locs ls a b d => lv_ishl C.1 C.2.1 hd (k H locs ls a b d)
theorem v_ishr (C : ns_Cx G p s m args meth c cc own nL) {x : Int32} {y : Int32} (pc' : Nat) (hp : pc + 1 = pc') (hd : decode cc pc = .ok (.ishr, 1)) (k : VV G p l e R s m args below meth c nL cells slots Q n σ pc' lv (.int (x >>> (y &&& 31)) :: st)) : VV G p l e R s m args below meth c nL cells slots Q n σ pc lv (.int y :: .int x :: st) := by
  subst hp; exact fun H locs ls a b d => lv_ishr C.1 C.2.1 hd (k H locs ls a b d)
theorem v_iushr (C : ns_Cx G p s m args meth c cc own nL) {x : Int32} {y : Int32} (pc' : Nat) (hp : pc + 1 = pc') (hd : decode cc pc = .ok (.iushr, 1)) (k : VV G p l e R s m args below meth c nL cells slots Q n σ pc' lv (.int ((x.toUInt32 >>> (y.toUInt32 &&& Int32.toUInt32 31)).toInt32) :: st)) : VV G p l e R s m args below meth c nL cells slots Q n σ pc lv (.int y :: .int x :: st) := by
  subst hp; exact fun H locs ls a b d => lv_iushr C.1 C.2.1 hd rfl (k H locs ls a b d)
theorem v_lushr (C : ns_Cx G p s m args meth c cc own nL) {x : Int64} {y : Int32} (pc' : Nat) (hp : pc + 1 = pc') (hd : decode cc pc = .ok (.lushr, 1)) (k : VV G p l e R s m args below meth c nL cells slots Q n σ pc' lv (.long ((x.toUInt64 >>> (y.toInt64.toUInt64 &&& Int64.toUInt64 63)).toInt64) :: st)) : VV G p l e R s m args below meth c nL cells slots Q n σ pc lv (.int y :: .long x :: st) := by
  subst hp; exact fun H locs ls a b d => lv_lushr C.1 C.2.1 hd rfl (k H locs ls a b d)
theorem v_lshl (C : ns_Cx G p s m args meth c cc own nL) {x : Int64} {y : Int32} (pc' : Nat) (hp : pc + 1 = pc') (hd : decode cc pc = .ok (.lshl, 1)) (k : VV G p l e R s m args below meth c nL cells slots Q n σ pc' lv (.long (x <<< (y.toInt64 &&& 63)) :: st)) : VV G p l e R s m args below meth c nL cells slots Q n σ pc lv (.int y :: .long x :: st) := by
  subst hp; exact fun H locs ls a b d => lv_lshl C.1 C.2.1 hd rfl (k H locs ls a b d)
theorem v_lshr (C : ns_Cx G p s m args meth c cc own nL) {x : Int64} {y : Int32} (pc' : Nat) (hp : pc + 1 = pc') (hd : decode cc pc = .ok (.lshr, 1)) (k : VV G p l e R s m args below meth c nL cells slots Q n σ pc' lv (.long (x >>> (y.toInt64 &&& 63)) :: st)) : VV G p l e R s m args below meth c nL cells slots Q n σ pc lv (.int y :: .long x :: st) := by
  subst hp; exact fun H locs ls a b d => lv_lshr C.1 C.2.1 hd rfl (k H locs ls a b d)
theorem v_ineg (C : ns_Cx G p s m args meth c cc own nL) {x : Int32} (pc' : Nat) (hp : pc + 1 = pc') (hd : decode cc pc = .ok (.ineg, 1)) (k : VV G p l e R s m args below meth c nL cells slots Q n σ pc' lv (.int (-x) :: st)) : VV G p l e R s m args below meth c nL cells slots Q n σ pc lv (.int x :: st) := by
  subst hp; exact fun H locs ls a b d => lv_ineg C.1 C.2.1 hd (k H locs ls a b d)
theorem v_i2l (C : ns_Cx G p s m args meth c cc own nL) {x : Int32} (pc' : Nat) (hp : pc + 1 = pc') (hd : decode cc pc = .ok (.i2l, 1)) (k : VV G p l e R s m args below meth c nL cells slots Q n σ pc' lv (.long (x.toInt64) :: st)) : VV G p l e R s m args below meth c nL cells slots Q n σ pc lv (.int x :: st) := by
  subst hp; exact fun H locs ls a b d => lv_i2l C.1 C.2.1 hd rfl (k H locs ls a b d)
theorem v_l2i (C : ns_Cx G p s m args meth c cc own nL) {x : Int64} (pc' : Nat) (hp : pc + 1 = pc') (hd : decode cc pc = .ok (.l2i, 1)) (k : VV G p l e R s m args below meth c nL cells slots Q n σ pc' lv (.int (x.toInt32) :: st)) : VV G p l e R s m args below meth c nL cells slots Q n σ pc lv (.long x :: st) := by
  subst hp; exact fun H locs ls a b d => lv_l2i C.1 C.2.1 hd rfl (k H locs ls a b d)
theorem v_i2b (C : ns_Cx G p s m args meth c cc own nL) {x : Int32} (pc' : Nat) (hp : pc + 1 = pc') (hd : decode cc pc = .ok (.i2b, 1)) (k : VV G p l e R s m args below meth c nL cells slots Q n σ pc' lv (.int (x.toInt8.toInt32) :: st)) : VV G p l e R s m args below meth c nL cells slots Q n σ pc lv (.int x :: st) := by
  subst hp; exact fun H locs ls a b d => lv_i2b C.1 C.2.1 hd rfl (k H locs ls a b d)
theorem v_i2s (C : ns_Cx G p s m args meth c cc own nL) {x : Int32} (pc' : Nat) (hp : pc + 1 = pc') (hd : decode cc pc = .ok (.i2s, 1)) (k : VV G p l e R s m args below meth c nL cells slots Q n σ pc' lv (.int (x.toInt16.toInt32) :: st)) : VV G p l e R s m args below meth c nL cells slots Q n σ pc lv (.int x :: st) := by
  subst hp; exact fun H locs ls a b d => lv_i2s C.1 C.2.1 hd rfl (k H locs ls a b d)
theorem v_lneg (C : ns_Cx G p s m args meth c cc own nL) {x : Int64} (pc' : Nat) (hp : pc + 1 = pc') (hd : decode cc pc = .ok (.lneg, 1)) (k : VV G p l e R s m args below meth c nL cells slots Q n σ pc' lv (.long (-x) :: st)) : VV G p l e R s m args below meth c nL cells slots Q n σ pc lv (.long x :: st) := by
  subst hp; exact fun H locs ls a b d => lv_lneg C.1 C.2.1 hd (k H locs ls a b d)
theorem v_lcmp (C : ns_Cx G p s m args meth c cc own nL) {x y : Int64} (pc' : Nat) (hp : pc + 1 = pc') (hd : decode cc pc = .ok (.lcmp, 1)) (k : VV G p l e R s m args below meth c nL cells slots Q n σ pc' lv (.int (lg_cmp x y) :: st)) : VV G p l e R s m args below meth c nL cells slots Q n σ pc lv (.long y :: .long x :: st) := by
  subst hp; exact fun H locs ls a b d => W.lcmp C.1 C.2.1 hd (k H locs ls a b d)
theorem v_dup (C : ns_Cx G p s m args meth c cc own nL) {va : Value} (hva : va.category = 1) (pc' : Nat) (hp : pc + 1 = pc') (hd : decode cc pc = .ok (.dup, 1)) (k : VV G p l e R s m args below meth c nL cells slots Q n σ pc' lv (va :: va :: st)) : VV G p l e R s m args below meth c nL cells slots Q n σ pc lv (va :: st) := by
  subst hp; exact fun H locs ls a b d => lv_dup C.1 C.2.1 hd hva (k H locs ls a b d)
theorem v_pop (C : ns_Cx G p s m args meth c cc own nL) {va : Value} (hva : va.category = 1) (pc' : Nat) (hp : pc + 1 = pc') (hd : decode cc pc = .ok (.pop, 1)) (k : VV G p l e R s m args below meth c nL cells slots Q n σ pc' lv (st)) : VV G p l e R s m args below meth c nL cells slots Q n σ pc lv (va :: st) := by
  subst hp; exact fun H locs ls a b d => lv_pop C.1 C.2.1 hd hva (k H locs ls a b d)
theorem v_dup_x1 (C : ns_Cx G p s m args meth c cc own nL) {va vb : Value} (hva : va.category = 1) (hvb : vb.category = 1) (pc' : Nat) (hp : pc + 1 = pc') (hd : decode cc pc = .ok (.dup_x1, 1)) (k : VV G p l e R s m args below meth c nL cells slots Q n σ pc' lv (va :: vb :: va :: st)) : VV G p l e R s m args below meth c nL cells slots Q n σ pc lv (va :: vb :: st) := by
  subst hp; exact fun H locs ls a b d => lv_dup_x1 C.1 C.2.1 hd hva hvb (k H locs ls a b d)
theorem v_dup_x2 (C : ns_Cx G p s m args meth c cc own nL) {va vb vc : Value} (hva : va.category = 1) (hvb : vb.category = 1) (hvc : vc.category = 1) (pc' : Nat) (hp : pc + 1 = pc') (hd : decode cc pc = .ok (.dup_x2, 1)) (k : VV G p l e R s m args below meth c nL cells slots Q n σ pc' lv (va :: vb :: vc :: va :: st)) : VV G p l e R s m args below meth c nL cells slots Q n σ pc lv (va :: vb :: vc :: st) := by
  subst hp; exact fun H locs ls a b d => lv_dup_x2 C.1 C.2.1 hd hva hvb hvc (k H locs ls a b d)
theorem v_dup2_11 (C : ns_Cx G p s m args meth c cc own nL) {va vb : Value} (hva : va.category = 1) (hvb : vb.category = 1) (pc' : Nat) (hp : pc + 1 = pc') (hd : decode cc pc = .ok (.dup2, 1)) (k : VV G p l e R s m args below meth c nL cells slots Q n σ pc' lv (va :: vb :: va :: vb :: st)) : VV G p l e R s m args below meth c nL cells slots Q n σ pc lv (va :: vb :: st) := by
  subst hp; exact fun H locs ls a b d => lv_dup2_11 C.1 C.2.1 hd hva hvb (k H locs ls a b d)
theorem v_dup2_2 (C : ns_Cx G p s m args meth c cc own nL) {va : Value} (hva : va.category = 2) (pc' : Nat) (hp : pc + 1 = pc') (hd : decode cc pc = .ok (.dup2, 1)) (k : VV G p l e R s m args below meth c nL cells slots Q n σ pc' lv (va :: va :: st)) : VV G p l e R s m args below meth c nL cells slots Q n σ pc lv (va :: st) := by
  subst hp; exact fun H locs ls a b d => lv_dup2_2 C.1 C.2.1 hd hva (k H locs ls a b d)
theorem v_pop2_2 (C : ns_Cx G p s m args meth c cc own nL) {va : Value} (hva : va.category = 2) (pc' : Nat) (hp : pc + 1 = pc') (hd : decode cc pc = .ok (.pop2, 1)) (k : VV G p l e R s m args below meth c nL cells slots Q n σ pc' lv (st)) : VV G p l e R s m args below meth c nL cells slots Q n σ pc lv (va :: st) := by
  subst hp; exact fun H locs ls a b d => lv_pop2_2 C.1 C.2.1 hd hva (k H locs ls a b d)
theorem v_if_eq (C : ns_Cx G p s m args meth c cc own nL) {x : Int32} (tgt : Nat) (pc' : Nat) (hp : pc + 3 = pc') (hd : decode cc pc = .ok (.ifCond .eq ((tgt : Int) - (pc : Int)), 3)) (kt : x = 0 → VV G p l e R s m args below meth c nL cells slots Q n σ tgt lv st) (kf : ¬ x = 0 → VV G p l e R s m args below meth c nL cells slots Q n σ pc' lv st) : VV G p l e R s m args below meth c nL cells slots Q n σ pc lv (.int x :: st) := by
  subst hp; exact fun H locs ls a b d => lv_if_eq C.1 C.2.1 hd (by omega) (fun h => kt h H locs ls a b d) (fun h => kf h H locs ls a b d)
theorem v_icmp_eq (C : ns_Cx G p s m args meth c cc own nL) {x y : Int32} (tgt : Nat) (pc' : Nat) (hp : pc + 3 = pc') (hd : decode cc pc = .ok (.if_icmp .eq ((tgt : Int) - (pc : Int)), 3)) (kt : x = y → VV G p l e R s m args below meth c nL cells slots Q n σ tgt lv st) (kf : ¬ x = y → VV G p l e R s m args below meth c nL cells slots Q n σ pc' lv st) : VV G p l e R s m args below meth c nL cells slots Q n σ pc lv (.int y :: .int x :: st) := by
  subst hp; exact fun H locs ls a b d => lv_icmp_eq C.1 C.2.1 hd (by omega) (fun h => kt h H locs ls a b d) (fun h => kf h H locs ls a b d)
theorem v_if_ne (C : ns_Cx G p s m args meth c cc own nL) {x : Int32} (tgt : Nat) (pc' : Nat) (hp : pc + 3 = pc') (hd : decode cc pc = .ok (.ifCond .ne ((tgt : Int) - (pc : Int)), 3)) (kt : ¬ x = 0 → VV G p l e R s m args below meth c nL cells slots Q n σ tgt lv st) (kf : x = 0 → VV G p l e R s m args below meth c nL cells slots Q n σ pc' lv st) : VV G p l e R s m args below meth c nL cells slots Q n σ pc lv (.int x :: st) := by
  subst hp; exact fun H locs ls a b d => lv_if_ne C.1 C.2.1 hd (by omega) (fun h => kt h H locs ls a b d) (fun h => kf h H locs ls a b d)
theorem v_icmp_ne (C : ns_Cx G p s m args meth c cc own nL) {x y : Int32} (tgt : Nat) (pc' : Nat) (hp : pc + 3 = pc') (hd : decode cc pc = .ok (.if_icmp .ne ((tgt : Int) - (pc : Int)), 3)) (kt : ¬ x = y → VV G p l e R s m args below meth c nL cells slots Q n σ tgt lv st) (kf : x = y → VV G p l e R s m args below meth c nL cells slots Q n σ pc' lv st) : VV G p l e R s m args below meth c nL cells slots Q n σ pc lv (.int y :: .int x :: st) := by
  subst hp; exact fun H locs ls a b d => lv_icmp_ne C.1 C.2.1 hd (by omega) (fun h => kt h H locs ls a b d) (fun h => kf h H locs ls a b d)
theorem v_if_lt (C : ns_Cx G p s m args meth c cc own nL) {x : Int32} (tgt : Nat) (pc' : Nat) (hp : pc + 3 = pc') (hd : decode cc pc = .ok (.ifCond .lt ((tgt : Int) - (pc : Int)), 3)) (kt : x < 0 → VV G p l e R s m args below meth c nL cells slots Q n σ tgt lv st) (kf : ¬ x < 0 → VV G p l e R s m args below meth c nL cells slots Q n σ pc' lv st) : VV G p l e R s m args below meth c nL cells slots Q n σ pc lv (.int x :: st) := by
  subst hp; exact fun H locs ls a b d => lv_if_lt C.1 C.2.1 hd (by omega) (fun h => kt h H locs ls a b d) (fun h => kf h H locs ls a b d)
theorem v_icmp_lt (C : ns_Cx G p s m args meth c cc own nL) {x y : Int32} (tgt : Nat) (pc' : Nat) (hp : pc + 3 = pc') (hd : decode cc pc = .ok (.if_icmp .lt ((tgt : Int) - (pc : Int)), 3)) (kt : x < y → VV G p l e R s m args below meth c nL cells slots Q n σ tgt lv st) (kf : ¬ x < y → VV G p l e R s m args below meth c nL cells slots Q n σ pc' lv st) : VV G p l e R s m args below meth c nL cells slots Q n σ pc lv (.int y :: .int x :: st) := by
  subst hp; exact fun H locs ls a b d => lv_icmp_lt C.1 C.2.1 hd (by omega) (fun h => kt h H locs ls a b d) (fun h => kf h H locs ls a b d)
theorem v_if_ge (C : ns_Cx G p s m args meth c cc own nL) {x : Int32} (tgt : Nat) (pc' : Nat) (hp : pc + 3 = pc') (hd : decode cc pc = .ok (.ifCond .ge ((tgt : Int) - (pc : Int)), 3)) (kt : 0 ≤ x → VV G p l e R s m args below meth c nL cells slots Q n σ tgt lv st) (kf : ¬ 0 ≤ x → VV G p l e R s m args below meth c nL cells slots Q n σ pc' lv st) : VV G p l e R s m args below meth c nL cells slots Q n σ pc lv (.int x :: st) := by
  subst hp; exact fun H locs ls a b d => lv_if_ge C.1 C.2.1 hd (by omega) (fun h => kt h H locs ls a b d) (fun h => kf h H locs ls a b d)
theorem v_icmp_ge (C : ns_Cx G p s m args meth c cc own nL) {x y : Int32} (tgt : Nat) (pc' : Nat) (hp : pc + 3 = pc') (hd : decode cc pc = .ok (.if_icmp .ge ((tgt : Int) - (pc : Int)), 3)) (kt : y ≤ x → VV G p l e R s m args below meth c nL cells slots Q n σ tgt lv st) (kf : ¬ y ≤ x → VV G p l e R s m args below meth c nL cells slots Q n σ pc' lv st) : VV G p l e R s m args below meth c nL cells slots Q n σ pc lv (.int y :: .int x :: st) := by
  subst hp; exact fun H locs ls a b d => lv_icmp_ge C.1 C.2.1 hd (by omega) (fun h => kt h H locs ls a b d) (fun h => kf h H locs ls a b d)
theorem v_if_gt (C : ns_Cx G p s m args meth c cc own nL) {x : Int32} (tgt : Nat) (pc' : Nat) (hp : pc + 3 = pc') (hd : decode cc pc = .ok (.ifCond .gt ((tgt : Int) - (pc : Int)), 3)) (kt : 0 < x → VV G p l e R s m args below meth c nL cells slots Q n σ tgt lv st) (kf : ¬ 0 < x → VV G p l e R s m args below meth c nL cells slots Q n σ pc' lv st) : VV G p l e R s m args below meth c nL cells slots Q n σ pc lv (.int x :: st) := by
  subst hp; exact fun H locs ls a b d => lv_if_gt C.1 C.2.1 hd (by omega) (fun h => kt h H locs ls a b d) (fun h => kf h H locs ls a b d)
theorem v_icmp_gt (C : ns_Cx G p s m args meth c cc own nL) {x y : Int32} (tgt : Nat) (pc' : Nat) (hp : pc + 3 = pc') (hd : decode cc pc = .ok (.if_icmp .gt ((tgt : Int) - (pc : Int)), 3)) (kt : y < x → VV G p l e R s m args below meth c nL cells slots Q n σ tgt lv st) (kf : ¬ y < x → VV G p l e R s m args below meth c nL cells slots Q n σ pc' lv st) : VV G p l e R s m args below meth c nL cells slots Q n σ pc lv (.int y :: .int x :: st) := by
  subst hp; exact fun H locs ls a b d => lv_icmp_gt C.1 C.2.1 hd (by omega) (fun h => kt h H locs ls a b d) (fun h => kf h H locs ls a b d)
theorem v_if_le (C : ns_Cx G p s m args meth c cc own nL) {x : Int32} (tgt : Nat) (pc' : Nat) (hp : pc + 3 = pc') (hd : decode cc pc = .ok (.ifCond .le ((tgt : Int) - (pc : Int)), 3)) (kt : x ≤ 0 → VV G p l e R s m args below meth c nL cells slots Q n σ tgt lv st) (kf : ¬ x ≤ 0 → VV G p l e R s m args below meth c nL cells slots Q n σ pc' lv st) : VV G p l e R s m args below meth c nL cells slots Q n σ pc lv (.int x :: st) := by
  subst hp; exact fun H locs ls a b d => lv_if_le C.1 C.2.1 hd (by omega) (fun h => kt h H locs ls a b d) (fun h => kf h H locs ls a b d)
theorem v_icmp_le (C : ns_Cx G p s m args meth c cc own nL) {x y : Int32} (tgt : Nat) (pc' : Nat) (hp : pc + 3 = pc') (hd : decode cc pc = .ok (.if_icmp .le ((tgt : Int) - (pc : Int)), 3)) (kt : x ≤ y → VV G p l e R s m args below meth c nL cells slots Q n σ tgt lv st) (kf : ¬ x ≤ y → VV G p l e R s m args below meth c nL cells slots Q n σ pc' lv st) : VV G p l e R s m args below meth c nL cells slots Q n σ pc lv (.int y :: .int x :: st) := by
  subst hp; exact fun H locs ls a b d => lv_icmp_le C.1 C.2.1 hd (by omega) (fun h => kt h H locs ls a b d) (fun h => kf h H locs ls a b d)
theorem v_goto (C : ns_Cx G p s m args meth c cc own nL) (tgt : Nat) (hd : decode cc pc = .ok (.goto ((tgt : Int) - (pc : Int)), 3)) (k : VV G p l e R s m args below meth c nL cells slots Q n σ tgt lv st) : VV G p l e R s m args below meth c nL cells slots Q n σ pc lv st :=
  fun H locs ls a b d => lv_goto C.1 C.2.1 hd (by omega) (k H locs ls a b d)
theorem v_ifnull (C : ns_Cx G p s m args meth c cc own nL) {x : Nat} (tgt : Nat) (pc' : Nat) (hp : pc + 3 = pc') (hd : decode cc pc = .ok (.ifnull ((tgt : Int) - (pc : Int)), 3)) (k : VV G p l e R s m args below meth c nL cells slots Q n σ pc' lv st) : VV G p l e R s m args below meth c nL cells slots Q n σ pc lv (.ref x :: st) := by
  subst hp; exact fun H locs ls a b d => lv_ifnull C.1 C.2.1 hd (k H locs ls a b d)
theorem v_ifnullN (C : ns_Cx G p s m args meth c cc own nL) (tgt : Nat) (hd : decode cc pc = .ok (.ifnull ((tgt : Int) - (pc : Int)), 3)) (k : VV G p l e R s m args below meth c nL cells slots Q n σ tgt lv st) : VV G p l e R s m args below meth c nL cells slots Q n σ pc lv (.null :: st) :=
  fun H locs ls a b d => lv_ifnullN C.1 C.2.1 hd (by omega) (k H locs ls a b d)
theorem v_ifnonnull (C : ns_Cx G p s m args meth c cc own nL) {x : Nat} (tgt : Nat) (hd : decode cc pc = .ok (.ifnonnull ((tgt : Int) - (pc : Int)), 3)) (k : VV G p l e R s m args below meth c nL cells slots Q n σ tgt lv st) : VV G p l e R s m args below meth c nL cells slots Q n σ pc lv (.ref x :: st) :=
  fun H locs ls a b d => lv_ifnonnull C.1 C.2.1 hd (by omega) (k H locs ls a b d)
theorem v_ifnonnullN (C : ns_Cx G p s m args meth c cc own nL) (tgt : Nat) (pc' : Nat) (hp : pc + 3 = pc') (hd : decode cc pc = .ok (.ifnonnull ((tgt : Int) - (pc : Int)), 3)) (k : VV G p l e R s m args below meth c nL cells slots Q n σ pc' lv st) : VV G p l e R s m args below meth c nL cells slots Q n σ pc lv (.null :: st) := by
  subst hp; exact fun H locs ls a b d => lv_ifnonnullN C.1 C.2.1 hd (k H locs ls a b d)
/-! fields -/
theorem ns_get0 {H : Heap} (hW : ns_Wd G n σ H) {a ci k t : Nat} (ha : a < n) (hk : ns_kd a = ci) (hci : ci < 10) (ht : (ns_ft ci)[k]? = some t) :
    (ns_wl G n σ)[a]? = some (G.1 + a, .inr (ci, ns_fl G.1 σ a ci)) ∧ (ns_fl G.1 σ a ci)[k]? = some (ns_fv G.1 σ a k t) :=
  ⟨by rw [ns_wl_at G σ ha, ns_cE_obj G σ hk hci], ns_fl_at G.1 σ a ci k t ht⟩
theorem v_get (C : ns_Cx G p s m args meth c cc own nL) {a : Nat} (ci : Nat) {Cn : String} {T : u_T} {N : Nat} (hc : ns_cl[ci]? = some (Cn, T, N)) (hin : ∀ w ∈ u_ws Cn T N, w ∈ ns_TB) (k t : Nat) (v : Value) (ha : a < n) (hkd : ns_kd a = ci) (hci : ci < 10) (hkN : k < N) (ht : (ns_ft ci)[k]? = some t) (hv : ns_fv G.1 σ a k t = v) (i : Nat) {ref : String} (hw : Cond.fieldLink own i ref (T k).2.1 (T k).2.2.1 ∈ ns_TB) (href : (T k).1 = ref) (pc' : Nat) (hp : pc + 3 = pc') (hd : decode cc pc = .ok (.getfield i, 3)) (kk : VV G p l e R s m args below meth c nL cells slots Q n σ pc' lv (v :: st)) : VV G p l e R s m args below meth c nL cells slots Q n σ pc lv (.ref (G.1 + a) :: st) := by
  subst hp; subst href; subst hv
  intro H locs ls hW hS hl
  obtain ⟨h1, h2⟩ := ns_get0 hW ha hkd hci ht
  exact va_get C.1 C.2.1 C.2.2.2.2.1 hin C.2.2.2.1 C.2.2.2.2.2.1.1 hW.2.1 a h1 hc k hkN (C.2.2.2.2.1 _ hw) (fun _ h => h) h2 hd (kk H locs ls hW hS hl)
theorem v_getN (C : ns_Cx G p s m args meth c cc own nL) {a : Nat} (ci : Nat) {Cn host : String} {T : u_T} {N : Nat} (hc : ns_cl[ci]? = some (Cn, T, N)) (hin : ∀ w ∈ u_ws Cn T N, w ∈ ns_TB) (k t : Nat) (v : Value) (ha : a < n) (hkd : ns_kd a = ci) (hci : ci < 10) (hkN : k < N) (ht : (ns_ft ci)[k]? = some t) (hv : ns_fv G.1 σ a k t = v) (i : Nat) {ref : String} (hw : Cond.fieldLinkNest own i ref (T k).2.1 (T k).2.2.1 host ∈ ns_NB) (href : (T k).1 = ref) (pc' : Nat) (hp : pc + 3 = pc') (hd : decode cc pc = .ok (.getfield i, 3)) (kk : VV G p l e R s m args below meth c nL cells slots Q n σ pc' lv (v :: st)) : VV G p l e R s m args below meth c nL cells slots Q n σ pc lv (.ref (G.1 + a) :: st) := by
  subst hp; subst href; subst hv
  intro H locs ls hW hS hl
  obtain ⟨h1, h2⟩ := ns_get0 hW ha hkd hci ht
  exact va_getN C.1 C.2.1 C.2.2.2.2.1 hin C.2.2.2.1 C.2.2.2.2.2.1.1 hW.2.1 a h1 hc k hkN (va_Nw.use rfl (C.2.2.2.2.2.1.2.1 _ hw)) (fun _ h => h) h2 hd (kk H locs ls hW hS hl)
/-- the cell behind a store into a field -/
theorem ns_put0 {H' : Heap} {cell : Cell} {σ' : ns_St} {a ci k : Nat} {Cn : String} {T : u_T} {N : Nat} {v : Value} {iS : Nat → Nat} (hc : ns_cl[ci]? = some (Cn, T, N)) (hkd : ns_kd a = ci) (hci : ci < 10) (hkN : k < N)
    (hcls : cell.cls = G.2.1.1 ci) (hvm : cell.vm = .none) (hiS : iS = G.2.1.2 ci) (hslots : ∀ j, j < N → cell.slots[iS j]? = some (vp_V (ns_fl G.1 σ a ci) j)) (hap : ∀ x y, x < N → y < N → x ≠ y → iS x ≠ iS y)
    (hlen : k < (ns_fl G.1 σ a ci).length) (e1 : H'[G.1 + a]? = some (cell.setSlot (iS k) v)) (hfl : ns_fl G.1 σ' a ci = (ns_fl G.1 σ a ci).set k v) : va_at G.2.1 ns_cl (G.1 + a, ns_cE G σ' a) H' := by
  subst hiS
  rw [ns_cE_obj G σ' hkd hci, hfl]
  exact ⟨_, hc, t_OB.to (V := updV (vp_V (ns_fl G.1 σ a ci)) k v) ⟨_, e1, hcls, hvm, t_set hslots hap hkN v⟩ (fun j _ => vp_updV_set hlen v j)⟩
theorem v_put (C : ns_Cx G p s m args meth c cc own nL) {a : Nat} {σ' : ns_St} (ci : Nat) {Cn : String} {T : u_T} {N : Nat} (hc : ns_cl[ci]? = some (Cn, T, N)) (hin : ∀ w ∈ u_ws Cn T N, w ∈ ns_TB) (ty0 : Nat → FieldType) (hty : ∀ k, k < N → parseFieldDescriptor (T k).2.2.1 = some (ty0 k)) (hnm : ∀ a, a < N → ∀ b, b < N → a ≠ b → (T a).2.1 ≠ (T b).2.1) (k t : Nat) {v : Value} (ha : a < n) (hkd : ns_kd a = ci) (hci : ci < 10) (hkN : k < N) (ht : (ns_ft ci)[k]? = some t) (hfin : (T k).2.2.2 = false) (hn : narrow (ty0 k) v = v) (hfit : fits (ty0 k) v = true) (hfl : ns_fl G.1 σ' a ci = (ns_fl G.1 σ a ci).set k v) (hne : ∀ b, b ≠ a → ns_cE G σ' b = ns_cE G σ b) (i : Nat) {ref : String} (hw : Cond.fieldLink own i ref (T k).2.1 (T k).2.2.1 ∈ ns_TB) (href : (T k).1 = ref) (pc' : Nat) (hp : pc + 3 = pc') (hd : decode cc pc = .ok (.putfield i, 3)) (kk : VV G p l e R s m args below meth c nL cells slots Q n σ' pc' lv st) : VV G p l e R s m args below meth c nL cells slots Q n σ pc lv (v :: .ref (G.1 + a) :: st) := by
  subst hp; subst href
  intro H locs ls hW hS hl
  obtain ⟨h1, h2⟩ := ns_get0 hW ha hkd hci ht
  have hK := C.2.2.2.2.2.1.1
  have hts := C.2.2.2.2.1
  have hap := va_apart (own := own) hts hin ty0 hty hnm hK hc
  obtain ⟨r, q0, cell, q1, q2, q3, q4⟩ := hW.2.1 a _ h1
  have hr : r = (Cn, T, N) := Option.some.inj (q0.symm.trans hc)
  subst hr
  obtain ⟨hSl, hfc, kC, hkC, hkind⟩ := hK.1 ci _ hc
  obtain ⟨cf, kf, fi, f, hi, hsl⟩ := hSl k hkN
  have hlay := hts _ (hin _ (u_in_lay hkN))
  unfold u_lay at hlay
  rw [if_neg (by rw [hfin]; decide)] at hlay
  have hst := (u_facts hfc hkC (u_lays hts hin hkN) hi).1
  have h6 := u_store hfc hkC hkind hlay hi (hty k hkN) hn hfit
  refine W.putK C.1 C.2.1 (f := f) ⟨C.2.2.2.1, hts _ hw, ⟨_, _, _, hi⟩, hst⟩ (by rw [q2]; exact h6) q1 q3 (by rw [hsl]; exact k2_hasslot (q4 k hkN)) rfl rfl hd fun H' e1 e2 e3 => ?_
  rw [hsl] at e1 ⊢
  exact kk H' _ ls (ns_set hW e2 e3 (ns_put0 hc hkd hci hkN q2 q3 rfl q4 hap (List.getElem?_eq_some_iff.mp h2).1 e1 hfl) hne) (hS.put e2 e3 (Nat.le_add_right _ _)) hl
theorem v_putN (C : ns_Cx G p s m args meth c cc own nL) {a : Nat} {σ' : ns_St} (ci : Nat) {Cn host : String} {T : u_T} {N : Nat} (hc : ns_cl[ci]? = some (Cn, T, N)) (hin : ∀ w ∈ u_ws Cn T N, w ∈ ns_TB) (ty0 : Nat → FieldType) (hty : ∀ k, k < N → parseFieldDescriptor (T k).2.2.1 = some (ty0 k)) (hnm : ∀ a, a < N → ∀ b, b < N → a ≠ b → (T a).2.1 ≠ (T b).2.1) (k t : Nat) {v : Value} (ha : a < n) (hkd : ns_kd a = ci) (hci : ci < 10) (hkN : k < N) (ht : (ns_ft ci)[k]? = some t) (hfin : (T k).2.2.2 = false) (hn : narrow (ty0 k) v = v) (hfit : fits (ty0 k) v = true) (hfl : ns_fl G.1 σ' a ci = (ns_fl G.1 σ a ci).set k v) (hne : ∀ b, b ≠ a → ns_cE G σ' b = ns_cE G σ b) (i : Nat) {ref : String} (hw : Cond.fieldLinkNest own i ref (T k).2.1 (T k).2.2.1 host ∈ ns_NB) (href : (T k).1 = ref) (pc' : Nat) (hp : pc + 3 = pc') (hd : decode cc pc = .ok (.putfield i, 3)) (kk : VV G p l e R s m args below meth c nL cells slots Q n σ' pc' lv st) : VV G p l e R s m args below meth c nL cells slots Q n σ pc lv (v :: .ref (G.1 + a) :: st) := by
  subst hp; subst href
  intro H locs ls hW hS hl
  obtain ⟨h1, h2⟩ := ns_get0 hW ha hkd hci ht
  have hK := C.2.2.2.2.2.1.1
  have hts := C.2.2.2.2.1
  have hap := va_apart (own := own) hts hin ty0 hty hnm hK hc
  obtain ⟨r, q0, cell, q1, q2, q3, q4⟩ := hW.2.1 a _ h1
  have hr : r = (Cn, T, N) := Option.some.inj (q0.symm.trans hc)
  subst hr
  obtain ⟨hSl, hfc, kC, hkC, hkind⟩ := hK.1 ci _ hc
  obtain ⟨cf, kf, fi, f, hi, hsl⟩ := hSl k hkN
  have hlay := hts _ (hin _ (u_in_lay hkN))
  unfold u_lay at hlay
  rw [if_neg (by rw [hfin]; decide)] at hlay
  have hst := (u_facts hfc hkC (u_lays hts hin hkN) hi).1
  have h6 := u_store hfc hkC hkind hlay hi (hty k hkN) hn hfit
  refine va_WputK C.1 C.2.1 (f := f) C.2.2.2.1 (va_Nw.use rfl (C.2.2.2.2.2.1.2.1 _ hw)) hi hst (by rw [q2]; exact h6) q1 q3 (by rw [hsl]; exact k2_hasslot (q4 k hkN)) rfl rfl hd fun H' e1 e2 e3 => ?_
  rw [hsl] at e1 ⊢
  exact kk H' _ ls (ns_set hW e2 e3 (ns_put0 hc hkd hci hkN q2 q3 rfl q4 hap (List.getElem?_eq_some_iff.mp h2).1 e1 hfl) hne) (hS.put e2 e3 (Nat.le_add_right _ _)) hl
theorem v_putF (C : ns_Cx G p s m args meth c cc own nL) (hname : meth.name = "<init>") {a : Nat} {σ' : ns_St} (ci : Nat) {Cn : String} {T : u_T} {N : Nat} (hc : ns_cl[ci]? = some (Cn, T, N)) (hin : ∀ w ∈ u_ws Cn T N, w ∈ ns_TB) (ty0 : Nat → FieldType) (hty : ∀ k, k < N → parseFieldDescriptor (T k).2.2.1 = some (ty0 k)) (hnm : ∀ a, a < N → ∀ b, b < N → a ≠ b → (T a).2.1 ≠ (T b).2.1) (k t : Nat) {v : Value} (ha : a < n) (hkd : ns_kd a = ci) (hci : ci < 10) (hkN : k < N) (ht : (ns_ft ci)[k]? = some t) (hfin : (T k).2.2.2 = true) (hn : narrow (ty0 k) v = v) (hfit : fits (ty0 k) v = true) (hfl : ns_fl G.1 σ' a ci = (ns_fl G.1 σ a ci).set k v) (hne : ∀ b, b ≠ a → ns_cE G σ' b = ns_cE G σ b) (i : Nat) {ref : String} (hw : Cond.fieldLink own i ref (T k).2.1 (T k).2.2.1 ∈ ns_TB) (href : (T k).1 = ref) (hdecl : (T k).1 = own) (pc' : Nat) (hp : pc + 3 = pc') (hd : decode cc pc = .ok (.putfield i, 3)) (kk : VV G p l e R s m args below meth c nL cells slots Q n σ' pc' lv st) : VV G p l e R s m args below meth c nL cells slots Q n σ pc lv (v :: .ref (G.1 + a) :: st) := by
  subst hp; subst href
  intro H locs ls hW hS hl
  obtain ⟨h1, h2⟩ := ns_get0 hW ha hkd hci ht
  have hK := C.2.2.2.2.2.1.1
  have hts := C.2.2.2.2.1
  have hap := va_apart (own := own) hts hin ty0 hty hnm hK hc
  obtain ⟨r, q0, cell, q1, q2, q3, q4⟩ := hW.2.1 a _ h1
  have hr : r = (Cn, T, N) := Option.some.inj (q0.symm.trans hc)
  subst hr
  obtain ⟨hSl, hfc, kC, hkC, hkind⟩ := hK.1 ci _ hc
  obtain ⟨cf, kf, fi, f, hi, hsl⟩ := hSl k hkN
  have hlay := hts _ (hin _ (u_in_lay hkN))
  unfold u_lay at hlay
  rw [if_pos hfin] at hlay
  have hst := (u_facts hfc hkC (u_lays hts hin hkN) hi).1
  have hown := C.2.2.2.1
  have hcf : m.cls = cf := by
    obtain ⟨_, _, c', _, _, _, -, -, hf', -, -, -, hown2, -⟩ := Cond.laysFinal_spec hlay
    have e1 : c' = cf := by have := hi.symm.trans hf'; simp at this; exact this.1.symm
    rw [hdecl] at hown2
    rw [← e1]; exact Option.some.inj (hown.symm.trans hown2)
  have h6 := u_fits hfc hkC hkind (Or.inr hlay) hi (hty k hkN) hn hfit
  refine W.putFinK C.1 C.2.1 hown (hts _ hw) hi hst hcf hname (by rw [q2]; exact h6) q1 q3 (by rw [hsl]; exact k2_hasslot (q4 k hkN)) rfl rfl hd fun H' e1 e2 e3 => ?_
  rw [hsl] at e1 ⊢
  exact kk H' _ ls (ns_set hW e2 e3 (ns_put0 hc hkd hci hkN q2 q3 rfl q4 hap (List.getElem?_eq_some_iff.mp h2).1 e1 hfl) hne) (hS.put e2 e3 (Nat.le_add_right _ _)) hl
/-! arrays -/
theorem v_iald (C : ns_Cx G p s m args meth c cc own nL) {a : Nat} {i : Int32} (ha : a < n) (hkd : ns_kd a = 10) (hi : vp_in i (ns_ln a)) (pc' : Nat) (hp : pc + 1 = pc') (hd : decode cc pc = .ok (.iaload, 1)) (kk : VV G p l e R s m args below meth c nL cells slots Q n σ pc' lv (.int (σ.1 a (ns_ix i)) :: st)) : VV G p l e R s m args below meth c nL cells slots Q n σ pc lv (.int i :: .ref (G.1 + a) :: st) := by
  subst hp
  intro H locs ls hW hS hl
  exact va_iald C.1 C.2.1 C.2.2.2.2.2.1.1 hW.2.1 a 0 (by rw [ns_wl_at G σ ha, ns_cE_I G σ hkd]) rfl hi hd (kk H locs ls hW hS hl)
theorem v_lald (C : ns_Cx G p s m args meth c cc own nL) {a : Nat} {i : Int32} (ha : a < n) (hkd : ns_kd a = 11) (hi : vp_in i (ns_ln a)) (pc' : Nat) (hp : pc + 1 = pc') (hd : decode cc pc = .ok (.laload, 1)) (kk : VV G p l e R s m args below meth c nL cells slots Q n σ pc' lv (.long (σ.2.1 a (ns_ix i)) :: st)) : VV G p l e R s m args below meth c nL cells slots Q n σ pc lv (.int i :: .ref (G.1 + a) :: st) := by
  subst hp
  intro H locs ls hW hS hl
  exact va_lald C.1 C.2.1 C.2.2.2.2.2.1.1 hW.2.1 a 1 (by rw [ns_wl_at G σ ha, ns_cE_J G σ hkd]) rfl hi hd (kk H locs ls hW hS hl)
theorem v_aald (C : ns_Cx G p s m args meth c cc own nL) {a b : Nat} {i : Int32} (kd : Nat) (hk : kd = 12 ∨ kd = 13) (ha : a < n) (hkd : ns_kd a = kd) (hi : vp_in i (ns_ln a)) (hb : σ.2.2 a (ns_ix i) = some b) (pc' : Nat) (hp : pc + 1 = pc') (hd : decode cc pc = .ok (.aaload, 1)) (kk : VV G p l e R s m args below meth c nL cells slots Q n σ pc' lv (.ref (G.1 + b) :: st)) : VV G p l e R s m args below meth c nL cells slots Q n σ pc lv (.int i :: .ref (G.1 + a) :: st) := by
  subst hp
  intro H locs ls hW hS hl
  have key := kk H locs ls hW hS hl
  rcases hk with rfl | rfl
  · refine va_aldq C.1 C.2.1 C.2.2.2.2.2.1.1 hW.2.1 a 2 (by rw [ns_wl_at G σ ha, ns_cE_R G σ hkd (Or.inl rfl)]) rfl hi hd ?_
    show W p l e R s m args below meth c H locs cells slots Q (F0 m (pc + 1) ls (va_rf (ns_rf G.1 (σ.2.2 a (ns_ix i))) :: st))
    rw [hb]; exact key
  · refine va_aldq C.1 C.2.1 C.2.2.2.2.2.1.1 hW.2.1 a 3 (by rw [ns_wl_at G σ ha, ns_cE_R G σ hkd (Or.inr rfl)]) rfl hi hd ?_
    show W p l e R s m args below meth c H locs cells slots Q (F0 m (pc + 1) ls (va_rf (ns_rf G.1 (σ.2.2 a (ns_ix i))) :: st))
    rw [hb]; exact key
theorem v_alenI (C : ns_Cx G p s m args meth c cc own nL) {a : Nat} (x : Int32) (ha : a < n) (hkd : ns_kd a = 10) (hx : x = Int32.ofNat (ns_ln a)) (pc' : Nat) (hp : pc + 1 = pc') (hd : decode cc pc = .ok (.arraylength, 1)) (kk : VV G p l e R s m args below meth c nL cells slots Q n σ pc' lv (.int x :: st)) : VV G p l e R s m args below meth c nL cells slots Q n σ pc lv (.ref (G.1 + a) :: st) := by
  subst hp; subst hx
  intro H locs ls hW hS hl
  exact va_alen C.1 C.2.1 C.2.2.2.2.2.1.1 hW.2.1 a 0 (by rw [ns_wl_at G σ ha, ns_cE_I G σ hkd]) rfl rfl hd (kk H locs ls hW hS hl)
theorem v_iast (C : ns_Cx G p s m args meth c cc own nL) {a : Nat} {i x : Int32} {σ' : ns_St} (hσ : σ' = ns_pI σ a (ns_ix i) x) (ha : a < n) (hkd : ns_kd a = 10) (hi : vp_in i (ns_ln a)) (pc' : Nat) (hp : pc + 1 = pc') (hd : decode cc pc = .ok (.iastore, 1)) (kk : VV G p l e R s m args below meth c nL cells slots Q n σ' pc' lv st) : VV G p l e R s m args below meth c nL cells slots Q n σ pc lv (.int x :: .int i :: .ref (G.1 + a) :: st) := by
  subst hp; subst hσ
  intro H locs ls hW hS hl
  have h00 := hW.2.1 a (G.1 + a, .inl (G.2.2.1 10, ns_ln a, .inl (σ.1 a))) (by rw [ns_wl_at G σ ha, ns_cE_I G σ hkd])
  have h0 : H[G.1 + a]? = some (arrV (G.2.2.1 10) (ns_ln a) (fun j => .int (σ.1 a j))) := h00
  refine W.iast C.1 C.2.1 h0 ((C.2.2.2.2.2.1.1.2 0 _ rfl).1 (ns_ln a) (fun j => .int (σ.1 a j))) (fun q => by cases q) (by rw [arrV_size]; exact hi) rfl rfl hd fun H1 e1 z oq => ?_
  refine kk H1 _ ls (ns_set hW z oq ?_ ns_pI_ne) (hS.put z oq (Nat.le_add_right _ _)) hl
  rw [ns_cE_I G _ hkd]
  show H1[G.1 + a]? = some (vp_cell _ _)
  rw [vp_cell_i, e1, arrV_store]
  congr 2
  funext q
  by_cases hq : q = i.toNatClampNeg
  · subst hq; simp [updV, ns_pI, va_up]
  · simp [updV, ns_pI, va_up, hq]
theorem v_last (C : ns_Cx G p s m args meth c cc own nL) {a : Nat} {i : Int32} {x : Int64} {σ' : ns_St} (hσ : σ' = ns_pJ σ a (ns_ix i) x) (ha : a < n) (hkd : ns_kd a = 11) (hi : vp_in i (ns_ln a)) (pc' : Nat) (hp : pc + 1 = pc') (hd : decode cc pc = .ok (.lastore, 1)) (kk : VV G p l e R s m args below meth c nL cells slots Q n σ' pc' lv st) : VV G p l e R s m args below meth c nL cells slots Q n σ pc lv (.long x :: .int i :: .ref (G.1 + a) :: st) := by
  subst hp; subst hσ
  intro H locs ls hW hS hl
  have h00 := hW.2.1 a (G.1 + a, .inl (G.2.2.1 11, ns_ln a, .inr (.inl (σ.2.1 a)))) (by rw [ns_wl_at G σ ha, ns_cE_J G σ hkd])
  have h0 : H[G.1 + a]? = some (arrV (G.2.2.1 11) (ns_ln a) (fun j => .long (σ.2.1 a j))) := h00
  refine W.last C.1 C.2.1 h0 ((C.2.2.2.2.2.1.1.2 1 _ rfl).1 (ns_ln a) (fun j => .long (σ.2.1 a j))) (fun q => by cases q) (by rw [arrV_size]; exact hi) rfl rfl hd fun H1 e1 z oq => ?_
  refine kk H1 _ ls (ns_set hW z oq ?_ ns_pJ_ne) (hS.put z oq (Nat.le_add_right _ _)) hl
  rw [ns_cE_J G _ hkd]
  show H1[G.1 + a]? = some (vp_cell _ _)
  rw [vp_cell_l, e1, arrV_store]
  congr 2
  funext q
  by_cases hq : q = i.toNatClampNeg
  · subst hq; simp [updV, ns_pJ, va_up]
  · simp [updV, ns_pJ, va_up, hq]
/-! returns -/
theorem v_iret (C : ns_Cx G p s m args meth c cc own nL) (hr : meth.sig.returnType = some .int) {x : Int32} (hd : decode cc pc = .ok (.ireturn, 1)) : VV G p l e R s m args below meth c nL cells slots (MQ below (ns_Qc G (some (.int x)) n σ) args s cells slots (ns_A G)) n σ pc lv [.int x] :=
  fun H locs ls hW hS hl => W.iret C.1 C.2.1 hr (fun t ht hw => ⟨rfl, by rw [ht]; exact hW, hS.F ht⟩) hS.2.2 hd C.2.2.2.2.2.2.1
theorem v_zret (C : ns_Cx G p s m args meth c cc own nL) (hr : meth.sig.returnType = some .boolean) {x : Int32} (hn : narrow .boolean (.int x) = .int x) (hd : decode cc pc = .ok (.ireturn, 1)) : VV G p l e R s m args below meth c nL cells slots (MQ below (ns_Qc G (some (.int x)) n σ) args s cells slots (ns_A G)) n σ pc lv [.int x] :=
  fun H locs ls hW hS hl => W.zret C.1 C.2.1 hr hn (fun t ht hw => ⟨rfl, by rw [ht]; exact hW, hS.F ht⟩) hS.2.2 hd C.2.2.2.2.2.2.1
theorem v_lret (C : ns_Cx G p s m args meth c cc own nL) (hr : meth.sig.returnType = some .long) {x : Int64} (hd : decode cc pc = .ok (.lreturn, 1)) : VV G p l e R s m args below meth c nL cells slots (MQ below (ns_Qc G (some (.long x)) n σ) args s cells slots (ns_A G)) n σ pc lv [.long x] :=
  fun H locs ls hW hS hl => W.lret C.1 C.2.1 hr (fun t ht hw => ⟨rfl, by rw [ht]; exact hW, hS.F ht⟩) hS.2.2 hd C.2.2.2.2.2.2.1
theorem v_vret (C : ns_Cx G p s m args meth c cc own nL) (hr : meth.sig.returnType = none) (hd : decode cc pc = .ok (.return_, 1)) : VV G p l e R s m args below meth c nL cells slots (MQ below (ns_Qc G none n σ) args s cells slots (ns_A G)) n σ pc lv [] :=
  fun H locs ls hW hS hl => W.vret C.1 C.2.1 hr (fun t ht hw => ⟨rfl, by rw [ht]; exact hW, hS.F ht⟩) hS.2.2 hd C.2.2.2.2.2.2.1
theorem v_aret (C : ns_Cx G p s m args meth c cc own nL) {nm : String} (hr : meth.sig.returnType = some (.object nm)) {x : Option Nat} (hd : decode cc pc = .ok (.areturn, 1)) : VV G p l e R s m args below meth c nL cells slots (MQ below (ns_Qc G (some (va_rf (ns_rf G.1 x))) n σ) args s cells slots (ns_A G)) n σ pc lv [va_rf (ns_rf G.1 x)] :=
  fun H locs ls hW hS hl => W.aret C.1 C.2.1 hr (Or.inl ⟨_, rfl⟩) (by cases x with | none => exact Or.inl rfl | some b => exact Or.inr ⟨_, rfl⟩) (fun t ht hw => ⟨rfl, by rw [ht]; exact hW, hS.F ht⟩) hS.2.2 hd C.2.2.2.2.2.2.1
/-! calls -/
theorem ns_call {mc ms : Nat} {H : Heap} {locs : List Loc} {ls : Array Slot} {st0 rest : List Value} {o : Option Value} {n' : Nat} {σ' : ns_St} {a : Array Value} (hr : va_Run p l e R s m args below meth c H locs cells slots mc ms (F0 m pc ls st0) rest (ns_Qc G o n' σ' a) (ns_A G)) (hS : va_S (ns_A G) s.heap H locs)
    (kk : ∀ (H1 : Heap) (locs1 : List Loc), ns_Wd G n' σ' H1 → va_S (ns_A G) s.heap H1 locs1 → W p l e R s m args below meth c H1 locs1 (cells + mc) (slots + ms) Q (F0 m (pc + 3) ls (o.toList ++ rest))) : W p l e R s m args below meth c H locs cells slots Q (F0 m pc ls st0) := by
  intro T hT X
  obtain ⟨v, st₀, t, T', L, h0, X', hL, e1, e2, ⟨hv, hW, hz, hk⟩, st⟩ := hr T hT X
  cases hv
  rw [h0] at hz hk
  obtain ⟨t2, a1, b1⟩ := kk T'.heap (locs ++ L) (by rw [e1]; exact hW)
    ⟨Nat.le_trans hS.1 (by rw [e1]; exact hz), fun q h1 h2 => by rw [e1, hk q (Nat.lt_of_lt_of_le h1 hS.1) h2]; exact hS.2.1 q h1 h2, fun q hq => by
      rcases List.mem_append.mp hq with h | h
      · exact hS.2.2 q h
      · exact hL q h⟩ T' rfl X'
  exact ⟨t2, st t2 a1, b1⟩
theorem ns_good {y : MethodName} {bytes : ByteArray} {maxL : Nat} {ret : Option FieldType} (h : Cond.code y bytes maxL ret ∈ ns_TB) : GoodIn ns_TB (Cond.code y bytes maxL ret :: ns_TB) := by
  intro w hw
  have hm : w ∈ ns_TB := by
    rcases List.mem_cons.mp hw with rfl | h2
    · exact h
    · exact h2
  exact ⟨hm, good_of_word (List.mem_filter.mp hm).2⟩
theorem ns_blind (G : ns_G) (av : List Value) (n : Nat) (σ : ns_St) : FrameBlind (va_Pc av (fun U => ns_Wd G n σ U.heap ∧ ns_K G U)) :=
  fun a U g mk h => ⟨h.1, h.2.1, ns_K.same (s := U) (U := U.calling g mk a) rfl h.2.2⟩
theorem ns_sums (xs : List Value) (m : MethodId) (ls : Array Slot) (st0 : List Value) (h : (xs.map fun v => v.category).sum ≤ 8) : 2 * (F0 m pc ls st0).monitorRoom + (xs.map fun v => v.category).sum ≤ 8 := lv_room h
theorem v_callV (C : ns_Cx G p s m args meth c cc own nL) {a : Nat} (ci : Nat) {Cn : String} {T : u_T} {N : Nat} (hc : ns_cl[ci]? = some (Cn, T, N)) (ha : a < n) (hkd : ns_kd a = ci) (hci : ci < 10) {y : MethodName} {bytes : ByteArray} {maxL : Nat} {ret : Option FieldType} {fr lo mc ms : Nat} (As rest : List Value) {o : Option Value} {n' : Nat} {σ' : ns_St} (hM : ns_ok G l y bytes maxL ret fr lo mc ms (.ref (G.1 + a) :: As) n σ o n' σ') (i na : Nat) (hcode : Cond.code y bytes maxL ret ∈ ns_TB) (hlink : Cond.methodLink own i y ∈ ns_TB) (hinst : Cond.instanceMethod y ∈ ns_TB) (hsel : Cond.selects Cn y y ∈ ns_TB) (hini : Cond.initialized Cn ∈ ns_TB) (hd1 : y.cls = Cn ∧ y.cls ≠ "java/lang/invoke/MethodHandle" ∧ y.cls ≠ "java/lang/invoke/VarHandle" ∧ (parseMethodDescriptor y.desc).map (fun d => d.parameters.length) = some na) (hna : As.length = na) (hR : fr + 1 ≤ R.frames ∧ 8 + (maxL + 11) + lo ≤ R.locals) (hf : cells + mc ≤ R.cells ∧ slots + ms ≤ R.slots) (hsum : (rest.map fun v => v.category).sum ≤ 8) (hst : st = As.reverse ++ .ref (G.1 + a) :: rest) (pc' : Nat) (hp : pc + 3 = pc') (hd : decode cc pc = .ok (.invokevirtual i, 3)) (st' : List Value) (hst' : o.toList ++ rest = st') (kk : VV G p l e R s m args below meth c nL (cells + mc) (slots + ms) Q n' σ' pc' lv st') : VV G p l e R s m args below meth c nL cells slots Q n σ pc lv st := by
  subst hp; subst hst'
  intro H locs ls hW hS hl
  have hts := C.2.2.2.2.1
  refine ns_call (n' := n') (σ' := σ') (va_runV (As := As) (rest := rest) (C := Cn) (n := na) ⟨C.1, C.2.1, C.2.2.1, C.2.2.2.1, hts⟩ hM ⟨⟨rfl, rfl, hR.1, hR.2, pay_in hts (ns_good hcode), List.mem_cons_self, hts _ hcode, hd1.1.symm ▸ hts _ hini, ⟨hd1.2.1, hd1.2.2.1⟩, fun sig h => ?_, hts _ hlink⟩, hts _ hinst, hts _ hsel⟩ ⟨ns_blind G _ n σ, ?_, fun U hU hw => ⟨rfl, by rw [hU]; exact hW, ns_K.warm hw C.2.2.2.2.2.1⟩⟩ rfl hna hl.1 hst (lv_room hsum) hd hf) hS (fun H1 locs1 h1 h2 => kk H1 locs1 ls h1 h2 hl)
  · have h2 := hd1.2.2.2
    rw [h] at h2
    exact (Option.some.inj h2).symm
  · exact va_recv C.2.2.2.2.2.1.1 hW.2.1 hc (by rw [ns_wl_at G σ ha, ns_cE_obj G σ hkd hci])
theorem v_callVN (C : ns_Cx G p s m args meth c cc own nL) {a : Nat} (ci : Nat) {Cn host : String} {T : u_T} {N : Nat} (hc : ns_cl[ci]? = some (Cn, T, N)) (ha : a < n) (hkd : ns_kd a = ci) (hci : ci < 10) {y : MethodName} {bytes : ByteArray} {maxL : Nat} {ret : Option FieldType} {fr lo mc ms : Nat} (As rest : List Value) {o : Option Value} {n' : Nat} {σ' : ns_St} (hM : ns_ok G l y bytes maxL ret fr lo mc ms (.ref (G.1 + a) :: As) n σ o n' σ') (i na : Nat) (hcode : Cond.code y bytes maxL ret ∈ ns_TB) (hlink : Cond.methodLinkNest own i y host ∈ ns_NB) (hinst : Cond.instanceMethod y ∈ ns_TB) (hsel : Cond.selects Cn y y ∈ ns_TB) (hini : Cond.initialized Cn ∈ ns_TB) (hd1 : y.cls = Cn ∧ y.cls ≠ "java/lang/invoke/MethodHandle" ∧ y.cls ≠ "java/lang/invoke/VarHandle" ∧ (parseMethodDescriptor y.desc).map (fun d => d.parameters.length) = some na) (hna : As.length = na) (hR : fr + 1 ≤ R.frames ∧ 8 + (maxL + 11) + lo ≤ R.locals) (hf : cells + mc ≤ R.cells ∧ slots + ms ≤ R.slots) (hsum : (rest.map fun v => v.category).sum ≤ 8) (hst : st = As.reverse ++ .ref (G.1 + a) :: rest) (pc' : Nat) (hp : pc + 3 = pc') (hd : decode cc pc = .ok (.invokevirtual i, 3)) (st' : List Value) (hst' : o.toList ++ rest = st') (kk : VV G p l e R s m args below meth c nL (cells + mc) (slots + ms) Q n' σ' pc' lv st') : VV G p l e R s m args below meth c nL cells slots Q n σ pc lv st := by
  subst hp; subst hst'
  intro H locs ls hW hS hl
  have hts := C.2.2.2.2.1
  refine ns_call (n' := n') (σ' := σ') (va_runVN (As := As) (rest := rest) (C := Cn) (n := na) ⟨C.1, C.2.1, C.2.2.1, C.2.2.2.1, hts⟩ hM ⟨va_cnB na hts (ns_good hcode) rfl rfl rfl (C.2.2.2.2.2.1.2.1 _ hlink) (hd1.1.symm ▸ hts _ hini) hd1.2 hR, hts _ hinst, hts _ hsel⟩ ⟨ns_blind G _ n σ, ?_, fun U hU hw => ⟨rfl, by rw [hU]; exact hW, ns_K.warm hw C.2.2.2.2.2.1⟩⟩ rfl hna hl.1 hst (lv_room hsum) hd hf) hS (fun H1 locs1 h1 h2 => kk H1 locs1 ls h1 h2 hl)
  exact va_recv C.2.2.2.2.2.1.1 hW.2.1 hc (by rw [ns_wl_at G σ ha, ns_cE_obj G σ hkd hci])
theorem v_callS (C : ns_Cx G p s m args meth c cc own nL) {y : MethodName} {bytes : ByteArray} {maxL : Nat} {ret : Option FieldType} {fr lo mc ms : Nat} (As rest : List Value) {o : Option Value} {n' : Nat} {σ' : ns_St} (hM : ns_ok G l y bytes maxL ret fr lo mc ms As n σ o n' σ') (i na : Nat) (hcode : Cond.code y bytes maxL ret ∈ ns_TB) (hlink : Cond.methodLink own i y ∈ ns_TB) (hstat : Cond.static y ∈ ns_TB) (hini : Cond.initialized y.cls ∈ ns_TB) (hd1 : y.cls ≠ "java/lang/invoke/MethodHandle" ∧ y.cls ≠ "java/lang/invoke/VarHandle" ∧ (parseMethodDescriptor y.desc).map (fun d => d.parameters.length) = some na) (hna : As.length = na) (hR : fr + 1 ≤ R.frames ∧ 8 + (maxL + 11) + lo ≤ R.locals) (hf : cells + mc ≤ R.cells ∧ slots + ms ≤ R.slots) (hsum : (rest.map fun v => v.category).sum ≤ 8) (hst : st = As.reverse ++ rest) (pc' : Nat) (hp : pc + 3 = pc') (hd : decode cc pc = .ok (.invokestatic i, 3)) (st' : List Value) (hst' : o.toList ++ rest = st') (kk : VV G p l e R s m args below meth c nL (cells + mc) (slots + ms) Q n' σ' pc' lv st') : VV G p l e R s m args below meth c nL cells slots Q n σ pc lv st := by
  subst hp; subst hst'
  intro H locs ls hW hS hl
  have hts := C.2.2.2.2.1
  refine ns_call (n' := n') (σ' := σ') (va_runS (As := As) (rest := rest) (n := na) ⟨C.1, C.2.1, C.2.2.1, C.2.2.2.1, hts⟩ hM ⟨⟨rfl, rfl, hR.1, hR.2, pay_in hts (ns_good hcode), List.mem_cons_self, hts _ hcode, hts _ hini, ⟨hd1.1, hd1.2.1⟩, fun sig h => ?_, hts _ hlink⟩, hts _ hstat⟩ ⟨ns_blind G _ n σ, fun U hU hw => ⟨rfl, by rw [hU]; exact hW, ns_K.warm hw C.2.2.2.2.2.1⟩⟩ rfl hna hl.1 hst (lv_room hsum) hd hf) hS (fun H1 locs1 h1 h2 => kk H1 locs1 ls h1 h2 hl)
  have h2 := hd1.2.2
  rw [h] at h2
  exact (Option.some.inj h2).symm
theorem v_callSN (C : ns_Cx G p s m args meth c cc own nL) {y : MethodName} {host : String} {bytes : ByteArray} {maxL : Nat} {ret : Option FieldType} {fr lo mc ms : Nat} (As rest : List Value) {o : Option Value} {n' : Nat} {σ' : ns_St} (hM : ns_ok G l y bytes maxL ret fr lo mc ms As n σ o n' σ') (i na : Nat) (hcode : Cond.code y bytes maxL ret ∈ ns_TB) (hlink : Cond.methodLinkNest own i y host ∈ ns_NB) (hstat : Cond.static y ∈ ns_TB) (hini : Cond.initialized y.cls ∈ ns_TB) (hd1 : y.cls ≠ "java/lang/invoke/MethodHandle" ∧ y.cls ≠ "java/lang/invoke/VarHandle" ∧ (parseMethodDescriptor y.desc).map (fun d => d.parameters.length) = some na) (hna : As.length = na) (hR : fr + 1 ≤ R.frames ∧ 8 + (maxL + 11) + lo ≤ R.locals) (hf : cells + mc ≤ R.cells ∧ slots + ms ≤ R.slots) (hsum : (rest.map fun v => v.category).sum ≤ 8) (hst : st = As.reverse ++ rest) (pc' : Nat) (hp : pc + 3 = pc') (hd : decode cc pc = .ok (.invokestatic i, 3)) (st' : List Value) (hst' : o.toList ++ rest = st') (kk : VV G p l e R s m args below meth c nL (cells + mc) (slots + ms) Q n' σ' pc' lv st') : VV G p l e R s m args below meth c nL cells slots Q n σ pc lv st := by
  subst hp; subst hst'
  intro H locs ls hW hS hl
  have hts := C.2.2.2.2.1
  exact ns_call (n' := n') (σ' := σ') (va_runSN (As := As) (rest := rest) (n := na) ⟨C.1, C.2.1, C.2.2.1, C.2.2.2.1, hts⟩ hM ⟨va_cnB na hts (ns_good hcode) rfl rfl rfl (C.2.2.2.2.2.1.2.1 _ hlink) (hts _ hini) hd1 hR, hts _ hstat, trivial⟩ ⟨ns_blind G _ n σ, fun U hU hw => ⟨rfl, by rw [hU]; exact hW, ns_K.warm hw C.2.2.2.2.2.1⟩⟩ rfl hna hl.1 hst (lv_room hsum) hd hf) hS (fun H1 locs1 h1 h2 => kk H1 locs1 ls h1 h2 hl)
end ROWS
section ROWS2
variable {G : ns_G} {p : Program} {l : Launch} {e : Env} {R : Room} {s : State} {m : MethodId} {args : Array Value} {below : List Frame} {meth : Method} {c : Code} {cc : ByteArray} {own : String} {nL cells slots : Nat} {Q : State → Prop} {n : Nat} {σ : ns_St} {pc : Nat} {lv : List (Nat × Value)} {st : List Value}
theorem v_putI (C : ns_Cx G p s m args meth c cc own nL) {a : Nat} {x : Int32} {σ' : ns_St} (ci k : Nat) (hσ : σ' = ns_pI σ a k x) {Cn : String} {T : u_T} {N : Nat} (hc : ns_cl[ci]? = some (Cn, T, N)) (hin : ∀ w ∈ u_ws Cn T N, w ∈ ns_TB) (ty0 : Nat → FieldType) (hty : ∀ k, k < N → parseFieldDescriptor (T k).2.2.1 = some (ty0 k)) (hnm : ∀ a, a < N → ∀ b, b < N → a ≠ b → (T a).2.1 ≠ (T b).2.1) (ha : a < n) (hkd : ns_kd a = ci) (hci : ci < 10) (hkN : k < N) (ht : (ns_ft ci)[k]? = some 0) (hfin : (T k).2.2.2 = false) (hn : narrow (ty0 k) (.int x) = .int x) (hfit : fits (ty0 k) (.int x) = true) (i : Nat) {ref : String} (hw : Cond.fieldLink own i ref (T k).2.1 (T k).2.2.1 ∈ ns_TB) (href : (T k).1 = ref) (pc' : Nat) (hp : pc + 3 = pc') (hd : decode cc pc = .ok (.putfield i, 3)) (kk : VV G p l e R s m args below meth c nL cells slots Q n σ' pc' lv st) : VV G p l e R s m args below meth c nL cells slots Q n σ pc lv (.int x :: .ref (G.1 + a) :: st) := by
  subst hσ; exact v_put C ci hc hin ty0 hty hnm k 0 ha hkd hci hkN ht hfin hn hfit (ns_fl_pI G.1 σ a ci k x ht) ns_pI_ne i hw href pc' hp hd kk
theorem v_putIN (C : ns_Cx G p s m args meth c cc own nL) {a : Nat} {x : Int32} {σ' : ns_St} (ci k : Nat) (hσ : σ' = ns_pI σ a k x) {Cn : String} {host : String} {T : u_T} {N : Nat} (hc : ns_cl[ci]? = some (Cn, T, N)) (hin : ∀ w ∈ u_ws Cn T N, w ∈ ns_TB) (ty0 : Nat → FieldType) (hty : ∀ k, k < N → parseFieldDescriptor (T k).2.2.1 = some (ty0 k)) (hnm : ∀ a, a < N → ∀ b, b < N → a ≠ b → (T a).2.1 ≠ (T b).2.1) (ha : a < n) (hkd : ns_kd a = ci) (hci : ci < 10) (hkN : k < N) (ht : (ns_ft ci)[k]? = some 0) (hfin : (T k).2.2.2 = false) (hn : narrow (ty0 k) (.int x) = .int x) (hfit : fits (ty0 k) (.int x) = true) (i : Nat) {ref : String} (hw : Cond.fieldLinkNest own i ref (T k).2.1 (T k).2.2.1 host ∈ ns_NB) (href : (T k).1 = ref) (pc' : Nat) (hp : pc + 3 = pc') (hd : decode cc pc = .ok (.putfield i, 3)) (kk : VV G p l e R s m args below meth c nL cells slots Q n σ' pc' lv st) : VV G p l e R s m args below meth c nL cells slots Q n σ pc lv (.int x :: .ref (G.1 + a) :: st) := by
  subst hσ; exact v_putN C ci hc hin ty0 hty hnm k 0 ha hkd hci hkN ht hfin hn hfit (ns_fl_pI G.1 σ a ci k x ht) ns_pI_ne i hw href pc' hp hd kk
theorem v_putIF (C : ns_Cx G p s m args meth c cc own nL) (hname : meth.name = "<init>") {a : Nat} {x : Int32} {σ' : ns_St} (ci k : Nat) (hσ : σ' = ns_pI σ a k x) {Cn : String} {T : u_T} {N : Nat} (hc : ns_cl[ci]? = some (Cn, T, N)) (hin : ∀ w ∈ u_ws Cn T N, w ∈ ns_TB) (ty0 : Nat → FieldType) (hty : ∀ k, k < N → parseFieldDescriptor (T k).2.2.1 = some (ty0 k)) (hnm : ∀ a, a < N → ∀ b, b < N → a ≠ b → (T a).2.1 ≠ (T b).2.1) (ha : a < n) (hkd : ns_kd a = ci) (hci : ci < 10) (hkN : k < N) (ht : (ns_ft ci)[k]? = some 0) (hfin : (T k).2.2.2 = true) (hn : narrow (ty0 k) (.int x) = .int x) (hfit : fits (ty0 k) (.int x) = true) (i : Nat) {ref : String} (hw : Cond.fieldLink own i ref (T k).2.1 (T k).2.2.1 ∈ ns_TB) (href : (T k).1 = ref) (hdecl : (T k).1 = own) (pc' : Nat) (hp : pc + 3 = pc') (hd : decode cc pc = .ok (.putfield i, 3)) (kk : VV G p l e R s m args below meth c nL cells slots Q n σ' pc' lv st) : VV G p l e R s m args below meth c nL cells slots Q n σ pc lv (.int x :: .ref (G.1 + a) :: st) := by
  subst hσ; exact v_putF C hname ci hc hin ty0 hty hnm k 0 ha hkd hci hkN ht hfin hn hfit (ns_fl_pI G.1 σ a ci k x ht) ns_pI_ne i hw href hdecl pc' hp hd kk
theorem v_putJ (C : ns_Cx G p s m args meth c cc own nL) {a : Nat} {x : Int64} {σ' : ns_St} (ci k : Nat) (hσ : σ' = ns_pJ σ a k x) {Cn : String} {T : u_T} {N : Nat} (hc : ns_cl[ci]? = some (Cn, T, N)) (hin : ∀ w ∈ u_ws Cn T N, w ∈ ns_TB) (ty0 : Nat → FieldType) (hty : ∀ k, k < N → parseFieldDescriptor (T k).2.2.1 = some (ty0 k)) (hnm : ∀ a, a < N → ∀ b, b < N → a ≠ b → (T a).2.1 ≠ (T b).2.1) (ha : a < n) (hkd : ns_kd a = ci) (hci : ci < 10) (hkN : k < N) (ht : (ns_ft ci)[k]? = some 1) (hfin : (T k).2.2.2 = false) (hn : narrow (ty0 k) (.long x) = .long x) (hfit : fits (ty0 k) (.long x) = true) (i : Nat) {ref : String} (hw : Cond.fieldLink own i ref (T k).2.1 (T k).2.2.1 ∈ ns_TB) (href : (T k).1 = ref) (pc' : Nat) (hp : pc + 3 = pc') (hd : decode cc pc = .ok (.putfield i, 3)) (kk : VV G p l e R s m args below meth c nL cells slots Q n σ' pc' lv st) : VV G p l e R s m args below meth c nL cells slots Q n σ pc lv (.long x :: .ref (G.1 + a) :: st) := by
  subst hσ; exact v_put C ci hc hin ty0 hty hnm k 1 ha hkd hci hkN ht hfin hn hfit (ns_fl_pJ G.1 σ a ci k x ht) ns_pJ_ne i hw href pc' hp hd kk
theorem v_putJN (C : ns_Cx G p s m args meth c cc own nL) {a : Nat} {x : Int64} {σ' : ns_St} (ci k : Nat) (hσ : σ' = ns_pJ σ a k x) {Cn : String} {host : String} {T : u_T} {N : Nat} (hc : ns_cl[ci]? = some (Cn, T, N)) (hin : ∀ w ∈ u_ws Cn T N, w ∈ ns_TB) (ty0 : Nat → FieldType) (hty : ∀ k, k < N → parseFieldDescriptor (T k).2.2.1 = some (ty0 k)) (hnm : ∀ a, a < N → ∀ b, b < N → a ≠ b → (T a).2.1 ≠ (T b).2.1) (ha : a < n) (hkd : ns_kd a = ci) (hci : ci < 10) (hkN : k < N) (ht : (ns_ft ci)[k]? = some 1) (hfin : (T k).2.2.2 = false) (hn : narrow (ty0 k) (.long x) = .long x) (hfit : fits (ty0 k) (.long x) = true) (i : Nat) {ref : String} (hw : Cond.fieldLinkNest own i ref (T k).2.1 (T k).2.2.1 host ∈ ns_NB) (href : (T k).1 = ref) (pc' : Nat) (hp : pc + 3 = pc') (hd : decode cc pc = .ok (.putfield i, 3)) (kk : VV G p l e R s m args below meth c nL cells slots Q n σ' pc' lv st) : VV G p l e R s m args below meth c nL cells slots Q n σ pc lv (.long x :: .ref (G.1 + a) :: st) := by
  subst hσ; exact v_putN C ci hc hin ty0 hty hnm k 1 ha hkd hci hkN ht hfin hn hfit (ns_fl_pJ G.1 σ a ci k x ht) ns_pJ_ne i hw href pc' hp hd kk
theorem v_putJF (C : ns_Cx G p s m args meth c cc own nL) (hname : meth.name = "<init>") {a : Nat} {x : Int64} {σ' : ns_St} (ci k : Nat) (hσ : σ' = ns_pJ σ a k x) {Cn : String} {T : u_T} {N : Nat} (hc : ns_cl[ci]? = some (Cn, T, N)) (hin : ∀ w ∈ u_ws Cn T N, w ∈ ns_TB) (ty0 : Nat → FieldType) (hty : ∀ k, k < N → parseFieldDescriptor (T k).2.2.1 = some (ty0 k)) (hnm : ∀ a, a < N → ∀ b, b < N → a ≠ b → (T a).2.1 ≠ (T b).2.1) (ha : a < n) (hkd : ns_kd a = ci) (hci : ci < 10) (hkN : k < N) (ht : (ns_ft ci)[k]? = some 1) (hfin : (T k).2.2.2 = true) (hn : narrow (ty0 k) (.long x) = .long x) (hfit : fits (ty0 k) (.long x) = true) (i : Nat) {ref : String} (hw : Cond.fieldLink own i ref (T k).2.1 (T k).2.2.1 ∈ ns_TB) (href : (T k).1 = ref) (hdecl : (T k).1 = own) (pc' : Nat) (hp : pc + 3 = pc') (hd : decode cc pc = .ok (.putfield i, 3)) (kk : VV G p l e R s m args below meth c nL cells slots Q n σ' pc' lv st) : VV G p l e R s m args below meth c nL cells slots Q n σ pc lv (.long x :: .ref (G.1 + a) :: st) := by
  subst hσ; exact v_putF C hname ci hc hin ty0 hty hnm k 1 ha hkd hci hkN ht hfin hn hfit (ns_fl_pJ G.1 σ a ci k x ht) ns_pJ_ne i hw href hdecl pc' hp hd kk
theorem v_putR (C : ns_Cx G p s m args meth c cc own nL) {a : Nat} {x : Option Nat} {σ' : ns_St} (ci k : Nat) (hσ : σ' = ns_pR σ a k x) {Cn : String} {T : u_T} {N : Nat} (hc : ns_cl[ci]? = some (Cn, T, N)) (hin : ∀ w ∈ u_ws Cn T N, w ∈ ns_TB) (ty0 : Nat → FieldType) (hty : ∀ k, k < N → parseFieldDescriptor (T k).2.2.1 = some (ty0 k)) (hnm : ∀ a, a < N → ∀ b, b < N → a ≠ b → (T a).2.1 ≠ (T b).2.1) (ha : a < n) (hkd : ns_kd a = ci) (hci : ci < 10) (hkN : k < N) (ht : (ns_ft ci)[k]? = some 2) (hfin : (T k).2.2.2 = false) (hn : narrow (ty0 k) (va_rf (ns_rf G.1 x)) = va_rf (ns_rf G.1 x)) (hfit : fits (ty0 k) (va_rf (ns_rf G.1 x)) = true) (i : Nat) {ref : String} (hw : Cond.fieldLink own i ref (T k).2.1 (T k).2.2.1 ∈ ns_TB) (href : (T k).1 = ref) (pc' : Nat) (hp : pc + 3 = pc') (hd : decode cc pc = .ok (.putfield i, 3)) (kk : VV G p l e R s m args below meth c nL cells slots Q n σ' pc' lv st) : VV G p l e R s m args below meth c nL cells slots Q n σ pc lv (va_rf (ns_rf G.1 x) :: .ref (G.1 + a) :: st) := by
  subst hσ; exact v_put C ci hc hin ty0 hty hnm k 2 ha hkd hci hkN ht hfin hn hfit (ns_fl_pR G.1 σ a ci k x ht) ns_pR_ne i hw href pc' hp hd kk
theorem v_putRN (C : ns_Cx G p s m args meth c cc own nL) {a : Nat} {x : Option Nat} {σ' : ns_St} (ci k : Nat) (hσ : σ' = ns_pR σ a k x) {Cn : String} {host : String} {T : u_T} {N : Nat} (hc : ns_cl[ci]? = some (Cn, T, N)) (hin : ∀ w ∈ u_ws Cn T N, w ∈ ns_TB) (ty0 : Nat → FieldType) (hty : ∀ k, k < N → parseFieldDescriptor (T k).2.2.1 = some (ty0 k)) (hnm : ∀ a, a < N → ∀ b, b < N → a ≠ b → (T a).2.1 ≠ (T b).2.1) (ha : a < n) (hkd : ns_kd a = ci) (hci : ci < 10) (hkN : k < N) (ht : (ns_ft ci)[k]? = some 2) (hfin : (T k).2.2.2 = false) (hn : narrow (ty0 k) (va_rf (ns_rf G.1 x)) = va_rf (ns_rf G.1 x)) (hfit : fits (ty0 k) (va_rf (ns_rf G.1 x)) = true) (i : Nat) {ref : String} (hw : Cond.fieldLinkNest own i ref (T k).2.1 (T k).2.2.1 host ∈ ns_NB) (href : (T k).1 = ref) (pc' : Nat) (hp : pc + 3 = pc') (hd : decode cc pc = .ok (.putfield i, 3)) (kk : VV G p l e R s m args below meth c nL cells slots Q n σ' pc' lv st) : VV G p l e R s m args below meth c nL cells slots Q n σ pc lv (va_rf (ns_rf G.1 x) :: .ref (G.1 + a) :: st) := by
  subst hσ; exact v_putN C ci hc hin ty0 hty hnm k 2 ha hkd hci hkN ht hfin hn hfit (ns_fl_pR G.1 σ a ci k x ht) ns_pR_ne i hw href pc' hp hd kk
theorem v_putRF (C : ns_Cx G p s m args meth c cc own nL) (hname : meth.name = "<init>") {a : Nat} {x : Option Nat} {σ' : ns_St} (ci k : Nat) (hσ : σ' = ns_pR σ a k x) {Cn : String} {T : u_T} {N : Nat} (hc : ns_cl[ci]? = some (Cn, T, N)) (hin : ∀ w ∈ u_ws Cn T N, w ∈ ns_TB) (ty0 : Nat → FieldType) (hty : ∀ k, k < N → parseFieldDescriptor (T k).2.2.1 = some (ty0 k)) (hnm : ∀ a, a < N → ∀ b, b < N → a ≠ b → (T a).2.1 ≠ (T b).2.1) (ha : a < n) (hkd : ns_kd a = ci) (hci : ci < 10) (hkN : k < N) (ht : (ns_ft ci)[k]? = some 2) (hfin : (T k).2.2.2 = true) (hn : narrow (ty0 k) (va_rf (ns_rf G.1 x)) = va_rf (ns_rf G.1 x)) (hfit : fits (ty0 k) (va_rf (ns_rf G.1 x)) = true) (i : Nat) {ref : String} (hw : Cond.fieldLink own i ref (T k).2.1 (T k).2.2.1 ∈ ns_TB) (href : (T k).1 = ref) (hdecl : (T k).1 = own) (pc' : Nat) (hp : pc + 3 = pc') (hd : decode cc pc = .ok (.putfield i, 3)) (kk : VV G p l e R s m args below meth c nL cells slots Q n σ' pc' lv st) : VV G p l e R s m args below meth c nL cells slots Q n σ pc lv (va_rf (ns_rf G.1 x) :: .ref (G.1 + a) :: st) := by
  subst hσ; exact v_putF C hname ci hc hin ty0 hty hnm k 2 ha hkd hci hkN ht hfin hn hfit (ns_fl_pR G.1 σ a ci k x ht) ns_pR_ne i hw href hdecl pc' hp hd kk
theorem v_getI (C : ns_Cx G p s m args meth c cc own nL) {a : Nat} (ci k : Nat) {Cn : String} {T : u_T} {N : Nat} (hc : ns_cl[ci]? = some (Cn, T, N)) (hin : ∀ w ∈ u_ws Cn T N, w ∈ ns_TB) (ha : a < n) (hkd : ns_kd a = ci) (hci : ci < 10) (hkN : k < N) (ht : (ns_ft ci)[k]? = some 0) (i : Nat) {ref : String} (hw : Cond.fieldLink own i ref (T k).2.1 (T k).2.2.1 ∈ ns_TB) (href : (T k).1 = ref) (pc' : Nat) (hp : pc + 3 = pc') (hd : decode cc pc = .ok (.getfield i, 3)) (kk : VV G p l e R s m args below meth c nL cells slots Q n σ pc' lv (.int (σ.1 a k) :: st)) : VV G p l e R s m args below meth c nL cells slots Q n σ pc lv (.ref (G.1 + a) :: st) :=
  v_get C ci hc hin k 0 _ ha hkd hci hkN ht rfl i hw href pc' hp hd kk
theorem v_getIN (C : ns_Cx G p s m args meth c cc own nL) {a : Nat} (ci k : Nat) {Cn : String} {host : String} {T : u_T} {N : Nat} (hc : ns_cl[ci]? = some (Cn, T, N)) (hin : ∀ w ∈ u_ws Cn T N, w ∈ ns_TB) (ha : a < n) (hkd : ns_kd a = ci) (hci : ci < 10) (hkN : k < N) (ht : (ns_ft ci)[k]? = some 0) (i : Nat) {ref : String} (hw : Cond.fieldLinkNest own i ref (T k).2.1 (T k).2.2.1 host ∈ ns_NB) (href : (T k).1 = ref) (pc' : Nat) (hp : pc + 3 = pc') (hd : decode cc pc = .ok (.getfield i, 3)) (kk : VV G p l e R s m args below meth c nL cells slots Q n σ pc' lv (.int (σ.1 a k) :: st)) : VV G p l e R s m args below meth c nL cells slots Q n σ pc lv (.ref (G.1 + a) :: st) :=
  v_getN C ci hc hin k 0 _ ha hkd hci hkN ht rfl i hw href pc' hp hd kk
theorem v_getJ (C : ns_Cx G p s m args meth c cc own nL) {a : Nat} (ci k : Nat) {Cn : String} {T : u_T} {N : Nat} (hc : ns_cl[ci]? = some (Cn, T, N)) (hin : ∀ w ∈ u_ws Cn T N, w ∈ ns_TB) (ha : a < n) (hkd : ns_kd a = ci) (hci : ci < 10) (hkN : k < N) (ht : (ns_ft ci)[k]? = some 1) (i : Nat) {ref : String} (hw : Cond.fieldLink own i ref (T k).2.1 (T k).2.2.1 ∈ ns_TB) (href : (T k).1 = ref) (pc' : Nat) (hp : pc + 3 = pc') (hd : decode cc pc = .ok (.getfield i, 3)) (kk : VV G p l e R s m args below meth c nL cells slots Q n σ pc' lv (.long (σ.2.1 a k) :: st)) : VV G p l e R s m args below meth c nL cells slots Q n σ pc lv (.ref (G.1 + a) :: st) :=
  v_get C ci hc hin k 1 _ ha hkd hci hkN ht rfl i hw href pc' hp hd kk
theorem v_getJN (C : ns_Cx G p s m args meth c cc own nL) {a : Nat} (ci k : Nat) {Cn : String} {host : String} {T : u_T} {N : Nat} (hc : ns_cl[ci]? = some (Cn, T, N)) (hin : ∀ w ∈ u_ws Cn T N, w ∈ ns_TB) (ha : a < n) (hkd : ns_kd a = ci) (hci : ci < 10) (hkN : k < N) (ht : (ns_ft ci)[k]? = some 1) (i : Nat) {ref : String} (hw : Cond.fieldLinkNest own i ref (T k).2.1 (T k).2.2.1 host ∈ ns_NB) (href : (T k).1 = ref) (pc' : Nat) (hp : pc + 3 = pc') (hd : decode cc pc = .ok (.getfield i, 3)) (kk : VV G p l e R s m args below meth c nL cells slots Q n σ pc' lv (.long (σ.2.1 a k) :: st)) : VV G p l e R s m args below meth c nL cells slots Q n σ pc lv (.ref (G.1 + a) :: st) :=
  v_getN C ci hc hin k 1 _ ha hkd hci hkN ht rfl i hw href pc' hp hd kk
theorem v_getR (C : ns_Cx G p s m args meth c cc own nL) {a b : Nat} (ci k : Nat) (hb : σ.2.2 a k = some b) {Cn : String} {T : u_T} {N : Nat} (hc : ns_cl[ci]? = some (Cn, T, N)) (hin : ∀ w ∈ u_ws Cn T N, w ∈ ns_TB) (ha : a < n) (hkd : ns_kd a = ci) (hci : ci < 10) (hkN : k < N) (ht : (ns_ft ci)[k]? = some 2) (i : Nat) {ref : String} (hw : Cond.fieldLink own i ref (T k).2.1 (T k).2.2.1 ∈ ns_TB) (href : (T k).1 = ref) (pc' : Nat) (hp : pc + 3 = pc') (hd : decode cc pc = .ok (.getfield i, 3)) (kk : VV G p l e R s m args below meth c nL cells slots Q n σ pc' lv (.ref (G.1 + b) :: st)) : VV G p l e R s m args below meth c nL cells slots Q n σ pc lv (.ref (G.1 + a) :: st) :=
  v_get C ci hc hin k 2 (.ref (G.1 + b)) ha hkd hci hkN ht (by show va_rf (ns_rf G.1 (σ.2.2 a k)) = _; rw [hb]; rfl) i hw href pc' hp hd kk
theorem v_getRN (C : ns_Cx G p s m args meth c cc own nL) {a b : Nat} (ci k : Nat) (hb : σ.2.2 a k = some b) {Cn : String} {host : String} {T : u_T} {N : Nat} (hc : ns_cl[ci]? = some (Cn, T, N)) (hin : ∀ w ∈ u_ws Cn T N, w ∈ ns_TB) (ha : a < n) (hkd : ns_kd a = ci) (hci : ci < 10) (hkN : k < N) (ht : (ns_ft ci)[k]? = some 2) (i : Nat) {ref : String} (hw : Cond.fieldLinkNest own i ref (T k).2.1 (T k).2.2.1 host ∈ ns_NB) (href : (T k).1 = ref) (pc' : Nat) (hp : pc + 3 = pc') (hd : decode cc pc = .ok (.getfield i, 3)) (kk : VV G p l e R s m args below meth c nL cells slots Q n σ pc' lv (.ref (G.1 + b) :: st)) : VV G p l e R s m args below meth c nL cells slots Q n σ pc lv (.ref (G.1 + a) :: st) :=
  v_getN C ci hc hin k 2 (.ref (G.1 + b)) ha hkd hci hkN ht (by show va_rf (ns_rf G.1 (σ.2.2 a k)) = _; rw [hb]; rfl) i hw href pc' hp hd kk
theorem v_cV (C : ns_Cx G p s m args meth c cc own nL) {a : Nat} (ci : Nat) {Cn : String} {T : u_T} {N : Nat} (hc : ns_cl[ci]? = some (Cn, T, N)) (ha : a < n) (hkd : ns_kd a = ci) (hci : ci < 10) {y : MethodName} {bytes : ByteArray} {maxL : Nat} {ret : Option FieldType} {fr lo : Nat} (As rest : List Value) {o : Option Value} {n' : Nat} {σ' : ns_St} (hM : ns_ok G l y bytes maxL ret fr lo 0 0 (.ref (G.1 + a) :: As) n σ o n' σ') (i na : Nat) (hcode : Cond.code y bytes maxL ret ∈ ns_TB) (hlink : Cond.methodLink own i y ∈ ns_TB) (hinst : Cond.instanceMethod y ∈ ns_TB) (hsel : Cond.selects Cn y y ∈ ns_TB) (hini : Cond.initialized Cn ∈ ns_TB) (hd1 : y.cls = Cn ∧ y.cls ≠ "java/lang/invoke/MethodHandle" ∧ y.cls ≠ "java/lang/invoke/VarHandle" ∧ (parseMethodDescriptor y.desc).map (fun d => d.parameters.length) = some na) (hna : As.length = na) (hR : fr + 1 ≤ R.frames ∧ 8 + (maxL + 11) + lo ≤ R.locals) (hf : cells ≤ R.cells ∧ slots ≤ R.slots) (hsum : (rest.map fun v => v.category).sum ≤ 8) (hst : st = As.reverse ++ .ref (G.1 + a) :: rest) (pc' : Nat) (hp : pc + 3 = pc') (hd : decode cc pc = .ok (.invokevirtual i, 3)) (st' : List Value) (hst' : o.toList ++ rest = st') (kk : VV G p l e R s m args below meth c nL cells slots Q n' σ' pc' lv st') : VV G p l e R s m args below meth c nL cells slots Q n σ pc lv st :=
  v_callV C ci hc ha hkd hci As rest hM i na hcode hlink hinst hsel hini hd1 hna hR hf hsum hst pc' hp hd st' hst' kk
theorem v_cVN (C : ns_Cx G p s m args meth c cc own nL) {a : Nat} (ci : Nat) {Cn host : String} {T : u_T} {N : Nat} (hc : ns_cl[ci]? = some (Cn, T, N)) (ha : a < n) (hkd : ns_kd a = ci) (hci : ci < 10) {y : MethodName} {bytes : ByteArray} {maxL : Nat} {ret : Option FieldType} {fr lo : Nat} (As rest : List Value) {o : Option Value} {n' : Nat} {σ' : ns_St} (hM : ns_ok G l y bytes maxL ret fr lo 0 0 (.ref (G.1 + a) :: As) n σ o n' σ') (i na : Nat) (hcode : Cond.code y bytes maxL ret ∈ ns_TB) (hlink : Cond.methodLinkNest own i y host ∈ ns_NB) (hinst : Cond.instanceMethod y ∈ ns_TB) (hsel : Cond.selects Cn y y ∈ ns_TB) (hini : Cond.initialized Cn ∈ ns_TB) (hd1 : y.cls = Cn ∧ y.cls ≠ "java/lang/invoke/MethodHandle" ∧ y.cls ≠ "java/lang/invoke/VarHandle" ∧ (parseMethodDescriptor y.desc).map (fun d => d.parameters.length) = some na) (hna : As.length = na) (hR : fr + 1 ≤ R.frames ∧ 8 + (maxL + 11) + lo ≤ R.locals) (hf : cells ≤ R.cells ∧ slots ≤ R.slots) (hsum : (rest.map fun v => v.category).sum ≤ 8) (hst : st = As.reverse ++ .ref (G.1 + a) :: rest) (pc' : Nat) (hp : pc + 3 = pc') (hd : decode cc pc = .ok (.invokevirtual i, 3)) (st' : List Value) (hst' : o.toList ++ rest = st') (kk : VV G p l e R s m args below meth c nL cells slots Q n' σ' pc' lv st') : VV G p l e R s m args below meth c nL cells slots Q n σ pc lv st :=
  v_callVN C ci hc ha hkd hci As rest hM i na hcode hlink hinst hsel hini hd1 hna hR hf hsum hst pc' hp hd st' hst' kk
theorem v_cS (C : ns_Cx G p s m args meth c cc own nL) {y : MethodName} {bytes : ByteArray} {maxL : Nat} {ret : Option FieldType} {fr lo : Nat} (As rest : List Value) {o : Option Value} {n' : Nat} {σ' : ns_St} (hM : ns_ok G l y bytes maxL ret fr lo 0 0 As n σ o n' σ') (i na : Nat) (hcode : Cond.code y bytes maxL ret ∈ ns_TB) (hlink : Cond.methodLink own i y ∈ ns_TB) (hstat : Cond.static y ∈ ns_TB) (hini : Cond.initialized y.cls ∈ ns_TB) (hd1 : y.cls ≠ "java/lang/invoke/MethodHandle" ∧ y.cls ≠ "java/lang/invoke/VarHandle" ∧ (parseMethodDescriptor y.desc).map (fun d => d.parameters.length) = some na) (hna : As.length = na) (hR : fr + 1 ≤ R.frames ∧ 8 + (maxL + 11) + lo ≤ R.locals) (hf : cells ≤ R.cells ∧ slots ≤ R.slots) (hsum : (rest.map fun v => v.category).sum ≤ 8) (hst : st = As.reverse ++ rest) (pc' : Nat) (hp : pc + 3 = pc') (hd : decode cc pc = .ok (.invokestatic i, 3)) (st' : List Value) (hst' : o.toList ++ rest = st') (kk : VV G p l e R s m args below meth c nL cells slots Q n' σ' pc' lv st') : VV G p l e R s m args below meth c nL cells slots Q n σ pc lv st :=
  v_callS C As rest hM i na hcode hlink hstat hini hd1 hna hR hf hsum hst pc' hp hd st' hst' kk
theorem v_cSN (C : ns_Cx G p s m args meth c cc own nL) {y : MethodName} {host : String} {bytes : ByteArray} {maxL : Nat} {ret : Option FieldType} {fr lo : Nat} (As rest : List Value) {o : Option Value} {n' : Nat} {σ' : ns_St} (hM : ns_ok G l y bytes maxL ret fr lo 0 0 As n σ o n' σ') (i na : Nat) (hcode : Cond.code y bytes maxL ret ∈ ns_TB) (hlink : Cond.methodLinkNest own i y host ∈ ns_NB) (hstat : Cond.static y ∈ ns_TB) (hini : Cond.initialized y.cls ∈ ns_TB) (hd1 : y.cls ≠ "java/lang/invoke/MethodHandle" ∧ y.cls ≠ "java/lang/invoke/VarHandle" ∧ (parseMethodDescriptor y.desc).map (fun d => d.parameters.length) = some na) (hna : As.length = na) (hR : fr + 1 ≤ R.frames ∧ 8 + (maxL + 11) + lo ≤ R.locals) (hf : cells ≤ R.cells ∧ slots ≤ R.slots) (hsum : (rest.map fun v => v.category).sum ≤ 8) (hst : st = As.reverse ++ rest) (pc' : Nat) (hp : pc + 3 = pc') (hd : decode cc pc = .ok (.invokestatic i, 3)) (st' : List Value) (hst' : o.toList ++ rest = st') (kk : VV G p l e R s m args below meth c nL cells slots Q n' σ' pc' lv st') : VV G p l e R s m args below meth c nL cells slots Q n σ pc lv st :=
  v_callSN C As rest hM i na hcode hlink hstat hini hd1 hna hR hf hsum hst pc' hp hd st' hst' kk
end ROWS2
section ROWS3
variable {G : ns_G} {p : Program} {l : Launch} {e : Env} {R : Room} {s : State} {m : MethodId} {args : Array Value} {below : List Frame} {meth : Method} {c : Code} {cc : ByteArray} {own : String} {nL cells slots : Nat} {Q : State → Prop} {n : Nat} {σ : ns_St} {pc : Nat} {lv : List (Nat × Value)} {st : List Value}
theorem v_tswO (C : ns_Cx G p s m args meth c cc own nL) (dflt lo hi : Int) (offs : Array Int) (len tgt : Nat) {x : Int32} (h : x.toInt < lo ∨ hi < x.toInt) (ht : (pc : Int) + dflt = (tgt : Int)) (hd : decode cc pc = .ok (.tableswitch dflt lo hi offs, len)) (k : VV G p l e R s m args below meth c nL cells slots Q n σ tgt lv st) : VV G p l e R s m args below meth c nL cells slots Q n σ pc lv (.int x :: st) :=
  fun H locs ls a b d => lv_tableOut C.1 C.2.1 hd h ht (k H locs ls a b d)
theorem v_tswI (C : ns_Cx G p s m args meth c cc own nL) (dflt lo hi : Int) (offs : Array Int) (len tgt : Nat) {x : Int32} (v : Int32) (hx : x = v) (h1 : ¬ v.toInt < lo) (h2 : ¬ hi < v.toInt) (off : Int) (ho : offs[(v.toInt - lo).toNat]? = some off) (ht : (pc : Int) + off = (tgt : Int)) (hd : decode cc pc = .ok (.tableswitch dflt lo hi offs, len)) (k : VV G p l e R s m args below meth c nL cells slots Q n σ tgt lv st) : VV G p l e R s m args below meth c nL cells slots Q n σ pc lv (.int x :: st) := by
  subst hx; exact fun H locs ls a b d => lv_tableIn C.1 C.2.1 hd h1 h2 ho ht (k H locs ls a b d)
end ROWS3
section ROWS4
variable {G : ns_G} {p : Program} {l : Launch} {e : Env} {R : Room} {s : State} {m : MethodId} {args : Array Value} {below : List Frame} {meth : Method} {c : Code} {cc : ByteArray} {own : String} {nL cells slots : Nat} {Q : State → Prop} {n : Nat} {σ : ns_St} {pc : Nat} {lv : List (Nat × Value)} {st : List Value}
/-- what lies below the cells is at a method's start as it was at the law's -/
theorem ns_low (C : ns_Cx G p s m args meth c cc own nL) {H : Heap} {locs : List Loc} (hW : ns_Wd G n σ H) (hS : va_S (ns_A G) s.heap H locs) : ∀ a : Nat, a < G.2.2.2.1.size → ¬ ns_A G a → s.heap[a]? = G.2.2.2.1[a]? := by
  intro a _ h
  have h1 : a < G.1 := Nat.not_le.mp h
  have h2 : a < s.heap.size := Nat.lt_of_lt_of_le h1 C.2.2.2.2.2.2.2
  rw [← hS.2.1 a h2 h]
  exact hW.2.2 a h1
theorem v_getsI (C : ns_Cx G p s m args meth c cc own nL) (i : Nat) (hw : Cond.fieldLink own i "java/lang/String" "COMPACT_STRINGS" "Z" ∈ ns_TB) (pc' : Nat) (hp : pc + 3 = pc') (hd : decode cc pc = .ok (.getstatic i, 3)) (kk : VV G p l e R s m args below meth c nL cells slots Q n σ pc' lv (.int 1 :: st)) : VV G p l e R s m args below meth c nL cells slots Q n σ pc lv st := by
  subst hp
  intro H locs ls hW hS hl
  exact va_gets C.1 C.2.1 (C.2.2.2.2.2.1.2.2.2.2.2.2.1.kept (ns_low C hW hS)) hS C.2.2.2.1 (C.2.2.2.2.1 _ hw) (fun _ h => h) hd (kk H locs ls hW hS hl)
theorem v_getsF (C : ns_Cx G p s m args meth c cc own nL) (i : Nat) (hw : Cond.fieldLink own i "jdk/internal/util/Preconditions" "SIOOBE_FORMATTER" "Ljava/util/function/BiFunction;" ∈ ns_TB) (pc' : Nat) (hp : pc + 3 = pc') (hd : decode cc pc = .ok (.getstatic i, 3)) (kk : VV G p l e R s m args below meth c nL cells slots Q n σ pc' lv (va_rf G.2.2.2.2.2.2.2 :: st)) : VV G p l e R s m args below meth c nL cells slots Q n σ pc lv st := by
  subst hp
  intro H locs ls hW hS hl
  exact va_gets C.1 C.2.1 (C.2.2.2.2.2.1.2.2.2.2.2.2.2.1.kept (ns_low C hW hS)) hS C.2.2.2.1 (C.2.2.2.2.1 _ hw) (fun _ h => h) hd (kk H locs ls hW hS hl)
theorem v_getsX (C : ns_Cx G p s m args meth c cc own nL) (i : Nat) (hw : Cond.fieldLink own i "NinthStep" "ABOVE" "[I" ∈ ns_TB) (pc' : Nat) (hp : pc + 3 = pc') (hd : decode cc pc = .ok (.getstatic i, 3)) (kk : VV G p l e R s m args below meth c nL cells slots Q n σ pc' lv (.ref G.2.2.2.2.2.2.1 :: st)) : VV G p l e R s m args below meth c nL cells slots Q n σ pc lv st := by
  subst hp
  intro H locs ls hW hS hl
  exact va_gets C.1 C.2.1 (C.2.2.2.2.2.1.2.2.2.2.1.kept (ns_low C hW hS)) hS C.2.2.2.1 (C.2.2.2.2.1 _ hw) (fun _ h => h) hd (kk H locs ls hW hS hl)
theorem v_xald (C : ns_Cx G p s m args meth c cc own nL) {i : Int32} (hi : ns_in i 6) (pc' : Nat) (hp : pc + 1 = pc') (hd : decode cc pc = .ok (.iaload, 1)) (kk : VV G p l e R s m args below meth c nL cells slots Q n σ pc' lv (.int (ns_abv (ns_ix i)) :: st)) : VV G p l e R s m args below meth c nL cells slots Q n σ pc lv (.int i :: .ref G.2.2.2.2.2.2.1 :: st) := by
  subst hp
  intro H locs ls hW hS hl
  exact va_ti C.1 C.2.1 (C.2.2.2.2.2.1.2.2.2.2.2.1.kept (ns_low C hW hS)) hS hi rfl hd (kk H locs ls hW hS hl)
theorem v_ldcS (C : ns_Cx G p s m args meth c cc own nL) (i : Nat) (tx : String) (w : Nat) (hw : (own, i, tx, w) ∈ ns_str) (pc' : Nat) (hp : pc + 2 = pc') (hd : decode cc pc = .ok (.ldc i, 2)) (kk : VV G p l e R s m args below meth c nL cells slots Q n σ pc' lv (.ref (ns_sK G w) :: st)) : VV G p l e R s m args below meth c nL cells slots Q n σ pc lv st := by
  subst hp
  intro H locs ls hW hS hl
  exact va_ldcS C.1 C.2.1 C.2.2.2.1 (C.2.2.2.2.2.1.2.2.2.2.2.2.2.2.2 _ hw) hd (kk H locs ls hW hS hl)
theorem v_getC (C : ns_Cx G p s m args meth c cc own nL) {w : Nat} (hw8 : w < 8) (i : Nat) (hw : Cond.fieldLink own i "java/lang/String" "coder" "B" ∈ ns_TB) (pc' : Nat) (hp : pc + 3 = pc') (hd : decode cc pc = .ok (.getfield i, 3)) (kk : VV G p l e R s m args below meth c nL cells slots Q n σ pc' lv (.int 0 :: st)) : VV G p l e R s m args below meth c nL cells slots Q n σ pc lv (.ref (ns_sK G w) :: st) := by
  subst hp
  intro H locs ls hW hS hl
  exact vk_getf C.1 C.2.1 ((C.2.2.2.2.2.1.2.2.2.2.2.2.2.2.1.1 w hw8).2.1.kept (ns_low C hW hS)) hS C.2.2.2.1 (C.2.2.2.2.1 _ hw) (fun _ h => h) hd (kk H locs ls hW hS hl)
theorem v_getV (C : ns_Cx G p s m args meth c cc own nL) {w : Nat} (hw8 : w < 8) (i : Nat) (hw : Cond.fieldLink own i "java/lang/String" "value" "[B" ∈ ns_TB) (pc' : Nat) (hp : pc + 3 = pc') (hd : decode cc pc = .ok (.getfield i, 3)) (kk : VV G p l e R s m args below meth c nL cells slots Q n σ pc' lv (.ref (ns_sV G w) :: st)) : VV G p l e R s m args below meth c nL cells slots Q n σ pc lv (.ref (ns_sK G w) :: st) := by
  subst hp
  intro H locs ls hW hS hl
  exact vk_getf C.1 C.2.1 ((C.2.2.2.2.2.1.2.2.2.2.2.2.2.2.1.1 w hw8).2.2.1.kept (ns_low C hW hS)) hS C.2.2.2.1 (C.2.2.2.2.1 _ hw) (fun _ h => h) hd (kk H locs ls hW hS hl)
theorem v_tlen (C : ns_Cx G p s m args meth c cc own nL) {w : Nat} (hw8 : w < 8) (x : Int32) (hx : x = Int32.ofNat (ns_sL.getD w 0)) (pc' : Nat) (hp : pc + 1 = pc') (hd : decode cc pc = .ok (.arraylength, 1)) (kk : VV G p l e R s m args below meth c nL cells slots Q n σ pc' lv (.int x :: st)) : VV G p l e R s m args below meth c nL cells slots Q n σ pc lv (.ref (ns_sV G w) :: st) := by
  subst hp; subst hx
  intro H locs ls hW hS hl
  exact va_tlen C.1 C.2.1 ((C.2.2.2.2.2.1.2.2.2.2.2.2.2.2.1.1 w hw8).2.2.2.kept (ns_low C hW hS)) hS rfl hd (kk H locs ls hW hS hl)
theorem v_bald (C : ns_Cx G p s m args meth c cc own nL) {w : Nat} (hw8 : w < 8) {i : Int32} (hi : ns_in i (ns_sL.getD w 0)) (pc' : Nat) (hp : pc + 1 = pc') (hd : decode cc pc = .ok (.baload, 1)) (kk : VV G p l e R s m args below meth c nL cells slots Q n σ pc' lv (.int ((ns_sB.getD w []).getD (ns_ix i) 0) :: st)) : VV G p l e R s m args below meth c nL cells slots Q n σ pc lv (.int i :: .ref (ns_sV G w) :: st) := by
  subst hp
  intro H locs ls hW hS hl
  exact va_tb C.1 C.2.1 ((C.2.2.2.2.2.1.2.2.2.2.2.2.2.2.1.1 w hw8).2.2.2.kept (ns_low C hW hS)) hS hi rfl hd (kk H locs ls hW hS hl)
theorem v_i2c (C : ns_Cx G p s m args meth c cc own nL) {x : Int32} (pc' : Nat) (hp : pc + 1 = pc') (hd : decode cc pc = .ok (.i2c, 1)) (kk : VV G p l e R s m args below meth c nL cells slots Q n σ pc' lv (.int (x.toUInt32 % 65536).toInt32 :: st)) : VV G p l e R s m args below meth c nL cells slots Q n σ pc lv (.int x :: st) := by
  subst hp; exact fun H locs ls a b d => lv_i2c C.1 C.2.1 hd rfl (kk H locs ls a b d)
theorem ns_c16 {x : Int32} (h : (x.toUInt32 % 65536).toInt32 = x) : narrow .char (.int x) = .int x := by rw [← h]; exact pk_nc x
theorem v_nret (C : ns_Cx G p s m args meth c cc own nL) {ty : FieldType} (hr : meth.sig.returnType = some ty) {x : Int32} (hn : narrow ty (.int x) = .int x) (hd : decode cc pc = .ok (.ireturn, 1)) : VV G p l e R s m args below meth c nL cells slots (MQ below (ns_Qc G (some (.int x)) n σ) args s cells slots (ns_A G)) n σ pc lv [.int x] :=
  fun H locs ls hW hS hl => W.zret C.1 C.2.1 hr hn (fun t ht hw => ⟨rfl, by rw [ht]; exact hW, hS.F ht⟩) hS.2.2 hd C.2.2.2.2.2.2.1
theorem v_cVT (C : ns_Cx G p s m args meth c cc own nL) {w : Nat} (hw8 : w < 8) {y : MethodName} {bytes : ByteArray} {maxL : Nat} {ret : Option FieldType} {fr lo : Nat} (As rest : List Value) {o : Option Value} {n' : Nat} {σ' : ns_St} (hM : ns_ok G l y bytes maxL ret fr lo 0 0 (.ref (ns_sK G w) :: As) n σ o n' σ') (i na : Nat) (hcode : Cond.code y bytes maxL ret ∈ ns_TB) (hlink : Cond.methodLink own i y ∈ ns_TB) (hinst : Cond.instanceMethod y ∈ ns_TB) (hsel : Cond.selects "java/lang/String" y y ∈ ns_TB) (hini : Cond.initialized "java/lang/String" ∈ ns_TB) (hd1 : y.cls = "java/lang/String" ∧ y.cls ≠ "java/lang/invoke/MethodHandle" ∧ y.cls ≠ "java/lang/invoke/VarHandle" ∧ (parseMethodDescriptor y.desc).map (fun d => d.parameters.length) = some na) (hna : As.length = na) (hR : fr + 1 ≤ R.frames ∧ 8 + (maxL + 11) + lo ≤ R.locals) (hf : cells ≤ R.cells ∧ slots ≤ R.slots) (hsum : (rest.map fun v => v.category).sum ≤ 8) (hst : st = As.reverse ++ .ref (ns_sK G w) :: rest) (pc' : Nat) (hp : pc + 3 = pc') (hd : decode cc pc = .ok (.invokevirtual i, 3)) (st' : List Value) (hst' : o.toList ++ rest = st') (kk : VV G p l e R s m args below meth c nL cells slots Q n' σ' pc' lv st') : VV G p l e R s m args below meth c nL cells slots Q n σ pc lv st := by
  subst hp; subst hst'
  intro H locs ls hW hS hl
  have hts := C.2.2.2.2.1
  refine ns_call (n' := n') (σ' := σ') (va_runV (As := As) (rest := rest) (C := "java/lang/String") (n := na) ⟨C.1, C.2.1, C.2.2.1, C.2.2.2.1, hts⟩ hM ⟨⟨rfl, rfl, hR.1, hR.2, pay_in hts (ns_good hcode), List.mem_cons_self, hts _ hcode, hd1.1.symm ▸ hts _ hini, ⟨hd1.2.1, hd1.2.2.1⟩, fun sig h => ?_, hts _ hlink⟩, hts _ hinst, hts _ hsel⟩ ⟨ns_blind G _ n σ, ?_, fun U hU hw => ⟨rfl, by rw [hU]; exact hW, ns_K.warm hw C.2.2.2.2.2.1⟩⟩ rfl hna hl.1 hst (lv_room hsum) hd hf) hS (fun H1 locs1 h1 h2 => kk H1 locs1 ls h1 h2 hl)
  · have h2 := hd1.2.2.2
    rw [h] at h2
    exact (Option.some.inj h2).symm
  · exact vk_recv (C.2.2.2.2.2.1.2.2.2.2.2.2.2.2.1.kept (ns_low C hW hS)) hw8 hS
/-! System.arraycopy of longs -/
def ns_cpJ (σ : ns_St) (a sp b dp n : Nat) : ns_St := (σ.1, va_up σ.2.1 b (va_cpy (σ.2.1 a) (σ.2.1 b) sp dp n), σ.2.2)
theorem v_cpJ (C : ns_Cx G p s m args meth c cc own nL) {a b : Nat} {sp dp k : Int32} {σ' : ns_St} (hσ : σ' = ns_cpJ σ a (ns_ix sp) b (ns_ix dp) (ns_ix k)) (hn : n = ns_N) (ha : a < n) (hka : ns_kd a = 11) (hb : b < n) (hkb : ns_kd b = 11) (h1 : ¬ sp < 0 ∧ ¬ dp < 0 ∧ ¬ k < 0 ∧ ns_ix sp + ns_ix k ≤ ns_ln a ∧ ns_ix dp + ns_ix k ≤ ns_ln b) (i : Nat) (hlink : Cond.methodLink own i arraycopyName ∈ ns_TB) (hnat : Cond.native arraycopyName ∈ ns_TB) (hstat : Cond.static arraycopyName ∈ ns_TB) (hini : Cond.initialized "java/lang/System" ∈ ns_TB) (hframes : 1 ≤ R.frames) (hlocals : (st.map fun v => v.category).sum + (nativeFrameWords "java/lang/System" "arraycopy" 5 + 11) ≤ R.locals) (pc' : Nat) (hp : pc + 3 = pc') (hd : decode cc pc = .ok (.invokestatic i, 3)) (kk : VV G p l e R s m args below meth c nL cells slots Q n σ' pc' lv st) : VV G p l e R s m args below meth c nL cells slots Q n σ pc lv (.int k :: .int dp :: .ref (G.1 + b) :: .int sp :: .ref (G.1 + a) :: st) := by
  subst hp; subst hσ; subst hn
  intro H locs ls hW hS hl
  obtain ⟨g1, g2, g3, g4, g5⟩ := h1
  have hts := C.2.2.2.2.1
  refine va_copyl C.1 C.2.1 (C.2.2.1.trans hl.1.symm) C.2.2.2.1 (hts _ hlink) (hts _ hnat) (hts _ hstat) (hts _ hini) C.2.2.2.2.2.1.1 hW.2.1 (ns_wD G ns_N σ) hS a b 1 1 (by rw [ns_wl_at G σ ha, ns_cE_J G σ hka]) (by rw [ns_wl_at G σ hb, ns_cE_J G σ hkb]) rfl rfl rfl g1 g2 g3 g4 g5 (fun _ _ => rfl) hframes hlocals hd (fun H1 locs1 hP hD hS1 => ?_)
  refine kk H1 locs1 ls ⟨⟨Nat.le_trans C.2.2.2.2.2.2.2 hS1.1, fun h => absurd h (Nat.lt_irrefl _)⟩, fun q x hq => ?_, fun q hq => ?_⟩ hS1 hl
  · have hlq : q < ns_N := by
      have := (List.getElem?_eq_some_iff.mp hq).1
      rwa [ns_wl_len] at this
    rw [ns_wl_at G _ hlq] at hq
    cases hq
    by_cases hqb : q = b
    · subst hqb
      refine hP q _ ?_
      rw [List.getElem?_set, if_pos rfl, if_pos (by rw [ns_wl_len]; exact hlq), ns_cE_J G _ hkb]
      simp [ns_cpJ, va_up]
    · refine hP q _ ?_
      rw [List.getElem?_set, if_neg (fun h => hqb h.symm), ns_wl_at G σ hlq]
      rw [ns_cE_ne (σ := σ) (σ' := ns_cpJ σ a (ns_ix sp) b (ns_ix dp) (ns_ix k)) rfl (va_up_ne _ _ hqb) rfl]
  · have hq2 : q < s.heap.size := Nat.lt_of_lt_of_le hq C.2.2.2.2.2.2.2
    have hqA : ¬ ns_A G q := Nat.not_le.mpr hq
    rw [hS1.2.1 q hq2 hqA, ← hS.2.1 q hq2 hqA]
    exact hW.2.2 q hq
end ROWS4
