/-! how sure it is: parts of a million by COUNT -/
def bump (g : Nat → Nat) (i v : Nat) : Nat → Nat := fun d => if d = i then g i + v else g d
def slv (f v : Nat) : Nat := v * f / 1000
def land (N x : Nat) : Nat := if N ≤ x then 0 else if x ≤ 64 then x else 0
def nx (P : Nat → Nat) (f m N : Nat) : Nat → Nat → Nat
  | 0 => fun _ => 0
  | k + 1 => bump (bump (nx P f m N k) (land N (k + m)) (P k - slv f (P k))) (land N (k + m + 1)) (slv f (P k))
def tp (Q : Nat → Nat) (f m : Nat) : Nat → Nat → Nat
  | 0 => fun _ => 0
  | k + 1 => bump (bump (tp Q f m k) (k + m) (Q k - slv f (Q k))) (k + m + 1) (slv f (Q k))
theorem sm_bump (g : Nat → Nat) {i n : Nat} (v : Nat) (h : i < n) : fb_sm (bump g i v) n = fb_sm g n + v := by
  have := fb_sm_upd g (g i + v) h
  show fb_sm (fun d => if d = i then g i + v else g d) n = _
  omega
theorem bump_at (g : Nat → Nat) (i v : Nat) : bump g i v i = g i + v := if_pos rfl
theorem bump_ne (g : Nat → Nat) {i d : Nat} (v : Nat) (h : d ≠ i) : bump g i v d = g d := if_neg h
theorem bump_0 (g : Nat → Nat) (i : Nat) : bump g i 0 = g := by
  funext d
  by_cases h : d = i
  · subst h; exact bump_at g d 0
  · exact bump_ne g 0 h
theorem land_lt (N x : Nat) : land N x < 65 := by
  unfold land; split
  · omega
  · split <;> omega
theorem land_N {N : Nat} (x : Nat) (h : 1 ≤ N) : land N x < N := by
  unfold land; split
  · omega
  · split <;> omega
theorem slv_le {f : Nat} (v : Nat) (hf : f ≤ 1000) : slv f v ≤ v := by
  unfold slv
  apply Nat.div_le_of_le_mul
  rw [Nat.mul_comm 1000 v]
  exact Nat.mul_le_mul_left v hf
theorem nx_sum {P : Nat → Nat} {f m N : Nat} (hf : f ≤ 1000) : ∀ k, fb_sm (nx P f m N k) 65 = fb_sm P k
  | 0 => by
    show fb_sm (fun _ => 0) 65 = 0
    rw [fb_sm_const]
  | k + 1 => by
    have := slv_le (P k) hf
    rw [nx, sm_bump _ _ (land_lt _ _), sm_bump _ _ (land_lt _ _), nx_sum hf k, fb_sm_succ]
    omega
theorem nx_hi {P : Nat → Nat} {f m N d : Nat} (h1 : 1 ≤ N) (hd : N ≤ d) : ∀ k, nx P f m N k d = 0
  | 0 => rfl
  | k + 1 => by
    have a := land_N (k + m) h1
    have b := land_N (k + m + 1) h1
    rw [nx, bump_ne _ _ (by omega), bump_ne _ _ (by omega)]
    exact nx_hi h1 hd k
theorem nx_z {P : Nat → Nat} {f m N a : Nat} : ∀ r, (∀ c, a ≤ c → c < a + r → P c = 0) → nx P f m N (a + r) = nx P f m N a
  | 0, _ => rfl
  | r + 1, h => by
    show nx P f m N (a + r + 1) = _
    have e := h (a + r) (by omega) (by omega)
    have s0 : slv f 0 = 0 := by unfold slv; rw [Nat.zero_mul]
    rw [nx, e, s0, bump_0, bump_0]
    exact nx_z r (fun c h1 h2 => h c h1 (by omega))
theorem tp_z {Q : Nat → Nat} {f m : Nat} : ∀ r, (∀ c, c < r → Q c = 0) → tp Q f m r = fun _ => 0
  | 0, _ => rfl
  | r + 1, h => by
    have e := h r (by omega)
    have s0 : slv f 0 = 0 := by unfold slv; rw [Nat.zero_mul]
    rw [tp, e, s0, bump_0, bump_0]
    exact tp_z r (fun c h1 => h c (by omega))
theorem tp_le {Q : Nat → Nat} {f m d : Nat} (hf : f ≤ 1000) : ∀ k, tp Q f m k d ≤ fb_sm Q k
  | 0 => Nat.le_refl _
  | k + 1 => by
    have h1 := tp_le (Q := Q) (m := m) (d := d) hf k
    have h2 := slv_le (Q k) hf
    rw [tp, fb_sm_succ]
    unfold bump
    by_cases e1 : d = k + m + 1
    · subst e1
      rw [if_pos rfl, if_neg (by omega)]; omega
    · rw [if_neg e1]
      by_cases e2 : d = k + m
      · subst e2; rw [if_pos rfl]; omega
      · rw [if_neg e2]; omega
/-- those that STOP -/
def stp (g : Nat → Nat) (N : Nat) : Nat := fb_sm (fun i => g (N + i)) (80 - N)
theorem stp_lo {g : Nat → Nat} {N j v : Nat} (h : j < N) : stp (bump g j v) N = stp g N := fb_sm_cong (fun k _ => bump_ne _ _ (by omega))
theorem stp_hi {g : Nat → Nat} {N j v : Nat} (h : N ≤ j) (h2 : j < 80) : stp (bump g j v) N = stp g N + v := by
  have e : (fun i => bump g j v (N + i)) = bump (fun i => g (N + i)) (j - N) v := by
    funext i
    unfold bump
    by_cases q : N + i = j
    · rw [if_pos q, if_pos (by omega)]
      show g j + v = g (N + (j - N)) + v
      rw [show N + (j - N) = j by omega]
    · rw [if_neg q, if_neg (by omega)]
  show fb_sm (fun i => bump g j v (N + i)) (80 - N) = _
  rw [e, sm_bump _ _ (by omega)]
  rfl
def Agr (a b : Nat → Nat) (N : Nat) : Prop := (∀ d, 0 < d → d < N → a d = b d) ∧ b 0 = 0 ∧ a 0 = stp b N
theorem Agr.bump {a b : Nat → Nat} {N j v : Nat} (hN : N ≤ 64) (h1 : 1 ≤ N) (hj : 0 < j) (hj2 : j < 80) (h : Agr a b N) : Agr (bump a (land N j) v) (bump b j v) N := by
  obtain ⟨x, y, z⟩ := h
  by_cases q : N ≤ j
  · have e : land N j = 0 := by unfold land; rw [if_pos q]
    rw [e]
    refine ⟨fun d h2 h3 => ?_, ?_, ?_⟩
    · rw [bump_ne _ _ (by omega), bump_ne _ _ (by omega)]; exact x d h2 h3
    · rw [bump_ne _ _ (by omega)]; exact y
    · rw [bump_at, stp_hi q hj2, z]
  · have e : land N j = j := by unfold land; rw [if_neg q, if_pos (by omega)]
    rw [e]
    refine ⟨fun d h2 h3 => ?_, ?_, ?_⟩
    · by_cases g : d = j
      · subst g; rw [bump_at, bump_at, x d h2 h3]
      · rw [bump_ne _ _ g, bump_ne _ _ g]; exact x d h2 h3
    · rw [bump_ne _ _ (by omega)]; exact y
    · rw [bump_ne _ _ (by omega), stp_lo (by omega), z]
theorem agr_eq {P Q : Nat → Nat} {f m N : Nat} (hN : N ≤ 64) (h1 : 1 ≤ N) (hm : 1 ≤ m) (hm2 : m ≤ 2) (hPQ : ∀ c, c < N → P c = Q c) : ∀ k, k ≤ N → Agr (nx P f m N k) (tp Q f m k) N
  | 0, _ => ⟨fun _ _ _ => rfl, rfl, by
      show 0 = fb_sm (fun _ => 0) (80 - N)
      rw [fb_sm_const]; omega⟩
  | k + 1, h => by
    have ih := agr_eq (f := f) hN h1 hm hm2 hPQ k (by omega)
    rw [nx, tp, hPQ k (by omega)]
    exact (ih.bump hN h1 (by omega) (by omega)).bump hN h1 (by omega) (by omega)
/-- how the two stand to each other -/
def Rel (P Q : Nat → Nat) (N : Nat) : Prop := ((∀ c, c < N → P c = Q c) ∧ ∀ c, N ≤ c → c < 65 → P c = 0) ∨ ∃ C, N ≤ C ∧ C ≤ 64 ∧ (∀ c, P c = if c = C then 1000000 else 0) ∧ ∀ c, Q c = if c = N - 1 then 1000000 else 0
theorem rel_step {P Q : Nat → Nat} {f m N : Nat} (hf : f ≤ 1000) (hN : N ≤ 64) (h1 : 1 ≤ N) (hm : 1 ≤ m) (hm2 : m ≤ 2) (h : Rel P Q N) : Agr (nx P f m N 65) (tp Q f m N) N := by
  rcases h with ⟨a, b⟩ | ⟨C, c1, c2, hP, hQ⟩
  · have e := nx_z (f := f) (m := m) (N := N) (a := N) (P := P) (65 - N) (fun c q1 q2 => b c q1 (by omega))
    rw [show N + (65 - N) = 65 by omega] at e
    rw [e]
    exact agr_eq hN h1 hm hm2 a N (Nat.le_refl _)
  · have e0 : nx P f m N C = fun _ => 0 := by
      have := nx_z (f := f) (m := m) (N := N) (a := 0) (P := P) C (fun c _ q2 => by rw [hP, if_neg (by omega)])
      rw [Nat.zero_add] at this
      rw [this]; rfl
    have e1 := nx_z (f := f) (m := m) (N := N) (a := C + 1) (P := P) (64 - C) (fun c q1 q2 => by rw [hP, if_neg (by omega)])
    rw [show C + 1 + (64 - C) = 65 by omega] at e1
    have t0 : tp Q f m (N - 1) = fun _ => 0 := tp_z _ (fun c hc => by rw [hQ, if_neg (by omega)])
    obtain ⟨n, rfl⟩ : ∃ n, N = n + 1 := ⟨N - 1, by omega⟩
    rw [e1, nx, e0, hP C, if_pos rfl]
    rw [show n + 1 - 1 = n by omega] at t0 hQ
    rw [tp, t0, hQ n, if_pos rfl]
    have base : Agr (fun _ => 0) (fun _ => 0) (n + 1) := ⟨fun _ _ _ => rfl, rfl, by
      show 0 = fb_sm (fun _ => 0) _
      rw [fb_sm_const]; omega⟩
    have l1 : land (n + 1) (C + m) = land (n + 1) (n + m) := by unfold land; rw [if_pos (by omega), if_pos (by omega)]
    have l2 : land (n + 1) (C + m + 1) = land (n + 1) (n + m + 1) := by unfold land; rw [if_pos (by omega), if_pos (by omega)]
    rw [l1, l2]
    exact (base.bump hN h1 (by omega) (by omega)).bump hN h1 (by omega) (by omega)
/-- behind a STEP: at a CLIFF those that STOP are gone -/
def nP (P : Nat → Nat) (f m N : Nat) (cl : Bool) (d : Nat) : Nat := if d = 0 ∧ cl = true then 0 else nx P f m N 65 d
def nQ (Q : Nat → Nat) (f m N : Nat) (cl : Bool) (d : Nat) : Nat := if d = 0 then (if cl = true then 0 else stp (tp Q f m N) N) else tp Q f m N d
theorem rel_next {P Q : Nat → Nat} {f m N : Nat} {cl : Bool} (hf : f ≤ 1000) (hN : N ≤ 64) (h1 : 1 ≤ N) (hm : 1 ≤ m) (hm2 : m ≤ 2) (h : Rel P Q N) : Rel (nP P f m N cl) (nQ Q f m N cl) N := by
  obtain ⟨x, y, z⟩ := rel_step hf hN h1 hm hm2 h
  refine Or.inl ⟨fun c hc => ?_, fun c q1 q2 => ?_⟩
  · unfold nP nQ
    by_cases c0 : c = 0
    · subst c0
      cases cl with
      | true => rw [if_pos ⟨rfl, rfl⟩, if_pos rfl, if_pos rfl]
      | false => rw [if_neg (fun q => absurd q.2 (by decide)), if_pos rfl, if_neg (by decide), z]
    · rw [if_neg (fun q => c0 q.1), if_neg c0]; exact x c (by omega) hc
  · unfold nP
    rw [if_neg (fun q => by omega)]
    exact nx_hi h1 q1 _
theorem nP_sum {P : Nat → Nat} {f m N : Nat} {cl : Bool} (hf : f ≤ 1000) : fb_sm (nP P f m N cl) 65 ≤ fb_sm P 65 := by
  rw [← nx_sum (P := P) (m := m) (N := N) hf 65]
  refine fb_sm_le (fun d _ => ?_)
  unfold nP; split
  · omega
  · exact Nat.le_refl _
theorem rel_sum {P Q : Nat → Nat} {N : Nat} (hN : N ≤ 64) (h1 : 1 ≤ N) (h : Rel P Q N) : fb_sm P 65 = fb_sm Q N := by
  rcases h with ⟨a, b⟩ | ⟨C, c1, c2, hP, hQ⟩
  · have e := fb_sm_split P N (65 - N)
    rw [show N + (65 - N) = 65 by omega] at e
    have z : fb_sm (fun k => P (N + k)) (65 - N) = 0 := by
      rw [fb_sm_cong (g := fun _ => 0) (fun k hk => b (N + k) (by omega) (by omega)), fb_sm_const]; omega
    rw [e, z, fb_sm_cong a]; omega
  · have u1 := fb_sm_upd (fun _ => 0) 1000000 (i := C) (n := 65) (by omega)
    have u2 := fb_sm_upd (fun _ => 0) 1000000 (i := N - 1) (n := N) (by omega)
    rw [fb_sm_const] at u1 u2
    rw [show P = fun c => if c = C then 1000000 else 0 from funext hP, show Q = fun c => if c = N - 1 then 1000000 else 0 from funext hQ]
    omega
theorem sm_part {P : Nat → Nat} {c n : Nat} (h : c < n) : P c ≤ fb_sm P n := by
  have := fb_sm_part P h; omega
/-! the class -/
theorem scr44 : scr 44 := by unfold scr; omega
theorem scr45 : scr 45 := by unfold scr; omega
theorem e_sp104 {σ : ns_St} (hI : Irf σ) {X : Nat → Nat} : ∀ (r k f : Nat) (τ : ns_St), r < f → k + r = 65 → Same σ τ → (∀ c, c < 65 → τ.1 45 c = nI (X c)) → (∀ c, c < k → τ.1 44 c = nI (X c)) → ∃ τ', g_Chance_spread_104 f τ 43 (nI k) = some ((), τ') ∧ Same σ τ' ∧ ∀ c, c < 65 → τ'.1 44 c = nI (X c) := by
  intro r
  induction r with
  | zero =>
    intro k f τ hf hk s h1 h2
    obtain ⟨f, rfl⟩ : ∃ q, f = q + 1 := ⟨f - 1, by omega⟩
    refine ⟨τ, ?_, s, fun c hc => h2 c (by omega)⟩
    rw [g_Chance_spread_104, ite2_p (show (64 : Int32) < nI k from nI_lt (a := 64) (by omega) (by omega))]
  | succ r ih =>
    intro k f τ hf hk s h1 h2
    obtain ⟨f, rfl⟩ : ∃ q, f = q + 1 := ⟨f - 1, by omega⟩
    obtain ⟨g1, g2, hR⟩ := s.2.2.2 hI
    have i4 : ns_in (nI k) (ns_ln 44) := ns_inI (show k < 65 by omega) (by decide)
    have i5 : ns_in (nI k) (ns_ln 45) := ns_inI (show k < 65 by omega) (by decide)
    rw [g_Chance_spread_104, ite2_n (show ¬ (64 : Int32) < nI k from nI_nlt (a := 64) (by omega) (by decide)), hR, rg_43_0, ev_drf, gk_44, rg_43_1, ev_drf, gk_45, grd_t i5, grd_t i4, ns_ixI (by omega), h1 k (by omega), ev_bnd, ev_bnd, ← nI_succ]
    refine ih (k + 1) f (ns_pI τ 44 k (nI (X k))) (by omega) (by omega) (s.trans (Same.pI scr44)) (fun c hc => by rw [pI_ne _ _ _ (by decide)]; exact h1 c hc) (fun c hc => ?_)
    by_cases e : c = k
    · subst e; exact pI_at _ _ _ _
    · rw [pI_st _ _ _ e]; exact h2 c (by omega)
theorem e_landing {σ : ns_St} {x N : Nat} (hx : x < 2 ^ 31) (hN : N < 2 ^ 31) : g_Chance_landing σ (nI x) (nI N) = some (nI (land N x), σ) := by
  unfold g_Chance_landing land
  by_cases h : N ≤ x
  · rw [ite2_p (nI_le h hx), if_pos h]; rfl
  · rw [ite2_n (nI_ge (by omega) hN), if_neg h]
    by_cases q : x ≤ 64
    · rw [ite2_p (show nI x ≤ (64 : Int32) from nI_le (b := 64) q (by decide)), if_pos q]
    · rw [ite2_n (show ¬ nI x ≤ (64 : Int32) from nI_ge (a := 64) (by omega) hx), if_neg q]; rfl
theorem slv_c {f v : Nat} (hf : f ≤ 1000) (hv : v ≤ 1000000) : nI v * nI f / (1000 : Int32) = nI (slv f v) := by
  have := Nat.mul_le_mul hv hf
  rw [pk_mul]
  exact pk_div (d := 1000) (by omega) (by omega) (by decide)
theorem bump_arr {τ : ns_St} {c o n : Nat} {g : Nat → Nat} (h : ∀ d, d < n → τ.1 c (o + d) = nI (g d)) {i : Nat} (hi : i < n) (v : Nat) {w : Int32} (hw : w = nI (g i) + nI v) : ∀ d, d < n → (ns_pI τ c (o + i) w).1 c (o + d) = nI (bump g i v d) := by
  intro d hd
  by_cases e : d = i
  · subst e; rw [pI_at, bump_at, hw, nI_add]
  · rw [pI_st _ _ _ (by omega), bump_ne _ _ e]; exact h d hd
theorem e_sp27 {σ : ns_St} (hI : Irf σ) {P : Nat → Nat} {f m N : Nat} (hf : f ≤ 1000) (hm2 : m ≤ 2) (hN : N ≤ 64) (hP : fb_sm P 65 ≤ 1000000) : ∀ (r k fu : Nat) (τ : ns_St), r < fu → k + r = 65 → Same σ τ → (∀ c, c < 65 → τ.1 44 c = nI (P c)) → (∀ d, d < 65 → τ.1 45 (0 + d) = nI (nx P f m N k d)) → ∃ τ', g_Chance_spread_27 fu τ 43 (nI m) (nI N) (nI f) (nI k) = some ((), τ') ∧ Same σ τ' ∧ ∀ c, c < 65 → τ'.1 44 c = nI (nx P f m N 65 c) := by
  intro r
  induction r with
  | zero =>
    intro k fu τ hfu hk s h1 h2
    obtain ⟨fu, rfl⟩ : ∃ q, fu = q + 1 := ⟨fu - 1, by omega⟩
    have hk' : k = 65 := by omega
    subst hk'
    obtain ⟨τ', e, s', c'⟩ := e_sp104 hI (X := nx P f m N 65) 65 0 ns_F τ (by show 65 < 10000; omega) (by omega) s (fun c hc => by have := h2 c hc; rw [Nat.zero_add] at this; exact this) (fun c hc => absurd hc (by omega))
    refine ⟨τ', ?_, s', c'⟩
    rw [g_Chance_spread_27, ite2_p (show (64 : Int32) < nI 65 by decide)]
    exact e
  | succ r ih =>
    intro k fu τ hfu hk s h1 h2
    obtain ⟨fu, rfl⟩ : ∃ q, fu = q + 1 := ⟨fu - 1, by omega⟩
    obtain ⟨g1, g2, hR⟩ := s.2.2.2 hI
    have i4 : ns_in (nI k) (ns_ln 44) := ns_inI (show k < 65 by omega) (by decide)
    have hPk : P k ≤ 1000000 := by have := sm_part (P := P) (c := k) (n := 65) (by omega); omega
    have hs := slv_le (P k) hf
    have l1 := land_lt N (k + m)
    have l2 := land_lt N (k + m + 1)
    have i5 : ns_in (nI (land N (k + m))) (ns_ln 45) := ns_inI (show land N (k + m) < 65 from l1) (by decide)
    have i6 : ns_in (nI (land N (k + m + 1))) (ns_ln 45) := ns_inI (show land N (k + m + 1) < 65 from l2) (by decide)
    have a1 : τ.1 45 (land N (k + m)) = nI (nx P f m N k (land N (k + m))) := by have := h2 (land N (k + m)) l1; rw [Nat.zero_add] at this; exact this
    have b1 := bump_arr (τ := τ) (c := 45) (o := 0) (n := 65) (g := nx P f m N k) h2 l1 (P k - slv f (P k)) (w := nI (nx P f m N k (land N (k + m))) + (nI (P k) - nI (slv f (P k)))) (by rw [pk_sub hs])
    rw [Nat.zero_add] at b1
    generalize hT : ns_pI τ 45 (land N (k + m)) (nI (nx P f m N k (land N (k + m))) + (nI (P k) - nI (slv f (P k)))) = T at b1
    have TR : T.2.2 = ns_rg g1 g2 := by rw [← hT]; exact hR
    have Ts : Same σ T := by rw [← hT]; exact s.trans (Same.pI scr45)
    have T4 : T.1 44 = τ.1 44 := by rw [← hT]; exact pI_ne _ _ _ (by decide)
    have a2 : T.1 45 (land N (k + m + 1)) = nI (bump (nx P f m N k) (land N (k + m)) (P k - slv f (P k)) (land N (k + m + 1))) := by have := b1 (land N (k + m + 1)) l2; rw [Nat.zero_add] at this; exact this
    have b2 := bump_arr (τ := T) (c := 45) (o := 0) (n := 65) b1 l2 (slv f (P k)) (w := nI (bump (nx P f m N k) (land N (k + m)) (P k - slv f (P k)) (land N (k + m + 1))) + nI (slv f (P k))) rfl
    rw [Nat.zero_add] at b2
    have eL1 : g_Chance_landing τ (nI k + nI m) (nI N) = some (nI (land N (k + m)), τ) := by rw [nI_add]; exact e_landing (by omega) (by omega)
    have eL2 : g_Chance_landing T ((nI k + nI m) + (1 : Int32)) (nI N) = some (nI (land N (k + m + 1)), T) := by rw [nI_add, ← nI_succ]; exact e_landing (by omega) (by omega)
    rw [g_Chance_spread_27, ite2_n (show ¬ (64 : Int32) < nI k from nI_nlt (a := 64) (by omega) (by decide)), hR, rg_43_0, ev_drf, gk_44, grd_t i4, ns_ixI (by omega), h1 k (by omega), slv_c hf hPk, ev_bnd, rg_43_1, ev_drf, gk_45, eL1, ev_cl2, grd_t i5, hR, rg_43_0, ev_drf, gk_44, grd_t i4, grd_t i5, ns_ixI (by omega), h1 k (by omega), a1, ev_bnd, hT, TR, rg_43_1, ev_drf, gk_45, eL2, ev_cl2, grd_t i6, grd_t i6, ns_ixI (by omega), a2, ev_bnd, ev_bnd, ← nI_succ]
    exact ih (k + 1) fu _ (by omega) (by omega) (Ts.trans (Same.pI scr45)) (fun c hc => by rw [pI_ne _ _ _ (by decide), T4]; exact h1 c hc) b2
theorem e_sp3 {σ : ns_St} (hI : Irf σ) {P : Nat → Nat} {f m N : Nat} (hf : f ≤ 1000) (hm2 : m ≤ 2) (hN : N ≤ 64) (hP : fb_sm P 65 ≤ 1000000) : ∀ (r k fu : Nat) (τ : ns_St), r < fu → k + r = 65 → Same σ τ → (∀ c, c < 65 → τ.1 44 c = nI (P c)) → (∀ d, d < k → τ.1 45 d = 0) → ∃ τ', g_Chance_spread_3 fu τ 43 (nI m) (nI N) (nI f) (nI k) = some ((), τ') ∧ Same σ τ' ∧ ∀ c, c < 65 → τ'.1 44 c = nI (nx P f m N 65 c) := by
  intro r
  induction r with
  | zero =>
    intro k fu τ hfu hk s h1 h2
    obtain ⟨fu, rfl⟩ : ∃ q, fu = q + 1 := ⟨fu - 1, by omega⟩
    obtain ⟨τ', e, s', c'⟩ := e_sp27 hI hf hm2 hN hP 65 0 ns_F τ (by show 65 < 10000; omega) (by omega) s h1 (fun d hd => by rw [Nat.zero_add]; exact h2 d (by omega))
    refine ⟨τ', ?_, s', c'⟩
    rw [g_Chance_spread_3, ite2_p (show (64 : Int32) < nI k from nI_lt (a := 64) (by omega) (by omega))]
    exact e
  | succ r ih =>
    intro k fu τ hfu hk s h1 h2
    obtain ⟨fu, rfl⟩ : ∃ q, fu = q + 1 := ⟨fu - 1, by omega⟩
    obtain ⟨g1, g2, hR⟩ := s.2.2.2 hI
    have i5 : ns_in (nI k) (ns_ln 45) := ns_inI (show k < 65 by omega) (by decide)
    rw [g_Chance_spread_3, ite2_n (show ¬ (64 : Int32) < nI k from nI_nlt (a := 64) (by omega) (by decide)), hR, rg_43_1, ev_drf, gk_45, grd_t i5, ns_ixI (by omega), ev_bnd, ev_bnd, ← nI_succ]
    refine ih (k + 1) fu (ns_pI τ 45 k 0) (by omega) (by omega) (s.trans (Same.pI scr45)) (fun c hc => by rw [pI_ne _ _ _ (by decide)]; exact h1 c hc) (fun d hd => ?_)
    by_cases e : d = k
    · subst e; exact pI_at _ _ _ _
    · rw [pI_st _ _ _ e]; exact h2 d (by omega)
theorem e_un122 {σ : ns_St} {g1 g2 : Option Nat} (hR : σ.2.2 = ns_rg g1 g2) {P : Nat → Nat} (h : ∀ c, c < 65 → σ.1 44 c = nI (P c)) : ∀ (r k f : Nat), r < f → k + r = 65 → g_Chance_unfallen_122 f σ 43 (nI (fb_sm P k)) (nI k) = some (nI (fb_sm P 65), σ) := by
  intro r
  induction r with
  | zero =>
    intro k f hf hk
    obtain ⟨f, rfl⟩ : ∃ q, f = q + 1 := ⟨f - 1, by omega⟩
    rw [g_Chance_unfallen_122, ite2_p (show (64 : Int32) < nI k from nI_lt (a := 64) (by omega) (by omega)), show k = 65 by omega]
  | succ r ih =>
    intro k f hf hk
    obtain ⟨f, rfl⟩ : ∃ q, f = q + 1 := ⟨f - 1, by omega⟩
    have i4 : ns_in (nI k) (ns_ln 44) := ns_inI (show k < 65 by omega) (by decide)
    rw [g_Chance_unfallen_122, ite2_n (show ¬ (64 : Int32) < nI k from nI_nlt (a := 64) (by omega) (by decide)), hR, rg_43_0, ev_drf, gk_44, grd_t i4, ns_ixI (by omega), h k (by omega), ev_bnd, ev_bnd, nI_add, ← nI_succ]
    exact ih (k + 1) f (by omega) (by omega)
/-- further by a STEP -/
def frt (th : Nat → Int32) (p : Nat) : Nat := if tb (th p) 1 = true then 2 else 1
/-- all that are left behind r STEPS -/
def uP (th : Nat → Int32) (f N : Nat) : Nat → Nat → (Nat → Nat) → Nat → Nat
  | 0, _, P => P
  | r + 1, p, P => uP th f N r (p + 1) (nP P f (frt th (p + 1)) N (tb (th (p + 1)) 4))
theorem e_un52 {B : Nat} {σ : ns_St} {E H j f : Nat} (hW : PW B σ E H) (hj : j < H) (hf : f ≤ 1000) : ∀ (r p fu : Nat) (τ : ns_St) (P : Nat → Nat), r < fu → p + r = E → Same σ τ → (∀ c, c < 65 → τ.1 44 c = nI (P c)) → fb_sm P 65 ≤ 1000000 → ∃ τ', g_Chance_unfallen_52 fu τ 43 (4 + j) 2 (nI f) (nI (p + 1)) = some (nI (fb_sm (uP (σ.1 69) f (gm σ 71 j) r p P) 65), τ') ∧ Same σ τ' := by
  have h60 := hW.h60
  have hj6 : j < 6 := by have := hW.2.2.2.1; omega
  intro r
  induction r with
  | zero =>
    intro p fu τ P hfu hp s hP hs
    obtain ⟨fu, rfl⟩ : ∃ q, fu = q + 1 := ⟨fu - 1, by omega⟩
    obtain ⟨g1, g2, hR⟩ := (hW.same s).1
    refine ⟨τ, ?_, s⟩
    rw [g_Chance_unfallen_52, (hW.same s).2.2.2.2.1.1, ite2_p (nI_lt (by omega) (by omega))]
    exact e_un122 hR hP 65 0 ns_F (by show 65 < 10000; omega) (by omega)
  | succ r ih =>
    intro p fu τ P hfu hp s hP hs
    obtain ⟨fu, rfl⟩ : ∃ q, fu = q + 1 := ⟨fu - 1, by omega⟩
    have m := (hW.m hj).same s hj6
    have hN := m.1.2.2.1
    obtain ⟨u0, u1, u2, u3, u4, u5, u6, u7⟩ := m.2.1
    obtain ⟨b1, b2, b3, b4⟩ := (hW.same s).2.2.2.2.1.bits (p := p + 1) (by omega)
    rw [s.mi (a := 69) (by omega)] at b1 b3
    have key : ∀ x : Int32, x = nI (frt (σ.1 69) (p + 1)) → ∃ τ', g_Chance_unfallen_78 (g_Chance_unfallen_52 fu) τ x 43 (4 + j) 2 (nI f) (nI (p + 1)) = some (nI (fb_sm (uP (σ.1 69) f (gm σ 71 j) r (p + 1) (nP P f (frt (σ.1 69) (p + 1)) (gm σ 71 j) (tb (σ.1 69 (p + 1)) 4))) 65), τ') ∧ Same σ τ' := by
      intro x hx
      subst hx
      have hm2 : frt (σ.1 69) (p + 1) ≤ 2 := by unfold frt; split <;> omega
      obtain ⟨τ1, e1, s1, c1⟩ := e_sp3 hW.1 (σ := σ) hf hm2 hN hs 65 0 ns_F τ (by show 65 < 10000; omega) (by omega) s hP (fun d hd => absurd hd (by omega))
      obtain ⟨g3, g4, hR1⟩ := (hW.same s1).1
      have eS : g_Chance_spread τ 43 (nI (frt (σ.1 69) (p + 1))) (nI (gm σ 71 j)) (nI f) = some ((), τ1) := by
        unfold g_Chance_spread
        rw [gk_43]
        exact e1
      obtain ⟨_, _, d3, _⟩ := (hW.same s1).2.2.2.2.1.bits (p := p + 1) (by omega)
      rw [s1.mi (a := 69) (by omega)] at d3
      unfold g_Chance_unfallen_78
      rw [u1, eS, ev_cl2, e_isIn (by omega), ev_cl2, d3]
      cases hcl : tb (σ.1 69 (p + 1)) 4 with
      | false =>
        rw [ite2_z (by decide), ev_bnd, ← nI_succ]
        refine ih (p + 1) fu τ1 _ (by omega) (by omega) s1 (fun c hc => ?_) (by have := nP_sum (P := P) (m := frt (σ.1 69) (p + 1)) (N := gm σ 71 j) (cl := false) hf; omega)
        rw [c1 c hc]
        unfold nP
        rw [if_neg (fun q => absurd q.2 (by decide))]
      | true =>
        have i0 : ns_in (0 : Int32) (ns_ln 44) := ns_inI (j := 0) (show 0 < 65 by omega) (by decide)
        rw [ite2_y (Eq.refl true), hR1, rg_43_0, ev_drf, gk_44, grd_t i0, ev_bnd, ev_bnd, ← nI_succ]
        refine ih (p + 1) fu _ _ (by omega) (by omega) (s1.trans (Same.pI scr44)) (fun c hc => ?_) (by have := nP_sum (P := P) (m := frt (σ.1 69) (p + 1)) (N := gm σ 71 j) (cl := true) hf; omega)
        have ix0 : ns_ix (0 : Int32) = 0 := by decide
        rw [ix0]
        unfold nP
        by_cases e : c = 0
        · subst e; rw [pI_at, if_pos ⟨rfl, rfl⟩]; rfl
        · rw [pI_st _ _ _ e, c1 c hc, if_neg (fun q => e q.1)]
    rw [g_Chance_unfallen_52, (hW.same s).2.2.2.2.1.1, ite2_n (nI_nlt (by omega) (by omega)), e_isIn (by omega), ev_cl2, b1, uP]
    cases hst : tb (σ.1 69 (p + 1)) 1 with
    | false =>
      rw [ite2_z (by decide)]
      exact key _ (by unfold frt; rw [hst]; rfl)
    | true =>
      rw [ite2_y (Eq.refl true)]
      exact key _ (by unfold frt; rw [hst]; rfl)
theorem e_un3 {B : Nat} {σ : ns_St} {E H j f : Nat} (hW : PW B σ E H) (hj : j < H) (hf : f ≤ 1000) : ∀ (r k fu : Nat) (τ : ns_St), r < fu → k + r = 65 → Same σ τ → (∀ c, c < k → τ.1 44 c = 0) → ∃ τ', g_Chance_unfallen_3 fu τ 43 (4 + j) 2 (nI f) (nI k) = some (nI (fb_sm (uP (σ.1 69) f (gm σ 71 j) (E - gm σ 72 j) (gm σ 72 j) (fun c => if c = min (gm σ 73 j) 64 then 1000000 else 0)) 65), τ') ∧ Same σ τ' := by
  have h60 := hW.h60
  have hj6 : j < 6 := by have := hW.2.2.2.1; omega
  intro r
  induction r with
  | zero =>
    intro k fu τ hfu hk s h1
    obtain ⟨fu, rfl⟩ : ∃ q, fu = q + 1 := ⟨fu - 1, by omega⟩
    obtain ⟨g1, g2, hR⟩ := (hW.same s).1
    have m := (hW.m hj).same s hj6
    have hAE := m.1.2.2.2.1
    have hCB := m.1.2.2.2.2.1
    have hBb := hW.2.2.2.2.2.2.1
    obtain ⟨u0, u1, u2, u3, u4, u5, u6, u7⟩ := m.2.1
    have i4 : ns_in (nI (min (gm σ 73 j) 64)) (ns_ln 44) := ns_inI (show min (gm σ 73 j) 64 < 65 by omega) (by decide)
    have emin : g_Math_min τ (nI (gm σ 73 j)) (64 : Int32) = some (nI (min (gm σ 73 j) 64), τ) := e_minNN (b := 64) (by omega) (by decide)
    have emax : g_Math_max τ (0 : Int32) (nI (min (gm σ 73 j) 64)) = some (nI (min (gm σ 73 j) 64), τ) := by
      have := e_maxN (σ := τ) (a := 0) (b := min (gm σ 73 j) 64) (by omega) (by omega)
      rw [Nat.max_eq_right (by omega)] at this
      exact this
    obtain ⟨τ', e, s'⟩ := e_un52 hW hj hf (E - gm σ 72 j) (gm σ 72 j) ns_F (ns_pI τ 44 (min (gm σ 73 j) 64) (1000000 : Int32)) (fun c => if c = min (gm σ 73 j) 64 then 1000000 else 0) (by show E - _ < 10000; omega) (by omega) (s.trans (Same.pI scr44)) (fun c hc => by
      by_cases e : c = min (gm σ 73 j) 64
      · subst e; rw [pI_at, if_pos rfl]; rfl
      · rw [pI_st _ _ _ e, if_neg e]; exact h1 c (by omega)) (by
      have u := fb_sm_upd (fun _ => 0) 1000000 (i := min (gm σ 73 j) 64) (n := 65) (by omega)
      rw [fb_sm_const] at u
      omega)
    refine ⟨τ', ?_, s'⟩
    rw [g_Chance_unfallen_3, ite2_p (show (64 : Int32) < nI k from nI_lt (a := 64) (by omega) (by omega)), hR, rg_43_0, ev_drf, gk_44, u3, emin, ev_cl2, emax, ev_cl2, grd_t i4, ns_ixI (by omega), ev_bnd, ev_bnd, pI_ne _ _ _ (by omega), u2, ← nI_succ]
    exact e
  | succ r ih =>
    intro k fu τ hfu hk s h1
    obtain ⟨fu, rfl⟩ : ∃ q, fu = q + 1 := ⟨fu - 1, by omega⟩
    obtain ⟨g1, g2, hR⟩ := (hW.same s).1
    have i4 : ns_in (nI k) (ns_ln 44) := ns_inI (show k < 65 by omega) (by decide)
    rw [g_Chance_unfallen_3, ite2_n (show ¬ (64 : Int32) < nI k from nI_nlt (a := 64) (by omega) (by decide)), hR, rg_43_0, ev_drf, gk_44, grd_t i4, ns_ixI (by omega), ev_bnd, ev_bnd, ← nI_succ]
    refine ih (k + 1) fu (ns_pI τ 44 k 0) (by omega) (by omega) (s.trans (Same.pI scr44)) (fun c hc => ?_)
    by_cases e : c = k
    · subst e; exact pI_at _ _ _ _
    · rw [pI_st _ _ _ e]; exact h1 c (by omega)
