/-! the component: unit, fn, val, and the names of a fun -/
theorem xe_unit {V : dv_W} (ν st E : List tr_T) : (∃ st0, st = tr_at 2 :: st0 ∧ V ν st0 E) ↔ dv_psh (fun _ _ τ => τ = tr_at 2) V ν st E := by
  constructor
  · intro ⟨s, e, v⟩; exact ⟨_, s, e, v, rfl⟩
  · intro ⟨τ, s, e, v, c⟩; exact ⟨s, by rw [e, c], v⟩
theorem xe_fn {V : dv_W} {h e : Nat} (hl : dv_len (h + 1) e V) (ν st E : List tr_T) : (∃ τ, ∃ st1, (∃ s0, st1 = tr_con 6 (ls_g 0 (τ :: E)) (ls_g 0 s0) :: s0 ∧ V ν s0 (τ :: E)) ∧ ls_g 0 st1 :: st1.drop 2 = st) ↔ dv_fn V ν st E := by
  constructor
  · intro ⟨τ, st1, ⟨s0, e1, v⟩, e2⟩
    obtain ⟨x, r, e3⟩ := xe_l1 hl v
    subst e3 e1 e2
    exact ⟨τ, x, r, rfl, v⟩
  · intro ⟨x, c, s0, e1, v⟩
    exact ⟨x, _, ⟨_, rfl, v⟩, e1.symm⟩
theorem dv_lams_s {V : dv_W} {i : Nat} (ν st E : List tr_T) : (∃ τ E0, E = τ :: E0 ∧ ∃ τ' st0, τ :: st = τ' :: st0 ∧ dv_lams i V ν st0 E0) ↔ dv_lams (i + 1) V ν st E := by
  constructor
  · intro ⟨τ, E0, e, τ', st0, e1, xs, E1, e2, l, v⟩
    injection e1 with e3 e4
    subst e4 e2 e
    exact ⟨τ :: xs, E1, rfl, by rw [List.length_cons, l], v⟩
  · intro ⟨xs, E1, e, l, v⟩
    cases xs with
    | nil => simp at l
    | cons x xs =>
      subst e
      exact ⟨x, xs ++ E1, rfl, x, st, rfl, xs, E1, rfl, by simpa using l, v⟩
theorem dv_lams_0 {V : dv_W} (ν st E : List tr_T) : V ν st E ↔ dv_lams 0 V ν st E := by
  constructor
  · intro v; exact ⟨[], E, rfl, rfl, v⟩
  · intro ⟨xs, E1, e, l, v⟩
    have : xs = [] := List.eq_nil_of_length_eq_zero l
    subst this
    rw [e]; exact v
theorem rp_lam {b0 nl n : Nat} {kd pa pb : Nat → Nat} {op stk env : List Nat} {bs : List (Nat × Bool)} {V : dv_W} {i a b : Nat} (q : Nat) (I : rp_I b0 nl n kd pa pb op stk env bs (dv_lams i V)) : rp_I b0 nl (n + 1) (gr_u kd n 7) (gr_u pa n a) (gr_u pb n b) op stk (n :: env) ((q, false) :: bs) (dv_lams (i + 1) V) :=
  rp_cg dv_lams_s (rp_bind q (rp_var I))
section
variable {f_tokenCount f_accepted f_lastPlace f_openCount f_draftOpen f_symbolCount f_stepCount f_bindingCount f_waitingCount f_clashPlace f_nodeCount f_todoCount : Int32} {a_kinds a_values a_declaredSize a_declaredNodes a_draftSize a_draftNodes a_symbols a_symbolPlaces a_steps a_stepPlaces a_bindings a_boundType a_waitingTypes a_waitingFirm a_shape a_left a_right a_link a_note a_todo a_todoOther a_generalNode : Nat → Int32}
variable {kd pa pb : Nat → Nat} {n K : Nat}
theorem xw_unit {post : SX → Prop} {oc nl : Nat} {stk env : List Nat} {bs : List (Nat × Bool)} {fl : List Bool} {V : dv_W} (I : xt_I oc nl n K kd pa pb stk env bs V a_shape a_left a_right a_link) (hn : n + 1 ≤ 4000) (h1 : st_1 a_waitingTypes stk) (h2 : st_b a_waitingFirm fl) (hfl : fl.length = stk.length) (hs : stk.length < 64)
    (hok : xh_O oc nl (n + 1) stk env bs (true :: fl) (dv_psh (fun _ _ τ => τ = tr_at 2) V) (f_tokenCount, f_accepted, f_lastPlace, f_openCount, f_draftOpen, f_symbolCount, f_stepCount, f_bindingCount, f_waitingCount, f_clashPlace, f_nodeCount, f_todoCount, a_kinds, a_values, a_declaredSize, a_declaredNodes, a_draftSize, a_draftNodes, a_symbols, a_symbolPlaces, a_steps, a_stepPlaces, a_bindings, a_boundType, a_waitingTypes, a_waitingFirm, a_shape, a_left, a_right, a_link, a_note, a_todo, a_todoOther, a_generalNode) post) : wpX_inferUnit post (f_tokenCount, f_accepted, f_lastPlace, f_openCount, f_draftOpen, f_symbolCount, f_stepCount, f_bindingCount, nI stk.length, -1, nI n, f_todoCount, a_kinds, a_values, a_declaredSize, a_declaredNodes, a_draftSize, a_draftNodes, a_symbols, a_symbolPlaces, a_steps, a_stepPlaces, a_bindings, a_boundType, a_waitingTypes, a_waitingFirm, a_shape, a_left, a_right, a_link, a_note, a_todo, a_todoOther, a_generalNode) := by
  obtain ⟨J, hG, hL, hK⟩ := I
  obtain ⟨L1, K1⟩ := xt_L (k := 2) (a := 0) (b := 0) J.1 hL hK (by omega)
  unfold wpX_inferUnit
  refine xw_new (by omega) ?_
  refine xw_push (b := true) (by omega) ?_
  refine hok (n + 1) K _ _ _ n _ _ _ _ _ _ _ _ _ _ _ (Nat.le_refl _) ⟨rp_cg xe_unit (rp_leaf (k := 2) J (a := 0) (b := 0) (by omega) (by omega) (by omega)), xg_new (k := 2) hG (by omega), L1, K1⟩ (st_1p h1) ?_
  rw [← hfl]; exact st_bp h2
theorem xw_fn {post : SX → Prop} {oc nl p x b : Nat} {stk env : List Nat} {bs : List (Nat × Bool)} {fl : List Bool} {V : dv_W} {e : Nat} (I : xt_I oc nl n K kd pa pb (b :: stk) (x :: env) ((p + 1, false) :: bs) V a_shape a_left a_right a_link) (hl : dv_len (stk.length + 1) e V) (hn : n + 1 ≤ 4000) (hp : p + 1 < 24) (hb : a_boundType (p + 1) = nI x) (h1 : st_1 a_waitingTypes (b :: stk)) (h2 : st_b a_waitingFirm fl) (hfl : fl.length = stk.length) (hs : stk.length + 1 < 64)
    (hok : xh_O oc nl (n + 1) stk env bs (true :: fl) (dv_fn V) (f_tokenCount, f_accepted, f_lastPlace, f_openCount, f_draftOpen, f_symbolCount, f_stepCount, f_bindingCount, f_waitingCount, f_clashPlace, f_nodeCount, f_todoCount, a_kinds, a_values, a_declaredSize, a_declaredNodes, a_draftSize, a_draftNodes, a_symbols, a_symbolPlaces, a_steps, a_stepPlaces, a_bindings, a_boundType, a_waitingTypes, a_waitingFirm, a_shape, a_left, a_right, a_link, a_note, a_todo, a_todoOther, a_generalNode) post) : wpX_inferFn post (f_tokenCount, f_accepted, f_lastPlace, f_openCount, f_draftOpen, f_symbolCount, f_stepCount, f_bindingCount, nI (stk.length + 1), -1, nI n, f_todoCount, a_kinds, a_values, a_declaredSize, a_declaredNodes, a_draftSize, a_draftNodes, a_symbols, a_symbolPlaces, a_steps, a_stepPlaces, a_bindings, a_boundType, a_waitingTypes, a_waitingFirm, a_shape, a_left, a_right, a_link, a_note, a_todo, a_todoOther, a_generalNode) (nI p) := by
  obtain ⟨J, hG, hL, hK⟩ := I
  obtain ⟨L1, K1⟩ := xt_L (k := 6) (a := x) (b := b) J.1 hL hK (by omega)
  have J1 := rp_con (k := 6) (a := x) (b := b) J (by omega) (Or.inr (by rw [mo_f]; exact List.mem_cons_self)) (Or.inl List.mem_cons_self) (fun _ _ E => ls_g 0 E) (fun _ st _ => ls_g 0 st) (fun ρ => rfl) (fun ρ => rfl)
  unfold wpX_inferFn
  refine xw_pop (by omega) ?_
  rw [h1.1, nI_1]
  refine ⟨vp_in_nI hp (by decide), ?_⟩
  rw [nI_clamp (by omega), hb]
  refine xw_new (by omega) ?_
  refine xw_push (b := true) (by omega) ?_
  refine hok (n + 1) K _ _ _ n _ _ _ _ _ _ _ _ _ _ _ (Nat.le_refl _) ⟨rp_cg (xe_fn hl) (rp_unbind (rp_sel J1 (stk' := n :: stk) (fun _ st _ => ls_g 0 st :: st.drop 2) (fun y hy => ?_) (fun ρ => rfl))), xg_new (k := 6) hG (by omega), L1, K1⟩ (st_1p h1.2) ?_
  · rcases List.mem_cons.mp hy with z | z
    · rw [z]; exact Or.inl List.mem_cons_self
    · exact Or.inl (List.mem_cons_of_mem _ (List.mem_cons_of_mem _ z))
  · rw [← hfl]; exact st_bp h2
/-- the names of a fun get their variables -/
theorem xw_bfun {post : SX → Prop} {oc nl p m c : Nat} {stk env : List Nat} {bs : List (Nat × Bool)} {V : dv_W} {N mq Kt : Nat → Nat} (hT : tk_T a_kinds a_values c Kt N) (hf : pd_fn Kt mq p) (hp : p + mq p + 1 < c) (hm : m = mq p) (hx : ∀ x, x ∈ bs → x.1 ≤ p) (I : xt_I oc nl n K kd pa pb stk env bs V a_shape a_left a_right a_link) (hn : n + m ≤ 4000) (hB : xb_T a_boundType bs env)
    (h : ∀ kd' pa' pb' env' sh lf rt lk note bt, xt_I oc nl (n + m) K kd' pa' pb' stk env' (pd_ns p m ++ bs) (dv_lams m V) sh lf rt lk → xb_T bt (pd_ns p m ++ bs) env' → post (nI c, f_accepted, f_lastPlace, f_openCount, f_draftOpen, f_symbolCount, f_stepCount, f_bindingCount, f_waitingCount, f_clashPlace, nI (n + m), f_todoCount, a_kinds, a_values, a_declaredSize, a_declaredNodes, a_draftSize, a_draftNodes, a_symbols, a_symbolPlaces, a_steps, a_stepPlaces, a_bindings, bt, a_waitingTypes, a_waitingFirm, sh, lf, rt, lk, note, a_todo, a_todoOther, a_generalNode)) : wpX_beginFun post (nI c, f_accepted, f_lastPlace, f_openCount, f_draftOpen, f_symbolCount, f_stepCount, f_bindingCount, f_waitingCount, f_clashPlace, nI n, f_todoCount, a_kinds, a_values, a_declaredSize, a_declaredNodes, a_draftSize, a_draftNodes, a_symbols, a_symbolPlaces, a_steps, a_stepPlaces, a_bindings, a_boundType, a_waitingTypes, a_waitingFirm, a_shape, a_left, a_right, a_link, a_note, a_todo, a_todoOther, a_generalNode) (nI p) := by
  have c24 := hT.1
  unfold wpX_beginFun
  refine xw_equals hT hf hp (nm_r (nI_1 p) ⟨m + 1, ?_⟩)
  have loop : ∀ d i kd' pa' pb' env' sh lf rt lk note bt, i + d = m → xt_I oc nl (n + i) K kd' pa' pb' stk env' (pd_ns p i ++ bs) (dv_lams i V) sh lf rt lk → xb_T bt (pd_ns p i ++ bs) env' → wX_beginFun_10 post (nI (p + mq p + 1)) (d + 1) (nI (p + 1 + i)) (nI c) f_accepted f_lastPlace f_openCount f_draftOpen f_symbolCount f_stepCount f_bindingCount f_waitingCount f_clashPlace (nI (n + i)) f_todoCount a_kinds a_values a_declaredSize a_declaredNodes a_draftSize a_draftNodes a_symbols a_symbolPlaces a_steps a_stepPlaces a_bindings bt a_waitingTypes a_waitingFirm sh lf rt lk note a_todo a_todoOther a_generalNode := by
    intro d
    induction d with
    | zero =>
      intro i kd' pa' pb' env' sh lf rt lk note bt hi It hb
      have e : i = m := by omega
      subst e
      exact br_t (nI_le (by omega) (by omega)) (h kd' pa' pb' env' sh lf rt lk note bt It hb)
    | succ d ih =>
      intro i kd' pa' pb' env' sh lf rt lk note bt hi It hb
      obtain ⟨J, hG, hL, hK⟩ := It
      obtain ⟨L1, K1⟩ := xt_L (k := 7) (a := 0) (b := 0) J.1 hL hK (by omega)
      refine br_f (nI_ge (by omega) (by omega)) ?_
      refine xw_new (by omega) ⟨vp_in_nI (by omega) (by decide), ?_⟩
      rw [nI_clamp (by omega)]
      refine nm_e (nm_r (nI_1 _) ?_)
      refine ih (i + 1) _ _ _ ((n + i) :: env') _ _ _ _ _ _ (by omega) ⟨rp_lam (a := 0) (b := 0) (p + 1 + i) J, xg_new (k := 7) hG (by omega), L1, K1⟩ ⟨?_, ?_⟩
      · show upd bt (p + 1 + i) (nI (n + i)) (p + 1 + i) = _
        rw [pk_us]
      · refine xb_Tu _ _ (fun y hy => ?_) hb
        have : y.1 ≤ p + i := by
          rcases List.mem_append.mp hy with z | z
          · exact (pd_ns_lt p i y z).2
          · have := hx y z; omega
        omega
  obtain ⟨J, hG, hL, hK⟩ := I
  exact loop m 0 kd pa pb env _ _ _ _ _ _ (by omega) ⟨rp_cg dv_lams_0 J, hG, hL, hK⟩ hB
/-- val: what waits gets the name -/
theorem xw_val {post : SX → Prop} {oc nl p t : Nat} {stk env : List Nat} {bs : List (Nat × Bool)} {fl : List Bool} {f : Bool} {V : dv_W} (I : xt_I oc nl n K kd pa pb (t :: stk) env bs V a_shape a_left a_right a_link) (hn : n ≤ 4000) (CI : ∀ ν E τ st τ' st', V ν (τ :: st) E → V ν (τ' :: st') E → V ν (τ' :: st) E) (hp : p + 1 < 24) (hx : ∀ x, x ∈ bs → x.1 ≤ p) (hS : bs_S bs) (hP : xb_P a_bindings bs) (hB : xb_T a_boundType bs env) (h1 : st_1 a_waitingTypes (t :: stk)) (h2 : st_b a_waitingFirm (f :: fl)) (hfl : fl.length = stk.length) (hs : stk.length + 1 < 64)
    (h : ∀ kd' sh note td tc bt nl', (nl' = nl ∨ nl' = n) → xt_I oc nl' n K kd' pa pb stk (t :: env) ((p + 1, f) :: bs) (dv_bind V) sh a_left a_right a_link → xb_T bt ((p + 1, f) :: bs) (t :: env) → post (f_tokenCount, f_accepted, f_lastPlace, nI oc, f_draftOpen, f_symbolCount, f_stepCount, nI (bs.length + 1), nI stk.length, -1, nI n, tc, a_kinds, a_values, a_declaredSize, a_declaredNodes, a_draftSize, a_draftNodes, a_symbols, a_symbolPlaces, a_steps, a_stepPlaces, a_bindings, bt, a_waitingTypes, a_waitingFirm, sh, a_left, a_right, a_link, note, td, a_todoOther, a_generalNode)) : wpX_completeVal post (f_tokenCount, f_accepted, f_lastPlace, nI oc, f_draftOpen, f_symbolCount, f_stepCount, nI (bs.length + 1), nI (stk.length + 1), -1, nI n, f_todoCount, a_kinds, a_values, a_declaredSize, a_declaredNodes, a_draftSize, a_draftNodes, a_symbols, a_symbolPlaces, a_steps, a_stepPlaces, a_bindings, a_boundType, a_waitingTypes, a_waitingFirm, a_shape, a_left, a_right, a_link, a_note, a_todo, a_todoOther, a_generalNode) (nI p) := by
  obtain ⟨J, hG, hL, hK⟩ := I
  have lb := bs_len bs (p + 1) hS (fun x z => by have := hx x z; omega)
  have B' : xb_T (upd a_boundType (p + 1) (nI t)) bs env := xb_Tu _ _ (fun y hy => by have := hx y hy; omega) hB
  have B2 : ∀ f, xb_T (upd a_boundType (p + 1) (nI t)) ((p + 1, f) :: bs) (t :: env) := fun f => ⟨by show upd a_boundType (p + 1) (nI t) (p + 1) = _; rw [pk_us], B'⟩
  have vp : vp_in (nI (p + 1)) 24 := vp_in_nI hp (by decide)
  unfold wpX_completeVal
  refine xw_firm (b := f) (by omega) ?_ ?_
  · have := h2.1
    rw [hfl] at this
    exact this
  refine xw_pop (by omega) ?_
  rw [h1.1, nI_1]
  refine ⟨vp, ?_⟩
  rw [nI_clamp (by omega)]
  refine nm_e ?_
  cases f with
  | false =>
    exact br_t rfl (h kd a_shape a_note a_todo _ _ nl (Or.inl rfl) ⟨rp_bind (p + 1) J, hG, hL, hK⟩ (B2 false))
  | true =>
    refine br_f (by decide) ⟨vp, ?_⟩
    rw [pk_us]
    refine xw_generalise (nm := p + 1) hn hG hL (by omega) J CI (xb_PT bs env hP B') (by omega) (fun sh kd' note td tc hG' J' k1 _ => ?_)
    exact h kd' sh note td tc _ n (Or.inr rfl) ⟨J', hG', gr_L_78 k1 hL, by rw [gr_nr_78 k1]; exact hK⟩ (B2 true)
end
