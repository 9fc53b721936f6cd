/-! the component's inference of applications, operators and conditions -/
/-- how a handler of a step may go on: a type t waits, the worlds are V' -/
def xh_O (oc nl nb : Nat) (stk env : List Nat) (bs : List (Nat × Bool)) (fl : List Bool) (V' : dv_W) (u : SX) (post : SX → Prop) : Prop :=
  match u with
  | (f_tokenCount, f_accepted, f_lastPlace, f_openCount, f_draftOpen, f_symbolCount, f_stepCount, f_bindingCount, f_waitingCount, f_clashPlace, f_nodeCount, f_todoCount, a_kinds, a_values, a_declaredSize, a_declaredNodes, a_draftSize, a_draftNodes, a_symbols, a_symbolPlaces, a_steps, a_stepPlaces, a_bindings, a_boundType, a_waitingTypes, a_waitingFirm, a_shape, a_left, a_right, a_link, a_note, a_todo, a_todoOther, a_generalNode) => ∀ n' K' kd' pa' pb' t sh lf rt lk note td tdo wt wf tc gn, n' ≤ nb → xt_I oc nl n' K' kd' pa' pb' (t :: stk) env bs V' sh lf rt lk → st_1 wt (t :: stk) → st_b wf fl → post (f_tokenCount, f_accepted, f_lastPlace, f_openCount, f_draftOpen, f_symbolCount, f_stepCount, f_bindingCount, nI (stk.length + 1), -1, nI n', tc, a_kinds, a_values, a_declaredSize, a_declaredNodes, a_draftSize, a_draftNodes, a_symbols, a_symbolPlaces, a_steps, a_stepPlaces, a_bindings, a_boundType, wt, wf, sh, lf, rt, lk, note, td, tdo, gn)
/-- no world is left -/
def xh_B (nb p : Nat) (V' : dv_W) (u : SX) (post : SX → Prop) : Prop :=
  match u with
  | (f_tokenCount, f_accepted, f_lastPlace, f_openCount, f_draftOpen, f_symbolCount, f_stepCount, f_bindingCount, f_waitingCount, f_clashPlace, f_nodeCount, f_todoCount, a_kinds, a_values, a_declaredSize, a_declaredNodes, a_draftSize, a_draftNodes, a_symbols, a_symbolPlaces, a_steps, a_stepPlaces, a_bindings, a_boundType, a_waitingTypes, a_waitingFirm, a_shape, a_left, a_right, a_link, a_note, a_todo, a_todoOther, a_generalNode) => (∀ ν st E, ¬ V' ν st E) → ∀ n' sh lf rt lk note td tdo wt wf tc wc gn bt, n' ≤ nb → xt_C n' sh lf rt lk → post (f_tokenCount, f_accepted, f_lastPlace, f_openCount, f_draftOpen, f_symbolCount, f_stepCount, f_bindingCount, wc, nI p, nI n', tc, a_kinds, a_values, a_declaredSize, a_declaredNodes, a_draftSize, a_draftNodes, a_symbols, a_symbolPlaces, a_steps, a_stepPlaces, a_bindings, bt, wt, wf, sh, lf, rt, lk, note, td, tdo, gn)
section
variable {f_tokenCount f_accepted f_lastPlace f_openCount f_draftOpen f_symbolCount f_stepCount f_bindingCount f_waitingCount f_clashPlace f_nodeCount f_todoCount : Int32} {a_kinds a_values a_declaredSize a_declaredNodes a_draftSize a_draftNodes a_symbols a_symbolPlaces a_steps a_stepPlaces a_bindings a_boundType a_waitingTypes a_waitingFirm a_shape a_left a_right a_link a_note a_todo a_todoOther a_generalNode : Nat → Int32}
variable {kd pa pb : Nat → Nat} {n K : Nat}
theorem xt_Cn {sh lf rt lk : Nat → Int32} {k a b : Nat} (h : xt_C n sh lf rt lk) (hk : k < 30) (hp : gr_cn k → a < n ∧ b < n) : xt_C (n + 1) (upd sh n (nI k)) (upd lf n (nI a)) (upd rt n (nI b)) (upd lk n (nI n)) := by
  obtain ⟨kd, pa, pb, K, w, g, l, q⟩ := h
  obtain ⟨l', q'⟩ := xt_L (k := k) (a := a) (b := b) w l q (by omega)
  refine ⟨gr_u kd n k, gr_u pa n a, gr_u pb n b, K, fun i hi => ?_, xg_new g hk, l', q'⟩
  by_cases c : i = n
  · subst c
    rw [gr_us, gr_us, gr_us]
    exact ⟨fun z => by omega, fun z => by have := hp z; omega⟩
  · rw [gr_un c, gr_un c, gr_un c]
    have := w i (by omega)
    exact ⟨fun z => by have := this.1 z; omega, fun z => by have := this.2 z; omega⟩
theorem xw_apply {post : SX → Prop} {oc nl p a f : Nat} {stk env : List Nat} {bs : List (Nat × Bool)} {fl : List Bool} {V : dv_W} {e : Nat} (I : xt_I oc nl n K kd pa pb (a :: f :: stk) env bs V a_shape a_left a_right a_link) (hn : n + 2 ≤ 4000) (hl : dv_len (stk.length + 2) e V) (h1 : st_1 a_waitingTypes (a :: f :: stk)) (h2 : st_b a_waitingFirm fl) (hfl : fl.length = stk.length) (hs : stk.length + 2 < 64)
    (hok : xh_O oc nl (n + 2) stk env bs (false :: fl) (dv_app V) (f_tokenCount, f_accepted, f_lastPlace, f_openCount, f_draftOpen, f_symbolCount, f_stepCount, f_bindingCount, f_waitingCount, f_clashPlace, f_nodeCount, f_todoCount, a_kinds, a_values, a_declaredSize, a_declaredNodes, a_draftSize, a_draftNodes, a_symbols, a_symbolPlaces, a_steps, a_stepPlaces, a_bindings, a_boundType, a_waitingTypes, a_waitingFirm, a_shape, a_left, a_right, a_link, a_note, a_todo, a_todoOther, a_generalNode) post) (hbad : xh_B (n + 2) p (dv_app V) (f_tokenCount, f_accepted, f_lastPlace, f_openCount, f_draftOpen, f_symbolCount, f_stepCount, f_bindingCount, f_waitingCount, f_clashPlace, f_nodeCount, f_todoCount, a_kinds, a_values, a_declaredSize, a_declaredNodes, a_draftSize, a_draftNodes, a_symbols, a_symbolPlaces, a_steps, a_stepPlaces, a_bindings, a_boundType, a_waitingTypes, a_waitingFirm, a_shape, a_left, a_right, a_link, a_note, a_todo, a_todoOther, a_generalNode) post) : wpX_inferApply post (f_tokenCount, f_accepted, f_lastPlace, f_openCount, f_draftOpen, f_symbolCount, f_stepCount, f_bindingCount, nI (stk.length + 2), -1, nI n, f_todoCount, a_kinds, a_values, a_declaredSize, a_declaredNodes, a_draftSize, a_draftNodes, a_symbols, a_symbolPlaces, a_steps, a_stepPlaces, a_bindings, a_boundType, a_waitingTypes, a_waitingFirm, a_shape, a_left, a_right, a_link, a_note, a_todo, a_todoOther, a_generalNode) (nI p) := by
  obtain ⟨J, hG, hL, hK⟩ := I
  have am : a ∈ a :: f :: stk := List.mem_cons_self
  have J1 := rp_var J (a := 0) (b := 0)
  obtain ⟨L1, K1⟩ := xt_L (k := 7) (a := 0) (b := 0) J.1 hL hK (by omega)
  have J2 := rp_con (k := 6) (a := a) (b := n) J1 (by omega) (Or.inl (List.mem_cons_of_mem _ am)) (Or.inl List.mem_cons_self) (fun _ st _ => ls_g 1 st) (fun _ st _ => ls_g 0 st) (fun ρ => rfl) (fun ρ => rfl)
  obtain ⟨L2, K2⟩ := xt_L (k := 6) (a := a) (b := n) J1.1 L1 K1 (by omega)
  unfold wpX_inferApply
  refine xw_pop (by omega) ?_
  rw [show a_waitingTypes (stk.length + 1) = nI a from h1.1]
  refine xw_pop (by omega) ?_
  rw [h1.2.1]
  refine xw_new (by omega) ?_
  refine xw_new (by omega) ?_
  refine xw_demand (oc := oc) (nl := nl) (p := p) (I := ⟨J2, xg_new (k := 6) (xg_new (k := 7) hG (by omega)) (by omega), L2, K2⟩) (by omega) (Or.inl (List.mem_cons_of_mem _ (List.mem_cons_of_mem _ (List.mem_cons_of_mem _ List.mem_cons_self)))) (Or.inl List.mem_cons_self) (fun _ st _ => ls_g 3 st = ls_g 0 st) (fun ρ => Iff.rfl) (fun kd' pa' K' lk note td tdo I' => ?_) (fun no lk note td tdo tc C' => ?_)
  · refine xw_push (b := false) (by omega) ?_
    refine hok (n + 2) K' kd' pa' _ n _ _ _ lk note td tdo _ _ _ _ (Nat.le_refl _) ⟨?_, I'.2⟩ (st_1p h1.2.2) ?_
    · refine rp_cg (xe_app hl) (rp_sel I'.1 (stk' := n :: stk) (fun _ st _ => ls_g 1 st :: st.drop 4) (fun x hx => ?_) (fun ρ => rfl))
      rcases List.mem_cons.mp hx with z | z
      · rw [z]; exact Or.inl (List.mem_cons_of_mem _ List.mem_cons_self)
      · exact Or.inl (List.mem_cons_of_mem _ (List.mem_cons_of_mem _ (List.mem_cons_of_mem _ (List.mem_cons_of_mem _ z))))
    · rw [← hfl]; exact st_bp h2
  · refine xw_push (b := false) (by omega) ?_
    refine hbad (fun ν st E v => ?_) (n + 2) _ _ _ lk note td tdo _ _ tc _ _ _ (Nat.le_refl _) C'
    obtain ⟨st0, ⟨v1, v2⟩, _⟩ := (xe_app hl ν st E).mpr v
    exact no ν st0 E ⟨v1, v2⟩
theorem xw_if {post : SX → Prop} {oc nl p a b c0 : Nat} {stk env : List Nat} {bs : List (Nat × Bool)} {fl : List Bool} {V : dv_W} {e : Nat} (I : xt_I oc nl n K kd pa pb (a :: b :: c0 :: stk) env bs V a_shape a_left a_right a_link) (hn : n + 2 ≤ 4000) (hl : dv_len (stk.length + 3) e V) (h1 : st_1 a_waitingTypes (a :: b :: c0 :: stk)) (h2 : st_b a_waitingFirm fl) (hfl : fl.length = stk.length) (hs : stk.length + 3 < 64) (hp : p < 24)
    (hok : xh_O oc nl (n + 1) stk env bs (false :: fl) (dv_if V) (f_tokenCount, f_accepted, f_lastPlace, f_openCount, f_draftOpen, f_symbolCount, f_stepCount, f_bindingCount, f_waitingCount, f_clashPlace, f_nodeCount, f_todoCount, a_kinds, a_values, a_declaredSize, a_declaredNodes, a_draftSize, a_draftNodes, a_symbols, a_symbolPlaces, a_steps, a_stepPlaces, a_bindings, a_boundType, a_waitingTypes, a_waitingFirm, a_shape, a_left, a_right, a_link, a_note, a_todo, a_todoOther, a_generalNode) post) (hbad : xh_B (n + 1) p (dv_if V) (f_tokenCount, f_accepted, f_lastPlace, f_openCount, f_draftOpen, f_symbolCount, f_stepCount, f_bindingCount, f_waitingCount, f_clashPlace, f_nodeCount, f_todoCount, a_kinds, a_values, a_declaredSize, a_declaredNodes, a_draftSize, a_draftNodes, a_symbols, a_symbolPlaces, a_steps, a_stepPlaces, a_bindings, a_boundType, a_waitingTypes, a_waitingFirm, a_shape, a_left, a_right, a_link, a_note, a_todo, a_todoOther, a_generalNode) post) : wpX_inferIf post (f_tokenCount, f_accepted, f_lastPlace, f_openCount, f_draftOpen, f_symbolCount, f_stepCount, f_bindingCount, nI (stk.length + 3), -1, nI n, f_todoCount, a_kinds, a_values, a_declaredSize, a_declaredNodes, a_draftSize, a_draftNodes, a_symbols, a_symbolPlaces, a_steps, a_stepPlaces, a_bindings, a_boundType, a_waitingTypes, a_waitingFirm, a_shape, a_left, a_right, a_link, a_note, a_todo, a_todoOther, a_generalNode) (nI p) := by
  obtain ⟨J, hG, hL, hK⟩ := I
  have J1 := rp_leaf (k := 1) J (a := 0) (b := 0) (by omega) (by omega) (by omega)
  obtain ⟨L1, K1⟩ := xt_L (k := 1) (a := 0) (b := 0) J.1 hL hK (by omega)
  have m1 : ∀ (w x y z : Nat) (l : List Nat), x ∈ w :: x :: y :: z :: l ∧ y ∈ w :: x :: y :: z :: l ∧ z ∈ w :: x :: y :: z :: l := fun w x y z l => by simp
  unfold wpX_inferIf
  refine xw_pop (by omega) ?_
  rw [show a_waitingTypes (stk.length + 2) = nI a from h1.1]
  refine xw_pop (by omega) ?_
  rw [show a_waitingTypes (stk.length + 1) = nI b from h1.2.1]
  refine xw_pop (by omega) ?_
  rw [h1.2.2.1]
  refine xw_new (by omega) ?_
  refine xw_demand (oc := oc) (nl := nl) (p := p) (I := ⟨J1, xg_new (k := 1) hG (by omega), L1, K1⟩) (by omega) (Or.inl (m1 n a b c0 stk).2.2) (Or.inl List.mem_cons_self) (fun _ st _ => ls_g 3 st = ls_g 0 st) (fun ρ => Iff.rfl) (fun kd' pa' K' lk note td tdo I' => ?_) (fun no lk note td tdo tc C' => ?_)
  · refine xw_demand (oc := oc) (nl := nl) (p := p) (I := I') (by omega) (Or.inl (m1 n a b c0 stk).1) (Or.inl (m1 n a b c0 stk).2.1) (fun _ st _ => ls_g 1 st = ls_g 2 st) (fun ρ => Iff.rfl) (fun kd' pa' K' lk note td tdo I' => ?_) (fun no lk note td tdo tc C' => ?_)
    · refine xw_push (b := false) (by omega) ?_
      refine hok (n + 1) K' kd' pa' _ b _ _ _ lk note td tdo _ _ _ _ (Nat.le_refl _) ⟨?_, I'.2⟩ (st_1p h1.2.2.2) ?_
      · refine rp_cg (xe_if hl) (rp_sel I'.1 (stk' := b :: stk) (fun _ st _ => ls_g 2 st :: st.drop 4) (fun x hx => ?_) (fun ρ => rfl))
        rcases List.mem_cons.mp hx with z | z
        · rw [z]; exact Or.inl (m1 n a b c0 stk).2.1
        · exact Or.inl (List.mem_cons_of_mem _ (List.mem_cons_of_mem _ (List.mem_cons_of_mem _ (List.mem_cons_of_mem _ z))))
      · rw [← hfl]; exact st_bp h2
    · refine xw_push (b := false) (by omega) ?_
      refine hbad (fun ν st E v => ?_) (n + 1) _ _ _ lk note td tdo _ _ tc _ _ _ (Nat.le_refl _) C'
      obtain ⟨st0, v1, _⟩ := (xe_if hl ν st E).mpr v
      exact no ν st0 E v1
  · refine br_f (by exact nI_pos (by omega)) ?_
    refine xw_push (b := false) (by omega) ?_
    refine hbad (fun ν st E v => ?_) (n + 1) _ _ _ lk note td tdo _ _ tc _ _ _ (Nat.le_refl _) C'
    obtain ⟨st0, ⟨v1, _⟩, _⟩ := (xe_if hl ν st E).mpr v
    exact no ν st0 E v1
theorem xw_operator {post : SX → Prop} {oc nl p a b kp : Nat} {stk env : List Nat} {bs : List (Nat × Bool)} {fl : List Bool} {f1 f2 : Bool} {V : dv_W} {e : Nat} (I : xt_I oc nl n K kd pa pb (a :: b :: stk) env bs V a_shape a_left a_right a_link) (hn : n + 2 ≤ 4000) (hl : dv_len (stk.length + 2) e V) (h1 : st_1 a_waitingTypes (a :: b :: stk)) (h2 : st_b a_waitingFirm (f1 :: f2 :: fl)) (hfl : fl.length = stk.length) (hs : stk.length + 2 < 64) (hp : p < 24) (hkp : a_kinds p = nI kp) (hk : kp = 17 ∨ kp = 18 ∨ kp = 19 ∨ kp = 20 ∨ kp = 21 ∨ kp = 25)
    (hok : xh_O oc nl (n + 2) stk env bs (((decide (kp = 17) || decide (kp = 18)) && f1 && f2) :: fl) (if kp = 17 then dv_pair V else if kp = 18 then dv_cons V else if kp = 25 then dv_asg V else if kp = 21 then dv_num 1 V else dv_num 0 V) (f_tokenCount, f_accepted, f_lastPlace, f_openCount, f_draftOpen, f_symbolCount, f_stepCount, f_bindingCount, f_waitingCount, f_clashPlace, f_nodeCount, f_todoCount, a_kinds, a_values, a_declaredSize, a_declaredNodes, a_draftSize, a_draftNodes, a_symbols, a_symbolPlaces, a_steps, a_stepPlaces, a_bindings, a_boundType, a_waitingTypes, a_waitingFirm, a_shape, a_left, a_right, a_link, a_note, a_todo, a_todoOther, a_generalNode) post) (hbad : xh_B (n + 2) p (if kp = 17 then dv_pair V else if kp = 18 then dv_cons V else if kp = 25 then dv_asg V else if kp = 21 then dv_num 1 V else dv_num 0 V) (f_tokenCount, f_accepted, f_lastPlace, f_openCount, f_draftOpen, f_symbolCount, f_stepCount, f_bindingCount, f_waitingCount, f_clashPlace, f_nodeCount, f_todoCount, a_kinds, a_values, a_declaredSize, a_declaredNodes, a_draftSize, a_draftNodes, a_symbols, a_symbolPlaces, a_steps, a_stepPlaces, a_bindings, a_boundType, a_waitingTypes, a_waitingFirm, a_shape, a_left, a_right, a_link, a_note, a_todo, a_todoOther, a_generalNode) post) : wpX_inferOperator post (f_tokenCount, f_accepted, f_lastPlace, f_openCount, f_draftOpen, f_symbolCount, f_stepCount, f_bindingCount, nI (stk.length + 2), -1, nI n, f_todoCount, a_kinds, a_values, a_declaredSize, a_declaredNodes, a_draftSize, a_draftNodes, a_symbols, a_symbolPlaces, a_steps, a_stepPlaces, a_bindings, a_boundType, a_waitingTypes, a_waitingFirm, a_shape, a_left, a_right, a_link, a_note, a_todo, a_todoOther, a_generalNode) (nI p) := by
  obtain ⟨J, hG, hL, hK⟩ := I
  have vp : vp_in (nI p) 24 := vp_in_nI hp (by decide)
  have cp : (nI p).toNatClampNeg = p := nI_clamp (by omega)
  have m1 : ∀ (w x y : Nat) (l : List Nat), x ∈ w :: x :: y :: l ∧ y ∈ w :: x :: y :: l := fun w x y l => by simp
  have am : a ∈ a :: b :: stk ∧ b ∈ a :: b :: stk := by simp
  have body : ∀ f : Bool, f = (f1 && f2) → wX_inferOperator_26 post (nI p) (nI a) (if f = true then 1 else 0) f_tokenCount f_accepted f_lastPlace f_openCount f_draftOpen f_symbolCount f_stepCount f_bindingCount (nI (stk.length + 1)) (-1) (nI n) f_todoCount a_kinds a_values a_declaredSize a_declaredNodes a_draftSize a_draftNodes a_symbols a_symbolPlaces a_steps a_stepPlaces a_bindings a_boundType a_waitingTypes a_waitingFirm a_shape a_left a_right a_link a_note a_todo a_todoOther a_generalNode := by
    intro f hf
    refine xw_pop (by omega) ?_
    rw [h1.2.1]
    refine ⟨vp, ?_⟩
    rw [cp, hkp]
    refine nm_e ?_
    by_cases k17 : kp = 17
    · subst k17
      refine br_t rfl ?_
      have J1 := rp_con (k := 5) (a := b) (b := a) J (by omega) (Or.inl am.2) (Or.inl am.1) (fun _ st _ => ls_g 1 st) (fun _ st _ => ls_g 0 st) (fun ρ => rfl) (fun ρ => rfl)
      obtain ⟨L1, K1⟩ := xt_L (k := 5) (a := b) (b := a) J.1 hL hK (by omega)
      refine xw_new (by omega) ?_
      refine xw_push (b := f) (by omega) ?_
      refine hok (n + 1) K _ _ _ n _ _ _ _ _ _ _ _ _ _ _ (by omega) ⟨?_, xg_new (k := 5) hG (by omega), L1, K1⟩ (st_1p h1.2.2) ?_
      · refine rp_cg (xe_pair hl) (rp_sel J1 (stk' := n :: stk) (fun _ st _ => ls_g 0 st :: st.drop 3) (fun x hx => ?_) (fun ρ => rfl))
        rcases List.mem_cons.mp hx with z | z
        · rw [z]; exact Or.inl List.mem_cons_self
        · exact Or.inl (List.mem_cons_of_mem _ (List.mem_cons_of_mem _ (List.mem_cons_of_mem _ z)))
      · rw [← hfl, hf]; exact st_bp (b := f1 && f2) h2.2.2
    · have n17 : ¬ nI kp = 17 := fun z => k17 ((nI_eq (b := 17) (by omega) (by omega)).mp z)
      refine br_f n17 ?_
      by_cases k18 : kp = 18
      · subst k18
        refine br_t rfl ?_
        have J1 := rp_con (k := 3) (a := b) (b := b) J (by omega) (Or.inl am.2) (Or.inl am.2) (fun _ st _ => ls_g 1 st) (fun _ st _ => ls_g 1 st) (fun ρ => rfl) (fun ρ => rfl)
        obtain ⟨L1, K1⟩ := xt_L (k := 3) (a := b) (b := b) J.1 hL hK (by omega)
        refine xw_new (by omega) ?_
        refine xw_demand (oc := oc) (nl := nl) (p := p) (I := ⟨J1, xg_new (k := 3) hG (by omega), L1, K1⟩) (by omega) (Or.inl (m1 n a b stk).1) (Or.inl List.mem_cons_self) (fun _ st _ => ls_g 1 st = ls_g 0 st) (fun ρ => Iff.rfl) (fun kd' pa' K' lk note td tdo I' => ?_) (fun no lk note td tdo tc C' => ?_)
        · refine xw_push (b := f) (by omega) ?_
          refine hok (n + 1) K' kd' pa' _ a _ _ _ lk note td tdo _ _ _ _ (by omega) ⟨?_, I'.2⟩ (st_1p h1.2.2) ?_
          · refine rp_cg (xe_cons hl) (rp_sel I'.1 (stk' := a :: stk) (fun _ st _ => ls_g 1 st :: st.drop 3) (fun x hx => ?_) (fun ρ => rfl))
            rcases List.mem_cons.mp hx with z | z
            · rw [z]; exact Or.inl (m1 n a b stk).1
            · exact Or.inl (List.mem_cons_of_mem _ (List.mem_cons_of_mem _ (List.mem_cons_of_mem _ z)))
          · rw [← hfl, hf]; exact st_bp (b := f1 && f2) h2.2.2
        · refine xw_push (b := f) (by omega) ?_
          refine hbad (fun ν st E v => ?_) (n + 1) _ _ _ lk note td tdo _ _ tc _ _ _ (by omega) C'
          obtain ⟨st0, v1, _⟩ := (xe_cons hl ν st E).mpr v
          exact no ν st0 E v1
      · have n18 : ¬ nI kp = 18 := fun z => k18 ((nI_eq (b := 18) (by omega) (by omega)).mp z)
        refine br_f n18 ?_
        by_cases k25 : kp = 25
        · subst k25
          refine br_t rfl ?_
          have J1 := rp_con (k := 4) (a := a) (b := a) J (by omega) (Or.inl am.1) (Or.inl am.1) (fun _ st _ => ls_g 0 st) (fun _ st _ => ls_g 0 st) (fun ρ => rfl) (fun ρ => rfl)
          obtain ⟨L1, K1⟩ := xt_L (k := 4) (a := a) (b := a) J.1 hL hK (by omega)
          refine xw_new (by omega) ?_
          refine xw_demand (oc := oc) (nl := nl) (p := p) (I := ⟨J1, xg_new (k := 4) hG (by omega), L1, K1⟩) (by omega) (Or.inl (m1 n a b stk).2) (Or.inl List.mem_cons_self) (fun _ st _ => ls_g 2 st = ls_g 0 st) (fun ρ => Iff.rfl) (fun kd' pa' K' lk note td tdo I' => ?_) (fun no lk note td tdo tc C' => ?_)
          · have J2 := rp_leaf (k := 2) I'.1 (a := 0) (b := 0) (by omega) (by omega) (by omega)
            obtain ⟨L2, K2⟩ := xt_L (k := 2) (a := 0) (b := 0) I'.1.1 I'.2.2.1 I'.2.2.2 (by omega)
            refine xw_new (by omega) ?_
            refine xw_push (b := false) (by omega) ?_
            refine hok (n + 2) K' _ _ _ (n + 1) _ _ _ _ _ td tdo _ _ _ _ (by omega) ⟨?_, xg_new (k := 2) I'.2.1 (by omega), L2, K2⟩ (st_1p h1.2.2) ?_
            · refine rp_cg (xe_asg hl) (rp_sel J2 (stk' := (n + 1) :: stk) (fun _ st _ => ls_g 0 st :: st.drop 4) (fun x hx => ?_) (fun ρ => rfl))
              rcases List.mem_cons.mp hx with z | z
              · rw [z]; exact Or.inl List.mem_cons_self
              · exact Or.inl (List.mem_cons_of_mem _ (List.mem_cons_of_mem _ (List.mem_cons_of_mem _ (List.mem_cons_of_mem _ z))))
            · rw [← hfl]; exact st_bp (b := false) h2.2.2
          · refine xw_new (by omega) ?_
            refine xw_push (b := false) (by omega) ?_
            refine hbad (fun ν st E v => ?_) (n + 2) _ _ _ _ _ td tdo _ _ tc _ _ _ (by omega) (xt_Cn (k := 2) C' (by omega) (fun z => by omega))
            obtain ⟨st0, ⟨s2, _, v1⟩, _⟩ := (xe_asg hl ν st E).mpr v
            exact no ν s2 E v1
        · have n25 : ¬ nI kp = 25 := fun z => k25 ((nI_eq (b := 25) (by omega) (by omega)).mp z)
          refine br_f n25 ?_
          have J1 := rp_leaf (k := 0) J (a := 0) (b := 0) (by omega) (by omega) (by omega)
          obtain ⟨L1, K1⟩ := xt_L (k := 0) (a := 0) (b := 0) J.1 hL hK (by omega)
          have ev : (if kp = 17 then dv_pair V else if kp = 18 then dv_cons V else if kp = 25 then dv_asg V else if kp = 21 then dv_num 1 V else dv_num 0 V) = dv_num (if kp = 21 then 1 else 0) V := by
            rw [if_neg k17, if_neg k18, if_neg k25]
            by_cases k : kp = 21
            · rw [if_pos k, if_pos k]
            · rw [if_neg k, if_neg k]
          have eb : ((decide (kp = 17) || decide (kp = 18)) && f1 && f2) = false := by simp [k17, k18]
          rw [ev] at hok hbad
          rw [eb] at hok
          refine xw_new (by omega) ?_
          refine xw_demand (oc := oc) (nl := nl) (p := p) (I := ⟨J1, xg_new (k := 0) hG (by omega), L1, K1⟩) (by omega) (Or.inl (m1 n a b stk).2) (Or.inl List.mem_cons_self) (fun _ st _ => ls_g 2 st = ls_g 0 st) (fun ρ => Iff.rfl) (fun kd' pa' K' lk note td tdo I' => ?_) (fun no lk note td tdo tc C' => ?_)
          · refine xw_demand (oc := oc) (nl := nl) (p := p) (I := I') (by omega) (Or.inl (m1 n a b stk).1) (Or.inl List.mem_cons_self) (fun _ st _ => ls_g 1 st = ls_g 0 st) (fun ρ => Iff.rfl) (fun kd' pa' K' lk note td tdo I' => ?_) (fun no lk note td tdo tc C' => ?_)
            · refine ⟨vp, ?_⟩
              rw [hkp]
              have fin : ∀ kk, kk < 2 → kk = (if kp = 21 then 1 else 0) → wX_inferOperator_200 post (nI kk) f_tokenCount f_accepted f_lastPlace f_openCount f_draftOpen f_symbolCount f_stepCount f_bindingCount (nI stk.length) (-1) (nI (n + 1)) 0 a_kinds a_values a_declaredSize a_declaredNodes a_draftSize a_draftNodes a_symbols a_symbolPlaces a_steps a_stepPlaces a_bindings a_boundType a_waitingTypes a_waitingFirm (upd a_shape n (nI 0)) (upd a_left n (nI 0)) (upd a_right n (nI 0)) lk note td tdo a_generalNode := by
                intro kk hkk e
                have J2 := rp_leaf (k := kk) I'.1 (a := 0) (b := 0) (by omega) (by omega) (by omega)
                obtain ⟨L2, K2⟩ := xt_L (k := kk) (a := 0) (b := 0) I'.1.1 I'.2.2.1 I'.2.2.2 (by omega)
                refine xw_new (by omega) ?_
                refine xw_push (b := false) (by omega) ?_
                refine hok (n + 2) K' _ _ _ (n + 1) _ _ _ _ _ td tdo _ _ _ _ (by omega) ⟨?_, xg_new (k := kk) I'.2.1 (by omega), L2, K2⟩ (st_1p h1.2.2) ?_
                · rw [← e]
                  refine rp_cg (xe_num hl) (rp_sel J2 (stk' := (n + 1) :: stk) (fun _ st _ => ls_g 0 st :: st.drop 4) (fun x hx => ?_) (fun ρ => rfl))
                  rcases List.mem_cons.mp hx with z | z
                  · rw [z]; exact Or.inl List.mem_cons_self
                  · exact Or.inl (List.mem_cons_of_mem _ (List.mem_cons_of_mem _ (List.mem_cons_of_mem _ (List.mem_cons_of_mem _ z))))
                · rw [← hfl]; exact st_bp (b := false) h2.2.2
              refine pk_eq kp 21 (fun k => fin 1 (by omega) (by rw [if_pos k])) (fun k => fin 0 (by omega) (by rw [if_neg k]))
            · refine ⟨vp, ?_⟩
              rw [hkp]
              have fin : ∀ kk, kk < 2 → wX_inferOperator_200 post (nI kk) f_tokenCount f_accepted f_lastPlace f_openCount f_draftOpen f_symbolCount f_stepCount f_bindingCount (nI stk.length) (nI p) (nI (n + 1)) tc a_kinds a_values a_declaredSize a_declaredNodes a_draftSize a_draftNodes a_symbols a_symbolPlaces a_steps a_stepPlaces a_bindings a_boundType a_waitingTypes a_waitingFirm (upd a_shape n (nI 0)) (upd a_left n (nI 0)) (upd a_right n (nI 0)) lk note td tdo a_generalNode := by
                intro kk hkk
                refine xw_new (by omega) ?_
                refine xw_push (b := false) (by omega) ?_
                refine hbad (fun ν st E v => ?_) (n + 2) _ _ _ _ _ td tdo _ _ tc _ _ _ (by omega) (xt_Cn (k := kk) C' (by omega) (fun z => by omega))
                obtain ⟨st0, ⟨s2, _, v1⟩, _⟩ := (xe_num hl ν st E).mpr v
                exact no ν s2 E v1
              exact pk_eq kp 21 (fun k => fin 1 (by omega)) (fun k => fin 0 (by omega))
          · refine br_f (by exact nI_pos (by omega)) ⟨vp, ?_⟩
            rw [hkp]
            have fin : ∀ kk, kk < 2 → wX_inferOperator_200 post (nI kk) f_tokenCount f_accepted f_lastPlace f_openCount f_draftOpen f_symbolCount f_stepCount f_bindingCount (nI stk.length) (nI p) (nI (n + 1)) tc a_kinds a_values a_declaredSize a_declaredNodes a_draftSize a_draftNodes a_symbols a_symbolPlaces a_steps a_stepPlaces a_bindings a_boundType a_waitingTypes a_waitingFirm (upd a_shape n (nI 0)) (upd a_left n (nI 0)) (upd a_right n (nI 0)) lk note td tdo a_generalNode := by
              intro kk hkk
              refine xw_new (by omega) ?_
              refine xw_push (b := false) (by omega) ?_
              refine hbad (fun ν st E v => ?_) (n + 2) _ _ _ _ _ td tdo _ _ tc _ _ _ (by omega) (xt_Cn (k := kk) C' (by omega) (fun z => by omega))
              obtain ⟨st0, ⟨s2, _, v1, _⟩, _⟩ := (xe_num hl ν st E).mpr v
              exact no ν s2 E v1
            exact pk_eq kp 21 (fun k => fin 1 (by omega)) (fun k => fin 0 (by omega))
  unfold wpX_inferOperator
  refine xw_firm (b := f1) (by omega) ?_ ?_
  · rw [show a_waitingFirm (stk.length + 1) = (if f1 = true then 1 else 0) from by
      have := h2.1
      rw [List.length_cons, hfl] at this
      exact this]
  refine xw_pop (by omega) ?_
  rw [show a_waitingTypes (stk.length + 1) = nI a from h1.1]
  cases f1 with
  | false => exact br_t rfl (body false rfl)
  | true =>
    refine br_f (by decide) ?_
    refine xw_firm (b := f2) (by omega) ?_ ?_
    · have := h2.2.1
      rw [hfl] at this
      exact this
    cases f2 with
    | false => exact br_t rfl (body false rfl)
    | true => exact br_f (by decide) (body true rfl)
end
