/-! the component's completeFun -/
theorem xb_ns {bt : Nat → Int32} {p : Nat} : ∀ (m : Nat) (e1 : List Nat), xb_T bt (pd_ns p m) e1 → e1.length = m ∧ ∀ (i : Nat), i < m → ∃ x, e1[i]? = some x ∧ bt (p + m - i) = nI x := by
  intro m
  induction m with
  | zero => intro e1 h; cases e1 with
    | nil => exact ⟨rfl, fun i hi => by omega⟩
    | cons e e1 => exact h.elim
  | succ m ih =>
    intro e1 h
    cases e1 with
    | nil => exact h.elim
    | cons e e1 =>
      obtain ⟨l, q⟩ := ih e1 h.2
      refine ⟨by rw [List.length_cons, l], fun i hi => ?_⟩
      cases i with
      | zero =>
        refine ⟨e, rfl, ?_⟩
        have := h.1
        rw [show p + (m + 1) - 0 = p + 1 + m by omega]; exact this
      | succ i =>
        obtain ⟨x, hx, hb⟩ := q i (by omega)
        refine ⟨x, by rw [List.getElem?_cons_succ]; exact hx, ?_⟩
        rw [show p + (m + 1) - (i + 1) = p + m - i by omega]; exact hb
theorem mo_ns {α : Type} {p : Nat} {bs : List (Nat × Bool)} : ∀ (m : Nat) (e1 e2 : List α), e1.length = m → ∀ x, x ∈ e1 → x ∈ mo_l (pd_ns p m ++ bs) (e1 ++ e2) := by
  intro m
  induction m with
  | zero =>
    intro e1 e2 h x hx
    have : e1 = [] := List.eq_nil_of_length_eq_zero h
    subst this
    cases hx
  | succ m ih =>
    intro e1 e2 h x hx
    cases e1 with
    | nil => cases hx
    | cons e e1 =>
      show x ∈ mo_l ((p + 1 + m, false) :: (pd_ns p m ++ bs)) (e :: (e1 ++ e2))
      rw [mo_f]
      rcases List.mem_cons.mp hx with z | z
      · rw [z]; exact List.mem_cons_self
      · exact List.mem_cons_of_mem _ (ih e1 e2 (by simpa using h) x z)
theorem ls_g_map {ρ : Nat → tr_T} {l : List Nat} {i x : Nat} (h : l[i]? = some x) : ls_g i (l.map ρ) = ρ x := by
  unfold ls_g
  rw [List.getD_eq_getElem?_getD, List.getElem?_map, h]
  rfl
section
variable {f_tokenCount f_accepted f_lastPlace f_openCount f_draftOpen f_symbolCount f_stepCount f_bindingCount f_waitingCount f_clashPlace f_nodeCount f_todoCount : Int32} {a_kinds a_values a_declaredSize a_declaredNodes a_draftSize a_draftNodes a_symbols a_symbolPlaces a_steps a_stepPlaces a_bindings a_boundType a_waitingTypes a_waitingFirm a_shape a_left a_right a_link a_note a_todo a_todoOther a_generalNode : Nat → Int32}
variable {kd pa pb : Nat → Nat} {n K : Nat}
theorem xw_cfun {post : SX → Prop} {oc nl p m c ct : Nat} {stk e1 e2 : List Nat} {bs : List (Nat × Bool)} {V : dv_W} {N mq Kt : Nat → Nat} (hT : tk_T a_kinds a_values c Kt N) (hf : pd_fn Kt mq p) (hp : p + mq p + 1 < c) (hm : mq p = m + 1) (I : xt_I oc nl n K kd pa pb (ct :: stk) (e1 ++ e2) (pd_ns p (m + 1) ++ bs) V a_shape a_left a_right a_link)
    (hl : dv_len (stk.length + 1) (bs.length + m + 1) V) (hC : dv_CI stk.length bs.length V) (hx : ∀ x, x ∈ bs → x.1 ≤ p) (hS : bs_S bs) (hP : xb_P a_bindings bs) (hB1 : xb_T a_boundType (pd_ns p (m + 1)) e1) (hB2 : xb_T a_boundType bs e2) (h1 : st_1 a_waitingTypes (ct :: stk)) (hn : n + m ≤ 4000) (hs : stk.length + 1 < 64) (hoc : oc ≤ n)
    (hok : ∀ n' K' kd' pa' pb' t sh lf rt lk note td tdo tc, n' ≤ n + m → xt_I oc n' n' K' kd' pa' pb' stk (t :: e2) ((p + 1, true) :: bs) (dv_bind (dv_fun m V)) sh lf rt lk → xb_T a_boundType ((p + 1, true) :: bs) (t :: e2) → post (nI c, f_accepted, f_lastPlace, nI oc, f_draftOpen, f_symbolCount, f_stepCount, nI (bs.length + 1), nI stk.length, -1, nI n', tc, a_kinds, a_values, a_declaredSize, a_declaredNodes, a_draftSize, a_draftNodes, a_symbols, a_symbolPlaces, a_steps, a_stepPlaces, a_bindings, a_boundType, a_waitingTypes, a_waitingFirm, sh, lf, rt, lk, note, td, tdo, a_generalNode))
    (hbad : xh_B (n + m) (p + m + 2) (dv_bind (dv_fun m V)) (nI c, f_accepted, f_lastPlace, nI oc, f_draftOpen, f_symbolCount, f_stepCount, nI (bs.length + 1), f_waitingCount, f_clashPlace, f_nodeCount, f_todoCount, a_kinds, a_values, a_declaredSize, a_declaredNodes, a_draftSize, a_draftNodes, a_symbols, a_symbolPlaces, a_steps, a_stepPlaces, a_bindings, a_boundType, a_waitingTypes, a_waitingFirm, a_shape, a_left, a_right, a_link, a_note, a_todo, a_todoOther, a_generalNode) post) :
    wpX_completeFun post (nI c, f_accepted, f_lastPlace, nI oc, f_draftOpen, f_symbolCount, f_stepCount, nI (bs.length + 1), nI (stk.length + 1), -1, nI n, f_todoCount, a_kinds, a_values, a_declaredSize, a_declaredNodes, a_draftSize, a_draftNodes, a_symbols, a_symbolPlaces, a_steps, a_stepPlaces, a_bindings, a_boundType, a_waitingTypes, a_waitingFirm, a_shape, a_left, a_right, a_link, a_note, a_todo, a_todoOther, a_generalNode) (nI p) := by
  have c24 := hT.1
  obtain ⟨le1, hpl⟩ := xb_ns (m + 1) e1 hB1
  have lb := bs_len bs (p + 1) hS (fun x z => by have := hx x z; omega)
  have le2 : e2.length = bs.length := by
    have := I.1.2.2.2.2.1
    rw [List.length_append, List.length_append, pd_ns_len, le1] at this
    omega
  unfold wpX_completeFun
  refine xw_equals hT hf hp ?_
  refine xw_pop (by omega) ?_
  rw [h1.1]
  refine nm_r (e' := nI (p + m + 1)) ?_ ⟨m + 1, ?_⟩
  · rw [hm, show p + (m + 1) + 1 = (p + m + 1) + 1 by omega, nI_pred]
  have loop : ∀ d i kd' pa' pb' w sh lf rt lk note, i + d = m → xt_I oc nl (n + i) K kd' pa' pb' (w :: stk) (e1 ++ e2) (pd_ns p (m + 1) ++ bs) (dv_arrs i V) sh lf rt lk → wX_completeFun_16 post (nI p) (nI (p + mq p + 1)) (d + 1) (nI w) (nI (p + m + 1 - i)) (nI c) f_accepted f_lastPlace (nI oc) f_draftOpen f_symbolCount f_stepCount (nI (bs.length + 1)) (nI stk.length) (-1) (nI (n + i)) f_todoCount a_kinds a_values a_declaredSize a_declaredNodes a_draftSize a_draftNodes a_symbols a_symbolPlaces a_steps a_stepPlaces a_bindings a_boundType a_waitingTypes a_waitingFirm sh lf rt lk note a_todo a_todoOther a_generalNode := by
    intro d
    induction d with
    | zero =>
      intro i kd' pa' pb' w sh lf rt lk note hi It
      have e : i = m := by omega
      subst e
      obtain ⟨f, hf1, hf2⟩ := hpl i (by omega)
      have ep : p + (i + 1) - i = p + 1 := by omega
      rw [ep] at hf2
      have fe : f ∈ e1 := List.mem_of_getElem? hf1
      have fg : (e1 ++ e2)[i]? = some f := by rw [List.getElem?_append_left (by omega)]; exact hf1
      have e5 : p + i + 1 - i = p + 1 := by omega
      have vp : vp_in (nI (p + 1)) 24 := vp_in_nI (by omega) (by decide)
      have cp1 : (nI (p + 1)).toNatClampNeg = p + 1 := nI_clamp (by omega)
      rw [e5]
      refine br_t (by rw [nI_1]; exact nI_le (by omega) (by omega)) ?_
      rw [nI_1]
      refine ⟨vp, ?_⟩
      rw [cp1, hf2]
      have eq : p + mq p + 1 = p + i + 2 := by omega
      rw [eq]
      refine xw_demand (oc := oc) (nl := nl) (p := p + i + 2) (I := It) (by omega) (Or.inr (mo_ns (i + 1) e1 e2 le1 f fe)) (Or.inl List.mem_cons_self) (fun _ st E => ls_g i E = ls_g 0 st) (fun ρ => by rw [ls_g_map fg]; exact Iff.rfl) (fun kd1 pa1 K1 lk1 note1 td1 tdo1 I1 => ⟨vp, ?_⟩) (fun no lk1 note1 td1 tdo1 tc1 C1 => ⟨vp, ?_⟩)
      · rw [hf2]
        have J3 := rp_unbinds e1 (pd_ns p (i + 1)) bs e2 _ (by rw [le1, pd_ns_len]) (rp_sel I1.1 (stk' := f :: stk) (fun _ st E => ls_g i E :: st.drop 1) (fun y hy => by
          rcases List.mem_cons.mp hy with z | z
          · rw [z]; exact Or.inr (mo_ns (i + 1) e1 e2 le1 f fe)
          · exact Or.inl (List.mem_cons_of_mem _ z)) (fun ρ => by rw [ls_g_map fg]; rfl))
        rw [le1] at J3
        have J4 := rp_cg (xe_fun hl) J3
        have ci := dv_CI_top (dv_len_fun hl) (dv_CI_fun hl (Nat.le_refl _) hC)
        refine xw_generalise (nm := p + 1) (by omega) I1.2.1 I1.2.2.1 (by have := I1.2.2.2; omega) J4 ci (xb_PT bs e2 hP hB2) (by omega) (fun sh2 kd2 note2 td2 tc2 hG2 J5 k1 _ => ?_)
        exact hok (n + i) K1 kd2 pa1 pb' f sh2 _ _ lk1 note2 td2 tdo1 tc2 (Nat.le_refl _) ⟨J5, hG2, gr_L_78 k1 I1.2.2.1, by rw [gr_nr_78 k1]; exact I1.2.2.2⟩ ⟨hf2, hB2⟩
      · rw [hf2]
        have fn : f < n + i := It.1.2.2.2.1 f (List.mem_append_left _ fe)
        refine xw_gsafe (b := bs.length) (by omega) C1 fn (by omega) (by omega) (fun j hj => ?_) (fun sh2 note2 td2 tc2 C2 => ?_)
        · obtain ⟨pl, e, q1, q2, q3, q4⟩ := xb_at bs e2 (xb_PT bs e2 hP hB2) j hj
          exact ⟨pl, e, q1, q2, q3, It.1.2.2.2.1 e (List.mem_append_right _ q4)⟩
        · refine hbad (fun ν st E ⟨τ, E0, _, v⟩ => ?_) (n + i) sh2 _ _ lk1 note2 td2 tdo1 _ _ tc2 _ _ _ (Nat.le_refl _) C2
          obtain ⟨xs, _, s, v1, _⟩ := (xe_fun hl ν _ _).mpr v
          exact no ν s (xs ++ E0) v1
    | succ d ih =>
      intro i kd' pa' pb' w sh lf rt lk note hi It
      obtain ⟨x, hx1, hx2⟩ := hpl i (by omega)
      have xe : x ∈ e1 := List.mem_of_getElem? hx1
      have xg : (e1 ++ e2)[i]? = some x := by rw [List.getElem?_append_left (by omega)]; exact hx1
      have e5 : p + (m + 1) - i = p + m + 1 - i := by omega
      rw [e5] at hx2
      obtain ⟨J, hG, hL, hK⟩ := It
      obtain ⟨L1, K1⟩ := xt_L (k := 6) (a := x) (b := w) J.1 hL hK (by omega)
      have J1 := rp_con (k := 6) (a := x) (b := w) J (by omega) (Or.inr (mo_ns (m + 1) e1 e2 le1 x xe)) (Or.inl List.mem_cons_self) (fun _ _ E => ls_g i E) (fun _ st _ => ls_g 0 st) (fun ρ => ls_g_map xg) (fun ρ => rfl)
      refine br_f (by rw [nI_1]; exact nI_ge (by omega) (by omega)) ⟨vp_in_nI (by omega) (by decide), ?_⟩
      rw [nI_clamp (by omega), hx2]
      refine xw_new (by omega) ?_
      refine nm_r (e' := nI (p + m + 1 - (i + 1))) ?_ ?_
      · rw [show p + m + 1 - i = (p + m + 1 - (i + 1)) + 1 by omega, pk_m1]
      refine ih (i + 1) _ _ _ (n + i) _ _ _ _ _ (by omega) ⟨rp_cg (dv_arrs_s hl (by omega)) (rp_sel J1 (stk' := (n + i) :: stk) (fun _ st _ => ls_g 0 st :: st.drop 2) (fun y hy => ?_) (fun ρ => rfl)), xg_new (k := 6) hG (by omega), L1, K1⟩
      rcases List.mem_cons.mp hy with z | z
      · rw [z]; exact Or.inl List.mem_cons_self
      · exact Or.inl (List.mem_cons_of_mem _ (List.mem_cons_of_mem _ z))
  obtain ⟨J, hG, hL, hK⟩ := I
  have z := loop m 0 kd pa pb ct a_shape a_left a_right a_link a_note (by omega) ⟨rp_cg (dv_arrs_0 hl) J, hG, hL, hK⟩
  exact z
end
