/-! the component's nameFault, beginNodes, and typeFault as a whole -/
theorem dd_S {K mq : Nat → Nat} {c s p : Nat} {bs : List (Nat × Bool)} {fl : List Bool} {V : dv_W} (pre : dd_pre K mq c bs fl V s p) (hN : ∀ b, b ∈ bs → b.1 < c ∧ K b.1 = 3) : ∀ b, b ∈ dd_bs mq bs fl s p → b.1 < c ∧ K b.1 = 3 := by
  obtain ⟨pc, _, s80, s90, _, _, _, _, q85, q86, q87, q88, q89, q90⟩ := pre
  intro b hb
  have hs : s < 85 ∨ s = 85 ∨ s = 86 ∨ s = 87 ∨ s = 88 ∨ s = 89 ∨ s = 90 := by omega
  rcases hs with h | rfl | rfl | rfl | rfl | rfl | rfl
  · unfold dd_bs at hb
    rw [if_neg (by omega), if_neg (by omega), if_neg (by omega), if_neg (by omega), if_neg (by omega), if_neg (by omega)] at hb
    exact hN b hb
  · rw [eB_85] at hb
    rcases List.mem_cons.mp hb with z | z
    · rw [z]; exact ⟨(q85 rfl).1, (q85 rfl).2.1⟩
    · exact hN b z
  · rw [eB_86] at hb; exact hN b (List.mem_of_mem_drop hb)
  · rw [eB_87] at hb
    obtain ⟨a1, a2, _⟩ := q87 rfl
    rcases List.mem_append.mp hb with z | z
    · have := pd_ns_lt p (mq p) b z
      exact ⟨by omega, a1.2.2.1 b.1 (by omega) (by omega)⟩
    · exact hN b z
  · rw [eB_88] at hb
    obtain ⟨a1, a2, _⟩ := q88 rfl
    rcases List.mem_cons.mp hb with z | z
    · rw [z]
      exact ⟨by show p + 1 < c; omega, a1.2.2.1 (p + 1) (by omega) (by have := a1.1; omega)⟩
    · exact hN b (List.mem_of_mem_drop z)
  · rw [eB_89] at hb
    rcases List.mem_cons.mp hb with z | z
    · rw [z]; exact ⟨(q89 rfl).1, (q89 rfl).2.1⟩
    · exact hN b z
  · rw [eB_90] at hb; exact hN b (List.mem_of_mem_drop hb)
section
variable {f_tokenCount f_accepted f_lastPlace f_openCount f_draftOpen f_symbolCount f_stepCount f_bindingCount f_waitingCount f_clashPlace f_nodeCount f_todoCount : Int32} {a_kinds a_values a_declaredSize a_declaredNodes a_draftSize a_draftNodes a_symbols a_symbolPlaces a_steps a_stepPlaces a_bindings a_boundType a_waitingTypes a_waitingFirm a_shape a_left a_right a_link a_note a_todo a_todoOther a_generalNode : Nat → Int32}
variable {kd pa pb : Nat → Nat} {n K : Nat}
theorem xw_nf {post : Int32 → SX → Prop} {oc c : Nat} {N mq Kt : Nat → Nat} {dc : Nat → List Nat} {Dc : Nat → List tr_T → tr_T → Prop} {sp0 : pm_L} {Fin : List (Nat × Bool) → List Bool → Prop} (hT : tk_T a_kinds a_values c Kt N) (hD : xd_D oc dc a_declaredSize a_declaredNodes) (hsp : xs_S a_steps a_stepPlaces sp0) (hl60 : sp0.length ≤ 60) :
    ∀ (sp2 pre : pm_L) (bs : List (Nat × Bool)) (fl : List Bool) (V : dv_W) (x : Nat × Nat × Nat) (bd : Nat → Int32), sp0 = pre ++ sp2 → gd_ok Kt N mq Dc c Fin sp2 bs fl V x → bs_S bs → xb_P bd bs → (∀ b, b ∈ bs → b.1 < c ∧ Kt b.1 = 3) →
    (gn_N Kt N mq dc sp2 bs fl none → ∀ bc bd, post (-1) (nI c, f_accepted, f_lastPlace, f_openCount, f_draftOpen, f_symbolCount, nI sp0.length, bc, f_waitingCount, f_clashPlace, f_nodeCount, f_todoCount, a_kinds, a_values, a_declaredSize, a_declaredNodes, a_draftSize, a_draftNodes, a_symbols, a_symbolPlaces, a_steps, a_stepPlaces, bd, a_boundType, a_waitingTypes, a_waitingFirm, a_shape, a_left, a_right, a_link, a_note, a_todo, a_todoOther, a_generalNode)) →
    (∀ q, gn_N Kt N mq dc sp2 bs fl (some q) → q < 24 → ∀ bc bd, post (nI q) (nI c, f_accepted, f_lastPlace, f_openCount, f_draftOpen, f_symbolCount, nI sp0.length, bc, f_waitingCount, f_clashPlace, f_nodeCount, f_todoCount, a_kinds, a_values, a_declaredSize, a_declaredNodes, a_draftSize, a_draftNodes, a_symbols, a_symbolPlaces, a_steps, a_stepPlaces, bd, a_boundType, a_waitingTypes, a_waitingFirm, a_shape, a_left, a_right, a_link, a_note, a_todo, a_todoOther, a_generalNode)) →
    wX_nameFault_7 post (sp2.length + 1) (nI pre.length) (nI c) f_accepted f_lastPlace f_openCount f_draftOpen f_symbolCount (nI sp0.length) (nI bs.length) f_waitingCount f_clashPlace f_nodeCount f_todoCount a_kinds a_values a_declaredSize a_declaredNodes a_draftSize a_draftNodes a_symbols a_symbolPlaces a_steps a_stepPlaces bd a_boundType a_waitingTypes a_waitingFirm a_shape a_left a_right a_link a_note a_todo a_todoOther a_generalNode := by
  intro sp2
  have c24 := hT.1
  induction sp2 with
  | nil =>
    intro pre bs fl V x bd e g hS hP hN hok hbad
    rw [List.append_nil] at e
    subst e
    exact br_t (nI_le (by omega) (by omega)) (hok rfl _ _)
  | cons y sp2 ih =>
    obtain ⟨s, p⟩ := y
    intro pre bs fl V x bd e g hS hP hN hok hbad
    obtain ⟨pr, cst, g⟩ := g
    have ln : pre.length < sp0.length := by rw [e, List.length_append, List.length_cons]; omega
    have hi : sp0[pre.length]? = some (s, p) := by rw [e, List.getElem?_append_right (Nat.le_refl _), Nat.sub_self]; rfl
    obtain ⟨es, ep⟩ := hsp _ s p hi
    have e2 : sp0 = (pre ++ [(s, p)]) ++ sp2 := by rw [e, List.append_assoc]; rfl
    have l2 : (pre ++ [(s, p)]).length = pre.length + 1 := by rw [List.length_append]; rfl
    have vi : vp_in (nI pre.length) 64 := vp_in_nI (by omega) (by decide)
    have ci : (nI pre.length).toNatClampNeg = pre.length := nI_clamp (by omega)
    have pc := pr.1
    have s90 := pr.2.2.2.1
    have vp : vp_in (nI p) 24 := vp_in_nI (by omega) (by decide)
    have cp : (nI p).toNatClampNeg = p := nI_clamp (by omega)
    refine br_f (nI_ge ln (by omega)) ⟨vi, ?_⟩
    rw [ci, ep]
    refine nm_e ⟨vi, ?_⟩
    rw [es]
    refine xw_bau (V := V) (fl := fl) hT pr hS hP (fun bd' hS' hP' => ⟨vi, ?_⟩)
    rw [es]
    have next : ¬ (s = 80 ∧ Kt p = 3 ∧ bx_ix N bs (N p) = none ∧ dc (N p) = []) → ∀ x1 : Int32, x1 = nI pre.length + 1 → wX_nameFault_7 post (sp2.length + 1) x1 (nI c) f_accepted f_lastPlace f_openCount f_draftOpen f_symbolCount (nI sp0.length) (nI (dd_bs mq bs fl s p).length) f_waitingCount f_clashPlace f_nodeCount f_todoCount a_kinds a_values a_declaredSize a_declaredNodes a_draftSize a_draftNodes a_symbols a_symbolPlaces a_steps a_stepPlaces bd' a_boundType a_waitingTypes a_waitingFirm a_shape a_left a_right a_link a_note a_todo a_todoOther a_generalNode := by
      intro ne
      refine nm_r (nI_1 _) ?_
      rw [← l2]
      refine ih (pre ++ [(s, p)]) _ _ _ _ bd' e2 g hS' hP' (dd_S pr hN) (fun gn => hok ?_) (fun q gn => hbad q ?_)
      · unfold gn_N; rw [if_neg ne]; exact gn
      · unfold gn_N; rw [if_neg ne]; exact gn
    by_cases h80 : s = 80
    · subst h80
      obtain ⟨t1, t2, t3, _⟩ := hT.2.2 p pc
      refine br_t rfl ⟨vp, ?_⟩
      rw [cp, t1]
      refine pk_eq (Kt p) 3 (fun k3 => ⟨vp, ?_⟩) (fun k3 => next (fun z => k3 z.2.1))
      obtain ⟨v1, v2⟩ := t3 k3
      have bl := bs_len bs c hS (fun b hb => (hN b hb).1)
      rw [v1]
      refine xw_bindingOf (N := N) v2 bs (Nat.le_trans bl c24) hP' (fun b hb' => (hT.2.2 b.1 (hN b hb').1).2.2.1 (hN b hb').2) (fun j b hj hb' => ?_) (fun no => ?_)
      · have := (hN b (List.mem_of_getElem? hb')).1
        exact br_t (nI_pos' (by omega)) (next (fun z => by rw [hj] at z; cases z.2.2.1))
      · refine br_f (by decide) ⟨vp, ?_⟩
        refine ⟨vp_in_nI v2 (by decide), ?_⟩
        obtain ⟨d1, d2, _⟩ := hD (N p) v2
        rw [nI_clamp (by omega), d1]
        refine pk_eq (dc (N p)).length 0 (fun z => ?_) (fun z => next (fun q => z (by rw [q.2.2.2]; rfl)))
        refine hbad p ?_ (by omega) _ _
        unfold gn_N
        rw [if_pos ⟨rfl, k3, no, List.eq_nil_of_length_eq_zero z⟩]
    · exact br_f (fun z => h80 ((nI_eq (b := 80) (by omega) (by omega)).mp z)) (next (fun z => h80 z.1))
/-- a graph of free nodes alone -/
theorem xw_begin {post : SX → Prop} {oc gk : Nat} (hoc : oc ≤ 144) (hgk : gk < 30) (h : ∀ sh lf rt lk note, xg_G oc sh lf rt lk (fun _ => gk) (fun _ => 0) (fun _ => 0) → post (f_tokenCount, f_accepted, f_lastPlace, nI oc, f_draftOpen, f_symbolCount, f_stepCount, f_bindingCount, f_waitingCount, f_clashPlace, nI oc, f_todoCount, a_kinds, a_values, a_declaredSize, a_declaredNodes, a_draftSize, a_draftNodes, a_symbols, a_symbolPlaces, a_steps, a_stepPlaces, a_bindings, a_boundType, a_waitingTypes, a_waitingFirm, sh, lf, rt, lk, note, a_todo, a_todoOther, a_generalNode)) : wpX_beginNodes post (f_tokenCount, f_accepted, f_lastPlace, nI oc, f_draftOpen, f_symbolCount, f_stepCount, f_bindingCount, f_waitingCount, f_clashPlace, f_nodeCount, f_todoCount, a_kinds, a_values, a_declaredSize, a_declaredNodes, a_draftSize, a_draftNodes, a_symbols, a_symbolPlaces, a_steps, a_stepPlaces, a_bindings, a_boundType, a_waitingTypes, a_waitingFirm, a_shape, a_left, a_right, a_link, a_note, a_todo, a_todoOther, a_generalNode) (nI gk) := by
  unfold wpX_beginNodes
  refine ⟨oc + 1, ?_⟩
  have loop : ∀ d i sh lf rt lk note, i + d = oc → xg_G i sh lf rt lk (fun _ => gk) (fun _ => 0) (fun _ => 0) → wX_beginNodes_7 post (nI gk) (d + 1) (nI i) f_tokenCount f_accepted f_lastPlace (nI oc) f_draftOpen f_symbolCount f_stepCount f_bindingCount f_waitingCount f_clashPlace (nI i) f_todoCount a_kinds a_values a_declaredSize a_declaredNodes a_draftSize a_draftNodes a_symbols a_symbolPlaces a_steps a_stepPlaces a_bindings a_boundType a_waitingTypes a_waitingFirm sh lf rt lk note a_todo a_todoOther a_generalNode := by
    intro d
    induction d with
    | zero =>
      intro i sh lf rt lk note hi hG
      have e : i = oc := by omega
      subst e
      exact br_t (nI_le (by omega) (by omega)) (h sh lf rt lk note hG)
    | succ d ih =>
      intro i sh lf rt lk note hi hG
      refine br_f (nI_ge (by omega) (by omega)) ?_
      refine xw_new (by omega) (nm_r (nI_1 i) (ih (i + 1) _ _ _ _ _ (by omega) ?_))
      intro j hj
      by_cases c : j = i
      · subst c
        rw [pk_us, pk_us, pk_us, pk_us]
        exact Or.inr ⟨by show gk ≠ 1000; omega, hgk, rfl, rfl, fun _ => ⟨rfl, rfl⟩⟩
      · rw [pk_un c, pk_un c, pk_un c, pk_un c]
        rcases hG j (by omega) with z | z
        · exact (by omega : ¬ gk = 1000) z.1 |>.elim
        · exact Or.inr z
  exact loop oc 0 _ _ _ _ _ (by omega) (fun i hi => by omega)
end
theorem gr_0 {oc gk : Nat} (hgk : gk = 7 ∨ gk = 9) : gr_W oc (fun _ => gk) (fun _ => 0) (fun _ => 0) ∧ gr_A oc (fun _ => gk) (fun _ => 0) (fun _ => 0) ∧ gr_L oc (fun _ => gk) (fun _ => 0) 0 ∧ 0 + gr_nr (fun _ => gk) oc ≤ oc := by
  have k1 : ¬ gk = 1000 := by omega
  have k2 : ¬ gr_cn gk := by omega
  refine ⟨fun i _ => ⟨fun z => (k1 z).elim, fun z => (k2 z).elim⟩, fun i _ => gr_H_i (fun z => (k1 z).elim) (fun z => (k2 z).elim), fun i _ => k1, ?_⟩
  have := gr_nr_le (kd := fun _ => gk) oc
  omega
theorem rp_0 {oc : Nat} : rp_I oc 0 oc (fun _ => 7) (fun _ => 0) (fun _ => 0) (List.range oc) [] [] [] (fun ν st E => ν.length = oc ∧ st = [] ∧ E = []) := by
  obtain ⟨W, A, _, _⟩ := gr_0 (oc := oc) (gk := 7) (Or.inl rfl)
  have C : gr_C oc (fun _ => 7) (fun _ => 0) (fun _ => 0) (fun i => i < oc) := fun i hi => ⟨hi, fun z => absurd z (by decide : ¬ (7 : Nat) = 1000), fun z => absurd z (by decide : ¬ gr_cn 7)⟩
  refine ⟨W, A, ⟨fun i => i < oc, fun i => i < oc, ⟨C, fun i _ => (by decide : (7 : Nat) ≠ 8), fun x hx => List.mem_range.mp hx, fun x hx => (by cases hx), fun x hx => (by cases hx)⟩, C, fun i h => h, fun x hx => (by cases hx), fun i h h' => (h' h).elim⟩, fun x hx => (by cases hx), rfl, trivial, fun ν st E => ?_⟩
  constructor
  · intro ⟨e1, e2, e3⟩
    refine ⟨fun i => ν.getD i (tr_at 0), gr_Vi (fun i hi => ⟨fun z => absurd z (by decide : ¬ (7 : Nat) = 1000), fun z => absurd z (by decide : ¬ gr_cn 7), fun _ _ z => (z (Or.inl rfl)).elim⟩), ?_, by rw [e2]; rfl, by rw [e3]; rfl⟩
    refine List.ext_getElem? (fun i => ?_)
    rw [List.getElem?_map]
    by_cases h : i < oc
    · rw [List.getElem?_range h, List.getElem?_eq_getElem (by omega)]
      simp [List.getD_eq_getElem?_getD, List.getElem?_eq_getElem (by omega : i < ν.length)]
    · rw [List.getElem?_eq_none (by rw [List.length_range]; omega), List.getElem?_eq_none (by omega)]
      rfl
  · intro ⟨ρ, h, e1, e2, e3⟩
    refine ⟨by rw [← e1, List.length_map, List.length_range], e2.symm, e3.symm⟩
