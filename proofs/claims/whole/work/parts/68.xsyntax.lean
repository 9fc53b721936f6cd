/-! the component's syntaxFault is M's run -/
theorem xm_turn {K : Nat → Nat} {c a s p : Nat} {R sp : pm_L} (hK : ∀ i, c ≤ i → K i = 99) (hc : c ≤ 24) (ha : a ≤ c) (h1 : R.length + 22 < 500) (h2 : sp.length ≤ 57) (hl : lg_1 (s, p)) : xm_T 60 K s p a R sp := by
  unfold lg_1 at hl
  dsimp only at hl
  rcases hl with ⟨q1, q2⟩ | q | rfl | rfl | rfl | rfl | rfl | rfl | rfl | rfl | rfl | rfl | rfl | rfl | rfl | rfl | rfl | rfl
  · exact xm_38 q1 q2 (by omega) (by omega) h2
  · exact xm_80 q (by omega) (by omega) h2
  · exact xm_decl hK hc ha (by omega) h2
  · exact xm_expr hK hc ha (by omega) h2
  · exact xm_44 hK hc ha (by omega) h2
  · exact xm_45 hK hc ha (by omega) h2
  · exact xm_46 (by omega) (by omega) h2
  · exact xm_47 (by omega) (by omega) h2
  · exact xm_50 hK hc ha (by omega) h2
  · exact xm_51 hK hc ha (by omega) h2
  · exact xm_52 hK hc ha (by omega) h2
  · exact xm_53 hK hc ha (by omega) h2
  · exact xm_54 hK hc ha h1 h2
  · have z := xm_atom (p := p) (R := R) (sp := sp) hK hc ha (by omega) h2
    refine ⟨fun a' l w h => ?_, fun a' h => ?_⟩
    · obtain ⟨n, hn, r⟩ := z.1 a' l w h
      exact ⟨n, by omega, r⟩
    · obtain ⟨n, ss1, hn, r⟩ := z.2 a' h
      exact ⟨n, ss1, by omega, r⟩
  · exact xm_60 hK hc ha (by omega) h2
  · exact xm_61 hK hc ha (by omega) h2
  · exact xm_62 hK hc ha (by omega) h2
  · exact xm_63 hK hc ha (by omega) h2
theorem pm_h5_a {l ss : pm_L} (h : pm_h5 l ≤ 5) : pm_h5 l ≤ pm_h5 (l ++ ss) := by
  cases l with
  | nil => exact Nat.zero_le _
  | cons x l => exact Nat.le_refl _
theorem pm_h5_le (ss : pm_L) : pm_h5 ss ≤ 5 := by
  cases ss with
  | nil => exact Nat.zero_le _
  | cons x ss =>
    show (if x.1 = 55 ∨ x.1 = 63 then 5 else 0) ≤ 5
    by_cases c : x.1 = 55 ∨ x.1 = 63
    · rw [if_pos c]; omega
    · rw [if_neg c]; omega
theorem xm_run {K : Nat → Nat} {c : Nat} (hK : ∀ i, c ≤ i → K i = 99) (hc : c ≤ 24) : ∀ f ss a sp a' sp' b, pm_go K f ss a sp = some (a', sp', b) → a ≤ c → lg_L ss → pm_ys ss ≤ 1 + 9 * a + pm_h5 ss → sp.length + pm_cs ss ≤ 2 * a → ∃ n, n ≤ 60 * f ∧ ((b = true ∧ xr_R K n (xm_L ss) a sp [] a' sp') ∨ (b = false ∧ ∃ ss1, xr_R K n (xm_L ss) a sp ss1 a' sp' ∧ xr_F K ss1 a')) ∧ sp'.length ≤ 48 ∧ (b = true → a' ≤ c) := by
  intro f
  induction f with
  | zero => intro ss a sp a' sp' b h; cases h
  | succ f ih =>
    intro ss a sp a' sp' b hgo ha lg hy hcs
    cases ss with
    | nil =>
      unfold pm_go at hgo
      simp at hgo
      obtain ⟨rfl, rfl, rfl⟩ := hgo
      exact ⟨0, by omega, Or.inl ⟨rfl, rfl, rfl, rfl⟩, by omega, fun _ => ha⟩
    | cons y ss =>
      obtain ⟨s, p⟩ := y
      have h5 := pm_h5_le ((s, p) :: ss)
      have el : (xm_L ss).length = pm_ys ss := xm_len ss
      have ey : pm_ys ((s, p) :: ss) = pm_y s + pm_ys ss := rfl
      have ec : pm_cs ((s, p) :: ss) = pm_c s + pm_cs ss := rfl
      have T := xm_turn (R := xm_L ss) (sp := sp) hK hc ha (by omega) (by omega) lg.1
      unfold pm_go at hgo
      cases e : (pm_turn K s p a).2 with
      | none =>
        rw [e] at hgo
        simp at hgo
        obtain ⟨rfl, rfl, rfl⟩ := hgo
        obtain ⟨n, ss1, hn, r, q⟩ := T.2 (pm_turn K s p a).1 (by rw [← e])
        exact ⟨n, by omega, Or.inr ⟨rfl, ss1, r, q⟩, by omega, fun z => by cases z⟩
      | some q =>
        obtain ⟨l, w⟩ := q
        rw [e] at hgo
        simp only at hgo
        have ht : pm_turn K s p a = ((pm_turn K s p a).1, some (l, w)) := by rw [← e]
        have nN := pm_N_turn hK hc ha ht
        obtain ⟨n1, n2, _, _, n5, n6⟩ := nN
        have lgl := lg_turn ht
        obtain ⟨n, hn, r⟩ := T.1 _ l w ht
        have h5a : pm_h5 l ≤ pm_h5 (l ++ ss) := pm_h5_a (pm_h5_le l)
        have h55 : pm_h5 ((s, p) :: ss) = if s = 55 ∨ s = 63 then 5 else 0 := rfl
        obtain ⟨m, hm, z, z2, z3⟩ := ih (l ++ ss) (pm_turn K s p a).1 (sp ++ w) a' sp' b hgo n2 (lg_a _ _ lgl lg.2) (by rw [pm_ys_a]; omega) (by rw [List.length_append, pm_cs_a]; omega)
        rw [xm_app] at z
        refine ⟨n + m, by omega, ?_, z2, z3⟩
        rcases z with ⟨z1, z⟩ | ⟨z1, ss1, z, zf⟩
        · exact Or.inl ⟨z1, xr_t r z⟩
        · exact Or.inr ⟨z1, ss1, xr_t r z, zf⟩
section
variable {f_tokenCount f_accepted f_lastPlace f_openCount f_draftOpen f_symbolCount f_stepCount f_bindingCount f_waitingCount f_clashPlace f_nodeCount f_todoCount : Int32} {a_kinds a_values a_declaredSize a_declaredNodes a_draftSize a_draftNodes a_symbols a_symbolPlaces a_steps a_stepPlaces a_bindings a_boundType a_waitingTypes a_waitingFirm a_shape a_left a_right a_link a_note a_todo a_todoOther a_generalNode : Nat → Int32}
theorem xs_app {sts pls : Nat → Int32} {sp : pm_L} {s p : Nat} (h : xs_S sts pls sp) : xs_S (upd sts sp.length (nI s)) (upd pls sp.length (nI p)) (sp ++ [(s, p)]) := by
  intro i s' p' hi
  by_cases l : i < sp.length
  · rw [List.getElem?_append_left l] at hi
    rw [pk_un (by omega), pk_un (by omega)]; exact h i s' p' hi
  · rw [List.getElem?_append_right (by omega)] at hi
    have e : i = sp.length := by
      by_cases q : i - sp.length = 0
      · omega
      · obtain ⟨w, hw⟩ : ∃ w, i - sp.length = w + 1 := ⟨i - sp.length - 1, by omega⟩
        rw [hw] at hi
        cases hi
    subst e
    rw [Nat.sub_self] at hi
    simp at hi
    rw [pk_us, pk_us, hi.1, hi.2]; exact ⟨rfl, rfl⟩
theorem xw_mic {post : Int32 → SX → Prop} {c m a' : Nat} {Kt N : Nat → Nat} {ss' sp' : pm_L} (hT : tk_T a_kinds a_values c Kt N) : ∀ n ss a sp i sy pl sts spl, xr_R Kt n ss a sp ss' a' sp' → st_2 sy pl ss → xs_S sts spl sp → i + n < 100000 → (∀ sy pl sts spl, st_2 sy pl ss' → xs_S sts spl sp' → wX_syntaxFault_20 post m (nI a') (nI (i + n)) (nI c) f_accepted f_lastPlace f_openCount f_draftOpen (nI ss'.length) (nI sp'.length) f_bindingCount f_waitingCount f_clashPlace f_nodeCount f_todoCount a_kinds a_values a_declaredSize a_declaredNodes a_draftSize a_draftNodes sy pl sts spl a_bindings a_boundType a_waitingTypes a_waitingFirm a_shape a_left a_right a_link a_note a_todo a_todoOther a_generalNode) → wX_syntaxFault_20 post (m + n) (nI a) (nI i) (nI c) f_accepted f_lastPlace f_openCount f_draftOpen (nI ss.length) (nI sp.length) f_bindingCount f_waitingCount f_clashPlace f_nodeCount f_todoCount a_kinds a_values a_declaredSize a_declaredNodes a_draftSize a_draftNodes sy pl sts spl a_bindings a_boundType a_waitingTypes a_waitingFirm a_shape a_left a_right a_link a_note a_todo a_todoOther a_generalNode := by
  intro n
  induction n with
  | zero =>
    intro ss a sp i sy pl sts spl h hst hsp _ k
    obtain ⟨rfl, rfl, rfl⟩ := h
    exact k sy pl sts spl hst hsp
  | succ n ih =>
    intro ss a sp i sy pl sts spl h hst hsp hi k
    obtain ⟨s, p, r, e, b1, b2, b3, lg, q⟩ := h
    subst e
    rw [List.length_cons] at b1
    have k' : ∀ sy pl sts spl, st_2 sy pl ss' → xs_S sts spl sp' → wX_syntaxFault_20 post m (nI a') (nI (i + 1 + n)) (nI c) f_accepted f_lastPlace f_openCount f_draftOpen (nI ss'.length) (nI sp'.length) f_bindingCount f_waitingCount f_clashPlace f_nodeCount f_todoCount a_kinds a_values a_declaredSize a_declaredNodes a_draftSize a_draftNodes sy pl sts spl a_bindings a_boundType a_waitingTypes a_waitingFirm a_shape a_left a_right a_link a_note a_todo a_todoOther a_generalNode := fun sy pl sts spl q1 q2 => by
      have z := k sy pl sts spl q1 q2
      rw [show i + (n + 1) = i + 1 + n by omega] at z
      exact z
    have s91 : s < 91 := by unfold xg_leg at lg; omega
    refine br_f (nI_ge (b := 100000) (by omega) (by decide)) (br_f (nI_nle (by rw [List.length_cons]; omega) (by rw [List.length_cons]; omega)) ?_)
    rw [List.length_cons, nI_pred]
    refine nm_e ⟨vp_in_nI (by omega) (by decide), ?_⟩
    rw [nI_clamp (by omega), hst.1]
    refine nm_e ?_
    rcases q with ⟨q1, q2⟩ | ⟨q1, q2, q3⟩ | ⟨q1, q2, l, q3, q4⟩
    · refine br_f (nI_nlt (b := 80) q1 (by omega)) ⟨vp_in_nI (by omega) (by decide), ?_⟩
      rw [hst.2.1]
      unfold wpX_writeStep
      refine br_f (nI_ge (b := 64) (by omega) (by decide)) ⟨vp_in_nI (by omega) (by decide), ?_⟩
      rw [nI_clamp (by omega)]
      refine nm_e ⟨vp_in_nI (by omega) (by decide), nm_e (nm_r (nI_1 _) (nm_r (nI_1 i) ?_))⟩
      have z := ih r a (sp ++ [(s, p)]) (i + 1) sy pl _ _ q2 hst.2.2 (xs_app hsp) (by omega) k'
      rw [List.length_append] at z
      exact z
    · refine br_t (nI_lt (b := 80) (by omega) (by decide)) (br_t (nI_lt (b := 38) q1 (by decide)) ?_)
      refine xw_kind hT (by omega) ?_
      rw [xe_v_eq q2 q1]
      exact br_t rfl (nm_r (nI_1 a) (nm_r (nI_1 i) (ih r (a + 1) sp (i + 1) sy pl sts spl q3 hst.2.2 hsp (by omega) k')))
    · refine br_t (nI_lt (b := 80) q2 (by decide)) (br_f (nI_nlt (b := 38) q1 (by omega)) ?_)
      refine xw_expand hT (by omega) hst.2.2 (by omega) (by unfold xg_leg at lg; omega) (fun l' hl' sy' pl' hst' => ?_) (fun no => by rw [no] at q3; cases q3)
      rw [q3] at hl'
      cases hl'
      exact br_f (by decide) (nm_r (nI_1 i) (ih (l ++ r) a sp (i + 1) sy' pl' sts spl q4 hst' hsp (by omega) k'))
/-- syntaxFault: sp the steps of M's run -/
theorem xw_syntax {post : Int32 → SX → Prop} {c f goal a' : Nat} {Kt N : Nat → Nat} {sp' : pm_L} {b : Bool} (hT : tk_T a_kinds a_values c Kt N) (hg : goal = 40 ∨ goal = 45) (hgo : pm_go Kt f [(goal, 0)] 0 [] = some (a', sp', b)) (hf : f ≤ 1000)
    (h1 : b = true → a' = c → sp'.length ≤ 48 → ∀ sc sy pl sts spl, xs_S sts spl sp' → post (-1) (nI c, f_accepted, f_lastPlace, f_openCount, f_draftOpen, sc, nI sp'.length, f_bindingCount, f_waitingCount, f_clashPlace, f_nodeCount, f_todoCount, a_kinds, a_values, a_declaredSize, a_declaredNodes, a_draftSize, a_draftNodes, sy, pl, sts, spl, a_bindings, a_boundType, a_waitingTypes, a_waitingFirm, a_shape, a_left, a_right, a_link, a_note, a_todo, a_todoOther, a_generalNode))
    (h0 : (b = false ∨ a' < c) → ∀ sc stc sy pl sts spl, post (nI a') (nI c, f_accepted, f_lastPlace, f_openCount, f_draftOpen, sc, stc, f_bindingCount, f_waitingCount, f_clashPlace, f_nodeCount, f_todoCount, a_kinds, a_values, a_declaredSize, a_declaredNodes, a_draftSize, a_draftNodes, sy, pl, sts, spl, a_bindings, a_boundType, a_waitingTypes, a_waitingFirm, a_shape, a_left, a_right, a_link, a_note, a_todo, a_todoOther, a_generalNode)) : wpX_syntaxFault post (nI c, f_accepted, f_lastPlace, f_openCount, f_draftOpen, f_symbolCount, f_stepCount, f_bindingCount, f_waitingCount, f_clashPlace, f_nodeCount, f_todoCount, a_kinds, a_values, a_declaredSize, a_declaredNodes, a_draftSize, a_draftNodes, a_symbols, a_symbolPlaces, a_steps, a_stepPlaces, a_bindings, a_boundType, a_waitingTypes, a_waitingFirm, a_shape, a_left, a_right, a_link, a_note, a_todo, a_todoOther, a_generalNode) (nI goal) := by
  have c24 := hT.1
  obtain ⟨n, hn, z, z2, z3⟩ := xm_run hT.2.1 c24 f _ _ _ _ _ _ hgo (Nat.zero_le _) ⟨by unfold lg_1; show (goal < 38 ∧ 0 = 0) ∨ _; dsimp only; omega, trivial⟩ (by rcases hg with rfl | rfl <;> simp [pm_ys, pm_y, pm_h5]) (by rcases hg with rfl | rfl <;> simp [pm_cs, pm_c])
  have ex : xm_L [(goal, 0)] = [(goal, 0)] := by
    rcases hg with rfl | rfl
    · rfl
    · rfl
  rw [ex] at z
  unfold wpX_syntaxFault
  refine xw_exp (ss := []) (p := 0) (by decide) trivial (fun sy pl hst => ⟨1 + n, ?_⟩)
  have hsp0 : xs_S a_steps a_stepPlaces [] := fun i s p h => by cases h
  rcases z with ⟨zb, z⟩ | ⟨zb, ss1, z, zf⟩
  · refine xw_mic (m := 1) hT n _ 0 [] 0 sy pl _ _ z hst hsp0 (by omega) (fun sy pl sts spl _ hs => ?_)
    refine br_f (nI_ge (b := 100000) (by omega) (by decide)) (br_t (nI_le (a := 0) (b := 0) (by omega) (by omega)) ?_)
    have := z3 zb
    refine pk_le c a' (fun q => h1 zb (by omega) z2 _ _ _ _ _ hs) (fun q => h0 (Or.inr q) _ _ _ _ _ _)
  · refine xw_mic (m := 1) hT n _ 0 [] 0 sy pl _ _ z hst hsp0 (by omega) (fun sy pl sts spl hst1 hs => ?_)
    obtain ⟨s, p, r, e, b1, b3, lg, q⟩ := zf
    subst e
    rw [List.length_cons] at b1
    refine br_f (nI_ge (b := 100000) (by omega) (by decide)) (br_f (nI_nle (by rw [List.length_cons]; omega) (by rw [List.length_cons]; omega)) ?_)
    rw [List.length_cons, nI_pred]
    refine nm_e ⟨vp_in_nI (by omega) (by decide), ?_⟩
    rw [nI_clamp (by omega), hst1.1]
    refine nm_e ?_
    have hk : Kt a' < 38 ∨ Kt a' = 99 := by
      by_cases q : a' < c
      · exact Or.inl (hT.2.2 a' q).2.1
      · exact Or.inr (hT.2.1 a' (by omega))
    rcases q with ⟨q1, q2⟩ | ⟨q1, q2, q3⟩
    · refine br_t (nI_lt (b := 80) (by omega) (by decide)) (br_t (nI_lt (b := 38) q1 (by decide)) ?_)
      refine xw_kind hT (by omega) ?_
      exact br_f (xe_v_ne hk q2 q1) (h0 (Or.inl zb) _ _ _ _ _ _)
    · refine br_t (nI_lt (b := 80) q2 (by decide)) (br_f (nI_nlt (b := 38) q1 (by omega)) ?_)
      refine xw_expand hT (by omega) hst1.2.2 (by omega) (by unfold xg_leg at lg; omega) (fun l' hl' sy' pl' hst' => by rw [q3] at hl'; cases hl') (fun no => ?_)
      exact br_t rfl (h0 (Or.inl zb) _ _ _ _ _ _)
end
