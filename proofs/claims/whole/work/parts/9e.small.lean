/-! init, token, wipe, place, reset, size -/
theorem tk_p {ks vs : Nat → Int32} {c j m : Nat} {K N : Nat → Nat} {x : Int32} (T : tk_T ks vs c K N) (hc : c < 24) (hj : j < 38) (h3 : j = 3 → x = nI m ∧ m < 12) (h35 : j = 35 → x = nI m ∧ m < 4) : tk_T (upd ks c (nI j)) (upd vs c x) (c + 1) (gr_u K c j) (gr_u N c m) := by
  obtain ⟨t1, t2, t3⟩ := T
  refine ⟨by omega, fun i hi => by rw [gr_un (by omega)]; exact t2 i (by omega), fun i hi => ?_⟩
  by_cases e : i = c
  · subst e
    rw [pk_us, pk_us, gr_us, gr_us]
    exact ⟨rfl, hj, h3, h35⟩
  · rw [pk_un e, pk_un e, gr_un e, gr_un e]
    exact t3 i (by omega)
theorem tk_byte {j : Nat} (h : j < 38) : vp_nar .byte (nI j).toInt8.toInt32 = nI j := by
  have : ∀ j : Fin 38, vp_nar .byte (nI j.val).toInt8.toInt32 = nI j.val := by decide +kernel
  exact this ⟨j, h⟩
def r_0 : Nat → Nat := fun _ => 0
def r_g : Nat → tr_T := fun _ => tr_at 0
theorem ky_L0 (v : Nat) : ky_L r_0 r_g v = [] := if_pos rfl
theorem ky_S0 : ∀ v, nm_S (ky_c r_0) (ky_L r_0 r_g) v = [] := by
  intro v
  induction v with
  | zero => rfl
  | succ v ih =>
    show nm_so (ky_c r_0) (nm_S (ky_c r_0) (ky_L r_0 r_g) v) (ky_L r_0 r_g v) = []
    rw [ih, ky_L0]; rfl
theorem ky_o0 : ky_o r_0 r_0 r_g = [] := by
  unfold ky_o
  rw [ky_S0]; rfl
theorem ky_d0 (v : Nat) : ky_d r_0 r_0 r_g v = [] := by
  unfold ky_d nm_d
  rw [ky_L0]; rfl
theorem ky_K0 : ky_K 0 r_0 r_0 r_0 r_0 r_0 r_0 r_g := by
  refine ⟨fun i hi => by omega, fun i hi => by omega, fun i hi => by omega, fun i hi => by omega, fun i hi => by omega, fun i hi => by omega, by omega, fun v hv => ⟨Nat.le_refl _, Nat.zero_le _, Nat.le_refl _, ?_, fun z => (z rfl).elim, fun i h1 h2 => ?_⟩, fun S _ _ i hi => by omega⟩
  · rw [ky_L0]; exact Nat.zero_le _
  · have : i < 0 := h2
    omega
theorem ky_X0 : ky_X r_0 r_0 r_g := by
  intro v w j _ _ _ h
  rw [ky_L0] at h
  cases h
/-- nothing declared -/
theorem r_R0 {c : Nat} {lp : Int32} {ks vs sz nd ks' vs' qk qa qb ra : Nat → Int32} {K N : Nat → Nat} (T1 : tk_T ks vs c K N) (T2 : tk_T ks' vs' c K N) (h1 : ∀ v, v < 12 → sz v = 0) (h2 : ∀ v, v < 12 → ra v = -1) : r_R (nI c) 0 lp 0 ks vs sz nd (nI c) 0 lp 0 ks' vs' qk qa qb ra := by
  refine ⟨c, 0, K, N, 0, r_0, r_0, r_0, r_0, r_0, r_0, r_g, rfl, rfl, rfl, rfl, by omega, rfl, T1, T2, rfl, by rw [ky_o0]; rfl, fun v hv => ?_, ky_K0, ky_X0, fun i hi => by omega, fun v hv => by rw [h2 v hv]; rfl⟩
  rw [ky_d0]
  exact ⟨h1 v hv, Nat.zero_le _, fun z => (z rfl).elim, fun k x hx => by cases hx⟩
theorem i_vc0 : wpX_init (fun u => wpY_init (fun v => i_Rel 0 u v)) := by
  unfold wpX_init wpY_init
  refine ⟨13, ?_⟩
  have loop : ∀ d j ra, j + d = 12 → (∀ i, i < j → ra i = -1) → wY_init_244 (fun v => i_Rel 0 (0, 0, (-1), 0, 0, 0, 0, 0, 0, (-1), 0, 0, (fun _ => 0), (fun _ => 0), (fun _ => 0), (fun _ => 0), (fun _ => 0), (fun _ => 0), (fun _ => 0), (fun _ => 0), (fun _ => 0), (fun _ => 0), (fun _ => 0), (fun _ => 0), (fun _ => 0), (fun _ => 0), (fun _ => 0), (fun _ => 0), (fun _ => 0), (fun _ => 0), (fun _ => 0), (fun _ => 0), (fun _ => 0), (fun _ => 0)) v) 0 0 (-1) 0 0 0 0 0 0 (-1) (-1) 0 0 0 0 (d + 1) (nI j) (fun _ => 0) (fun _ => 0) (fun _ => 0) (fun _ => 0) (fun _ => 0) ra (fun _ => 0) (fun _ => 0) (fun _ => 0) (fun _ => 0) (fun _ => 0) (fun _ => 0) (fun _ => 0) (fun _ => 0) (fun _ => 0) (fun _ => 0) (fun _ => 0) (fun _ => 0) (fun _ => 0) := by
    intro d
    induction d with
    | zero =>
      intro j ra hj hr
      have e : j = 12 := by omega
      subst e
      exact br_t (Int32.le_refl _) (r_R0 (c := 0) tk_0 tk_0 (fun _ _ => rfl) hr)
    | succ d ih =>
      intro j ra hj hr
      refine br_f (nI_ge (b := 12) (by omega) (by decide)) ⟨vp_in_nI (by omega) (by decide), ?_⟩
      rw [nI_clamp (by omega)]
      refine nm_e (nm_r (nI_1 j) (ih (j + 1) _ (by omega) (fun i hi => ?_)))
      by_cases c : i = j
      · subst c; rw [pk_us]; rfl
      · rw [pk_un c]; exact hr i (by omega)
  exact loop 12 0 _ (by omega) (fun i hi => by omega)
theorem i_vc_wipe {k : Nat} {u : SX} {v : SY} (I : i_Rel k u v) (hk : k + 3 ≤ 1536) : wpX_wipe (fun r u' => wpY_wipe (fun r' v' => r' = r ∧ i_Rel (k + 3) u' v') v) u := by
  obtain ⟨f_tokenCount, f_accepted, f_lastPlace, f_openCount, f_draftOpen, f_symbolCount, f_stepCount, f_bindingCount, f_waitingCount, f_clashPlace, f_nodeCount, f_todoCount, a_kinds, a_values, a_declaredSize, a_declaredNodes, a_draftSize, a_draftNodes, a_symbols, a_symbolPlaces, a_steps, a_stepPlaces, a_bindings, a_boundType, a_waitingTypes, a_waitingFirm, a_shape, a_left, a_right, a_link, a_note, a_todo, a_todoOther, a_generalNode⟩ := u
  obtain ⟨f_count2, f_accepted2, f_place2, f_kept2, f_nodes2, f_tt2, f_pos2, f_bad2, f_typing2, f_unbound2, f_clash2, f_top2, f_scope2, f_doneName2, f_doneType2, a_kind2, a_value2, a_keptKind2, a_keptA2, a_keptB2, a_root2, a_what2, a_partA2, a_partB2, a_mark2, a_twin2, a_walk2, a_pairs2, a_now2, a_todo2, a_types2, a_firm2, a_bound2, a_boundType2⟩ := v
  obtain ⟨c, ac, K, N, kc, kk, ka, kb, rt, lo, hi, g, e1, e2, e3, e4, hac, e5, T1, T2, e6, e7, D, H, HX, G, R⟩ := I
  exact ⟨by rw [e2, e1], 0, ac, _, _, kc, kk, ka, kb, rt, lo, hi, g, rfl, rfl, e3, e4, hac, e5, tk_0, tk_0, e6, e7, D, H, HX, G, R⟩
theorem i_vc_place {k : Nat} {u : SX} {v : SY} (I : i_Rel k u v) (hk : k + 3 ≤ 1536) : wpX_place (fun r => wpY_place (fun r' => r' = r ∧ i_Rel (k + 3) u v) v) u := by
  obtain ⟨f_tokenCount, f_accepted, f_lastPlace, f_openCount, f_draftOpen, f_symbolCount, f_stepCount, f_bindingCount, f_waitingCount, f_clashPlace, f_nodeCount, f_todoCount, a_kinds, a_values, a_declaredSize, a_declaredNodes, a_draftSize, a_draftNodes, a_symbols, a_symbolPlaces, a_steps, a_stepPlaces, a_bindings, a_boundType, a_waitingTypes, a_waitingFirm, a_shape, a_left, a_right, a_link, a_note, a_todo, a_todoOther, a_generalNode⟩ := u
  obtain ⟨f_count2, f_accepted2, f_place2, f_kept2, f_nodes2, f_tt2, f_pos2, f_bad2, f_typing2, f_unbound2, f_clash2, f_top2, f_scope2, f_doneName2, f_doneType2, a_kind2, a_value2, a_keptKind2, a_keptA2, a_keptB2, a_root2, a_what2, a_partA2, a_partB2, a_mark2, a_twin2, a_walk2, a_pairs2, a_now2, a_todo2, a_types2, a_firm2, a_bound2, a_boundType2⟩ := v
  obtain ⟨c, ac, K, N, kc, kk, ka, kb, rt, lo, hi, g, e1, e2, e3, e4, hac, e5, T1, T2, e6, e7, D, H, HX, G, R⟩ := I
  exact ⟨e5.symm, c, ac, K, N, kc, kk, ka, kb, rt, lo, hi, g, e1, e2, e3, e4, hac, e5, T1, T2, e6, e7, D, H, HX, G, R⟩
theorem i_vc_reset {k : Nat} {u : SX} {v : SY} (I : i_Rel k u v) (hk : k + 3 ≤ 1536) : wpX_reset (fun r u' => wpY_reset (fun r' v' => r' = r ∧ i_Rel (k + 3) u' v') v) u := by
  obtain ⟨f_tokenCount, f_accepted, f_lastPlace, f_openCount, f_draftOpen, f_symbolCount, f_stepCount, f_bindingCount, f_waitingCount, f_clashPlace, f_nodeCount, f_todoCount, a_kinds, a_values, a_declaredSize, a_declaredNodes, a_draftSize, a_draftNodes, a_symbols, a_symbolPlaces, a_steps, a_stepPlaces, a_bindings, a_boundType, a_waitingTypes, a_waitingFirm, a_shape, a_left, a_right, a_link, a_note, a_todo, a_todoOther, a_generalNode⟩ := u
  obtain ⟨f_count2, f_accepted2, f_place2, f_kept2, f_nodes2, f_tt2, f_pos2, f_bad2, f_typing2, f_unbound2, f_clash2, f_top2, f_scope2, f_doneName2, f_doneType2, a_kind2, a_value2, a_keptKind2, a_keptA2, a_keptB2, a_root2, a_what2, a_partA2, a_partB2, a_mark2, a_twin2, a_walk2, a_pairs2, a_now2, a_todo2, a_types2, a_firm2, a_bound2, a_boundType2⟩ := v
  obtain ⟨c, ac, K, N, kc, kk, ka, kb, rt, lo, hi, g, e1, e2, e3, e4, hac, e5, T1, T2, e6, e7, D, H, HX, G, R⟩ := I
  subst e1 e2 e5
  have loopX : ∀ d j sz, j + d = 12 → (∀ i, i < j → sz i = 0) → wX_reset_17 (fun r u' => wpY_reset (fun r' v' => r' = r ∧ i_Rel (k + 3) u' v') (nI c, f_accepted2, f_lastPlace, f_kept2, f_nodes2, f_tt2, f_pos2, f_bad2, f_typing2, f_unbound2, f_clash2, f_top2, f_scope2, f_doneName2, f_doneType2, a_kind2, a_value2, a_keptKind2, a_keptA2, a_keptB2, a_root2, a_what2, a_partA2, a_partB2, a_mark2, a_twin2, a_walk2, a_pairs2, a_now2, a_todo2, a_types2, a_firm2, a_bound2, a_boundType2)) f_accepted (nI c) 0 f_lastPlace 0 f_draftOpen f_symbolCount f_stepCount f_bindingCount f_waitingCount f_clashPlace f_nodeCount f_todoCount (d + 1) (nI j) a_kinds a_values sz a_declaredNodes a_draftSize a_draftNodes a_symbols a_symbolPlaces a_steps a_stepPlaces a_bindings a_boundType a_waitingTypes a_waitingFirm a_shape a_left a_right a_link a_note a_todo a_todoOther a_generalNode := by
    intro d
    induction d with
    | zero =>
      intro j sz hj hs
      have e : j = 12 := by omega
      subst e
      refine br_t (Int32.le_refl _) ⟨13, ?_⟩
      have loopY : ∀ d j ra, j + d = 12 → (∀ i, i < j → ra i = -1) → wY_reset_17 (fun r' v' => r' = f_accepted ∧ i_Rel (k + 3) (nI c, 0, f_lastPlace, 0, f_draftOpen, f_symbolCount, f_stepCount, f_bindingCount, f_waitingCount, f_clashPlace, f_nodeCount, f_todoCount, a_kinds, a_values, sz, a_declaredNodes, a_draftSize, a_draftNodes, a_symbols, a_symbolPlaces, a_steps, a_stepPlaces, a_bindings, a_boundType, a_waitingTypes, a_waitingFirm, a_shape, a_left, a_right, a_link, a_note, a_todo, a_todoOther, a_generalNode) v') f_accepted2 (nI c) 0 f_lastPlace 0 f_nodes2 f_tt2 f_pos2 f_bad2 f_typing2 f_unbound2 f_clash2 f_top2 f_scope2 f_doneName2 f_doneType2 (d + 1) (nI j) a_kind2 a_value2 a_keptKind2 a_keptA2 a_keptB2 ra a_what2 a_partA2 a_partB2 a_mark2 a_twin2 a_walk2 a_pairs2 a_now2 a_todo2 a_types2 a_firm2 a_bound2 a_boundType2 := by
        intro d
        induction d with
        | zero =>
          intro j ra hj hr
          have e : j = 12 := by omega
          subst e
          exact br_t (Int32.le_refl _) ⟨by rw [e4, e3], r_R0 T1 T2 hs hr⟩
        | succ d ih =>
          intro j ra hj hr
          refine br_f (nI_ge (b := 12) (by omega) (by decide)) ⟨vp_in_nI (by omega) (by decide), ?_⟩
          rw [nI_clamp (by omega)]
          refine nm_e (nm_r (nI_1 j) (ih (j + 1) _ (by omega) (fun i hi => ?_)))
          by_cases c : i = j
          · subst c; rw [pk_us]; rfl
          · rw [pk_un c]; exact hr i (by omega)
      exact loopY 12 0 _ (by omega) (fun i hi => by omega)
    | succ d ih =>
      intro j sz hj hr
      refine br_f (nI_ge (b := 12) (by omega) (by decide)) ⟨vp_in_nI (by omega) (by decide), ?_⟩
      rw [nI_clamp (by omega)]
      refine nm_e (nm_r (nI_1 j) (ih (j + 1) _ (by omega) (fun i hi => ?_)))
      by_cases c : i = j
      · subst c; rw [pk_us]
      · rw [pk_un c]; exact hr i (by omega)
  exact ⟨13, loopX 12 0 _ (by omega) (fun i hi => by omega)⟩
theorem xt_m53 {P Q : Int32 → SX → Prop} {f_tokenCount f_accepted f_lastPlace f_openCount f_draftOpen f_symbolCount f_stepCount f_bindingCount f_waitingCount f_clashPlace f_nodeCount f_todoCount : Int32} {a_kinds a_values a_declaredSize a_declaredNodes a_draftSize a_draftNodes a_symbols a_symbolPlaces a_steps a_stepPlaces a_bindings a_boundType a_waitingTypes a_waitingFirm a_shape a_left a_right a_link a_note a_todo a_todoOther a_generalNode : Nat → Int32} {x1 x2 : Int32} (h : ∀ r u, P r u → Q r u) (p : wX_token_53 P x1 x2 f_tokenCount f_accepted f_lastPlace f_openCount f_draftOpen f_symbolCount f_stepCount f_bindingCount f_waitingCount f_clashPlace f_nodeCount f_todoCount a_kinds a_values a_declaredSize a_declaredNodes a_draftSize a_draftNodes a_symbols a_symbolPlaces a_steps a_stepPlaces a_bindings a_boundType a_waitingTypes a_waitingFirm a_shape a_left a_right a_link a_note a_todo a_todoOther a_generalNode) : wX_token_53 Q x1 x2 f_tokenCount f_accepted f_lastPlace f_openCount f_draftOpen f_symbolCount f_stepCount f_bindingCount f_waitingCount f_clashPlace f_nodeCount f_todoCount a_kinds a_values a_declaredSize a_declaredNodes a_draftSize a_draftNodes a_symbols a_symbolPlaces a_steps a_stepPlaces a_bindings a_boundType a_waitingTypes a_waitingFirm a_shape a_left a_right a_link a_note a_todo a_todoOther a_generalNode :=
  ⟨p.1, fun y e => ⟨(p.2 y e).1, fun y2 e2 y3 e3 => h _ _ ((p.2 y e).2 y2 e2 y3 e3)⟩⟩
theorem xt_m36 {P Q : Int32 → SX → Prop} {f_tokenCount f_accepted f_lastPlace f_openCount f_draftOpen f_symbolCount f_stepCount f_bindingCount f_waitingCount f_clashPlace f_nodeCount f_todoCount : Int32} {a_kinds a_values a_declaredSize a_declaredNodes a_draftSize a_draftNodes a_symbols a_symbolPlaces a_steps a_stepPlaces a_bindings a_boundType a_waitingTypes a_waitingFirm a_shape a_left a_right a_link a_note a_todo a_todoOther a_generalNode : Nat → Int32} {x1 x2 : Int32} (h : ∀ r u, P r u → Q r u) (p : wX_token_36 P x1 x2 f_tokenCount f_accepted f_lastPlace f_openCount f_draftOpen f_symbolCount f_stepCount f_bindingCount f_waitingCount f_clashPlace f_nodeCount f_todoCount a_kinds a_values a_declaredSize a_declaredNodes a_draftSize a_draftNodes a_symbols a_symbolPlaces a_steps a_stepPlaces a_bindings a_boundType a_waitingTypes a_waitingFirm a_shape a_left a_right a_link a_note a_todo a_todoOther a_generalNode) : wX_token_36 Q x1 x2 f_tokenCount f_accepted f_lastPlace f_openCount f_draftOpen f_symbolCount f_stepCount f_bindingCount f_waitingCount f_clashPlace f_nodeCount f_todoCount a_kinds a_values a_declaredSize a_declaredNodes a_draftSize a_draftNodes a_symbols a_symbolPlaces a_steps a_stepPlaces a_bindings a_boundType a_waitingTypes a_waitingFirm a_shape a_left a_right a_link a_note a_todo a_todoOther a_generalNode :=
  ⟨fun z => ⟨fun z1 => h _ _ ((p.1 z).1 z1), fun z1 => ⟨fun z2 => xt_m53 h (((p.1 z).2 z1).1 z2), fun z2 => h _ _ (((p.1 z).2 z1).2 z2)⟩⟩, fun z => xt_m53 h (p.2 z)⟩
theorem i_vc_token {k : Nat} {u : SX} {v : SY} (I : i_Rel k u v) (hk : k + 3 ≤ 1536) (v1 : Int32) (v2 : Int32) : wpX_token (fun r u' => wpY_token (fun r' v' => r' = r ∧ i_Rel (k + 3) u' v') v v1 v2) u v1 v2 := by
  obtain ⟨f_tokenCount, f_accepted, f_lastPlace, f_openCount, f_draftOpen, f_symbolCount, f_stepCount, f_bindingCount, f_waitingCount, f_clashPlace, f_nodeCount, f_todoCount, a_kinds, a_values, a_declaredSize, a_declaredNodes, a_draftSize, a_draftNodes, a_symbols, a_symbolPlaces, a_steps, a_stepPlaces, a_bindings, a_boundType, a_waitingTypes, a_waitingFirm, a_shape, a_left, a_right, a_link, a_note, a_todo, a_todoOther, a_generalNode⟩ := u
  obtain ⟨f_count2, f_accepted2, f_place2, f_kept2, f_nodes2, f_tt2, f_pos2, f_bad2, f_typing2, f_unbound2, f_clash2, f_top2, f_scope2, f_doneName2, f_doneType2, a_kind2, a_value2, a_keptKind2, a_keptA2, a_keptB2, a_root2, a_what2, a_partA2, a_partB2, a_mark2, a_twin2, a_walk2, a_pairs2, a_now2, a_todo2, a_types2, a_firm2, a_bound2, a_boundType2⟩ := v
  have I0 := I
  obtain ⟨c, ac, K, N, kc, kk, ka, kb, rt, lo, hi, g, e1, e2, e3, e4, hac, e5, T1, T2, e6, e7, D, H, HX, G, R⟩ := I
  have c24 := T1.1
  by_cases h0 : v1 < 0
  · exact br_t h0 (br_t h0 ⟨rfl, I0⟩)
  obtain ⟨j, hj, rfl⟩ := nI_of h0
  refine br_f h0 ?_
  by_cases h38 : 38 ≤ j
  · exact br_t (nI_le (a := 38) h38 hj) (br_f h0 (br_t (nI_lt (a := 37) (by omega) hj) ⟨rfl, I0⟩))
  refine br_f (nI_ge (b := 38) (by omega) (by decide)) ?_
  have y0 : ∀ {P Q S : Prop}, S → ((nI j < 0 → P) ∧ (¬ nI j < 0 → ((37 < nI j → Q) ∧ (¬ 37 < nI j → S)))) := fun s => br_f h0 (br_f (nI_nlt (a := 37) (by omega) (by decide)) s)
  by_cases hc : c = 24
  · refine br_f (by rw [e1, hc]; decide) (y0 (br_t (by rw [e2, hc]; rfl) ⟨rfl, I0⟩))
  have hcX : f_tokenCount < 24 := by rw [e1]; exact nI_lt (b := 24) (by omega) (by decide)
  have hcY : ¬ f_count2 = 24 := by rw [e2]; exact fun z => hc ((nI_eq (b := 24) (by omega) (by omega)).mp z)
  refine br_t hcX ?_
  have fin : ∀ m, (j = 3 → v2 = nI m ∧ m < 12) → (j = 35 → v2 = nI m ∧ m < 4) → wX_token_53 (fun r u' => wY_token_51 (fun r' v' => r' = r ∧ i_Rel (k + 3) u' v') (nI j) v2 f_count2 f_accepted2 f_place2 f_kept2 f_nodes2 f_tt2 f_pos2 f_bad2 f_typing2 f_unbound2 f_clash2 f_top2 f_scope2 f_doneName2 f_doneType2 a_kind2 a_value2 a_keptKind2 a_keptA2 a_keptB2 a_root2 a_what2 a_partA2 a_partB2 a_mark2 a_twin2 a_walk2 a_pairs2 a_now2 a_todo2 a_types2 a_firm2 a_bound2 a_boundType2) (nI j) v2 f_tokenCount f_accepted f_lastPlace f_openCount f_draftOpen f_symbolCount f_stepCount f_bindingCount f_waitingCount f_clashPlace f_nodeCount f_todoCount a_kinds a_values a_declaredSize a_declaredNodes a_draftSize a_draftNodes a_symbols a_symbolPlaces a_steps a_stepPlaces a_bindings a_boundType a_waitingTypes a_waitingFirm a_shape a_left a_right a_link a_note a_todo a_todoOther a_generalNode := by
    intro m m1 m2
    have ci : vp_in f_tokenCount 24 := by rw [e1]; exact vp_in_nI (by omega) (by decide)
    have ci' : vp_in f_count2 24 := by rw [e2]; exact vp_in_nI (by omega) (by decide)
    have cl : f_tokenCount.toNatClampNeg = c := by rw [e1]; exact nI_clamp (by omega)
    have cl' : f_count2.toNatClampNeg = c := by rw [e2]; exact nI_clamp (by omega)
    refine ⟨ci, nm_e ⟨ci, nm_e (nm_e ⟨ci', nm_e (nm_e ⟨ci', nm_e ⟨rfl, ?_⟩⟩)⟩)⟩⟩
    rw [cl, cl', tk_byte (by omega), e1, e2, nI_1]
    exact ⟨c + 1, ac, gr_u K c j, gr_u N c m, kc, kk, ka, kb, rt, lo, hi, g, rfl, rfl, e3, e4, hac, e5, tk_p T1 (by omega) (by omega) m1 m2, tk_p T2 (by omega) (by omega) m1 m2, e6, e7, D, H, HX, G, R⟩
  have s35 : (j = 3 → ∃ m, v2 = nI m ∧ m < 12) → wX_token_36 (fun r u' => wY_token_34 (fun r' v' => r' = r ∧ i_Rel (k + 3) u' v') (nI j) v2 f_count2 f_accepted2 f_place2 f_kept2 f_nodes2 f_tt2 f_pos2 f_bad2 f_typing2 f_unbound2 f_clash2 f_top2 f_scope2 f_doneName2 f_doneType2 a_kind2 a_value2 a_keptKind2 a_keptA2 a_keptB2 a_root2 a_what2 a_partA2 a_partB2 a_mark2 a_twin2 a_walk2 a_pairs2 a_now2 a_todo2 a_types2 a_firm2 a_bound2 a_boundType2) (nI j) v2 f_tokenCount f_accepted f_lastPlace f_openCount f_draftOpen f_symbolCount f_stepCount f_bindingCount f_waitingCount f_clashPlace f_nodeCount f_todoCount a_kinds a_values a_declaredSize a_declaredNodes a_draftSize a_draftNodes a_symbols a_symbolPlaces a_steps a_stepPlaces a_bindings a_boundType a_waitingTypes a_waitingFirm a_shape a_left a_right a_link a_note a_todo a_todoOther a_generalNode := by
    intro h3
    unfold wX_token_36 wY_token_34
    by_cases c35 : j = 35
    · subst c35
      refine br_t rfl ?_
      by_cases n0 : v2 < 0
      · exact br_t n0 (br_t rfl (br_t n0 ⟨rfl, I0⟩))
      · obtain ⟨m, hm, rfl⟩ := nI_of n0
        refine br_f n0 ?_
        by_cases m4 : m < 4
        · have f := fin m (fun z => by omega) (fun _ => ⟨rfl, m4⟩)
          refine br_t (nI_lt (b := 4) m4 (by decide)) ?_
          exact xt_m53 (fun r u' q => br_t rfl (br_f n0 (br_t (nI_le (b := 3) (by omega) (by decide)) q))) f
        · exact br_f (nI_nlt (b := 4) (by omega) hm) (br_t rfl (br_f n0 (br_f (nI_ge (a := 3) (by omega) hm) ⟨rfl, I0⟩)))
    · have cj : ¬ nI j = 35 := fun z => c35 ((nI_eq (b := 35) (by omega) (by omega)).mp z)
      refine br_f cj ?_
      have f : wX_token_53 (fun r u' => wY_token_51 (fun r' v' => r' = r ∧ i_Rel (k + 3) u' v') (nI j) v2 f_count2 f_accepted2 f_place2 f_kept2 f_nodes2 f_tt2 f_pos2 f_bad2 f_typing2 f_unbound2 f_clash2 f_top2 f_scope2 f_doneName2 f_doneType2 a_kind2 a_value2 a_keptKind2 a_keptA2 a_keptB2 a_root2 a_what2 a_partA2 a_partB2 a_mark2 a_twin2 a_walk2 a_pairs2 a_now2 a_todo2 a_types2 a_firm2 a_bound2 a_boundType2) (nI j) v2 f_tokenCount f_accepted f_lastPlace f_openCount f_draftOpen f_symbolCount f_stepCount f_bindingCount f_waitingCount f_clashPlace f_nodeCount f_todoCount a_kinds a_values a_declaredSize a_declaredNodes a_draftSize a_draftNodes a_symbols a_symbolPlaces a_steps a_stepPlaces a_bindings a_boundType a_waitingTypes a_waitingFirm a_shape a_left a_right a_link a_note a_todo a_todoOther a_generalNode := by
        by_cases c3 : j = 3
        · obtain ⟨m, m1⟩ := h3 c3
          exact fin m (fun _ => m1) (fun z => by omega)
        · exact fin 0 (fun z => (c3 z).elim) (fun z => (c35 z).elim)
      exact xt_m53 (fun r u' q => br_f cj q) f
  by_cases c3 : j = 3
  · subst c3
    refine br_t rfl ?_
    by_cases n0 : v2 < 0
    · exact br_t n0 (br_t rfl (y0 (br_f hcY (br_t rfl (br_t n0 ⟨rfl, I0⟩)))))
    · obtain ⟨m, hm, rfl⟩ := nI_of n0
      refine br_f n0 ?_
      by_cases m12 : m < 12
      · refine br_f (nI_ge (b := 12) m12 (by decide)) (br_f (by decide) ?_)
        exact xt_m36 (fun r u' q => y0 (br_f hcY (br_t rfl (br_f n0 (br_f (nI_nlt (a := 11) (by omega) (by decide)) q))))) (s35 (fun _ => ⟨m, rfl, m12⟩))
      · exact br_t (nI_le (a := 12) (by omega) hm) (br_t rfl (y0 (br_f hcY (br_t rfl (br_f n0 (br_t (nI_lt (a := 11) (by omega) hm) ⟨rfl, I0⟩))))))
  · have cj : ¬ nI j = 3 := fun z => c3 ((nI_eq (b := 3) (by omega) (by omega)).mp z)
    exact br_f cj (xt_m36 (fun r u' q => y0 (br_f hcY (br_f cj q))) (s35 (fun z => (c3 z).elim)))
theorem i_vc_size {k : Nat} {u : SX} {v : SY} (I : i_Rel k u v) (hk : k + 3 ≤ 1536) (v1 : Int32) : wpX_size (fun r => wpY_size (fun r' v' => r' = r ∧ i_Rel (k + 3) u v') v v1) u v1 := by
  obtain ⟨f_tokenCount, f_accepted, f_lastPlace, f_openCount, f_draftOpen, f_symbolCount, f_stepCount, f_bindingCount, f_waitingCount, f_clashPlace, f_nodeCount, f_todoCount, a_kinds, a_values, a_declaredSize, a_declaredNodes, a_draftSize, a_draftNodes, a_symbols, a_symbolPlaces, a_steps, a_stepPlaces, a_bindings, a_boundType, a_waitingTypes, a_waitingFirm, a_shape, a_left, a_right, a_link, a_note, a_todo, a_todoOther, a_generalNode⟩ := u
  obtain ⟨f_count2, f_accepted2, f_place2, f_kept2, f_nodes2, f_tt2, f_pos2, f_bad2, f_typing2, f_unbound2, f_clash2, f_top2, f_scope2, f_doneName2, f_doneType2, a_kind2, a_value2, a_keptKind2, a_keptA2, a_keptB2, a_root2, a_what2, a_partA2, a_partB2, a_mark2, a_twin2, a_walk2, a_pairs2, a_now2, a_todo2, a_types2, a_firm2, a_bound2, a_boundType2⟩ := v
  have I0 := I
  obtain ⟨c, ac, K, N, kc, kk, ka, kb, rt, lo, hi, g, e1, e2, e3, e4, hac, e5, T1, T2, e6, e7, D, H, HX, G, R⟩ := I
  subst e6
  by_cases n0 : v1 < 0
  · exact br_t n0 (br_t rfl (br_t n0 ⟨rfl, I0⟩))
  obtain ⟨m, hm, rfl⟩ := nI_of n0
  refine br_f n0 ?_
  by_cases m12 : m < 12
  · have vi : vp_in (nI m) 12 := vp_in_nI m12 (by decide)
    have cl : (nI m).toNatClampNeg = m := nI_clamp (by omega)
    refine br_f (nI_ge (b := 12) m12 (by decide)) (br_f (by decide) ⟨vi, br_f n0 (br_f (nI_nlt (a := 11) (by omega) (by decide)) ⟨vi, ?_⟩)⟩)
    rw [cl, (D m m12).1]
    have H' := H
    obtain ⟨W, A, k9, kp, hg, gg, k144, hr, reach⟩ := H
    have rm := (hr m m12).1
    have l12 := (hr m m12).2.2.2.1
    by_cases z : rt m = 0
    · refine br_f (by rw [R m m12, z]; decide) ⟨?_, I0⟩
      rw [(ky_nil H' m12).mpr z]; rfl
    · have er : a_root2 m = nI (rt m - 1) := by rw [R m m12]; exact if_neg z
      refine br_t (by rw [er]; exact nI_pos' (by omega)) ?_
      refine yw_load H' G R (fun wh pA pB nw hG hN => ⟨vi, ?_⟩)
      rw [er]
      have eL : ky_L rt g m = tr_pre (g (rt m - 1)) := if_neg z
      refine yw_written (n := kc) (K := 0) (by omega) W A hG (fun i hi => show kk i ≠ 1000 from by have := k9 i hi; omega) hg gg (by omega) (fun wk r r15 r1 r2 => ⟨?_, I0⟩)
      rw [← eL] at r1 r2
      rw [ky_len, ← r1 (by omega)]
  · exact br_t (nI_le (a := 12) (by omega) hm) (br_t rfl (br_f n0 (br_t (nI_lt (a := 11) (by omega) hm) ⟨rfl, I0⟩)))
