/-! the component's expand -/
section
variable {f_tokenCount f_accepted f_lastPlace f_openCount f_draftOpen f_symbolCount f_stepCount f_bindingCount f_waitingCount f_clashPlace f_nodeCount f_todoCount : Int32} {a_kinds a_values a_declaredSize a_declaredNodes a_draftSize a_draftNodes a_symbols a_symbolPlaces a_steps a_stepPlaces a_bindings a_boundType a_waitingTypes a_waitingFirm a_shape a_left a_right a_link a_note a_todo a_todoOther a_generalNode : Nat → Int32}
theorem xw_expand {post : Int32 → SX → Prop} {c a s : Nat} {Kt N : Nat → Nat} {ss : pm_L} (hT : tk_T a_kinds a_values c Kt N) (ha : a < 100) (hst : st_2 a_symbols a_symbolPlaces ss) (hlen : ss.length + 10 < 512) (hs : s = 40 ∨ s = 41 ∨ s = 42 ∨ s = 43 ∨ s = 44 ∨ s = 45 ∨ s = 50 ∨ s = 51 ∨ s = 52 ∨ s = 53 ∨ s = 54 ∨ s = 55 ∨ s = 60 ∨ s = 61 ∨ s = 62 ∨ s = 63)
    (h1 : ∀ l, xe_l Kt a s = some l → ∀ sy pl, st_2 sy pl (l ++ ss) → post 1 (nI c, f_accepted, f_lastPlace, f_openCount, f_draftOpen, nI (l ++ ss).length, f_stepCount, f_bindingCount, f_waitingCount, f_clashPlace, f_nodeCount, f_todoCount, a_kinds, a_values, a_declaredSize, a_declaredNodes, a_draftSize, a_draftNodes, sy, pl, a_steps, a_stepPlaces, a_bindings, a_boundType, a_waitingTypes, a_waitingFirm, a_shape, a_left, a_right, a_link, a_note, a_todo, a_todoOther, a_generalNode))
    (h0 : xe_l Kt a s = none → post 0 (nI c, f_accepted, f_lastPlace, f_openCount, f_draftOpen, nI ss.length, f_stepCount, f_bindingCount, f_waitingCount, f_clashPlace, f_nodeCount, f_todoCount, a_kinds, a_values, a_declaredSize, a_declaredNodes, a_draftSize, a_draftNodes, a_symbols, a_symbolPlaces, a_steps, a_stepPlaces, a_bindings, a_boundType, a_waitingTypes, a_waitingFirm, a_shape, a_left, a_right, a_link, a_note, a_todo, a_todoOther, a_generalNode)) : wpX_expand post (nI c, f_accepted, f_lastPlace, f_openCount, f_draftOpen, nI ss.length, f_stepCount, f_bindingCount, f_waitingCount, f_clashPlace, f_nodeCount, f_todoCount, a_kinds, a_values, a_declaredSize, a_declaredNodes, a_draftSize, a_draftNodes, a_symbols, a_symbolPlaces, a_steps, a_stepPlaces, a_bindings, a_boundType, a_waitingTypes, a_waitingFirm, a_shape, a_left, a_right, a_link, a_note, a_todo, a_todoOther, a_generalNode) (nI s) (nI a) := by
  have hk : Kt a < 38 ∨ Kt a = 99 := by
    by_cases q : a < c
    · exact Or.inl (hT.2.2 a q).2.1
    · exact Or.inr (hT.2.1 a (by omega))
  unfold wpX_expand
  refine xw_kind hT ha ?_
  rcases hs with rfl | rfl | rfl | rfl | rfl | rfl | rfl | rfl | rfl | rfl | rfl | rfl | rfl | rfl | rfl | rfl
  · refine br_f (by decide) (br_f (by decide) (br_t rfl ?_))
    unfold wpX_expandDecl
    by_cases k1 : Kt a = 7
    · rw [xe_v_eq k1 (by decide)]
      refine br_t rfl ?_
      refine xw_exp (s := 89) (p := a) (by first | omega | (simp only [List.length_cons, List.length_append, List.length_nil]; omega)) hst (fun sy pl hst => ?_)
      refine xw_exp (s := 42) (p := 0) (by first | omega | (simp only [List.length_cons, List.length_append, List.length_nil]; omega)) hst (fun sy pl hst => ?_)
      refine xw_exp (s := 9) (p := 0) (by first | omega | (simp only [List.length_cons, List.length_append, List.length_nil]; omega)) hst (fun sy pl hst => ?_)
      unfold wX_expandDecl_82
      refine xw_exp (s := 3) (p := 0) (by first | omega | (simp only [List.length_cons, List.length_append, List.length_nil]; omega)) hst (fun sy pl hst => ?_)
      refine xw_exp (s := 7) (p := 0) (by first | omega | (simp only [List.length_cons, List.length_append, List.length_nil]; omega)) hst (fun sy pl hst => ?_)
      exact ⟨rfl, h1 [(7, 0), (3, 0), (9, 0), (42, 0), (89, a)] (by simp [xe_l, k1]) sy pl hst⟩
    · refine br_f (xe_v_ne hk k1 (by decide)) ?_
      by_cases k2 : Kt a = 8
      · rw [xe_v_eq k2 (by decide)]
        refine br_t rfl ?_
        refine xw_exp (s := 88) (p := a) (by first | omega | (simp only [List.length_cons, List.length_append, List.length_nil]; omega)) hst (fun sy pl hst => ?_)
        refine xw_exp (s := 42) (p := 0) (by first | omega | (simp only [List.length_cons, List.length_append, List.length_nil]; omega)) hst (fun sy pl hst => ?_)
        refine xw_exp (s := 87) (p := a) (by first | omega | (simp only [List.length_cons, List.length_append, List.length_nil]; omega)) hst (fun sy pl hst => ?_)
        refine xw_exp (s := 9) (p := 0) (by first | omega | (simp only [List.length_cons, List.length_append, List.length_nil]; omega)) hst (fun sy pl hst => ?_)
        refine xw_exp (s := 41) (p := 0) (by first | omega | (simp only [List.length_cons, List.length_append, List.length_nil]; omega)) hst (fun sy pl hst => ?_)
        refine xw_exp (s := 3) (p := 0) (by first | omega | (simp only [List.length_cons, List.length_append, List.length_nil]; omega)) hst (fun sy pl hst => ?_)
        unfold wX_expandDecl_82
        refine xw_exp (s := 3) (p := 0) (by first | omega | (simp only [List.length_cons, List.length_append, List.length_nil]; omega)) hst (fun sy pl hst => ?_)
        refine xw_exp (s := 8) (p := 0) (by first | omega | (simp only [List.length_cons, List.length_append, List.length_nil]; omega)) hst (fun sy pl hst => ?_)
        exact ⟨rfl, h1 [(8, 0), (3, 0), (3, 0), (41, 0), (9, 0), (87, a), (42, 0), (88, a)] (by simp [xe_l, k2]) sy pl hst⟩
      · refine br_f (xe_v_ne hk k2 (by decide)) ?_
        exact ⟨rfl, h0 (by simp [xe_l, k1, k2])⟩
  · refine br_f (by decide) (br_f (by decide) (br_f (by decide) (br_t rfl ?_)))
    by_cases k1 : Kt a = 3
    · rw [xe_v_eq k1 (by decide)]
      refine br_t rfl ?_
      refine xw_exp (s := 41) (p := 0) (by first | omega | (simp only [List.length_cons, List.length_append, List.length_nil]; omega)) hst (fun sy pl hst => ?_)
      refine xw_exp (s := 3) (p := 0) (by first | omega | (simp only [List.length_cons, List.length_append, List.length_nil]; omega)) hst (fun sy pl hst => ?_)
      exact h1 [(3, 0), (41, 0)] (by simp [xe_l, k1]) sy pl hst
    · refine br_f (xe_v_ne hk k1 (by decide)) ?_
      exact h1 [] (by simp [xe_l, k1]) _ _ hst
  · refine br_f (by decide) (br_f (by decide) (br_f (by decide) (br_f (by decide) (br_t rfl ?_))))
    unfold wpX_expandExpr
    by_cases k1 : Kt a = 4
    · rw [xe_v_eq k1 (by decide)]
      refine br_t rfl ?_
      refine xw_exp (s := 86) (p := a) (by first | omega | (simp only [List.length_cons, List.length_append, List.length_nil]; omega)) hst (fun sy pl hst => ?_)
      refine xw_exp (s := 42) (p := 0) (by first | omega | (simp only [List.length_cons, List.length_append, List.length_nil]; omega)) hst (fun sy pl hst => ?_)
      refine xw_exp (s := 85) (p := a) (by first | omega | (simp only [List.length_cons, List.length_append, List.length_nil]; omega)) hst (fun sy pl hst => ?_)
      refine xw_exp (s := 5) (p := 0) (by first | omega | (simp only [List.length_cons, List.length_append, List.length_nil]; omega)) hst (fun sy pl hst => ?_)
      refine xw_exp (s := 3) (p := 0) (by first | omega | (simp only [List.length_cons, List.length_append, List.length_nil]; omega)) hst (fun sy pl hst => ?_)
      refine xw_exp (s := 4) (p := 0) (by first | omega | (simp only [List.length_cons, List.length_append, List.length_nil]; omega)) hst (fun sy pl hst => ?_)
      exact h1 [(4, 0), (3, 0), (5, 0), (85, a), (42, 0), (86, a)] (by simp [xe_l, k1]) sy pl hst
    · refine br_f (xe_v_ne hk k1 (by decide)) ?_
      by_cases k2 : Kt a = 12
      · rw [xe_v_eq k2 (by decide)]
        refine br_t rfl ?_
        refine xw_exp (s := 84) (p := a) (by first | omega | (simp only [List.length_cons, List.length_append, List.length_nil]; omega)) hst (fun sy pl hst => ?_)
        refine xw_exp (s := 42) (p := 0) (by first | omega | (simp only [List.length_cons, List.length_append, List.length_nil]; omega)) hst (fun sy pl hst => ?_)
        refine xw_exp (s := 14) (p := 0) (by first | omega | (simp only [List.length_cons, List.length_append, List.length_nil]; omega)) hst (fun sy pl hst => ?_)
        refine xw_exp (s := 42) (p := 0) (by first | omega | (simp only [List.length_cons, List.length_append, List.length_nil]; omega)) hst (fun sy pl hst => ?_)
        refine xw_exp (s := 13) (p := 0) (by first | omega | (simp only [List.length_cons, List.length_append, List.length_nil]; omega)) hst (fun sy pl hst => ?_)
        refine xw_exp (s := 42) (p := 0) (by first | omega | (simp only [List.length_cons, List.length_append, List.length_nil]; omega)) hst (fun sy pl hst => ?_)
        refine xw_exp (s := 12) (p := 0) (by first | omega | (simp only [List.length_cons, List.length_append, List.length_nil]; omega)) hst (fun sy pl hst => ?_)
        exact h1 [(12, 0), (42, 0), (13, 0), (42, 0), (14, 0), (42, 0), (84, a)] (by simp [xe_l, k2]) sy pl hst
      · refine br_f (xe_v_ne hk k2 (by decide)) ?_
        unfold wpX_expectRange
        refine ⟨7, ?_⟩
        refine xw_range 5 50 _ _ _ (by omega) (by first | omega | (simp only [List.length_cons, List.length_append, List.length_nil]; omega)) hst (fun sy pl hst => ?_)
        have er : (List.range (5 + 1)).map (fun i => ((50 : Nat) + 5 - i, (0 : Nat))) = [(55, 0), (54, 0), (53, 0), (52, 0), (51, 0), (50, 0)] := by decide
        rw [er] at hst ⊢
        exact h1 [(55, 0), (54, 0), (53, 0), (52, 0), (51, 0), (50, 0)] (by simp [xe_l, k1, k2]) sy pl hst
  · refine br_f (by decide) (br_f (by decide) (br_f (by decide) (br_f (by decide) (br_f (by decide) (br_t rfl ?_)))))
    unfold wX_expand_158 wpX_expandBrackets
    refine br_t rfl ?_
    by_cases k1 : Kt a = 16
    · rw [xe_v_eq k1 (by decide)]
      refine br_t rfl ?_
      refine xw_exp (s := 81) (p := a) (by first | omega | (simp only [List.length_cons, List.length_append, List.length_nil]; omega)) hst (fun sy pl hst => ?_)
      refine xw_exp (s := 16) (p := 0) (by first | omega | (simp only [List.length_cons, List.length_append, List.length_nil]; omega)) hst (fun sy pl hst => ?_)
      exact h1 [(16, 0), (81, a)] (by simp [xe_l, k1]) sy pl hst
    · refine br_f (xe_v_ne hk k1 (by decide)) ?_
      unfold wX_expandBrackets_29
      refine br_t rfl ?_
      refine xw_exp (s := 44) (p := 0) (by first | omega | (simp only [List.length_cons, List.length_append, List.length_nil]; omega)) hst (fun sy pl hst => ?_)
      refine xw_exp (s := 42) (p := 0) (by first | omega | (simp only [List.length_cons, List.length_append, List.length_nil]; omega)) hst (fun sy pl hst => ?_)
      exact h1 [(42, 0), (44, 0)] (by simp [xe_l, k1]) sy pl hst
  · refine br_f (by decide) (br_f (by decide) (br_f (by decide) (br_f (by decide) (br_f (by decide) (br_f (by decide) (br_t rfl ?_))))))
    unfold wX_expand_158 wpX_expandBrackets
    refine br_f (by decide) ?_
    unfold wX_expandBrackets_29
    refine br_f (by decide) ?_
    by_cases k1 : Kt a = 17
    · rw [xe_v_eq k1 (by decide)]
      refine br_t rfl ?_
      refine xw_exp (s := 83) (p := a) (by first | omega | (simp only [List.length_cons, List.length_append, List.length_nil]; omega)) hst (fun sy pl hst => ?_)
      refine xw_exp (s := 16) (p := 0) (by first | omega | (simp only [List.length_cons, List.length_append, List.length_nil]; omega)) hst (fun sy pl hst => ?_)
      refine xw_exp (s := 42) (p := 0) (by first | omega | (simp only [List.length_cons, List.length_append, List.length_nil]; omega)) hst (fun sy pl hst => ?_)
      refine xw_exp (s := 17) (p := 0) (by first | omega | (simp only [List.length_cons, List.length_append, List.length_nil]; omega)) hst (fun sy pl hst => ?_)
      exact h1 [(17, 0), (42, 0), (16, 0), (83, a)] (by simp [xe_l, k1]) sy pl hst
    · refine br_f (xe_v_ne hk k1 (by decide)) ?_
      refine xw_exp (s := 16) (p := 0) (by first | omega | (simp only [List.length_cons, List.length_append, List.length_nil]; omega)) hst (fun sy pl hst => ?_)
      exact h1 [(16, 0)] (by simp [xe_l, k1]) sy pl hst
  · refine br_f (by decide) (br_f (by decide) (br_f (by decide) (br_f (by decide) (br_f (by decide) (br_f (by decide) (br_f (by decide) (br_t rfl ?_)))))))
    unfold wpX_expectRange
    refine ⟨5, ?_⟩
    refine xw_range 3 60 _ _ _ (by omega) (by first | omega | (simp only [List.length_cons, List.length_append, List.length_nil]; omega)) hst (fun sy pl hst => ?_)
    have er : (List.range (3 + 1)).map (fun i => ((60 : Nat) + 3 - i, (0 : Nat))) = [(63, 0), (62, 0), (61, 0), (60, 0)] := by decide
    rw [er] at hst ⊢
    exact h1 [(63, 0), (62, 0), (61, 0), (60, 0)] (by simp [xe_l]) sy pl hst
  · refine br_f (by decide) (br_f (by decide) (br_f (by decide) (br_f (by decide) (br_f (by decide) (br_f (by decide) (br_f (by decide) (br_f (by decide) (br_f (by decide) (br_f (by decide) (br_f (by decide) (br_f (by decide) (br_t rfl ?_))))))))))))
    unfold wX_expand_193 wpX_expandTail
    refine br_t rfl ?_
    by_cases k1 : Kt a = 25
    · rw [xe_v_eq k1 (by decide)]
      refine br_t rfl ?_
      refine xw_exp (s := 83) (p := a) (by first | omega | (simp only [List.length_cons, List.length_append, List.length_nil]; omega)) hst (fun sy pl hst => ?_)
      unfold wpX_expectRange
      refine ⟨7, ?_⟩
      refine xw_range 5 50 _ _ _ (by omega) (by first | omega | (simp only [List.length_cons, List.length_append, List.length_nil]; omega)) hst (fun sy pl hst => ?_)
      have er : (List.range (5 + 1)).map (fun i => ((50 : Nat) + 5 - i, (0 : Nat))) = [(55, 0), (54, 0), (53, 0), (52, 0), (51, 0), (50, 0)] := by decide
      rw [er] at hst ⊢
      refine xw_exp (s := 25) (p := 0) (by first | omega | (simp only [List.length_cons, List.length_append, List.length_nil]; omega)) hst (fun sy pl hst => ?_)
      exact h1 [(25, 0), (55, 0), (54, 0), (53, 0), (52, 0), (51, 0), (50, 0), (83, a)] (by simp [xe_l, k1]) sy pl hst
    · refine br_f (xe_v_ne hk k1 (by decide)) ?_
      unfold wX_expandTail_36
      refine br_f (by decide) ?_
      unfold wX_expandTail_72
      refine br_f (by decide) ?_
      unfold wX_expandTail_115
      refine br_f (by decide) ?_
      unfold wX_expandTail_164
      refine br_f (by decide) ?_
      exact h1 [] (by simp [xe_l, k1]) _ _ hst
  · refine br_f (by decide) (br_f (by decide) (br_f (by decide) (br_f (by decide) (br_f (by decide) (br_f (by decide) (br_f (by decide) (br_f (by decide) (br_f (by decide) (br_f (by decide) (br_f (by decide) (br_f (by decide) (br_f (by decide) (br_t rfl ?_)))))))))))))
    unfold wX_expand_193 wpX_expandTail
    refine br_f (by decide) ?_
    unfold wX_expandTail_36
    refine br_t rfl ?_
    by_cases k1 : Kt a = 18
    · rw [xe_v_eq k1 (by decide)]
      refine br_t rfl ?_
      refine xw_exp (s := 83) (p := a) (by first | omega | (simp only [List.length_cons, List.length_append, List.length_nil]; omega)) hst (fun sy pl hst => ?_)
      unfold wpX_expectRange
      refine ⟨6, ?_⟩
      refine xw_range 4 51 _ _ _ (by omega) (by first | omega | (simp only [List.length_cons, List.length_append, List.length_nil]; omega)) hst (fun sy pl hst => ?_)
      have er : (List.range (4 + 1)).map (fun i => ((51 : Nat) + 4 - i, (0 : Nat))) = [(55, 0), (54, 0), (53, 0), (52, 0), (51, 0)] := by decide
      rw [er] at hst ⊢
      refine xw_exp (s := 18) (p := 0) (by first | omega | (simp only [List.length_cons, List.length_append, List.length_nil]; omega)) hst (fun sy pl hst => ?_)
      exact h1 [(18, 0), (55, 0), (54, 0), (53, 0), (52, 0), (51, 0), (83, a)] (by simp [xe_l, k1]) sy pl hst
    · refine br_f (xe_v_ne hk k1 (by decide)) ?_
      unfold wX_expandTail_72
      refine br_f (by decide) ?_
      unfold wX_expandTail_115
      refine br_f (by decide) ?_
      unfold wX_expandTail_164
      refine br_f (by decide) ?_
      exact h1 [] (by simp [xe_l, k1]) _ _ hst
  · refine br_f (by decide) (br_f (by decide) (br_f (by decide) (br_f (by decide) (br_f (by decide) (br_f (by decide) (br_f (by decide) (br_f (by decide) (br_f (by decide) (br_f (by decide) (br_f (by decide) (br_f (by decide) (br_f (by decide) (br_f (by decide) (br_t rfl ?_))))))))))))))
    unfold wX_expand_193 wpX_expandTail
    refine br_f (by decide) ?_
    unfold wX_expandTail_36
    refine br_f (by decide) ?_
    unfold wX_expandTail_72
    refine br_t rfl ?_
    by_cases k1 : Kt a = 21
    · rw [xe_v_eq k1 (by decide)]
      refine br_t rfl ?_
      refine xw_exp (s := 52) (p := 0) (by first | omega | (simp only [List.length_cons, List.length_append, List.length_nil]; omega)) hst (fun sy pl hst => ?_)
      refine xw_exp (s := 83) (p := a) (by first | omega | (simp only [List.length_cons, List.length_append, List.length_nil]; omega)) hst (fun sy pl hst => ?_)
      unfold wpX_expectRange
      refine ⟨4, ?_⟩
      refine xw_range 2 53 _ _ _ (by omega) (by first | omega | (simp only [List.length_cons, List.length_append, List.length_nil]; omega)) hst (fun sy pl hst => ?_)
      have er : (List.range (2 + 1)).map (fun i => ((53 : Nat) + 2 - i, (0 : Nat))) = [(55, 0), (54, 0), (53, 0)] := by decide
      rw [er] at hst ⊢
      refine xw_exp (s := 21) (p := 0) (by first | omega | (simp only [List.length_cons, List.length_append, List.length_nil]; omega)) hst (fun sy pl hst => ?_)
      exact h1 [(21, 0), (55, 0), (54, 0), (53, 0), (83, a), (52, 0)] (by simp [xe_l, k1]) sy pl hst
    · refine br_f (xe_v_ne hk k1 (by decide)) ?_
      unfold wX_expandTail_115
      refine br_f (by decide) ?_
      unfold wX_expandTail_164
      refine br_f (by decide) ?_
      exact h1 [] (by simp [xe_l, k1]) _ _ hst
  · refine br_f (by decide) (br_f (by decide) (br_f (by decide) (br_f (by decide) (br_f (by decide) (br_f (by decide) (br_f (by decide) (br_f (by decide) (br_f (by decide) (br_f (by decide) (br_f (by decide) (br_f (by decide) (br_f (by decide) (br_f (by decide) (br_f (by decide) (br_t rfl ?_)))))))))))))))
    unfold wX_expand_193 wpX_expandTail
    refine br_f (by decide) ?_
    unfold wX_expandTail_36
    refine br_f (by decide) ?_
    unfold wX_expandTail_72
    refine br_f (by decide) ?_
    unfold wX_expandTail_115
    refine br_t rfl ?_
    by_cases k1 : Kt a = 19
    · rw [xe_v_eq k1 (by decide)]
      refine br_t rfl ?_
      unfold wX_expandTail_133
      refine xw_exp (s := 53) (p := 0) (by first | omega | (simp only [List.length_cons, List.length_append, List.length_nil]; omega)) hst (fun sy pl hst => ?_)
      refine xw_exp (s := 83) (p := a) (by first | omega | (simp only [List.length_cons, List.length_append, List.length_nil]; omega)) hst (fun sy pl hst => ?_)
      unfold wpX_expectRange
      refine ⟨3, ?_⟩
      refine xw_range 1 54 _ _ _ (by omega) (by first | omega | (simp only [List.length_cons, List.length_append, List.length_nil]; omega)) hst (fun sy pl hst => ?_)
      have er : (List.range (1 + 1)).map (fun i => ((54 : Nat) + 1 - i, (0 : Nat))) = [(55, 0), (54, 0)] := by decide
      rw [er] at hst ⊢
      refine xw_exp (s := 19) (p := 0) (by first | omega | (simp only [List.length_cons, List.length_append, List.length_nil]; omega)) hst (fun sy pl hst => ?_)
      exact h1 [(19, 0), (55, 0), (54, 0), (83, a), (53, 0)] (by simp [xe_l, k1]) sy pl hst
    · refine br_f (xe_v_ne hk k1 (by decide)) ?_
      by_cases k2 : Kt a = 20
      · rw [xe_v_eq k2 (by decide)]
        refine br_t rfl ?_
        unfold wX_expandTail_133
        refine xw_exp (s := 53) (p := 0) (by first | omega | (simp only [List.length_cons, List.length_append, List.length_nil]; omega)) hst (fun sy pl hst => ?_)
        refine xw_exp (s := 83) (p := a) (by first | omega | (simp only [List.length_cons, List.length_append, List.length_nil]; omega)) hst (fun sy pl hst => ?_)
        unfold wpX_expectRange
        refine ⟨3, ?_⟩
        refine xw_range 1 54 _ _ _ (by omega) (by first | omega | (simp only [List.length_cons, List.length_append, List.length_nil]; omega)) hst (fun sy pl hst => ?_)
        have er : (List.range (1 + 1)).map (fun i => ((54 : Nat) + 1 - i, (0 : Nat))) = [(55, 0), (54, 0)] := by decide
        rw [er] at hst ⊢
        refine xw_exp (s := 20) (p := 0) (by first | omega | (simp only [List.length_cons, List.length_append, List.length_nil]; omega)) hst (fun sy pl hst => ?_)
        exact h1 [(20, 0), (55, 0), (54, 0), (83, a), (53, 0)] (by simp [xe_l, k2]) sy pl hst
      · refine br_f (xe_v_ne hk k2 (by decide)) ?_
        unfold wX_expandTail_164
        refine br_f (by decide) ?_
        exact h1 [] (by simp [xe_l, k1, k2]) _ _ hst
  · refine br_f (by decide) (br_f (by decide) (br_f (by decide) (br_f (by decide) (br_f (by decide) (br_f (by decide) (br_f (by decide) (br_f (by decide) (br_f (by decide) (br_f (by decide) (br_f (by decide) (br_f (by decide) (br_f (by decide) (br_f (by decide) (br_f (by decide) (br_f (by decide) (br_t rfl ?_))))))))))))))))
    unfold wX_expand_193 wpX_expandTail
    refine br_f (by decide) ?_
    unfold wX_expandTail_36
    refine br_f (by decide) ?_
    unfold wX_expandTail_72
    refine br_f (by decide) ?_
    unfold wX_expandTail_115
    refine br_f (by decide) ?_
    unfold wX_expandTail_164
    refine br_t rfl ?_
    unfold wpX_beginsAtom
    by_cases k1 : Kt a = 15
    · rw [xe_v_eq k1 (by decide)]
      refine br_t rfl ?_
      refine br_f (by decide) ?_
      refine xw_exp (s := 54) (p := 0) (by first | omega | (simp only [List.length_cons, List.length_append, List.length_nil]; omega)) hst (fun sy pl hst => ?_)
      refine xw_exp (s := 82) (p := a) (by first | omega | (simp only [List.length_cons, List.length_append, List.length_nil]; omega)) hst (fun sy pl hst => ?_)
      refine xw_exp (s := 55) (p := 0) (by first | omega | (simp only [List.length_cons, List.length_append, List.length_nil]; omega)) hst (fun sy pl hst => ?_)
      exact h1 [(55, 0), (82, a), (54, 0)] (by simp [xe_l, k1]) sy pl hst
    · refine br_f (xe_v_ne hk k1 (by decide)) ?_
      by_cases k2 : Kt a = 6
      · rw [xe_v_eq k2 (by decide)]
        refine br_t rfl ?_
        refine br_f (by decide) ?_
        refine xw_exp (s := 54) (p := 0) (by first | omega | (simp only [List.length_cons, List.length_append, List.length_nil]; omega)) hst (fun sy pl hst => ?_)
        refine xw_exp (s := 82) (p := a) (by first | omega | (simp only [List.length_cons, List.length_append, List.length_nil]; omega)) hst (fun sy pl hst => ?_)
        refine xw_exp (s := 55) (p := 0) (by first | omega | (simp only [List.length_cons, List.length_append, List.length_nil]; omega)) hst (fun sy pl hst => ?_)
        exact h1 [(55, 0), (82, a), (54, 0)] (by simp [xe_l, k2]) sy pl hst
      · refine br_f (xe_v_ne hk k2 (by decide)) ?_
        refine xw_alone hk ?_
        by_cases k3 : pm_alone (Kt a) = true
        · rw [if_pos k3]
          refine br_f (by decide) ?_
          refine br_f (by decide) ?_
          refine xw_exp (s := 54) (p := 0) (by first | omega | (simp only [List.length_cons, List.length_append, List.length_nil]; omega)) hst (fun sy pl hst => ?_)
          refine xw_exp (s := 82) (p := a) (by first | omega | (simp only [List.length_cons, List.length_append, List.length_nil]; omega)) hst (fun sy pl hst => ?_)
          refine xw_exp (s := 55) (p := 0) (by first | omega | (simp only [List.length_cons, List.length_append, List.length_nil]; omega)) hst (fun sy pl hst => ?_)
          exact h1 [(55, 0), (82, a), (54, 0)] (by simp [xe_l, k3]) sy pl hst
        · rw [if_neg k3]
          refine br_t rfl ?_
          refine br_t rfl ?_
          exact h1 [] (by simp [xe_l, k1, k2, k3]) _ _ hst
  · refine br_f (by decide) (br_f (by decide) (br_f (by decide) (br_f (by decide) (br_f (by decide) (br_f (by decide) (br_f (by decide) (br_f (by decide) (br_f (by decide) (br_f (by decide) (br_f (by decide) (br_f (by decide) (br_f (by decide) (br_f (by decide) (br_f (by decide) (br_f (by decide) (br_f (by decide) (br_t rfl ?_)))))))))))))))))
    unfold wpX_expandAtom
    refine xw_alone hk ?_
    by_cases k3 : pm_alone (Kt a) = true
    · rw [if_pos k3]
      have kl : Kt a < 38 := by
        rcases hk with z | z
        · exact z
        · rw [z] at k3; exact absurd k3 (by decide)
      rw [xe_v_eq rfl kl]
      refine br_f (by decide) ?_
      refine xw_exp (s := 80) (p := a) (by first | omega | (simp only [List.length_cons, List.length_append, List.length_nil]; omega)) hst (fun sy pl hst => ?_)
      refine xw_exp (s := Kt a) (p := 0) (by first | omega | (simp only [List.length_cons, List.length_append, List.length_nil]; omega)) hst (fun sy pl hst => ?_)
      exact ⟨rfl, h1 [(Kt a, 0), (80, a)] (by simp [xe_l, k3]) sy pl hst⟩
    · rw [if_neg k3]
      refine br_t rfl ?_
      by_cases k1 : Kt a = 15
      · rw [xe_v_eq k1 (by decide)]
        refine br_t rfl ?_
        refine xw_exp (s := 43) (p := 0) (by first | omega | (simp only [List.length_cons, List.length_append, List.length_nil]; omega)) hst (fun sy pl hst => ?_)
        refine xw_exp (s := 15) (p := 0) (by first | omega | (simp only [List.length_cons, List.length_append, List.length_nil]; omega)) hst (fun sy pl hst => ?_)
        exact ⟨rfl, h1 [(15, 0), (43, 0)] (by simp [xe_l, k1, pm_alone]) sy pl hst⟩
      · refine br_f (xe_v_ne hk k1 (by decide)) ?_
        by_cases k2 : Kt a = 6
        · rw [xe_v_eq k2 (by decide)]
          refine br_t rfl ?_
          refine xw_exp (s := 90) (p := a) (by first | omega | (simp only [List.length_cons, List.length_append, List.length_nil]; omega)) hst (fun sy pl hst => ?_)
          refine xw_exp (s := 11) (p := 0) (by first | omega | (simp only [List.length_cons, List.length_append, List.length_nil]; omega)) hst (fun sy pl hst => ?_)
          refine xw_exp (s := 42) (p := 0) (by first | omega | (simp only [List.length_cons, List.length_append, List.length_nil]; omega)) hst (fun sy pl hst => ?_)
          refine xw_exp (s := 10) (p := 0) (by first | omega | (simp only [List.length_cons, List.length_append, List.length_nil]; omega)) hst (fun sy pl hst => ?_)
          refine xw_exp (s := 40) (p := 0) (by first | omega | (simp only [List.length_cons, List.length_append, List.length_nil]; omega)) hst (fun sy pl hst => ?_)
          refine xw_exp (s := 6) (p := 0) (by first | omega | (simp only [List.length_cons, List.length_append, List.length_nil]; omega)) hst (fun sy pl hst => ?_)
          exact ⟨rfl, h1 [(6, 0), (40, 0), (10, 0), (42, 0), (11, 0), (90, a)] (by simp [xe_l, k2, pm_alone]) sy pl hst⟩
        · refine br_f (xe_v_ne hk k2 (by decide)) ?_
          exact ⟨rfl, h0 (by simp [xe_l, k1, k2, k3])⟩
  · refine br_f (by decide) (br_f (by decide) (br_f (by decide) (br_f (by decide) (br_f (by decide) (br_f (by decide) (br_f (by decide) (br_f (by decide) (br_f (by decide) (br_f (by decide) (br_f (by decide) (br_f (by decide) (br_f (by decide) (br_f (by decide) (br_f (by decide) (br_f (by decide) (br_f (by decide) (br_f (by decide) (br_f (by decide) (br_f (by decide) (br_f (by decide) (br_f (by decide) (br_t rfl ?_))))))))))))))))))))))
    unfold wX_expand_184 wpX_expandTypeTail
    refine br_t rfl ?_
    by_cases k1 : Kt a = 37
    · rw [xe_v_eq k1 (by decide)]
      refine br_t rfl ?_
      refine xw_exp (s := 83) (p := a) (by first | omega | (simp only [List.length_cons, List.length_append, List.length_nil]; omega)) hst (fun sy pl hst => ?_)
      unfold wpX_expectRange
      refine ⟨5, ?_⟩
      refine xw_range 3 60 _ _ _ (by omega) (by first | omega | (simp only [List.length_cons, List.length_append, List.length_nil]; omega)) hst (fun sy pl hst => ?_)
      have er : (List.range (3 + 1)).map (fun i => ((60 : Nat) + 3 - i, (0 : Nat))) = [(63, 0), (62, 0), (61, 0), (60, 0)] := by decide
      rw [er] at hst ⊢
      refine xw_exp (s := 37) (p := 0) (by first | omega | (simp only [List.length_cons, List.length_append, List.length_nil]; omega)) hst (fun sy pl hst => ?_)
      exact h1 [(37, 0), (63, 0), (62, 0), (61, 0), (60, 0), (83, a)] (by simp [xe_l, k1]) sy pl hst
    · refine br_f (xe_v_ne hk k1 (by decide)) ?_
      unfold wX_expandTypeTail_36
      refine br_f (by decide) ?_
      unfold wX_expandTypeTail_72
      refine br_f (by decide) ?_
      exact h1 [] (by simp [xe_l, k1]) _ _ hst
  · refine br_f (by decide) (br_f (by decide) (br_f (by decide) (br_f (by decide) (br_f (by decide) (br_f (by decide) (br_f (by decide) (br_f (by decide) (br_f (by decide) (br_f (by decide) (br_f (by decide) (br_f (by decide) (br_f (by decide) (br_f (by decide) (br_f (by decide) (br_f (by decide) (br_f (by decide) (br_f (by decide) (br_f (by decide) (br_f (by decide) (br_f (by decide) (br_f (by decide) (br_f (by decide) (br_t rfl ?_)))))))))))))))))))))))
    unfold wX_expand_184 wpX_expandTypeTail
    refine br_f (by decide) ?_
    unfold wX_expandTypeTail_36
    refine br_t rfl ?_
    by_cases k1 : Kt a = 36
    · rw [xe_v_eq k1 (by decide)]
      refine br_t rfl ?_
      refine xw_exp (s := 83) (p := a) (by first | omega | (simp only [List.length_cons, List.length_append, List.length_nil]; omega)) hst (fun sy pl hst => ?_)
      unfold wpX_expectRange
      refine ⟨4, ?_⟩
      refine xw_range 2 61 _ _ _ (by omega) (by first | omega | (simp only [List.length_cons, List.length_append, List.length_nil]; omega)) hst (fun sy pl hst => ?_)
      have er : (List.range (2 + 1)).map (fun i => ((61 : Nat) + 2 - i, (0 : Nat))) = [(63, 0), (62, 0), (61, 0)] := by decide
      rw [er] at hst ⊢
      refine xw_exp (s := 36) (p := 0) (by first | omega | (simp only [List.length_cons, List.length_append, List.length_nil]; omega)) hst (fun sy pl hst => ?_)
      exact h1 [(36, 0), (63, 0), (62, 0), (61, 0), (83, a)] (by simp [xe_l, k1]) sy pl hst
    · refine br_f (xe_v_ne hk k1 (by decide)) ?_
      unfold wX_expandTypeTail_72
      refine br_f (by decide) ?_
      exact h1 [] (by simp [xe_l, k1]) _ _ hst
  · refine br_f (by decide) (br_f (by decide) (br_f (by decide) (br_f (by decide) (br_f (by decide) (br_f (by decide) (br_f (by decide) (br_f (by decide) (br_f (by decide) (br_f (by decide) (br_f (by decide) (br_f (by decide) (br_f (by decide) (br_f (by decide) (br_f (by decide) (br_f (by decide) (br_f (by decide) (br_f (by decide) (br_f (by decide) (br_f (by decide) (br_f (by decide) (br_f (by decide) (br_f (by decide) (br_f (by decide) (br_t rfl ?_))))))))))))))))))))))))
    unfold wX_expand_184 wpX_expandTypeTail
    refine br_f (by decide) ?_
    unfold wX_expandTypeTail_36
    refine br_f (by decide) ?_
    unfold wX_expandTypeTail_72
    refine br_t rfl ?_
    by_cases k1 : Kt a = 34
    · rw [xe_v_eq k1 (by decide)]
      refine br_t rfl ?_
      unfold wX_expandTypeTail_90
      refine xw_exp (s := 62) (p := 0) (by first | omega | (simp only [List.length_cons, List.length_append, List.length_nil]; omega)) hst (fun sy pl hst => ?_)
      refine xw_exp (s := 83) (p := a) (by first | omega | (simp only [List.length_cons, List.length_append, List.length_nil]; omega)) hst (fun sy pl hst => ?_)
      refine xw_exp (s := 34) (p := 0) (by first | omega | (simp only [List.length_cons, List.length_append, List.length_nil]; omega)) hst (fun sy pl hst => ?_)
      exact h1 [(34, 0), (83, a), (62, 0)] (by simp [xe_l, k1]) sy pl hst
    · refine br_f (xe_v_ne hk k1 (by decide)) ?_
      by_cases k2 : Kt a = 23
      · rw [xe_v_eq k2 (by decide)]
        refine br_t rfl ?_
        unfold wX_expandTypeTail_90
        refine xw_exp (s := 62) (p := 0) (by first | omega | (simp only [List.length_cons, List.length_append, List.length_nil]; omega)) hst (fun sy pl hst => ?_)
        refine xw_exp (s := 83) (p := a) (by first | omega | (simp only [List.length_cons, List.length_append, List.length_nil]; omega)) hst (fun sy pl hst => ?_)
        refine xw_exp (s := 23) (p := 0) (by first | omega | (simp only [List.length_cons, List.length_append, List.length_nil]; omega)) hst (fun sy pl hst => ?_)
        exact h1 [(23, 0), (83, a), (62, 0)] (by simp [xe_l, k2]) sy pl hst
      · refine br_f (xe_v_ne hk k2 (by decide)) ?_
        exact h1 [] (by simp [xe_l, k1, k2]) _ _ hst
  · refine br_f (by decide) (br_f (by decide) (br_f (by decide) (br_f (by decide) (br_f (by decide) (br_f (by decide) (br_f (by decide) (br_f (by decide) (br_f (by decide) (br_f (by decide) (br_f (by decide) (br_f (by decide) (br_f (by decide) (br_f (by decide) (br_f (by decide) (br_f (by decide) (br_f (by decide) (br_f (by decide) (br_f (by decide) (br_f (by decide) (br_f (by decide) (br_f (by decide) (br_f (by decide) (br_f (by decide) (br_f (by decide) (br_t rfl ?_)))))))))))))))))))))))))
    unfold wpX_expandTypeAtom
    by_cases k1 : Kt a = 15
    · rw [xe_v_eq k1 (by decide)]
      refine br_t rfl ?_
      refine xw_exp (s := 16) (p := 0) (by first | omega | (simp only [List.length_cons, List.length_append, List.length_nil]; omega)) hst (fun sy pl hst => ?_)
      refine xw_exp (s := 45) (p := 0) (by first | omega | (simp only [List.length_cons, List.length_append, List.length_nil]; omega)) hst (fun sy pl hst => ?_)
      refine xw_exp (s := 15) (p := 0) (by first | omega | (simp only [List.length_cons, List.length_append, List.length_nil]; omega)) hst (fun sy pl hst => ?_)
      exact ⟨rfl, h1 [(15, 0), (45, 0), (16, 0)] (by simp [xe_l, k1]) sy pl hst⟩
    · refine br_f (xe_v_ne hk k1 (by decide)) ?_
      by_cases k2 : Kt a = 31
      · rw [xe_v_eq k2 (by decide)]
        refine br_t rfl ?_
        unfold wX_expandTypeAtom_53
        refine xw_exp (s := 80) (p := a) (by first | omega | (simp only [List.length_cons, List.length_append, List.length_nil]; omega)) hst (fun sy pl hst => ?_)
        refine xw_exp (s := 31) (p := 0) (by first | omega | (simp only [List.length_cons, List.length_append, List.length_nil]; omega)) hst (fun sy pl hst => ?_)
        exact ⟨rfl, h1 [(31, 0), (80, a)] (by simp [xe_l, k2]) sy pl hst⟩
      · refine br_f (xe_v_ne hk k2 (by decide)) ?_
        by_cases k3 : Kt a = 32
        · rw [xe_v_eq k3 (by decide)]
          refine br_t rfl ?_
          unfold wX_expandTypeAtom_53
          refine xw_exp (s := 80) (p := a) (by first | omega | (simp only [List.length_cons, List.length_append, List.length_nil]; omega)) hst (fun sy pl hst => ?_)
          refine xw_exp (s := 32) (p := 0) (by first | omega | (simp only [List.length_cons, List.length_append, List.length_nil]; omega)) hst (fun sy pl hst => ?_)
          exact ⟨rfl, h1 [(32, 0), (80, a)] (by simp [xe_l, k3]) sy pl hst⟩
        · refine br_f (xe_v_ne hk k3 (by decide)) ?_
          by_cases k4 : Kt a = 33
          · rw [xe_v_eq k4 (by decide)]
            refine br_t rfl ?_
            unfold wX_expandTypeAtom_53
            refine xw_exp (s := 80) (p := a) (by first | omega | (simp only [List.length_cons, List.length_append, List.length_nil]; omega)) hst (fun sy pl hst => ?_)
            refine xw_exp (s := 33) (p := 0) (by first | omega | (simp only [List.length_cons, List.length_append, List.length_nil]; omega)) hst (fun sy pl hst => ?_)
            exact ⟨rfl, h1 [(33, 0), (80, a)] (by simp [xe_l, k4]) sy pl hst⟩
          · refine br_f (xe_v_ne hk k4 (by decide)) ?_
            by_cases k5 : Kt a = 35
            · rw [xe_v_eq k5 (by decide)]
              refine br_t rfl ?_
              unfold wX_expandTypeAtom_53
              refine xw_exp (s := 80) (p := a) (by first | omega | (simp only [List.length_cons, List.length_append, List.length_nil]; omega)) hst (fun sy pl hst => ?_)
              refine xw_exp (s := 35) (p := 0) (by first | omega | (simp only [List.length_cons, List.length_append, List.length_nil]; omega)) hst (fun sy pl hst => ?_)
              exact ⟨rfl, h1 [(35, 0), (80, a)] (by simp [xe_l, k5]) sy pl hst⟩
            · refine br_f (xe_v_ne hk k5 (by decide)) ?_
              have k6 : ¬ ((31 ≤ Kt a ∧ Kt a ≤ 33) ∨ Kt a = 35) := by omega
              exact ⟨rfl, h0 (by simp [xe_l, k1]; omega)⟩
end
