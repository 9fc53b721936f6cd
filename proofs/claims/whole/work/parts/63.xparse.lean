/-! the component's parser: its own turns, and how they follow M's -/
/-- what a symbol consists of at place a -/
def xe_l (K : Nat → Nat) (a s : Nat) : Option pm_L :=
  if s = 40 then (if K a = 7 then some [(7, 0), (3, 0), (9, 0), (42, 0), (89, a)] else if K a = 8 then some [(8, 0), (3, 0), (3, 0), (41, 0), (9, 0), (87, a), (42, 0), (88, a)] else none)
  else if s = 41 then (if K a = 3 then some [(3, 0), (41, 0)] else some [])
  else if s = 42 then (if K a = 4 then some [(4, 0), (3, 0), (5, 0), (85, a), (42, 0), (86, a)] else if K a = 12 then some [(12, 0), (42, 0), (13, 0), (42, 0), (14, 0), (42, 0), (84, a)] else some [(55, 0), (54, 0), (53, 0), (52, 0), (51, 0), (50, 0)])
  else if s = 43 then (if K a = 16 then some [(16, 0), (81, a)] else some [(42, 0), (44, 0)])
  else if s = 44 then (if K a = 17 then some [(17, 0), (42, 0), (16, 0), (83, a)] else some [(16, 0)])
  else if s = 45 then some [(63, 0), (62, 0), (61, 0), (60, 0)]
  else if s = 50 then (if K a = 25 then some [(25, 0), (55, 0), (54, 0), (53, 0), (52, 0), (51, 0), (50, 0), (83, a)] else some [])
  else if s = 51 then (if K a = 18 then some [(18, 0), (55, 0), (54, 0), (53, 0), (52, 0), (51, 0), (83, a)] else some [])
  else if s = 52 then (if K a = 21 then some [(21, 0), (55, 0), (54, 0), (53, 0), (83, a), (52, 0)] else some [])
  else if s = 53 then (if K a = 19 ∨ K a = 20 then some [(K a, 0), (55, 0), (54, 0), (83, a), (53, 0)] else some [])
  else if s = 54 then (if K a = 15 ∨ K a = 6 ∨ pm_alone (K a) = true then some [(55, 0), (82, a), (54, 0)] else some [])
  else if s = 55 then (if pm_alone (K a) = true then some [(K a, 0), (80, a)] else if K a = 15 then some [(15, 0), (43, 0)] else if K a = 6 then some [(6, 0), (40, 0), (10, 0), (42, 0), (11, 0), (90, a)] else none)
  else if s = 60 then (if K a = 37 then some [(37, 0), (63, 0), (62, 0), (61, 0), (60, 0), (83, a)] else some [])
  else if s = 61 then (if K a = 36 then some [(36, 0), (63, 0), (62, 0), (61, 0), (83, a)] else some [])
  else if s = 62 then (if K a = 34 ∨ K a = 23 then some [(K a, 0), (83, a), (62, 0)] else some [])
  else if s = 63 then (if K a = 15 then some [(15, 0), (45, 0), (16, 0)] else if (31 ≤ K a ∧ K a ≤ 33) ∨ K a = 35 then some [(K a, 0), (80, a)] else none)
  else none
def xe_v (K : Nat → Nat) (a : Nat) : Int32 := if K a = 99 then -1 else nI (K a)
theorem xe_v_eq {K : Nat → Nat} {a t : Nat} (h : K a = t) (ht : t < 38) : xe_v K a = nI t := by
  unfold xe_v
  rw [if_neg (by omega), h]
theorem xe_v_ne {K : Nat → Nat} {a t : Nat} (hk : K a < 38 ∨ K a = 99) (h : K a ≠ t) (ht : t < 38) : ¬ xe_v K a = nI t := by
  unfold xe_v
  by_cases c : K a = 99
  · rw [if_pos c]
    intro z
    have : nI t < 0 := by rw [← z]; decide
    exact nI_pos (by omega) this
  · rw [if_neg c]
    intro z
    exact h ((nI_eq (by omega) (by omega)).mp z)
section
variable {f_tokenCount f_accepted f_lastPlace f_openCount f_draftOpen f_symbolCount f_stepCount f_bindingCount f_waitingCount f_clashPlace f_nodeCount f_todoCount : Int32} {a_kinds a_values a_declaredSize a_declaredNodes a_draftSize a_draftNodes a_symbols a_symbolPlaces a_steps a_stepPlaces a_bindings a_boundType a_waitingTypes a_waitingFirm a_shape a_left a_right a_link a_note a_todo a_todoOther a_generalNode : Nat → Int32}
theorem xw_kind {post : Int32 → Prop} {c a : Nat} {Kt N : Nat → Nat} (hT : tk_T a_kinds a_values c Kt N) (ha : a < 100) (h : post (xe_v Kt a)) : wpX_kindAt post (nI c, f_accepted, f_lastPlace, f_openCount, f_draftOpen, f_symbolCount, f_stepCount, f_bindingCount, f_waitingCount, f_clashPlace, f_nodeCount, f_todoCount, a_kinds, a_values, a_declaredSize, a_declaredNodes, a_draftSize, a_draftNodes, a_symbols, a_symbolPlaces, a_steps, a_stepPlaces, a_bindings, a_boundType, a_waitingTypes, a_waitingFirm, a_shape, a_left, a_right, a_link, a_note, a_todo, a_todoOther, a_generalNode) (nI a) := by
  have c24 := hT.1
  unfold wpX_kindAt
  refine br_f (nI_pos (by omega)) ?_
  by_cases q : a < c
  · have t := hT.2.2 a q
    refine br_f (nI_ge q (by omega)) ⟨vp_in_nI (by omega) (by decide), ?_⟩
    rw [nI_clamp (by omega), t.1]
    unfold xe_v at h
    rw [if_neg (by omega)] at h
    exact h
  · refine br_t (nI_le (by omega) (by omega)) ?_
    unfold xe_v at h
    rw [if_pos (hT.2.1 a (by omega))] at h
    exact h
theorem xw_expect {post : SX → Prop} {h : Nat} {x y : Int32} (hh : h < 512) (hp : post (f_tokenCount, f_accepted, f_lastPlace, f_openCount, f_draftOpen, nI (h + 1), f_stepCount, f_bindingCount, f_waitingCount, f_clashPlace, f_nodeCount, f_todoCount, a_kinds, a_values, a_declaredSize, a_declaredNodes, a_draftSize, a_draftNodes, upd a_symbols h x, upd a_symbolPlaces h y, a_steps, a_stepPlaces, a_bindings, a_boundType, a_waitingTypes, a_waitingFirm, a_shape, a_left, a_right, a_link, a_note, a_todo, a_todoOther, a_generalNode)) : wpX_expect post (f_tokenCount, f_accepted, f_lastPlace, f_openCount, f_draftOpen, nI h, f_stepCount, f_bindingCount, f_waitingCount, f_clashPlace, f_nodeCount, f_todoCount, a_kinds, a_values, a_declaredSize, a_declaredNodes, a_draftSize, a_draftNodes, a_symbols, a_symbolPlaces, a_steps, a_stepPlaces, a_bindings, a_boundType, a_waitingTypes, a_waitingFirm, a_shape, a_left, a_right, a_link, a_note, a_todo, a_todoOther, a_generalNode) x y := by
  have e : (nI h).toNatClampNeg = h := nI_clamp (by omega)
  have hi : vp_in (nI h) 512 := vp_in_nI hh (by decide)
  refine br_f (nI_ge (b := 512) hh (by decide)) ⟨hi, ?_⟩
  rw [e]
  exact nm_e ⟨hi, nm_e (nm_r (nI_1 h) hp)⟩
/-- put (s, p) before all that waits -/
theorem xw_exp {post : SX → Prop} {s p : Nat} {ss : pm_L} (hh : ss.length < 512) (hst : st_2 a_symbols a_symbolPlaces ss) (hp : ∀ sy pl, st_2 sy pl ((s, p) :: ss) → post (f_tokenCount, f_accepted, f_lastPlace, f_openCount, f_draftOpen, nI ((s, p) :: ss).length, f_stepCount, f_bindingCount, f_waitingCount, f_clashPlace, f_nodeCount, f_todoCount, a_kinds, a_values, a_declaredSize, a_declaredNodes, a_draftSize, a_draftNodes, sy, pl, a_steps, a_stepPlaces, a_bindings, a_boundType, a_waitingTypes, a_waitingFirm, a_shape, a_left, a_right, a_link, a_note, a_todo, a_todoOther, a_generalNode)) : wpX_expect post (f_tokenCount, f_accepted, f_lastPlace, f_openCount, f_draftOpen, nI ss.length, f_stepCount, f_bindingCount, f_waitingCount, f_clashPlace, f_nodeCount, f_todoCount, a_kinds, a_values, a_declaredSize, a_declaredNodes, a_draftSize, a_draftNodes, a_symbols, a_symbolPlaces, a_steps, a_stepPlaces, a_bindings, a_boundType, a_waitingTypes, a_waitingFirm, a_shape, a_left, a_right, a_link, a_note, a_todo, a_todoOther, a_generalNode) (nI s) (nI p) :=
  xw_expect hh (hp _ _ (st_2p hst))
theorem xw_range {post : SX → Prop} : ∀ (d f : Nat) (ss : pm_L) (sy pl : Nat → Int32), f + d < 100 → ss.length + d + 1 < 512 → st_2 sy pl ss → (∀ sy pl, st_2 sy pl (((List.range (d + 1)).map (fun i => (f + d - i, 0))) ++ ss) → post (f_tokenCount, f_accepted, f_lastPlace, f_openCount, f_draftOpen, nI (((List.range (d + 1)).map (fun i => (f + d - i, 0))) ++ ss).length, f_stepCount, f_bindingCount, f_waitingCount, f_clashPlace, f_nodeCount, f_todoCount, a_kinds, a_values, a_declaredSize, a_declaredNodes, a_draftSize, a_draftNodes, sy, pl, a_steps, a_stepPlaces, a_bindings, a_boundType, a_waitingTypes, a_waitingFirm, a_shape, a_left, a_right, a_link, a_note, a_todo, a_todoOther, a_generalNode)) → wX_expectRange_2 post (nI (f + d)) (d + 2) (nI f) f_tokenCount f_accepted f_lastPlace f_openCount f_draftOpen (nI ss.length) f_stepCount f_bindingCount f_waitingCount f_clashPlace f_nodeCount f_todoCount a_kinds a_values a_declaredSize a_declaredNodes a_draftSize a_draftNodes sy pl a_steps a_stepPlaces a_bindings a_boundType a_waitingTypes a_waitingFirm a_shape a_left a_right a_link a_note a_todo a_todoOther a_generalNode := by
  intro d
  induction d with
  | zero =>
    intro f ss sy pl hf hl hst h
    refine br_f (nI_nlt (by omega) (by omega)) ?_
    refine xw_exp (p := 0) (by omega) hst (fun sy pl hst' => nm_r (nI_1 f) ?_)
    exact br_t (nI_lt (by omega) (by omega)) (h sy pl hst')
  | succ d ih =>
    intro f ss sy pl hf hl hst h
    refine br_f (nI_nlt (by omega) (by omega)) ?_
    refine xw_exp (p := 0) (by omega) hst (fun sy pl hst' => nm_r (nI_1 f) ?_)
    have e1 : f + (d + 1) = f + 1 + d := by omega
    rw [e1]
    refine ih (f + 1) ((f, 0) :: ss) sy pl (by omega) (by rw [List.length_cons]; omega) hst' (fun sy pl hst2 => ?_)
    have e2 : ((List.range (d + 1)).map (fun i => (f + 1 + d - i, 0))) ++ (f, 0) :: ss = ((List.range (d + 1 + 1)).map (fun i => (f + (d + 1) - i, 0))) ++ ss := by
      rw [List.range_succ (n := d + 1), List.map_append, List.append_assoc, e1]
      congr 1
      simp
      omega
    rw [e2] at hst2 ⊢
    exact h sy pl hst2
theorem xw_alone {post : Int32 → Prop} {a : Nat} {Kt : Nat → Nat} (hk : Kt a < 38 ∨ Kt a = 99) (h : post (if pm_alone (Kt a) = true then 1 else 0)) : wpX_isAtomAlone post (f_tokenCount, f_accepted, f_lastPlace, f_openCount, f_draftOpen, f_symbolCount, f_stepCount, f_bindingCount, f_waitingCount, f_clashPlace, f_nodeCount, f_todoCount, a_kinds, a_values, a_declaredSize, a_declaredNodes, a_draftSize, a_draftNodes, a_symbols, a_symbolPlaces, a_steps, a_stepPlaces, a_bindings, a_boundType, a_waitingTypes, a_waitingFirm, a_shape, a_left, a_right, a_link, a_note, a_todo, a_todoOther, a_generalNode) (xe_v Kt a) := by
  unfold wpX_isAtomAlone
  by_cases k99 : Kt a = 99
  · have e : xe_v Kt a = -1 := if_pos k99
    rw [e]
    rw [k99] at h
    exact br_t (by decide) h
  · rw [xe_v_eq rfl (by omega)]
    generalize Kt a = t at *
    refine br_f (nI_pos (by omega)) ?_
    by_cases k30 : 30 < t
    · refine br_t (nI_lt (a := 30) k30 (by omega)) ?_
      have e : pm_alone t = false := by unfold pm_alone; simp; omega
      rw [e] at h
      exact h
    · refine br_f (nI_nlt (a := 30) (by omega) (by omega)) ?_
      have ht : t = 0 ∨ t = 1 ∨ t = 2 ∨ t = 3 ∨ t = 4 ∨ t = 5 ∨ t = 6 ∨ t = 7 ∨ t = 8 ∨ t = 9 ∨ t = 10 ∨ t = 11 ∨ t = 12 ∨ t = 13 ∨ t = 14 ∨ t = 15 ∨ t = 16 ∨ t = 17 ∨ t = 18 ∨ t = 19 ∨ t = 20 ∨ t = 21 ∨ t = 22 ∨ t = 23 ∨ t = 24 ∨ t = 25 ∨ t = 26 ∨ t = 27 ∨ t = 28 ∨ t = 29 ∨ t = 30 := by omega
      rcases ht with rfl | rfl | rfl | rfl | rfl | rfl | rfl | rfl | rfl | rfl | rfl | rfl | rfl | rfl | rfl | rfl | rfl | rfl | rfl | rfl | rfl | rfl | rfl | rfl | rfl | rfl | rfl | rfl | rfl | rfl | rfl
      · exact br_t rfl h
      · exact br_f (by decide) (br_t rfl h)
      · exact br_f (by decide) (br_f (by decide) (br_t rfl h))
      · exact br_f (by decide) (br_f (by decide) (br_f (by decide) (br_t rfl h)))
      · exact br_f (by decide) (br_f (by decide) (br_f (by decide) (br_f (by decide) (br_t rfl h))))
      · exact br_f (by decide) (br_f (by decide) (br_f (by decide) (br_f (by decide) (br_f (by decide) (br_t rfl h)))))
      · exact br_f (by decide) (br_f (by decide) (br_f (by decide) (br_f (by decide) (br_f (by decide) (br_f (by decide) (br_t rfl h))))))
      · exact br_f (by decide) (br_f (by decide) (br_f (by decide) (br_f (by decide) (br_f (by decide) (br_f (by decide) (br_f (by decide) (br_t rfl h)))))))
      · exact br_f (by decide) (br_f (by decide) (br_f (by decide) (br_f (by decide) (br_f (by decide) (br_f (by decide) (br_f (by decide) (br_f (by decide) (br_t rfl h))))))))
      · exact br_f (by decide) (br_f (by decide) (br_f (by decide) (br_f (by decide) (br_f (by decide) (br_f (by decide) (br_f (by decide) (br_f (by decide) (br_f (by decide) (br_t rfl h)))))))))
      · exact br_f (by decide) (br_f (by decide) (br_f (by decide) (br_f (by decide) (br_f (by decide) (br_f (by decide) (br_f (by decide) (br_f (by decide) (br_f (by decide) (br_f (by decide) (br_t rfl h))))))))))
      · exact br_f (by decide) (br_f (by decide) (br_f (by decide) (br_f (by decide) (br_f (by decide) (br_f (by decide) (br_f (by decide) (br_f (by decide) (br_f (by decide) (br_f (by decide) (br_f (by decide) (br_t rfl h)))))))))))
      · exact br_f (by decide) (br_f (by decide) (br_f (by decide) (br_f (by decide) (br_f (by decide) (br_f (by decide) (br_f (by decide) (br_f (by decide) (br_f (by decide) (br_f (by decide) (br_f (by decide) (br_f (by decide) (br_t rfl h))))))))))))
      · exact br_f (by decide) (br_f (by decide) (br_f (by decide) (br_f (by decide) (br_f (by decide) (br_f (by decide) (br_f (by decide) (br_f (by decide) (br_f (by decide) (br_f (by decide) (br_f (by decide) (br_f (by decide) (br_f (by decide) (br_t rfl h)))))))))))))
      · exact br_f (by decide) (br_f (by decide) (br_f (by decide) (br_f (by decide) (br_f (by decide) (br_f (by decide) (br_f (by decide) (br_f (by decide) (br_f (by decide) (br_f (by decide) (br_f (by decide) (br_f (by decide) (br_f (by decide) (br_f (by decide) (br_t rfl h))))))))))))))
      · exact br_f (by decide) (br_f (by decide) (br_f (by decide) (br_f (by decide) (br_f (by decide) (br_f (by decide) (br_f (by decide) (br_f (by decide) (br_f (by decide) (br_f (by decide) (br_f (by decide) (br_f (by decide) (br_f (by decide) (br_f (by decide) (br_f (by decide) (br_t rfl h)))))))))))))))
      · exact br_f (by decide) (br_f (by decide) (br_f (by decide) (br_f (by decide) (br_f (by decide) (br_f (by decide) (br_f (by decide) (br_f (by decide) (br_f (by decide) (br_f (by decide) (br_f (by decide) (br_f (by decide) (br_f (by decide) (br_f (by decide) (br_f (by decide) (br_f (by decide) (br_t rfl h))))))))))))))))
      · exact br_f (by decide) (br_f (by decide) (br_f (by decide) (br_f (by decide) (br_f (by decide) (br_f (by decide) (br_f (by decide) (br_f (by decide) (br_f (by decide) (br_f (by decide) (br_f (by decide) (br_f (by decide) (br_f (by decide) (br_f (by decide) (br_f (by decide) (br_f (by decide) (br_f (by decide) (br_t rfl h)))))))))))))))))
      · exact br_f (by decide) (br_f (by decide) (br_f (by decide) (br_f (by decide) (br_f (by decide) (br_f (by decide) (br_f (by decide) (br_f (by decide) (br_f (by decide) (br_f (by decide) (br_f (by decide) (br_f (by decide) (br_f (by decide) (br_f (by decide) (br_f (by decide) (br_f (by decide) (br_f (by decide) (br_f (by decide) (br_t rfl h))))))))))))))))))
      · exact br_f (by decide) (br_f (by decide) (br_f (by decide) (br_f (by decide) (br_f (by decide) (br_f (by decide) (br_f (by decide) (br_f (by decide) (br_f (by decide) (br_f (by decide) (br_f (by decide) (br_f (by decide) (br_f (by decide) (br_f (by decide) (br_f (by decide) (br_f (by decide) (br_f (by decide) (br_f (by decide) (br_f (by decide) (br_t rfl h)))))))))))))))))))
      · exact br_f (by decide) (br_f (by decide) (br_f (by decide) (br_f (by decide) (br_f (by decide) (br_f (by decide) (br_f (by decide) (br_f (by decide) (br_f (by decide) (br_f (by decide) (br_f (by decide) (br_f (by decide) (br_f (by decide) (br_f (by decide) (br_f (by decide) (br_f (by decide) (br_f (by decide) (br_f (by decide) (br_f (by decide) (br_f (by decide) (br_t rfl h))))))))))))))))))))
      · exact br_f (by decide) (br_f (by decide) (br_f (by decide) (br_f (by decide) (br_f (by decide) (br_f (by decide) (br_f (by decide) (br_f (by decide) (br_f (by decide) (br_f (by decide) (br_f (by decide) (br_f (by decide) (br_f (by decide) (br_f (by decide) (br_f (by decide) (br_f (by decide) (br_f (by decide) (br_f (by decide) (br_f (by decide) (br_f (by decide) (br_f (by decide) (br_t rfl h)))))))))))))))))))))
      · exact br_f (by decide) (br_f (by decide) (br_f (by decide) (br_f (by decide) (br_f (by decide) (br_f (by decide) (br_f (by decide) (br_f (by decide) (br_f (by decide) (br_f (by decide) (br_f (by decide) (br_f (by decide) (br_f (by decide) (br_f (by decide) (br_f (by decide) (br_f (by decide) (br_f (by decide) (br_f (by decide) (br_f (by decide) (br_f (by decide) (br_f (by decide) (br_f (by decide) (br_t rfl h))))))))))))))))))))))
      · exact br_f (by decide) (br_f (by decide) (br_f (by decide) (br_f (by decide) (br_f (by decide) (br_f (by decide) (br_f (by decide) (br_f (by decide) (br_f (by decide) (br_f (by decide) (br_f (by decide) (br_f (by decide) (br_f (by decide) (br_f (by decide) (br_f (by decide) (br_f (by decide) (br_f (by decide) (br_f (by decide) (br_f (by decide) (br_f (by decide) (br_f (by decide) (br_f (by decide) (br_f (by decide) (br_t rfl h)))))))))))))))))))))))
      · exact br_f (by decide) (br_f (by decide) (br_f (by decide) (br_f (by decide) (br_f (by decide) (br_f (by decide) (br_f (by decide) (br_f (by decide) (br_f (by decide) (br_f (by decide) (br_f (by decide) (br_f (by decide) (br_f (by decide) (br_f (by decide) (br_f (by decide) (br_f (by decide) (br_f (by decide) (br_f (by decide) (br_f (by decide) (br_f (by decide) (br_f (by decide) (br_f (by decide) (br_f (by decide) (br_f (by decide) (br_t rfl h))))))))))))))))))))))))
      · exact br_f (by decide) (br_f (by decide) (br_f (by decide) (br_f (by decide) (br_f (by decide) (br_f (by decide) (br_f (by decide) (br_f (by decide) (br_f (by decide) (br_f (by decide) (br_f (by decide) (br_f (by decide) (br_f (by decide) (br_f (by decide) (br_f (by decide) (br_f (by decide) (br_f (by decide) (br_f (by decide) (br_f (by decide) (br_f (by decide) (br_f (by decide) (br_f (by decide) (br_f (by decide) (br_f (by decide) (br_f (by decide) (br_t rfl h)))))))))))))))))))))))))
      · exact br_f (by decide) (br_f (by decide) (br_f (by decide) (br_f (by decide) (br_f (by decide) (br_f (by decide) (br_f (by decide) (br_f (by decide) (br_f (by decide) (br_f (by decide) (br_f (by decide) (br_f (by decide) (br_f (by decide) (br_f (by decide) (br_f (by decide) (br_f (by decide) (br_f (by decide) (br_f (by decide) (br_f (by decide) (br_f (by decide) (br_f (by decide) (br_f (by decide) (br_f (by decide) (br_f (by decide) (br_f (by decide) (br_f (by decide) (br_t rfl h))))))))))))))))))))))))))
      · exact br_f (by decide) (br_f (by decide) (br_f (by decide) (br_f (by decide) (br_f (by decide) (br_f (by decide) (br_f (by decide) (br_f (by decide) (br_f (by decide) (br_f (by decide) (br_f (by decide) (br_f (by decide) (br_f (by decide) (br_f (by decide) (br_f (by decide) (br_f (by decide) (br_f (by decide) (br_f (by decide) (br_f (by decide) (br_f (by decide) (br_f (by decide) (br_f (by decide) (br_f (by decide) (br_f (by decide) (br_f (by decide) (br_f (by decide) (br_f (by decide) (br_t rfl h)))))))))))))))))))))))))))
      · exact br_f (by decide) (br_f (by decide) (br_f (by decide) (br_f (by decide) (br_f (by decide) (br_f (by decide) (br_f (by decide) (br_f (by decide) (br_f (by decide) (br_f (by decide) (br_f (by decide) (br_f (by decide) (br_f (by decide) (br_f (by decide) (br_f (by decide) (br_f (by decide) (br_f (by decide) (br_f (by decide) (br_f (by decide) (br_f (by decide) (br_f (by decide) (br_f (by decide) (br_f (by decide) (br_f (by decide) (br_f (by decide) (br_f (by decide) (br_f (by decide) (br_f (by decide) (br_t rfl h))))))))))))))))))))))))))))
      · exact br_f (by decide) (br_f (by decide) (br_f (by decide) (br_f (by decide) (br_f (by decide) (br_f (by decide) (br_f (by decide) (br_f (by decide) (br_f (by decide) (br_f (by decide) (br_f (by decide) (br_f (by decide) (br_f (by decide) (br_f (by decide) (br_f (by decide) (br_f (by decide) (br_f (by decide) (br_f (by decide) (br_f (by decide) (br_f (by decide) (br_f (by decide) (br_f (by decide) (br_f (by decide) (br_f (by decide) (br_f (by decide) (br_f (by decide) (br_f (by decide) (br_f (by decide) (br_f (by decide) (br_t rfl h)))))))))))))))))))))))))))))
      · exact br_f (by decide) (br_f (by decide) (br_f (by decide) (br_f (by decide) (br_f (by decide) (br_f (by decide) (br_f (by decide) (br_f (by decide) (br_f (by decide) (br_f (by decide) (br_f (by decide) (br_f (by decide) (br_f (by decide) (br_f (by decide) (br_f (by decide) (br_f (by decide) (br_f (by decide) (br_f (by decide) (br_f (by decide) (br_f (by decide) (br_f (by decide) (br_f (by decide) (br_f (by decide) (br_f (by decide) (br_f (by decide) (br_f (by decide) (br_f (by decide) (br_f (by decide) (br_f (by decide) (br_f (by decide) (br_t rfl h))))))))))))))))))))))))))))))
end
