/-! the component makes a type general -/
section
variable {f_tokenCount f_accepted f_lastPlace f_openCount f_draftOpen f_symbolCount f_stepCount f_bindingCount f_waitingCount f_clashPlace f_nodeCount f_todoCount : Int32} {a_kinds a_values a_declaredSize a_declaredNodes a_draftSize a_draftNodes a_symbols a_symbolPlaces a_steps a_stepPlaces a_bindings a_boundType a_waitingTypes a_waitingFirm a_shape a_left a_right a_link a_note a_todo a_todoOther a_generalNode : Nat → Int32}
variable {kd pa pb : Nat → Nat} {n K : Nat}
/-- the nodes reached so far, in their order: in the array td, marked in note -/
def xq_I (n : Nat) (kd : Nat → Nat) (note td : Nat → Int32) (Q : List Nat) : Prop :=
  (∀ i, i ∈ Q → i < n ∧ kd i ≠ 1000) ∧ (∀ i, i < n → (i ∈ Q → note i = 1) ∧ (i ∉ Q → note i = 0)) ∧ (∀ (i x : Nat), Q[i]? = some x → td i = nI x) ∧ Q.Nodup ∧ Q.length + ct_n (fun i => decide (i ∉ Q)) n ≤ n
theorem xq_0 {kd : Nat → Nat} {note td : Nat → Int32} (h : ∀ i, i < n → note i = 0) : xq_I n kd note td [] := by
  refine ⟨fun i hi => (by cases hi), fun i hi => ⟨fun z => (by cases z), fun _ => h i hi⟩, fun i x hx => (by cases hx), List.nodup_nil, ?_⟩
  have := ct_le (p := fun i => decide (i ∉ ([] : List Nat))) n
  simpa using this
/-- reach: the node is among those reached then -/
theorem xw_reach {post : SX → Prop} {x : Nat} {Q : List Nat} (hn : n ≤ 4000) (I : xq_I n kd a_note a_todo Q) (hx : x < n) (hk : kd x ≠ 1000)
    (h1 : x ∈ Q → post (f_tokenCount, f_accepted, f_lastPlace, f_openCount, f_draftOpen, f_symbolCount, f_stepCount, f_bindingCount, f_waitingCount, f_clashPlace, f_nodeCount, nI Q.length, a_kinds, a_values, a_declaredSize, a_declaredNodes, a_draftSize, a_draftNodes, a_symbols, a_symbolPlaces, a_steps, a_stepPlaces, a_bindings, a_boundType, a_waitingTypes, a_waitingFirm, a_shape, a_left, a_right, a_link, a_note, a_todo, a_todoOther, a_generalNode))
    (h2 : x ∉ Q → ∀ note td, xq_I n kd note td (Q ++ [x]) → post (f_tokenCount, f_accepted, f_lastPlace, f_openCount, f_draftOpen, f_symbolCount, f_stepCount, f_bindingCount, f_waitingCount, f_clashPlace, f_nodeCount, nI (Q ++ [x]).length, a_kinds, a_values, a_declaredSize, a_declaredNodes, a_draftSize, a_draftNodes, a_symbols, a_symbolPlaces, a_steps, a_stepPlaces, a_bindings, a_boundType, a_waitingTypes, a_waitingFirm, a_shape, a_left, a_right, a_link, note, td, a_todoOther, a_generalNode)) : wpX_reach post (f_tokenCount, f_accepted, f_lastPlace, f_openCount, f_draftOpen, f_symbolCount, f_stepCount, f_bindingCount, f_waitingCount, f_clashPlace, f_nodeCount, nI Q.length, a_kinds, a_values, a_declaredSize, a_declaredNodes, a_draftSize, a_draftNodes, a_symbols, a_symbolPlaces, a_steps, a_stepPlaces, a_bindings, a_boundType, a_waitingTypes, a_waitingFirm, a_shape, a_left, a_right, a_link, a_note, a_todo, a_todoOther, a_generalNode) (nI x) := by
  obtain ⟨iP, iN, iT, iD, iC⟩ := I
  have vx : vp_in (nI x) 4096 := vp_in_nI (by omega) (by decide)
  refine ⟨vx, ?_⟩
  rw [nI_clamp (by omega)]
  by_cases c : x ∈ Q
  · rw [(iN x hx).1 c]
    exact br_f (by decide) (h1 c)
  · rw [(iN x hx).2 c]
    have hct := ct_u (p := fun i => decide (i ∉ Q)) (q := fun i => decide (i ∉ Q ++ [x])) (a := x) (by simpa using c) (by simp) (fun i hi => by simp [hi]) n hx
    refine br_t rfl (br_f (nI_ge (b := 4096) (by omega) (by decide)) ⟨vx, nm_e ⟨vp_in_nI (by omega) (by decide), ?_⟩⟩)
    rw [nI_clamp (by omega)]
    refine nm_e (nm_r (nI_1 Q.length) ?_)
    have z := h2 c (upd a_note x 1) (upd a_todo Q.length (nI x)) ⟨fun i hi => ?_, fun i hi => ⟨fun q => ?_, fun q => ?_⟩, fun i y hy => ?_, ?_, ?_⟩
    · rw [List.length_append, List.length_singleton] at z; exact z
    · rcases List.mem_append.mp hi with q | q
      · exact iP i q
      · rw [List.mem_singleton.mp q]; exact ⟨hx, hk⟩
    · by_cases e : i = x
      · rw [e, pk_us]
      · rw [pk_un e]
        rcases List.mem_append.mp q with q | q
        · exact (iN i hi).1 q
        · exact (e (List.mem_singleton.mp q)).elim
    · have e : i ≠ x := fun e => q (e ▸ List.mem_append.mpr (Or.inr List.mem_cons_self))
      rw [pk_un e]
      exact (iN i hi).2 (fun k => q (List.mem_append.mpr (Or.inl k)))
    · by_cases l : i < Q.length
      · rw [List.getElem?_append_left l] at hy
        rw [pk_un (by omega)]; exact iT i y hy
      · rw [List.getElem?_append_right (by omega)] at hy
        have e : i = Q.length := by
          by_cases q : i - Q.length = 0
          · omega
          · obtain ⟨w, hw⟩ : ∃ w, i - Q.length = w + 1 := ⟨i - Q.length - 1, by omega⟩
            rw [hw] at hy
            cases hy
        subst e
        rw [Nat.sub_self] at hy
        simp at hy
        rw [pk_us, hy]
    · rw [List.nodup_append]
      exact ⟨iD, ls_nd1 _, fun a ha b hb => by rw [List.mem_singleton.mp hb]; exact fun e => c (e ▸ ha)⟩
    · rw [List.length_append, List.length_singleton]; omega
theorem xq_len {note td : Nat → Int32} {Q : List Nat} (I : xq_I n kd note td Q) : Q.length ≤ n := by
  have := I.2.2.2.2
  omega
/-- reachParts from the place j on: P is kept, and all parts of the nodes from there on are reached -/
theorem xw_rparts_l {post : SX → Prop} {P : Nat → Prop} (hn : n ≤ 4000) (W : gr_W n kd pa pb) (hG : xg_G n a_shape a_left a_right a_link kd pa pb) (hL : gr_L n kd pa K) (hK : K ≤ 4096)
    (hP : ∀ i, i < n → P i → gr_cn (kd i) → (∀ x, gr_to kd pa (pa i) x → P x) ∧ ∀ x, gr_to kd pa (pb i) x → P x) (Q0 : List Nat) (j0 : Nat)
    (h : ∀ note td R, xq_I n kd note td (Q0 ++ R) → (∀ x, x ∈ R → P x) → (∀ (i x : Nat), j0 ≤ i → (Q0 ++ R)[i]? = some x → gr_cn (kd x) → (∀ y, gr_to kd pa (pa x) y → y ∈ Q0 ++ R) ∧ ∀ y, gr_to kd pa (pb x) y → y ∈ Q0 ++ R) → post (f_tokenCount, f_accepted, f_lastPlace, f_openCount, f_draftOpen, f_symbolCount, f_stepCount, f_bindingCount, f_waitingCount, f_clashPlace, f_nodeCount, nI (Q0 ++ R).length, a_kinds, a_values, a_declaredSize, a_declaredNodes, a_draftSize, a_draftNodes, a_symbols, a_symbolPlaces, a_steps, a_stepPlaces, a_bindings, a_boundType, a_waitingTypes, a_waitingFirm, a_shape, a_left, a_right, a_link, note, td, a_todoOther, a_generalNode)) :
    ∀ d j R note td, xq_I n kd note td (Q0 ++ R) → j0 ≤ j → j ≤ (Q0 ++ R).length → n ≤ j + d → (∀ x, x ∈ R → P x) → (∀ (i x : Nat), j0 ≤ i → (Q0 ++ R)[i]? = some x → P x) → (∀ (i x : Nat), j0 ≤ i → i < j → (Q0 ++ R)[i]? = some x → gr_cn (kd x) → (∀ y, gr_to kd pa (pa x) y → y ∈ Q0 ++ R) ∧ ∀ y, gr_to kd pa (pb x) y → y ∈ Q0 ++ R) → wX_reachParts_2 post (d + 1) (nI j) f_tokenCount f_accepted f_lastPlace f_openCount f_draftOpen f_symbolCount f_stepCount f_bindingCount f_waitingCount f_clashPlace f_nodeCount (nI (Q0 ++ R).length) a_kinds a_values a_declaredSize a_declaredNodes a_draftSize a_draftNodes a_symbols a_symbolPlaces a_steps a_stepPlaces a_bindings a_boundType a_waitingTypes a_waitingFirm a_shape a_left a_right a_link note td a_todoOther a_generalNode := by
  intro d
  induction d with
  | zero =>
    intro j R note td I h0 hj hd hR hq hc
    have := xq_len I
    refine br_t (nI_le (by omega) (by omega)) (h note td R I hR (fun i x hi hx => hc i x hi ?_ hx))
    have := (List.getElem?_eq_some_iff.mp hx).1
    omega
  | succ d ih =>
    intro j R note td I h0 hj hd hR hq hc
    have hlen := xq_len I
    by_cases c : j < (Q0 ++ R).length
    · obtain ⟨x, hx⟩ : ∃ x, (Q0 ++ R)[j]? = some x := ⟨(Q0 ++ R)[j], List.getElem?_eq_getElem c⟩
      have xQ : x ∈ Q0 ++ R := List.mem_of_getElem? hx
      obtain ⟨xn, xk⟩ := I.1 x xQ
      have etd : td j = nI x := I.2.2.1 j x hx
      have vj : vp_in (nI j) 4096 := vp_in_nI (by omega) (by decide)
      have vx : vp_in (nI x) 4096 := vp_in_nI (by omega) (by decide)
      have cj : (nI j).toNatClampNeg = j := nI_clamp (by omega)
      have cx : (nI x).toNatClampNeg = x := nI_clamp (by omega)
      obtain ⟨sx1, sx2, sx3⟩ := xg_sh hG xn xk
      refine br_f (nI_ge c (by omega)) (br_f (nI_ge (b := 4096) (by omega) (by decide)) ⟨vj, ?_⟩)
      rw [cj, etd]
      -- the next place, once the parts are reached
      have next : ∀ R' note' td', xq_I n kd note' td' (Q0 ++ R') → (∀ y, y ∈ Q0 ++ R → y ∈ Q0 ++ R') → (∀ (i y : Nat), (Q0 ++ R)[i]? = some y → (Q0 ++ R')[i]? = some y) → (∀ y, y ∈ R' → P y) → (∀ (i y : Nat), j0 ≤ i → (Q0 ++ R')[i]? = some y → P y) → (gr_cn (kd x) → (∀ y, gr_to kd pa (pa x) y → y ∈ Q0 ++ R') ∧ ∀ y, gr_to kd pa (pb x) y → y ∈ Q0 ++ R') → (Q0 ++ R).length ≤ (Q0 ++ R').length → wX_reachParts_2 post (d + 1) (nI (j + 1)) f_tokenCount f_accepted f_lastPlace f_openCount f_draftOpen f_symbolCount f_stepCount f_bindingCount f_waitingCount f_clashPlace f_nodeCount (nI (Q0 ++ R').length) a_kinds a_values a_declaredSize a_declaredNodes a_draftSize a_draftNodes a_symbols a_symbolPlaces a_steps a_stepPlaces a_bindings a_boundType a_waitingTypes a_waitingFirm a_shape a_left a_right a_link note' td' a_todoOther a_generalNode := by
        intro R' note' td' I' sub same hR' hq' hch hlen'
        refine ih (j + 1) R' note' td' I' (by omega) (by omega) (by omega) hR' hq' (fun i y hi hij hy hcy => ?_)
        by_cases e : i = j
        · subst e
          have e2 : y = x := by
            have := same _ _ hx
            rw [this] at hy
            exact (Option.some.inj hy).symm
          subst e2
          exact hch hcy
        · have li : i < (Q0 ++ R).length := by omega
          have hy' : (Q0 ++ R)[i]? = some y := by
            have := same i _ (List.getElem?_eq_getElem li)
            rw [this] at hy
            rw [List.getElem?_eq_getElem li]; exact hy
          obtain ⟨a1, a2⟩ := hc i y hi (by omega) hy' hcy
          exact ⟨fun w hw => sub w (a1 w hw), fun w hw => sub w (a2 w hw)⟩
      refine xw_parts (k := kd x) (by omega) sx2 sx1 (fun hc1 => ?_) (fun hc0 => ?_)
      · have w := (W x xn).2 hc1
        have t1 := gr_L_to hL w.1
        have t2 := gr_L_to hL w.2
        generalize e1 : gr_f kd pa K (pa x) = y1 at t1
        generalize e2 : gr_f kd pa K (pb x) = y2 at t2
        have n1 := gr_to_n W t1 w.1
        have n2 := gr_to_n W t2 w.2
        obtain ⟨p1, p2⟩ := hP x xn (hq j x h0 hx) hc1
        have q1 := p1 y1 t1
        have q2 := p2 y2 t2
        refine br_f (by decide) ⟨vj, vx, ?_⟩
        rw [cx, (sx3 hc1).1, (sx3 hc1).2]
        refine xw_find hG (by omega) hL hK w.1 t1 ⟨vj, vx, ?_⟩
        refine xw_find hG (by omega) hL hK w.2 t2 ?_
        have step2 : ∀ R1 note1 td1, xq_I n kd note1 td1 (Q0 ++ R1) → (∀ y, y ∈ Q0 ++ R → y ∈ Q0 ++ R1) → (∀ (i y : Nat), (Q0 ++ R)[i]? = some y → (Q0 ++ R1)[i]? = some y) → (∀ y, y ∈ R1 → P y) → (∀ (i y : Nat), j0 ≤ i → (Q0 ++ R1)[i]? = some y → P y) → y1 ∈ Q0 ++ R1 → (Q0 ++ R).length ≤ (Q0 ++ R1).length → wpX_reach (fun u => match u with | (f_tokenCount_9, f_accepted_9, f_lastPlace_9, f_openCount_9, f_draftOpen_9, f_symbolCount_9, f_stepCount_9, f_bindingCount_9, f_waitingCount_9, f_clashPlace_9, f_nodeCount_9, f_todoCount_9, a_kinds_9, a_values_9, a_declaredSize_9, a_declaredNodes_9, a_draftSize_9, a_draftNodes_9, a_symbols_9, a_symbolPlaces_9, a_steps_9, a_stepPlaces_9, a_bindings_9, a_boundType_9, a_waitingTypes_9, a_waitingFirm_9, a_shape_9, a_left_9, a_right_9, a_link_9, a_note_9, a_todo_9, a_todoOther_9, a_generalNode_9) => (∀ x2_185 : Int32, x2_185 = nI j + 1 → (wX_reachParts_2 post (d + 1) x2_185 f_tokenCount_9 f_accepted_9 f_lastPlace_9 f_openCount_9 f_draftOpen_9 f_symbolCount_9 f_stepCount_9 f_bindingCount_9 f_waitingCount_9 f_clashPlace_9 f_nodeCount_9 f_todoCount_9 a_kinds_9 a_values_9 a_declaredSize_9 a_declaredNodes_9 a_draftSize_9 a_draftNodes_9 a_symbols_9 a_symbolPlaces_9 a_steps_9 a_stepPlaces_9 a_bindings_9 a_boundType_9 a_waitingTypes_9 a_waitingFirm_9 a_shape_9 a_left_9 a_right_9 a_link_9 a_note_9 a_todo_9 a_todoOther_9 a_generalNode_9))) (f_tokenCount, f_accepted, f_lastPlace, f_openCount, f_draftOpen, f_symbolCount, f_stepCount, f_bindingCount, f_waitingCount, f_clashPlace, f_nodeCount, nI (Q0 ++ R1).length, a_kinds, a_values, a_declaredSize, a_declaredNodes, a_draftSize, a_draftNodes, a_symbols, a_symbolPlaces, a_steps, a_stepPlaces, a_bindings, a_boundType, a_waitingTypes, a_waitingFirm, a_shape, a_left, a_right, a_link, note1, td1, a_todoOther, a_generalNode) (nI y2) := by
          intro R1 note1 td1 I1 sub1 same1 hR1 hq1 hy1 hl1
          have fin : y2 ∈ Q0 ++ R1 → gr_cn (kd x) → (∀ y, gr_to kd pa (pa x) y → y ∈ Q0 ++ R1) ∧ ∀ y, gr_to kd pa (pb x) y → y ∈ Q0 ++ R1 := fun h2 _ => ⟨fun y hy => by rw [gr_to_u hy t1]; exact hy1, fun y hy => by rw [gr_to_u hy t2]; exact h2⟩
          refine xw_reach hn I1 n2 t2.1 (fun h2 => nm_r (nI_1 j) (next R1 note1 td1 I1 sub1 same1 hR1 hq1 (fin h2) hl1)) (fun h2 note2 td2 I2 => ?_)
          rw [List.append_assoc] at I2 ⊢
          have app : ∀ (i y : Nat), (Q0 ++ R1)[i]? = some y → (Q0 ++ (R1 ++ [y2]))[i]? = some y := fun i y hy => by
            rw [← List.append_assoc, List.getElem?_append_left (List.getElem?_eq_some_iff.mp hy).1]; exact hy
          have memb : ∀ y, y ∈ Q0 ++ R1 → y ∈ Q0 ++ (R1 ++ [y2]) := fun y hy => by rw [← List.append_assoc]; exact List.mem_append_left _ hy
          have last : y2 ∈ Q0 ++ (R1 ++ [y2]) := by rw [← List.append_assoc]; exact List.mem_append_right _ List.mem_cons_self
          refine nm_r (nI_1 j) (next (R1 ++ [y2]) note2 td2 I2 (fun y hy => memb y (sub1 y hy)) (fun i y hy => app i y (same1 i y hy)) (fun y hy => ?_) (fun i y hi hy => ?_) (fun _ => ⟨fun y hy => by rw [gr_to_u hy t1]; exact memb _ hy1, fun y hy => by rw [gr_to_u hy t2]; exact last⟩) (by simp only [List.length_append] at hl1 ⊢; omega))
          · rcases List.mem_append.mp hy with z | z
            · exact hR1 y z
            · rw [List.mem_singleton.mp z]; exact q2
          · by_cases l : i < (Q0 ++ R1).length
            · exact hq1 i y hi (by rw [← List.append_assoc, List.getElem?_append_left l] at hy; exact hy)
            · rw [← List.append_assoc, List.getElem?_append_right (by omega)] at hy
              have := List.mem_of_getElem? hy
              rw [List.mem_singleton.mp this]; exact q2
        refine xw_reach hn I n1 t1.1 (fun h1 => step2 R note td I (fun _ h => h) (fun _ _ h => h) hR hq h1 (Nat.le_refl _)) (fun h1 note1 td1 I1 => ?_)
        rw [List.append_assoc] at I1 ⊢
        refine step2 (R ++ [y1]) note1 td1 I1 (fun y hy => by rw [← List.append_assoc]; exact List.mem_append_left _ hy) (fun i y hy => by rw [← List.append_assoc, List.getElem?_append_left (List.getElem?_eq_some_iff.mp hy).1]; exact hy) (fun y hy => ?_) (fun i y hi hy => ?_) (by rw [← List.append_assoc]; exact List.mem_append_right _ List.mem_cons_self) (by simp only [List.length_append]; omega)
        · rcases List.mem_append.mp hy with z | z
          · exact hR y z
          · rw [List.mem_singleton.mp z]; exact q1
        · by_cases l : i < (Q0 ++ R).length
          · exact hq i y hi (by rw [← List.append_assoc, List.getElem?_append_left l] at hy; exact hy)
          · rw [← List.append_assoc, List.getElem?_append_right (by omega)] at hy
            have := List.mem_of_getElem? hy
            rw [List.mem_singleton.mp this]; exact q1
      · exact br_t rfl (nm_r (nI_1 j) (next R note td I (fun _ h => h) (fun _ _ h => h) hR hq (fun z => (hc0 z).elim) (Nat.le_refl _)))
    · refine br_t (nI_le (by omega) (by omega)) (h note td R I hR (fun i x hi hx => hc i x hi ?_ hx))
      have := (List.getElem?_eq_some_iff.mp hx).1
      omega
end
