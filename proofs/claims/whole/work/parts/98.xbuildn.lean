/-! the component's nodes for a declared type, and what becomes of the notes -/
def xn_N (n n' : Nat) (note0 note : Nat → Int32) : Prop := (∀ i, i < n → note i = note0 i) ∧ ∀ i, n ≤ i → i < n' → note i = 0
theorem xn_s {n n' : Nat} {note0 note : Nat → Int32} (h : xn_N n n' note0 note) (hn : n ≤ n') : xn_N n (n' + 1) note0 (upd note n' 0) := by
  refine ⟨fun i hi => by rw [pk_un (by omega)]; exact h.1 i hi, fun i h1 h2 => ?_⟩
  by_cases c : i = n'
  · rw [c, pk_us]
  · rw [pk_un c]; exact h.2 i h1 (by omega)
section
variable {f_tokenCount f_accepted f_lastPlace f_openCount f_draftOpen f_symbolCount f_stepCount f_bindingCount f_waitingCount f_clashPlace f_nodeCount f_todoCount : Int32} {a_kinds a_values a_declaredSize a_declaredNodes a_draftSize a_draftNodes a_symbols a_symbolPlaces a_steps a_stepPlaces a_bindings a_boundType a_waitingTypes a_waitingFirm a_shape a_left a_right a_link a_note a_todo a_todoOther a_generalNode : Nat → Int32}
variable {kd pa pb : Nat → Nat} {n K : Nat}
theorem xw_bd35n {post : Int32 → SX → Prop} {v gk oc : Nat} {codes : List Nat} (hv : v < 12) (hnd : ∀ (k x : Nat), codes[k]? = some x → a_declaredNodes (v * 12 + k) = nI x) (hlen : codes.length ≤ 12) (hwf : cd_wf oc codes) (h1 : cd_n codes = 1) (hoc : oc ≤ n) (hgk : gk = 7 ∨ gk = 8) (hn : n + 12 ≤ 4000)
    (h : ∀ n' kd' pa' pb' gn t sh lf rt lk note td tdo gna tc, n' ≤ n + 12 → xn_N n n' a_note note → bd_I oc gk n n' kd pa pb kd' pa' pb' gn [t] codes → xg_G n' sh lf rt lk kd' pa' pb' → gr_L n' kd' pa' K → K + gr_nr kd' n' ≤ n' → post (nI t) (f_tokenCount, f_accepted, f_lastPlace, f_openCount, f_draftOpen, f_symbolCount, f_stepCount, f_bindingCount, f_waitingCount, f_clashPlace, nI n', tc, a_kinds, a_values, a_declaredSize, a_declaredNodes, a_draftSize, a_draftNodes, a_symbols, a_symbolPlaces, a_steps, a_stepPlaces, a_bindings, a_boundType, a_waitingTypes, a_waitingFirm, sh, lf, rt, lk, note, td, tdo, gna)) :
    ∀ pre cs n' kd' pa' pb' gn L sh lf rt lk note td tdo gna, codes = pre ++ cs → n' ≤ n + cs.length → xn_N n n' a_note note → bd_I oc gk n n' kd pa pb kd' pa' pb' gn L cs → L.length = cd_n cs → xg_G n' sh lf rt lk kd' pa' pb' → gr_L n' kd' pa' K → K + gr_nr kd' n' ≤ n' → st_1 td L → xb_N gna gn → wX_buildDeclared_35 post (nI v) (nI gk) (pre.length + 1) (nI pre.length + (-1)) f_tokenCount f_accepted f_lastPlace f_openCount f_draftOpen f_symbolCount f_stepCount f_bindingCount f_waitingCount f_clashPlace (nI n') (nI L.length) a_kinds a_values a_declaredSize a_declaredNodes a_draftSize a_draftNodes a_symbols a_symbolPlaces a_steps a_stepPlaces a_bindings a_boundType a_waitingTypes a_waitingFirm sh lf rt lk note td tdo gna := by
  intro pre
  induction hj : pre.length generalizing pre with
  | zero =>
    intro cs n' kd' pa' pb' gn L sh lf rt lk note td tdo gna e1 e2 eN I l hG hL hK hst hN
    have ep : pre = [] := List.eq_nil_of_length_eq_zero hj
    subst ep
    rw [List.nil_append] at e1
    subst e1
    rw [h1] at l
    obtain ⟨t, et⟩ := List.length_eq_one_iff.mp l
    subst et
    refine br_t (by decide) ?_
    rw [show td 0 = nI t from hst.1]
    exact h n' kd' pa' pb' gn t sh lf rt lk note td tdo gna _ (by omega) eN I hG hL hK
  | succ j ih =>
    intro cs n' kd' pa' pb' gn L sh lf rt lk note td tdo gna e1 e2 eN I l hG hL hK hst hN
    obtain ⟨pre', c, ep⟩ : ∃ pre' c, pre = pre' ++ [c] := ⟨pre.dropLast, pre.getLast (by intro z; rw [z] at hj; simp at hj), (List.dropLast_concat_getLast _).symm⟩
    have hj' : pre'.length = j := by rw [ep, List.length_append] at hj; simp at hj; exact hj
    have e3 : codes = pre' ++ (c :: cs) := by rw [e1, ep, List.append_assoc]; rfl
    have hc : codes[j]? = some c := by
      rw [e3, List.getElem?_append_right (by omega), hj', Nat.sub_self]; rfl
    have lc : pre'.length + (cs.length + 1) ≤ 12 := by
      rw [e3, List.length_append, List.length_cons] at hlen; exact hlen
    have wfc : cd_wf oc (c :: cs) := by
      have : ∀ (A B : List Nat), cd_wf oc (A ++ B) → cd_wf oc B := by
        intro A
        induction A with
        | nil => intro B q; exact q
        | cons x A ihA => intro B q; exact ihA B q.2.2
      rw [e3] at hwf
      exact this _ _ hwf
    obtain ⟨w1, w2, w3⟩ := wfc
    have Ll : L.length ≤ 12 := by
      have : ∀ l : List Nat, cd_n l ≤ l.length := by
        intro l
        induction l with
        | nil => exact Nat.le_refl 0
        | cons x l ihl => unfold cd_n; rw [List.length_cons]; omega
      have := this cs
      omega
    -- the node x for this code is put on top
    have next : ∀ n2 kd2 pa2 pb2 gn2 x L2 sh2 lf2 rt2 lk2 note2 td2 gna2, n2 ≤ n + (cs.length + 1) → xn_N n n2 a_note note2 → bd_I oc gk n n2 kd pa pb kd2 pa2 pb2 gn2 (x :: L2) (c :: cs) → (x :: L2).length = cd_n (c :: cs) → xg_G n2 sh2 lf2 rt2 lk2 kd2 pa2 pb2 → gr_L n2 kd2 pa2 K → K + gr_nr kd2 n2 ≤ n2 → st_1 td2 L2 → xb_N gna2 gn2 → wX_buildDeclared_99 post (wX_buildDeclared_35 post (nI v) (nI gk) (j + 1)) (nI v) (nI gk) (nI j) (nI x) f_tokenCount f_accepted f_lastPlace f_openCount f_draftOpen f_symbolCount f_stepCount f_bindingCount f_waitingCount f_clashPlace (nI n2) (nI L2.length) a_kinds a_values a_declaredSize a_declaredNodes a_draftSize a_draftNodes a_symbols a_symbolPlaces a_steps a_stepPlaces a_bindings a_boundType a_waitingTypes a_waitingFirm sh2 lf2 rt2 lk2 note2 td2 tdo gna2 := by
      intro n2 kd2 pa2 pb2 gn2 x L2 sh2 lf2 rt2 lk2 note2 td2 gna2 q1 qN q2 q3 q4 q5 q6 q7 q8
      have l2 : L2.length ≤ 12 := by
        have : ∀ l : List Nat, cd_n l ≤ l.length := by
          intro l
          induction l with
          | nil => exact Nat.le_refl 0
          | cons x l ihl => unfold cd_n; rw [List.length_cons]; omega
        have := this (c :: cs)
        rw [List.length_cons] at q3 this
        omega
      refine xw_addPair (by omega) (nm_e ?_)
      exact ih pre' hj' (c :: cs) n2 kd2 pa2 pb2 gn2 (x :: L2) sh2 lf2 rt2 lk2 note2 _ _ gna2 e3 q1 qN q2 q3 q4 q5 q6 (st_1p q7) q8
    rw [pk_m1]
    refine br_f (nI_pos (by omega)) ?_
    have ei : nI v * 12 + nI j = nI (v * 12 + j) := by
      rw [show (12 : Int32) = nI 12 from rfl, pk_mul, nI_add]
    rw [ei]
    refine ⟨vp_in_nI (by omega) (by decide), ?_⟩
    rw [nI_clamp (by omega), hnd j c hc]
    refine nm_e ?_
    have cn := cd_n cs
    by_cases c1 : 100 ≤ c
    · have q : 100 ≤ c ∧ c < 100 + oc := by omega
      refine br_f (nI_nlt (b := 100) q.1 (by omega)) ?_
      refine nm_r (e' := nI (c - 100)) ?_ ?_
      · rw [show (100 : Int32) = nI 100 from rfl, pk_sub q.1]
      · refine next n' kd' pa' pb' gn (c - 100) L sh lf rt lk note td gna (by omega) eN (bd_op I q.1 q.2) ?_ hG hL hK hst hN
        unfold cd_n cd_ar
        rw [if_neg (by omega), if_neg (by omega), List.length_cons, l, Nat.sub_zero]
    · refine br_t (nI_lt (b := 100) (by omega) (by decide)) ?_
      by_cases c2 : 10 ≤ c
      · have q : 10 ≤ c ∧ c < 22 := by omega
        have ar : ((c - 10) :: L).length = cd_n (c :: cs) := by
          unfold cd_n cd_ar
          rw [if_neg (by omega), if_neg (by omega), List.length_cons, l, Nat.sub_zero]
        rw [List.length_cons] at ar
        refine br_f (nI_nlt (b := 10) q.1 (by omega)) ?_
        have es : nI c - 10 = nI (c - 10) := by rw [show (10 : Int32) = nI 10 from rfl, pk_sub q.1]
        rw [es]
        have vg : vp_in (nI (c - 10)) 12 := vp_in_nI (by omega) (by decide)
        refine ⟨vg, ?_⟩
        rw [nI_clamp (by omega)]
        cases eg : gn (c - 10) with
        | some x =>
          have xv := (hN (c - 10) (by omega)).1 x eg
          have xn := (I.2.2.2.2.2.2.1 _ _ eg).2.1
          rw [xv]
          exact br_t (nI_pos' (by omega)) ⟨vg, next n' kd' pa' pb' gn x L sh lf rt lk note td gna (by omega) eN (bd_g I q.1 q.2 eg) (by rw [List.length_cons]; exact ar) hG hL hK hst hN⟩
        | none =>
          have xv := (hN (c - 10) (by omega)).2 eg
          rw [xv]
          obtain ⟨L2, K2⟩ := xt_L (k := gk) (a := 0) (b := 0) I.2.2.1 hL hK (by omega)
          refine br_f (by decide) ?_
          refine xw_new (by omega) ⟨vg, ?_⟩
          refine nm_e ⟨vg, ?_⟩
          rw [pk_us]
          refine next (n' + 1) _ _ _ (bd_u gn (c - 10) n') n' L _ _ _ _ _ td _ (by omega) (xn_s eN I.1) (bd_gn I q.1 q.2 eg hgk) (by rw [List.length_cons]; exact ar) (xg_new (k := gk) hG (by omega)) L2 K2 hst (fun g hg => ?_)
          by_cases e : g = c - 10
          · subst e
            rw [pk_us]
            refine ⟨fun x hx => ?_, fun hx => ?_⟩
            · unfold bd_u at hx; rw [if_pos rfl] at hx; cases hx; rfl
            · unfold bd_u at hx; rw [if_pos rfl] at hx; cases hx
          · rw [pk_un e]
            unfold bd_u
            rw [if_neg e]; exact hN g hg
      · refine br_t (nI_lt (b := 10) (by omega) (by decide)) ?_
        have hc7 : c < 7 := by omega
        unfold wpX_buildShape
        by_cases c3 : c < 3
        · refine br_f (nI_ge (b := 3) c3 (by decide)) ?_
          obtain ⟨L2, K2⟩ := xt_L (k := c) (a := 0) (b := 0) I.2.2.1 hL hK (by omega)
          refine xw_new (by omega) ?_
          refine next (n' + 1) _ _ _ gn n' L _ _ _ _ _ td gna (by omega) (xn_s eN I.1) (bd_con (k := c) (a := 0) (b := 0) I hoc hc7 rfl (Or.inl ⟨c3, rfl⟩)) ?_ (xg_new (k := c) hG (by omega)) L2 K2 hst hN
          unfold cd_n cd_ar
          rw [if_neg (by omega), if_neg (by omega), List.length_cons, l, Nat.sub_zero]
        · refine br_t (nI_le (a := 3) (by omega) (by omega)) ?_
          unfold cd_ar at w2
          cases L with
          | nil =>
            exfalso
            rw [List.length_nil] at l
            by_cases q : c = 5 ∨ c = 6
            · rw [if_pos q] at w2; omega
            · rw [if_neg q, if_pos (by omega)] at w2; omega
          | cons a L1 =>
            rw [List.length_cons] at l Ll ⊢
            refine xw_take (by omega) hst ?_
            have two : c = 5 ∨ c = 6 → wX_buildShape_29 (fun r_9 u => match u with | (f_tokenCount_9, f_accepted_9, f_lastPlace_9, f_openCount_9, f_draftOpen_9, f_symbolCount_9, f_stepCount_9, f_bindingCount_9, f_waitingCount_9, f_clashPlace_9, f_nodeCount_9, f_todoCount_9, a_kinds_9, a_values_9, a_declaredSize_9, a_declaredNodes_9, a_draftSize_9, a_draftNodes_9, a_symbols_9, a_symbolPlaces_9, a_steps_9, a_stepPlaces_9, a_bindings_9, a_boundType_9, a_waitingTypes_9, a_waitingFirm_9, a_shape_9, a_left_9, a_right_9, a_link_9, a_note_9, a_todo_9, a_todoOther_9, a_generalNode_9) => wX_buildDeclared_99 post (wX_buildDeclared_35 post (nI v) (nI gk) (j + 1)) (nI v) (nI gk) (nI j) r_9 f_tokenCount_9 f_accepted_9 f_lastPlace_9 f_openCount_9 f_draftOpen_9 f_symbolCount_9 f_stepCount_9 f_bindingCount_9 f_waitingCount_9 f_clashPlace_9 f_nodeCount_9 f_todoCount_9 a_kinds_9 a_values_9 a_declaredSize_9 a_declaredNodes_9 a_draftSize_9 a_draftNodes_9 a_symbols_9 a_symbolPlaces_9 a_steps_9 a_stepPlaces_9 a_bindings_9 a_boundType_9 a_waitingTypes_9 a_waitingFirm_9 a_shape_9 a_left_9 a_right_9 a_link_9 a_note_9 a_todo_9 a_todoOther_9 a_generalNode_9) (nI c) (nI a) f_tokenCount f_accepted f_lastPlace f_openCount f_draftOpen f_symbolCount f_stepCount f_bindingCount f_waitingCount f_clashPlace (nI n') (nI L1.length) a_kinds a_values a_declaredSize a_declaredNodes a_draftSize a_draftNodes a_symbols a_symbolPlaces a_steps a_stepPlaces a_bindings a_boundType a_waitingTypes a_waitingFirm sh lf rt lk note td tdo gna := by
              intro q
              rw [if_pos q] at w2
              cases L1 with
              | nil => rw [List.length_nil] at l; omega
              | cons b L2 =>
                rw [List.length_cons] at l Ll ⊢
                unfold wX_buildShape_29
                refine xw_take (by omega) hst.2 ?_
                obtain ⟨L3, K3⟩ := xt_L (k := c) (a := a) (b := b) I.2.2.1 hL hK (by omega)
                refine xw_new (by omega) ?_
                refine next (n' + 1) _ _ _ gn n' L2 _ _ _ _ _ td gna (by omega) (xn_s eN I.1) (bd_con (k := c) (a := a) (b := b) I hoc hc7 rfl (Or.inr (Or.inr (Or.inr ⟨q, rfl⟩)))) ?_ (xg_new (k := c) hG (by omega)) L3 K3 hst.2.2 hN
                unfold cd_n cd_ar
                rw [if_pos q, List.length_cons]; omega
            refine pk_eq c 5 (fun q => two (Or.inl q)) (fun q5 => ?_)
            refine pk_eq c 6 (fun q => two (Or.inr q)) (fun q6 => ?_)
            obtain ⟨L3, K3⟩ := xt_L (k := c) (a := a) (b := a) I.2.2.1 hL hK (by omega)
            unfold wX_buildShape_37
            refine xw_new (by omega) ?_
            refine next (n' + 1) _ _ _ gn n' L1 _ _ _ _ _ td gna (by omega) (xn_s eN I.1) (bd_con (k := c) (a := a) (b := a) I hoc hc7 rfl ?_) ?_ (xg_new (k := c) hG (by omega)) L3 K3 hst.2 hN
            · by_cases q3 : c = 3
              · exact Or.inr (Or.inl ⟨q3, rfl, rfl⟩)
              · exact Or.inr (Or.inr (Or.inl ⟨by omega, rfl, rfl⟩))
            · unfold cd_n cd_ar
              rw [if_neg (by omega), if_pos (by omega), List.length_cons]; omega
theorem xw_declaredn {post : Int32 → SX → Prop} {v gk oc : Nat} {codes : List Nat} (hv : v < 12) (hsz : a_declaredSize v = nI codes.length) (hnd : ∀ (k x : Nat), codes[k]? = some x → a_declaredNodes (v * 12 + k) = nI x) (hlen : codes.length ≤ 12) (hwf : cd_wf oc codes) (h1 : cd_n codes = 1) (hoc : oc ≤ n) (hgk : gk = 7 ∨ gk = 8) (hn : n + 12 ≤ 4000) (W : gr_W n kd pa pb) (A : gr_A n kd pa pb) (hG : xg_G n a_shape a_left a_right a_link kd pa pb) (hL : gr_L n kd pa K) (hK : K + gr_nr kd n ≤ n)
    (h : ∀ n' kd' pa' pb' gn t sh lf rt lk note td tdo gna tc, n' ≤ n + 12 → xn_N n n' a_note note → bd_I oc gk n n' kd pa pb kd' pa' pb' gn [t] codes → xg_G n' sh lf rt lk kd' pa' pb' → gr_L n' kd' pa' K → K + gr_nr kd' n' ≤ n' → post (nI t) (f_tokenCount, f_accepted, f_lastPlace, f_openCount, f_draftOpen, f_symbolCount, f_stepCount, f_bindingCount, f_waitingCount, f_clashPlace, nI n', tc, a_kinds, a_values, a_declaredSize, a_declaredNodes, a_draftSize, a_draftNodes, a_symbols, a_symbolPlaces, a_steps, a_stepPlaces, a_bindings, a_boundType, a_waitingTypes, a_waitingFirm, sh, lf, rt, lk, note, td, tdo, gna)) : wpX_buildDeclared post (f_tokenCount, f_accepted, f_lastPlace, f_openCount, f_draftOpen, f_symbolCount, f_stepCount, f_bindingCount, f_waitingCount, f_clashPlace, nI n, f_todoCount, a_kinds, a_values, a_declaredSize, a_declaredNodes, a_draftSize, a_draftNodes, a_symbols, a_symbolPlaces, a_steps, a_stepPlaces, a_bindings, a_boundType, a_waitingTypes, a_waitingFirm, a_shape, a_left, a_right, a_link, a_note, a_todo, a_todoOther, a_generalNode) (nI v) (nI gk) := by
  unfold wpX_buildDeclared
  refine ⟨13, ?_⟩
  have loop : ∀ d i gna, i + d = 12 → (∀ g, g < i → gna g = -1) → wX_buildDeclared_2 post (nI v) (nI gk) f_tokenCount f_accepted f_lastPlace f_openCount f_draftOpen f_symbolCount f_stepCount f_bindingCount f_waitingCount f_clashPlace (nI n) f_todoCount (d + 1) (nI i) a_kinds a_values a_declaredSize a_declaredNodes a_draftSize a_draftNodes a_symbols a_symbolPlaces a_steps a_stepPlaces a_bindings a_boundType a_waitingTypes a_waitingFirm a_shape a_left a_right a_link a_note a_todo a_todoOther gna := by
    intro d
    induction d with
    | zero =>
      intro i gna hi hz
      refine br_t (nI_le (a := 12) (by omega) (by omega)) ⟨vp_in_nI hv (by decide), ?_⟩
      rw [nI_clamp (by omega), hsz]
      have e : nI codes.length - 1 = nI codes.length + (-1) := by rw [Int32.sub_eq_add_neg]
      rw [e]
      refine nm_e ⟨codes.length + 1, ?_⟩
      exact xw_bd35n hv hnd hlen hwf h1 hoc hgk hn h codes [] n kd pa pb (fun _ => none) [] _ _ _ _ _ _ _ gna (by rw [List.append_nil]) (Nat.le_refl _) ⟨fun i _ => rfl, fun i h1 h2 => by omega⟩ (bd_0 W A) rfl hG hL hK trivial (fun g hg => ⟨fun x hx => (by cases hx), fun _ => hz g (by omega)⟩)
    | succ d ih =>
      intro i gna hi hz
      refine br_f (nI_ge (b := 12) (by omega) (by decide)) ⟨vp_in_nI (by omega) (by decide), ?_⟩
      rw [nI_clamp (by omega)]
      refine nm_e (nm_r (nI_1 i) (ih (i + 1) _ (by omega) (fun g hg => ?_)))
      by_cases e : g = i
      · rw [e, pk_us]
      · rw [pk_un e]; exact hz g (by omega)
  exact loop 12 0 a_generalNode (by omega) (fun g hg => by omega)
end
