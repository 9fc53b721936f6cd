/-! the component's fun -/
section
variable {f_tokenCount f_accepted f_lastPlace f_openCount f_draftOpen f_symbolCount f_stepCount f_bindingCount f_waitingCount f_clashPlace f_nodeCount f_todoCount : Int32} {a_kinds a_values a_declaredSize a_declaredNodes a_draftSize a_draftNodes a_symbols a_symbolPlaces a_steps a_stepPlaces a_bindings a_boundType a_waitingTypes a_waitingFirm a_shape a_left a_right a_link a_note a_todo a_todoOther a_generalNode : Nat → Int32}
variable {kd pa pb : Nat → Nat} {n K : Nat}
/-- generalise over nodes that mean nothing any more: it ends, and the nodes stay valid -/
theorem xw_gsafe {post : SX → Prop} {t oc b : Nat} (hn : n ≤ 4000) (C : xt_C n a_shape a_left a_right a_link) (ht : t < n) (hoc : oc ≤ n) (hb : b < 24) (hB : ∀ i, i < b → ∃ pl e, a_bindings i = nI pl ∧ pl < 24 ∧ a_boundType pl = nI e ∧ e < n)
    (h : ∀ sh note td tc, xt_C n sh a_left a_right a_link → post (f_tokenCount, f_accepted, f_lastPlace, nI oc, f_draftOpen, f_symbolCount, f_stepCount, nI (b + 1), f_waitingCount, f_clashPlace, nI n, tc, a_kinds, a_values, a_declaredSize, a_declaredNodes, a_draftSize, a_draftNodes, a_symbols, a_symbolPlaces, a_steps, a_stepPlaces, a_bindings, a_boundType, a_waitingTypes, a_waitingFirm, sh, a_left, a_right, a_link, note, td, a_todoOther, a_generalNode)) : wpX_generalise post (f_tokenCount, f_accepted, f_lastPlace, nI oc, f_draftOpen, f_symbolCount, f_stepCount, nI (b + 1), f_waitingCount, f_clashPlace, nI n, f_todoCount, a_kinds, a_values, a_declaredSize, a_declaredNodes, a_draftSize, a_draftNodes, a_symbols, a_symbolPlaces, a_steps, a_stepPlaces, a_bindings, a_boundType, a_waitingTypes, a_waitingFirm, a_shape, a_left, a_right, a_link, a_note, a_todo, a_todoOther, a_generalNode) (nI t) := by
  obtain ⟨kd, pa, pb, K, W, hG, hL, hK⟩ := C
  have K4 : K ≤ 4096 := by omega
  have fin : ∀ Q1 Q2 note2 td2, xq_I n kd note2 td2 Q2 → Q1 ≤ Q2.length → ∃ n104 : Nat, wX_generalise_104 post f_tokenCount f_accepted f_lastPlace (nI oc) f_draftOpen f_symbolCount f_stepCount (nI (b + 1)) f_waitingCount f_clashPlace (nI n) (nI Q2.length) n104 (nI Q1) a_kinds a_values a_declaredSize a_declaredNodes a_draftSize a_draftNodes a_symbols a_symbolPlaces a_steps a_stepPlaces a_bindings a_boundType a_waitingTypes a_waitingFirm a_shape a_left a_right a_link note2 td2 a_todoOther a_generalNode := by
    intro Q1 Q2 note2 td2 hQ2 hl
    refine ⟨(Q2.length - Q1) + 1, ?_⟩
    refine xw_g104 hn hQ2 hG Q1 (fun sh kd' hG' hk => ?_) _ Q1 a_shape kd (Nat.le_refl _) (by omega) hG (fun i => Or.inr ⟨fun q => ?_, rfl⟩)
    · have k78 : ∀ i, kd' i = kd i ∨ gr_fr (kd' i) ∧ gr_fr (kd i) := by
        intro i
        rcases hk i with z | z
        · exact Or.inr ⟨Or.inr z.2.2, Or.inl z.1⟩
        · exact Or.inl z.2
      have k1 : ∀ i, kd' i = 1000 ↔ kd i = 1000 := by
        intro i
        rcases k78 i with z | z
        · rw [z]
        · omega
      refine h sh note2 td2 _ ⟨kd', pa, pb, K, fun i hi => ?_, hG', gr_L_78 k1 hL, by rw [gr_nr_78 k1]; exact hK⟩
      rw [k1]
      refine ⟨(W i hi).1, fun z => (W i hi).2 ?_⟩
      rcases k78 i with q | q
      · rw [← q]; exact z
      · omega
    · obtain ⟨_, k, q1, q2, _⟩ := q
      omega
  have tail : ∀ Q note td, xq_I n kd note td Q → wX_generalise_38 post (nI t) 1 (nI b) f_tokenCount f_accepted f_lastPlace (nI oc) f_draftOpen f_symbolCount f_stepCount (nI (b + 1)) f_waitingCount f_clashPlace (nI n) (nI Q.length) a_kinds a_values a_declaredSize a_declaredNodes a_draftSize a_draftNodes a_symbols a_symbolPlaces a_steps a_stepPlaces a_bindings a_boundType a_waitingTypes a_waitingFirm a_shape a_left a_right a_link note td a_todoOther a_generalNode := by
    intro Q note td hQ
    refine br_t (by rw [nI_pred]; exact nI_le (by omega) (by omega)) ?_
    refine xw_rparts (P := fun _ => True) hn W hG hL K4 (fun _ _ _ _ => ⟨fun _ _ => trivial, fun _ _ => trivial⟩) Q 0 hQ (by omega) (fun _ _ _ _ => trivial) (fun note1 td1 R1 hQ1 _ _ => ?_)
    have tt := gr_L_to hL ht
    refine xw_find hG (by omega) hL K4 ht tt ?_
    refine xw_reach hn hQ1 (gr_to_n W tt ht) tt.1 (fun hr => ?_) (fun hr note2 td2 hQ2 => ?_)
    · refine xw_rparts (P := fun _ => True) hn W hG hL K4 (fun _ _ _ _ => ⟨fun _ _ => trivial, fun _ _ => trivial⟩) (Q ++ R1) _ hQ1 (Nat.le_refl _) (fun _ _ _ _ => trivial) (fun note3 td3 R3 hQ3 _ _ => ?_)
      exact fin _ _ note3 td3 hQ3 (by simp only [List.length_append]; omega)
    · refine xw_rparts (P := fun _ => True) hn W hG hL K4 (fun _ _ _ _ => ⟨fun _ _ => trivial, fun _ _ => trivial⟩) _ (Q ++ R1).length hQ2 (by simp only [List.length_append]; omega) (fun _ _ _ _ => trivial) (fun note3 td3 R3 hQ3 _ _ => ?_)
      exact fin _ _ note3 td3 hQ3 (by simp only [List.length_append]; omega)
  have l38 : ∀ d j Q note td, j + d = b → xq_I n kd note td Q → wX_generalise_38 post (nI t) (d + 1) (nI j) f_tokenCount f_accepted f_lastPlace (nI oc) f_draftOpen f_symbolCount f_stepCount (nI (b + 1)) f_waitingCount f_clashPlace (nI n) (nI Q.length) a_kinds a_values a_declaredSize a_declaredNodes a_draftSize a_draftNodes a_symbols a_symbolPlaces a_steps a_stepPlaces a_bindings a_boundType a_waitingTypes a_waitingFirm a_shape a_left a_right a_link note td a_todoOther a_generalNode := by
    intro d
    induction d with
    | zero =>
      intro j Q note td hj hQ
      have e : j = b := by omega
      subst e
      exact tail Q note td hQ
    | succ d ih =>
      intro j Q note td hj hQ
      obtain ⟨pl, e, b1, b2, b3, b4⟩ := hB j (by omega)
      have te := gr_L_to hL b4
      refine br_f (by rw [nI_pred]; exact nI_ge (by omega) (by omega)) ⟨vp_in_nI (by omega) (by decide), ?_⟩
      rw [nI_clamp (by omega), b1]
      refine ⟨vp_in_nI (by omega) (by decide), ?_⟩
      rw [nI_clamp (by omega), b3]
      refine xw_find hG (by omega) hL K4 b4 te ?_
      refine xw_reach hn hQ (gr_to_n W te b4) te.1 (fun hr => nm_r (nI_1 j) ?_) (fun hr note2 td2 hQ2 => nm_r (nI_1 j) ?_)
      · exact ih (j + 1) Q note td (by omega) hQ
      · exact ih (j + 1) _ note2 td2 (by omega) hQ2
  have l11 : ∀ d j Q note td, j + d = oc → xq_I n kd note td Q → wX_generalise_11 post (nI t) (d + 1) (nI j) f_tokenCount f_accepted f_lastPlace (nI oc) f_draftOpen f_symbolCount f_stepCount (nI (b + 1)) f_waitingCount f_clashPlace (nI n) (nI Q.length) a_kinds a_values a_declaredSize a_declaredNodes a_draftSize a_draftNodes a_symbols a_symbolPlaces a_steps a_stepPlaces a_bindings a_boundType a_waitingTypes a_waitingFirm a_shape a_left a_right a_link note td a_todoOther a_generalNode := by
    intro d
    induction d with
    | zero =>
      intro j Q note td hj hQ
      exact br_t (nI_le (by omega) (by omega)) ⟨b + 1, l38 b 0 Q note td (by omega) hQ⟩
    | succ d ih =>
      intro j Q note td hj hQ
      have te := gr_L_to hL (by omega : j < n)
      refine br_f (nI_ge (by omega) (by omega)) ?_
      refine xw_find hG (by omega) hL K4 (by omega) te ?_
      refine xw_reach hn hQ (gr_to_n W te (by omega)) te.1 (fun hr => nm_r (nI_1 j) ?_) (fun hr note2 td2 hQ2 => nm_r (nI_1 j) ?_)
      · exact ih (j + 1) Q note td (by omega) hQ
      · exact ih (j + 1) _ note2 td2 (by omega) hQ2
  unfold wpX_generalise
  refine xw_clear (by omega) (fun note hz => ?_)
  exact ⟨oc + 1, l11 oc 0 [] note a_todo (by omega) (xq_0 hz)⟩
end
/-- what waits on top has been made the function of i parameters -/
def dv_arrs (i : Nat) (V : dv_W) : dv_W := fun ν st E => ∃ τ st0 c, st = τ :: st0 ∧ V ν (c :: st0) E ∧ τ = dv_arr (E.take i) c
theorem dv_arr_s : ∀ (l : List tr_T) (x c : tr_T), dv_arr (l ++ [x]) c = tr_con 6 x (dv_arr l c) := by
  intro l
  induction l with
  | nil => intro x c; rfl
  | cons y l ih => intro x c; exact ih x (tr_con 6 y c)
theorem dv_arrs_s {V : dv_W} {i h e : Nat} (hl : dv_len h e V) (hi : i < e) (ν st E : List tr_T) : (∃ st1, (∃ s0, st1 = tr_con 6 (ls_g i E) (ls_g 0 s0) :: s0 ∧ dv_arrs i V ν s0 E) ∧ ls_g 0 st1 :: st1.drop 2 = st) ↔ dv_arrs (i + 1) V ν st E := by
  have tk : ∀ s, V ν s E → E.take (i + 1) = E.take i ++ [ls_g i E] := fun s v => by
    have := (hl _ _ _ v).2
    rw [List.take_add_one]
    congr 1
    unfold ls_g
    rw [List.getD_eq_getElem?_getD, List.getElem?_eq_getElem (by omega)]
    rfl
  constructor
  · intro ⟨st1, ⟨s0, e1, τ, st0, c, e2, v, e3⟩, e4⟩
    subst e3 e2 e1 e4
    refine ⟨_, st0, c, rfl, v, ?_⟩
    rw [tk _ v, dv_arr_s]
    rfl
  · intro ⟨τ, st0, c, e1, v, e2⟩
    refine ⟨_, ⟨_, rfl, _, st0, c, rfl, v, rfl⟩, ?_⟩
    rw [e1, e2, tk _ v, dv_arr_s]
    rfl
theorem dv_arrs_0 {V : dv_W} {h e : Nat} (hl : dv_len (h + 1) e V) (ν st E : List tr_T) : V ν st E ↔ dv_arrs 0 V ν st E := by
  constructor
  · intro v
    obtain ⟨x, r, e1⟩ := xe_l1 hl v
    subst e1
    exact ⟨x, r, x, rfl, v, rfl⟩
  · intro ⟨τ, st0, c, e1, v, e2⟩
    rw [e1, e2]; exact v
/-- several bindings end -/
theorem rp_unbinds {b0 nl n : Nat} {kd pa pb : Nat → Nat} {op stk : List Nat} : ∀ (e1 : List Nat) (A B : List (Nat × Bool)) (e2 : List Nat) (V : dv_W), e1.length = A.length → rp_I b0 nl n kd pa pb op stk (e1 ++ e2) (A ++ B) V → rp_I b0 nl n kd pa pb op stk e2 B (fun ν st E => ∃ xs, xs.length = e1.length ∧ V ν st (xs ++ E)) := by
  intro e1
  induction e1 with
  | nil =>
    intro A B e2 V hl I
    have : A = [] := List.eq_nil_of_length_eq_zero hl.symm
    subst this
    refine rp_cg (fun ν st E => ?_) I
    constructor
    · intro v; exact ⟨[], rfl, v⟩
    · intro ⟨xs, l, v⟩
      have : xs = [] := List.eq_nil_of_length_eq_zero l
      subst this
      exact v
  | cons x e1 ih =>
    intro A B e2 V hl I
    cases A with
    | nil => simp at hl
    | cons a A =>
      have z := ih A B e2 _ (by simpa using hl) (rp_unbind I)
      refine rp_cg (fun ν st E => ?_) z
      constructor
      · intro ⟨xs, l, τ, v⟩
        exact ⟨τ :: xs, by rw [List.length_cons, List.length_cons, l], v⟩
      · intro ⟨xs, l, v⟩
        cases xs with
        | nil => simp at l
        | cons y xs => exact ⟨xs, by simpa using l, y, v⟩
theorem xe_fun {V : dv_W} {m h e : Nat} (hl : dv_len (h + 1) (e + m + 1) V) (ν st' E : List tr_T) : (∃ xs, xs.length = m + 1 ∧ ∃ st, (dv_arrs m V ν st (xs ++ E) ∧ ls_g m (xs ++ E) = ls_g 0 st) ∧ ls_g m (xs ++ E) :: st.drop 1 = st') ↔ dv_fun m V ν st' E := by
  constructor
  · intro ⟨xs, l, st, ⟨⟨τ, st0, c, e1, v, e2⟩, e3⟩, e4⟩
    obtain ⟨ys, f, ef⟩ : ∃ ys f, xs = ys ++ [f] := ⟨xs.dropLast, xs.getLast (by intro z; rw [z] at l; simp at l), (List.dropLast_concat_getLast _).symm⟩
    subst ef
    have ly : ys.length = m := by simpa using l
    have g1 : ls_g m (ys ++ [f] ++ E) = f := by
      unfold ls_g
      rw [List.append_assoc, List.getD_eq_getElem?_getD, List.getElem?_append_right (by omega), ly, Nat.sub_self]
      rfl
    have g2 : (ys ++ [f] ++ E).take m = ys := by
      rw [List.append_assoc, ← ly]
      exact List.take_left
    rw [g1] at e3 e4
    rw [g2] at e2
    subst e1
    refine ⟨f, st0, ys, c, e4.symm, ly, ?_, ?_⟩
    · rw [e3]; exact e2
    · rw [List.append_assoc] at v; exact v
  · intro ⟨f, st0, ys, c, e1, ly, e2, v⟩
    have g1 : ls_g m (ys ++ [f] ++ E) = f := by
      unfold ls_g
      rw [List.append_assoc, List.getD_eq_getElem?_getD, List.getElem?_append_right (by omega), ly, Nat.sub_self]
      rfl
    have g2 : (ys ++ [f] ++ E).take m = ys := by
      rw [List.append_assoc, ← ly]
      exact List.take_left
    refine ⟨ys ++ [f], by simp [ly], f :: st0, ⟨⟨f, st0, c, rfl, by rw [List.append_assoc]; exact v, by rw [g2]; exact e2⟩, by rw [g1]; rfl⟩, ?_⟩
    rw [g1, e1]
    rfl
