/-! the component's search for a node that contains itself -/
section
variable {f_tokenCount f_accepted f_lastPlace f_openCount f_draftOpen f_symbolCount f_stepCount f_bindingCount f_waitingCount f_clashPlace f_nodeCount f_todoCount : Int32} {a_kinds a_values a_declaredSize a_declaredNodes a_draftSize a_draftNodes a_symbols a_symbolPlaces a_steps a_stepPlaces a_bindings a_boundType a_waitingTypes a_waitingFirm a_shape a_left a_right a_link a_note a_todo a_todoOther a_generalNode : Nat → Int32}
variable {kd pa pb : Nat → Nat} {n K : Nat}
/-- marks: 0 not seen, 1 on the way, 2 done -/
def xm_N (n : Nat) (note : Nat → Int32) (nt : Nat → Nat) : Prop := ∀ i, i < n → note i = nI (nt i) ∧ nt i ≤ 2
def xm_c (ρ : Nat → tr_T) : List Nat → Prop
  | [] => True
  | x :: L => (∀ y, y ∈ L → tr_sz (ρ x) < tr_sz (ρ y)) ∧ xm_c ρ L
/-- what holds while the search is on its way: P the way down, the lowest first -/
def xm_I (n : Nat) (kd pa pb nt : Nat → Nat) (r0 : Nat) (P : List Nat) : Prop :=
  (∀ i, i ∈ P → i < n ∧ kd i ≠ 1000) ∧ P.Nodup ∧ (∀ i, i < n → (nt i = 1 ↔ i ∈ P)) ∧
  (∀ i, i < n → nt i = 2 → kd i ≠ 1000 ∧ (∃ f, gr_H kd pa pb f i) ∧ (gr_cn (kd i) → (∀ x, gr_to kd pa (pa i) x → nt x = 2) ∧ ∀ x, gr_to kd pa (pb i) x → nt x = 2)) ∧
  (r0 ∈ P ∨ nt r0 = 2) ∧ (∀ ρ, gr_V n kd pa pb ρ → xm_c ρ P)
theorem ls_nd1 (x : Nat) : [x].Nodup := List.nodup_cons.mpr ⟨List.not_mem_nil, List.nodup_nil⟩
theorem xm_u {note : Nat → Int32} {nt : Nat → Nat} {a k : Nat} (h : xm_N n note nt) (hk : k ≤ 2) : xm_N n (upd note a (nI k)) (gr_u nt a k) := by
  intro i hi
  by_cases c : i = a
  · subst c; rw [pk_us, gr_us]; exact ⟨rfl, hk⟩
  · rw [pk_un c, gr_un c]; exact h i hi
theorem xw_clear_l {post : SX → Prop} (hn : n ≤ 4096) (h : ∀ note, (∀ i, i < n → note i = 0) → post (f_tokenCount, f_accepted, f_lastPlace, f_openCount, f_draftOpen, f_symbolCount, f_stepCount, f_bindingCount, f_waitingCount, f_clashPlace, nI n, f_todoCount, a_kinds, a_values, a_declaredSize, a_declaredNodes, a_draftSize, a_draftNodes, a_symbols, a_symbolPlaces, a_steps, a_stepPlaces, a_bindings, a_boundType, a_waitingTypes, a_waitingFirm, a_shape, a_left, a_right, a_link, note, a_todo, a_todoOther, a_generalNode)) : ∀ d j note, j + d = n → (∀ i, i < j → note i = 0) → wX_clearNotes_2 post f_tokenCount f_accepted f_lastPlace f_openCount f_draftOpen f_symbolCount f_stepCount f_bindingCount f_waitingCount f_clashPlace (nI n) f_todoCount (d + 1) (nI j) a_kinds a_values a_declaredSize a_declaredNodes a_draftSize a_draftNodes a_symbols a_symbolPlaces a_steps a_stepPlaces a_bindings a_boundType a_waitingTypes a_waitingFirm a_shape a_left a_right a_link note a_todo a_todoOther a_generalNode := by
  intro d
  induction d with
  | zero =>
    intro j note hj hz
    exact br_t (nI_le (by omega) (by omega)) (h note (fun i hi => hz i (by omega)))
  | succ d ih =>
    intro j note hj hz
    refine br_f (nI_ge (by omega) (by omega)) ⟨vp_in_nI (by omega) (by decide), ?_⟩
    rw [nI_clamp (by omega)]
    refine nm_e (nm_r (nI_1 j) (ih (j + 1) _ (by omega) (fun i hi => ?_)))
    by_cases c : i = j
    · rw [c, pk_us]
    · rw [pk_un c]; exact hz i (by omega)
theorem xw_clear {post : SX → Prop} (hn : n ≤ 4096) (h : ∀ note, (∀ i, i < n → note i = 0) → post (f_tokenCount, f_accepted, f_lastPlace, f_openCount, f_draftOpen, f_symbolCount, f_stepCount, f_bindingCount, f_waitingCount, f_clashPlace, nI n, f_todoCount, a_kinds, a_values, a_declaredSize, a_declaredNodes, a_draftSize, a_draftNodes, a_symbols, a_symbolPlaces, a_steps, a_stepPlaces, a_bindings, a_boundType, a_waitingTypes, a_waitingFirm, a_shape, a_left, a_right, a_link, note, a_todo, a_todoOther, a_generalNode)) : wpX_clearNotes post (f_tokenCount, f_accepted, f_lastPlace, f_openCount, f_draftOpen, f_symbolCount, f_stepCount, f_bindingCount, f_waitingCount, f_clashPlace, nI n, f_todoCount, a_kinds, a_values, a_declaredSize, a_declaredNodes, a_draftSize, a_draftNodes, a_symbols, a_symbolPlaces, a_steps, a_stepPlaces, a_bindings, a_boundType, a_waitingTypes, a_waitingFirm, a_shape, a_left, a_right, a_link, a_note, a_todo, a_todoOther, a_generalNode) :=
  ⟨n + 1, xw_clear_l hn h n 0 a_note (by omega) (fun i hi => by omega)⟩
theorem xw_cyc_l {post : Int32 → SX → Prop} {r0 : Nat} (hn : n ≤ 4000) (W : gr_W n kd pa pb) (hG : xg_G n a_shape a_left a_right a_link kd pa pb) (hL : gr_L n kd pa K) (hK : K ≤ 4096)
    (h1 : (∀ ρ, ¬ gr_V n kd pa pb ρ) → ∀ note td, post 1 (f_tokenCount, f_accepted, f_lastPlace, f_openCount, f_draftOpen, f_symbolCount, f_stepCount, f_bindingCount, f_waitingCount, f_clashPlace, f_nodeCount, f_todoCount, a_kinds, a_values, a_declaredSize, a_declaredNodes, a_draftSize, a_draftNodes, a_symbols, a_symbolPlaces, a_steps, a_stepPlaces, a_bindings, a_boundType, a_waitingTypes, a_waitingFirm, a_shape, a_left, a_right, a_link, note, td, a_todoOther, a_generalNode))
    (h0 : ∀ nt, (∀ i, i < n → nt i ≠ 1) → xm_I n kd pa pb nt r0 [] → ∀ note td, post 0 (f_tokenCount, f_accepted, f_lastPlace, f_openCount, f_draftOpen, f_symbolCount, f_stepCount, f_bindingCount, f_waitingCount, f_clashPlace, f_nodeCount, f_todoCount, a_kinds, a_values, a_declaredSize, a_declaredNodes, a_draftSize, a_draftNodes, a_symbols, a_symbolPlaces, a_steps, a_stepPlaces, a_bindings, a_boundType, a_waitingTypes, a_waitingFirm, a_shape, a_left, a_right, a_link, note, td, a_todoOther, a_generalNode)) :
    ∀ m P nt note td c, xm_I n kd pa pb nt r0 P → xm_N n note nt → st_1 td P → 2 * ct_n (fun i => decide (nt i = 0)) n + P.length ≤ m → c + m < 8192 → P.length + ct_n (fun i => decide (nt i = 0)) n ≤ n → wX_containsItself_31 post f_tokenCount f_accepted f_lastPlace f_openCount f_draftOpen f_symbolCount f_stepCount f_bindingCount f_waitingCount f_clashPlace f_nodeCount f_todoCount (m + 1) (nI P.length) (nI c) a_kinds a_values a_declaredSize a_declaredNodes a_draftSize a_draftNodes a_symbols a_symbolPlaces a_steps a_stepPlaces a_bindings a_boundType a_waitingTypes a_waitingFirm a_shape a_left a_right a_link note td a_todoOther a_generalNode := by
  intro m
  induction m with
  | zero =>
    intro P nt note td c I hN hst hm hc hl
    have e : P = [] := List.eq_nil_of_length_eq_zero (by omega)
    subst e
    exact br_f (nI_ge (b := 8192) (by omega) (by decide)) (br_t (nI_le (a := 0) (b := 0) (by omega) (by omega)) (h0 nt (fun i hi z => by cases (I.2.2.1 i hi).mp z) I note td))
  | succ m ih =>
    intro P nt note td c I hN hst hm hc hl
    cases P with
    | nil => exact br_f (nI_ge (b := 8192) (by omega) (by decide)) (br_t (nI_le (a := 0) (b := 0) (by omega) (by omega)) (h0 nt (fun i hi z => by cases (I.2.2.1 i hi).mp z) I note td))
    | cons x P =>
      rw [List.length_cons] at hm hl
      obtain ⟨iP, iN, i1, i2, i0, iC⟩ := I
      obtain ⟨xn, xk⟩ := iP x List.mem_cons_self
      have vx : vp_in (nI x) 4096 := vp_in_nI (by omega) (by decide)
      have cx : (nI x).toNatClampNeg = x := nI_clamp (by omega)
      have vl : vp_in (nI P.length) 4096 := vp_in_nI (by omega) (by decide)
      obtain ⟨sx1, sx2, sx3⟩ := xg_sh hG xn xk
      have hx1 : nt x = 1 := (i1 x xn).mpr List.mem_cons_self
      have xP : x ∉ P := (List.nodup_cons.mp iN).1
      -- the node is done
      have done : (∀ ch : gr_cn (kd x), (∀ y, gr_to kd pa (pa x) y → nt y = 2) ∧ ∀ y, gr_to kd pa (pb x) y → nt y = 2) → wX_containsItself_163 post (wX_containsItself_31 post f_tokenCount f_accepted f_lastPlace f_openCount f_draftOpen f_symbolCount f_stepCount f_bindingCount f_waitingCount f_clashPlace f_nodeCount f_todoCount (m + 1)) (nI (P.length + 1)) (nI c) (nI x) f_tokenCount f_accepted f_lastPlace f_openCount f_draftOpen f_symbolCount f_stepCount f_bindingCount f_waitingCount f_clashPlace f_nodeCount f_todoCount a_kinds a_values a_declaredSize a_declaredNodes a_draftSize a_draftNodes a_symbols a_symbolPlaces a_steps a_stepPlaces a_bindings a_boundType a_waitingTypes a_waitingFirm a_shape a_left a_right a_link note td a_todoOther a_generalNode := by
        intro ch
        refine ⟨vx, ?_⟩
        rw [cx]
        refine nm_e (nm_r (pk_m1 P.length) (nm_r (nI_1 c) (ih P (gr_u nt x 2) _ td (c + 1) ⟨fun i hi => iP i (List.mem_cons_of_mem _ hi), (List.nodup_cons.mp iN).2, fun i hi => ?_, fun i hi z => ?_, ?_, fun ρ h => (iC ρ h).2⟩ (xm_u (k := 2) hN (by omega)) hst.2 ?_ (by omega) ?_)))
        · by_cases q : i = x
          · subst q; rw [gr_us]; exact ⟨fun z => by omega, fun z => (xP z).elim⟩
          · rw [gr_un q, i1 i hi, List.mem_cons]
            exact ⟨fun z => z.elim (fun z => (q z).elim) id, Or.inr⟩
        · by_cases q : i = x
          · subst q
            have fin : ∀ y, y < n → nt y = 2 → ∃ f, gr_H kd pa pb f y := fun y hy z => (i2 y hy z).2.1
            refine ⟨xk, gr_H_i (fun z => (xk z).elim) (fun z => ?_), fun z => ?_⟩
            · obtain ⟨c1, c2⟩ := ch z
              have w := (W i xn).2 z
              have t1 := gr_L_to hL w.1
              have t2 := gr_L_to hL w.2
              exact ⟨gr_to_H t1 (fin _ (gr_to_n W t1 w.1) (c1 _ t1)), gr_to_H t2 (fin _ (gr_to_n W t2 w.2) (c2 _ t2))⟩
            · obtain ⟨c1, c2⟩ := ch z
              have up : ∀ y, nt y = 2 → gr_u nt i 2 y = 2 := fun y hy => by
                by_cases q : y = i
                · rw [q, gr_us]
                · rw [gr_un q]; exact hy
              exact ⟨fun y hy => up y (c1 y hy), fun y hy => up y (c2 y hy)⟩
          · rw [gr_un q] at z
            obtain ⟨z1, z2, z3⟩ := i2 i hi z
            have up : ∀ y, nt y = 2 → gr_u nt x 2 y = 2 := fun y hy => by
              by_cases q : y = x
              · rw [q, gr_us]
              · rw [gr_un q]; exact hy
            exact ⟨z1, z2, fun k => ⟨fun y hy => up y ((z3 k).1 y hy), fun y hy => up y ((z3 k).2 y hy)⟩⟩
        · rcases i0 with z | z
          · rcases List.mem_cons.mp z with z | z
            · exact Or.inr (by rw [z, gr_us])
            · exact Or.inl z
          · refine Or.inr ?_
            by_cases q : r0 = x
            · rw [q, gr_us]
            · rw [gr_un q]; exact z
        · rw [ct_c n (p := fun i => decide (gr_u nt x 2 i = 0)) (q := fun i => decide (nt i = 0)) (fun i hi => by
            by_cases q : i = x
            · rw [q, gr_us, hx1]; decide
            · rw [gr_un q])]
          omega
        · rw [ct_c n (p := fun i => decide (gr_u nt x 2 i = 0)) (q := fun i => decide (nt i = 0)) (fun i hi => by
            by_cases q : i = x
            · rw [q, gr_us, hx1]; decide
            · rw [gr_un q])]
          omega
      -- a part that wasn't seen is next
      have down : ∀ y, y < n → kd y ≠ 1000 → nt y = 0 → (∀ ρ, gr_V n kd pa pb ρ → tr_sz (ρ y) < tr_sz (ρ x)) → wX_containsItself_147 post (wX_containsItself_31 post f_tokenCount f_accepted f_lastPlace f_openCount f_draftOpen f_symbolCount f_stepCount f_bindingCount f_waitingCount f_clashPlace f_nodeCount f_todoCount (m + 1)) (nI (P.length + 1)) (nI c) (nI x) (nI y) f_tokenCount f_accepted f_lastPlace f_openCount f_draftOpen f_symbolCount f_stepCount f_bindingCount f_waitingCount f_clashPlace f_nodeCount f_todoCount a_kinds a_values a_declaredSize a_declaredNodes a_draftSize a_draftNodes a_symbols a_symbolPlaces a_steps a_stepPlaces a_bindings a_boundType a_waitingTypes a_waitingFirm a_shape a_left a_right a_link note td a_todoOther a_generalNode := by
        intro y yn yk y0 ysz
        have yx : y ≠ x := fun e => by rw [e] at y0; omega
        have yP : y ∉ x :: P := fun e => by rw [(i1 y yn).mpr e] at y0; omega
        have hct := ct_u (p := fun i => decide (nt i = 0)) (q := fun i => decide (gr_u nt y 1 i = 0)) (a := y) (by rw [y0]; rfl) (by rw [gr_us]; rfl) (fun i hi => by rw [gr_un hi]) n yn
        refine br_f (fun e => yx ((nI_eq (by omega) (by omega)).mp e)) (br_t (nI_lt (b := 4096) (by omega) (by decide)) ⟨vp_in_nI (by omega) (by decide), ?_⟩)
        rw [nI_clamp (by omega)]
        refine nm_e ⟨vp_in_nI (by omega) (by decide), ?_⟩
        rw [nI_clamp (by omega)]
        refine nm_e (nm_r (nI_1 _) (nm_r (nI_1 c) (ih (y :: x :: P) (gr_u nt y 1) _ _ (c + 1) ⟨fun i hi => ?_, List.nodup_cons.mpr ⟨yP, iN⟩, fun i hi => ?_, fun i hi z => ?_, ?_, fun ρ h => ⟨fun z hz => ?_, iC ρ h⟩⟩ (xm_u (k := 1) hN (by omega)) (st_1p (L := x :: P) hst) ?_ (by omega) ?_)))
        · rcases List.mem_cons.mp hi with z | z
          · rw [z]; exact ⟨yn, yk⟩
          · exact iP i z
        · by_cases q : i = y
          · subst q; rw [gr_us]; exact ⟨fun _ => List.mem_cons_self, fun _ => rfl⟩
          · rw [gr_un q, i1 i hi, List.mem_cons (a := i) (b := y)]
            exact ⟨Or.inr, fun z => z.elim (fun z => (q z).elim) id⟩
        · by_cases q : i = y
          · subst q; rw [gr_us] at z; omega
          · rw [gr_un q] at z
            obtain ⟨z1, z2, z3⟩ := i2 i hi z
            have up : ∀ w, nt w = 2 → gr_u nt y 1 w = 2 := fun w hw => by
              by_cases q : w = y
              · rw [q] at hw; omega
              · rw [gr_un q]; exact hw
            exact ⟨z1, z2, fun k => ⟨fun w hw => up w ((z3 k).1 w hw), fun w hw => up w ((z3 k).2 w hw)⟩⟩
        · rcases i0 with z | z
          · exact Or.inl (List.mem_cons_of_mem _ z)
          · refine Or.inr ?_
            by_cases q : r0 = y
            · rw [q] at z; omega
            · rw [gr_un q]; exact z
        · rcases List.mem_cons.mp hz with e | e
          · rw [e]; exact ysz ρ h
          · exact Nat.lt_trans (ysz ρ h) ((iC ρ h).1 z e)
        · rw [List.length_cons, List.length_cons]; omega
        · rw [List.length_cons, List.length_cons]; omega
      refine br_f (nI_ge (b := 8192) (by omega) (by decide)) (br_f (nI_nle (by rw [List.length_cons]; omega) (by rw [List.length_cons]; omega)) ?_)
      rw [List.length_cons, nI_pred]
      refine ⟨vl, ?_⟩
      rw [nI_clamp (by omega), hst.1]
      refine nm_e ?_
      refine xw_parts (k := kd x) (by omega) sx2 sx1 (fun hc1 => ?_) (fun hc0 => ?_)
      · have w := (W x xn).2 hc1
        have t1 := gr_L_to hL w.1
        have t2 := gr_L_to hL w.2
        generalize e1 : gr_f kd pa K (pa x) = y1 at t1
        generalize e2 : gr_f kd pa K (pb x) = y2 at t2
        have n1 := gr_to_n W t1 w.1
        have n2 := gr_to_n W t2 w.2
        have s1 : ∀ ρ, gr_V n kd pa pb ρ → tr_sz (ρ y1) < tr_sz (ρ x) := fun ρ h => by
          rw [gr_Vc h xn hc1, ← gr_to_V W h t1 w.1]; exact tr_sz_l _ _ _
        have s2 : ∀ ρ, gr_V n kd pa pb ρ → tr_sz (ρ y2) < tr_sz (ρ x) := fun ρ h => by
          rw [gr_Vc h xn hc1, ← gr_to_V W h t2 w.2]; exact tr_sz_r _ _ _
        have cyc : ∀ y, y < n → nt y = 1 → (∀ ρ, gr_V n kd pa pb ρ → tr_sz (ρ y) < tr_sz (ρ x)) → ∀ ρ, ¬ gr_V n kd pa pb ρ := by
          intro y yn y1 hs ρ h
          have a := hs ρ h
          rcases List.mem_cons.mp ((i1 y yn).mp y1) with e | e
          · rw [e] at a; omega
          · have b := (iC ρ h).1 y e; omega
        have v1 : vp_in (nI y1) 4096 := vp_in_nI (by omega) (by decide)
        have v2 : vp_in (nI y2) 4096 := vp_in_nI (by omega) (by decide)
        have q1 : note (nI y1).toNatClampNeg = nI (nt y1) := by rw [nI_clamp (by omega)]; exact (hN y1 n1).1
        have q2 : note (nI y2).toNatClampNeg = nI (nt y2) := by rw [nI_clamp (by omega)]; exact (hN y2 n2).1
        have b1 := (hN y1 n1).2
        have b2 := (hN y2 n2).2
        refine br_f (by decide) ⟨vx, ?_⟩
        rw [cx, (sx3 hc1).1, (sx3 hc1).2]
        refine xw_find hG (by omega) hL hK w.1 t1 ⟨vx, ?_⟩
        refine xw_find hG (by omega) hL hK w.2 t2 ⟨v1, ?_⟩
        rw [q1, q2]
        refine pk_eq (nt y1) 1 (fun z => h1 (cyc y1 n1 z s1) _ _) (fun z1 => ⟨v2, ?_⟩)
        refine pk_eq (nt y2) 1 (fun z => h1 (cyc y2 n2 z s2) _ _) (fun z2 => ⟨v1, ?_⟩)
        refine pk_eq (nt y1) 0 (fun z => down y1 n1 t1.1 z s1) (fun z3 => ⟨v2, ?_⟩)
        refine pk_eq (nt y2) 0 (fun z => down y2 n2 t2.1 z s2) (fun z4 => ?_)
        exact br_t rfl (done (fun _ => ⟨fun y hy => by rw [gr_to_u hy t1]; omega, fun y hy => by rw [gr_to_u hy t2]; omega⟩))
      · exact br_t rfl (br_t rfl (done (fun z => (hc0 z).elim)))
theorem xw_cyc {post : Int32 → SX → Prop} {t : Nat} (hn : n ≤ 4000) (W : gr_W n kd pa pb) (hG : xg_G n a_shape a_left a_right a_link kd pa pb) (hL : gr_L n kd pa K) (hK : K ≤ 4096) (ht : t < n)
    (h1 : (∀ ρ, ¬ gr_V n kd pa pb ρ) → ∀ note td, post 1 (f_tokenCount, f_accepted, f_lastPlace, f_openCount, f_draftOpen, f_symbolCount, f_stepCount, f_bindingCount, f_waitingCount, f_clashPlace, nI n, f_todoCount, a_kinds, a_values, a_declaredSize, a_declaredNodes, a_draftSize, a_draftNodes, a_symbols, a_symbolPlaces, a_steps, a_stepPlaces, a_bindings, a_boundType, a_waitingTypes, a_waitingFirm, a_shape, a_left, a_right, a_link, note, td, a_todoOther, a_generalNode))
    (h0 : ∀ S, ck_R n kd pa pb S → (∀ x, gr_to kd pa t x → S x) → ∀ note td, post 0 (f_tokenCount, f_accepted, f_lastPlace, f_openCount, f_draftOpen, f_symbolCount, f_stepCount, f_bindingCount, f_waitingCount, f_clashPlace, nI n, f_todoCount, a_kinds, a_values, a_declaredSize, a_declaredNodes, a_draftSize, a_draftNodes, a_symbols, a_symbolPlaces, a_steps, a_stepPlaces, a_bindings, a_boundType, a_waitingTypes, a_waitingFirm, a_shape, a_left, a_right, a_link, note, td, a_todoOther, a_generalNode)) :
    wpX_containsItself post (f_tokenCount, f_accepted, f_lastPlace, f_openCount, f_draftOpen, f_symbolCount, f_stepCount, f_bindingCount, f_waitingCount, f_clashPlace, nI n, f_todoCount, a_kinds, a_values, a_declaredSize, a_declaredNodes, a_draftSize, a_draftNodes, a_symbols, a_symbolPlaces, a_steps, a_stepPlaces, a_bindings, a_boundType, a_waitingTypes, a_waitingFirm, a_shape, a_left, a_right, a_link, a_note, a_todo, a_todoOther, a_generalNode) (nI t) := by
  have tt := gr_L_to hL ht
  generalize e : gr_f kd pa K t = r at tt
  have rn := gr_to_n W tt ht
  refine xw_clear (by omega) (fun note hz => ?_)
  refine xw_find hG (by omega) hL hK ht tt (nm_e ?_)
  have q : upd a_todo 0 (nI r) 0 = nI r := pk_us
  rw [q]
  refine ⟨vp_in_nI (by omega) (by decide), ?_⟩
  rw [nI_clamp (by omega)]
  refine nm_e ⟨2 * n + 1, ?_⟩
  have hct := ct_u (p := fun _ => true) (q := fun i => decide (gr_u (fun _ => 0) r 1 i = 0)) (a := r) rfl (by rw [gr_us]; rfl) (fun i hi => by rw [gr_un hi]; rfl) n rn
  have hc2 := ct_le (p := fun _ => true) n
  refine xw_cyc_l (r0 := r) hn W hG hL hK (fun z note td => h1 z note td) (fun nt h1' I note td => h0 (fun i => i < n ∧ nt i = 2) ?_ ?_ note td) (2 * n) [r] (gr_u (fun _ => 0) r 1) _ _ 0 ⟨fun i hi => ?_, ls_nd1 _, fun i hi => ?_, fun i hi z => ?_, Or.inl List.mem_cons_self, fun ρ h => ⟨fun y hy => (by cases hy), trivial⟩⟩ ?_ ?_ ?_ (by omega) ?_
  · intro x hx
    obtain ⟨z1, z2, z3⟩ := I.2.2.2.1 x hx.1 hx.2
    refine ⟨hx.1, z1, z2, fun k => ?_⟩
    have w := (W x hx.1).2 k
    exact ⟨fun y hy => ⟨gr_to_n W hy w.1, (z3 k).1 y hy⟩, fun y hy => ⟨gr_to_n W hy w.2, (z3 k).2 y hy⟩⟩
  · intro x hx
    rw [gr_to_u hx tt]
    rcases I.2.2.2.2.1 with z | z
    · cases z
    · exact ⟨rn, z⟩
  · rw [List.mem_singleton] at hi
    rw [hi]; exact ⟨rn, tt.1⟩
  · by_cases c : i = r
    · subst c; rw [gr_us]; exact ⟨fun _ => List.mem_cons_self, fun _ => rfl⟩
    · rw [gr_un c, List.mem_singleton]; exact ⟨fun z => by omega, fun z => (c z).elim⟩
  · by_cases c : i = r
    · subst c; rw [gr_us] at z; omega
    · rw [gr_un c] at z; omega
  · intro i hi
    by_cases c : i = r
    · subst c; rw [pk_us, gr_us]; exact ⟨rfl, by omega⟩
    · rw [pk_un c, gr_un c, hz i hi]; exact ⟨rfl, by omega⟩
  · exact st_1p (L := []) trivial
  · rw [List.length_singleton]; omega
  · rw [List.length_singleton]; omega
end
