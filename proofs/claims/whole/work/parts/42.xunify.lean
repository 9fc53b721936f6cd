/-! the component makes two nodes equal, and looks for a node that contains itself -/
section
variable {f_tokenCount f_accepted f_lastPlace f_openCount f_draftOpen f_symbolCount f_stepCount f_bindingCount f_waitingCount f_clashPlace f_nodeCount f_todoCount : Int32} {a_kinds a_values a_declaredSize a_declaredNodes a_draftSize a_draftNodes a_symbols a_symbolPlaces a_steps a_stepPlaces a_bindings a_boundType a_waitingTypes a_waitingFirm a_shape a_left a_right a_link a_note a_todo a_todoOther a_generalNode : Nat → Int32}
variable {kd pa pb : Nat → Nat} {n K : Nat}
/-- a stack of pairs in two arrays -/
def st_2 (a b : Nat → Int32) : List (Nat × Nat) → Prop
  | [] => True
  | p :: L => a L.length = nI p.1 ∧ b L.length = nI p.2 ∧ st_2 a b L
theorem st_2u {a b : Nat → Int32} {k : Nat} {x y : Int32} : ∀ L : List (Nat × Nat), L.length ≤ k → st_2 a b L → st_2 (upd a k x) (upd b k y) L := by
  intro L
  induction L with
  | nil => intro _ _; trivial
  | cons p L ih =>
    intro h z
    rw [List.length_cons] at h
    refine ⟨?_, ?_, ih (by omega) z.2.2⟩
    · rw [pk_un (by omega)]; exact z.1
    · rw [pk_un (by omega)]; exact z.2.1
theorem st_2p {a b : Nat → Int32} {x y : Nat} {L : List (Nat × Nat)} (h : st_2 a b L) : st_2 (upd a L.length (nI x)) (upd b L.length (nI y)) ((x, y) :: L) := ⟨pk_us, pk_us, st_2u L (Nat.le_refl _) h⟩
theorem xw_addPair {post : SX → Prop} {t : Nat} {x y : Int32} (ht : t < 4096) (h : post (f_tokenCount, f_accepted, f_lastPlace, f_openCount, f_draftOpen, f_symbolCount, f_stepCount, f_bindingCount, f_waitingCount, f_clashPlace, f_nodeCount, nI (t + 1), a_kinds, a_values, a_declaredSize, a_declaredNodes, a_draftSize, a_draftNodes, a_symbols, a_symbolPlaces, a_steps, a_stepPlaces, a_bindings, a_boundType, a_waitingTypes, a_waitingFirm, a_shape, a_left, a_right, a_link, a_note, upd a_todo t x, upd a_todoOther t y, a_generalNode)) : wpX_addPair post (f_tokenCount, f_accepted, f_lastPlace, f_openCount, f_draftOpen, f_symbolCount, f_stepCount, f_bindingCount, f_waitingCount, f_clashPlace, f_nodeCount, nI t, a_kinds, a_values, a_declaredSize, a_declaredNodes, a_draftSize, a_draftNodes, a_symbols, a_symbolPlaces, a_steps, a_stepPlaces, a_bindings, a_boundType, a_waitingTypes, a_waitingFirm, a_shape, a_left, a_right, a_link, a_note, a_todo, a_todoOther, a_generalNode) x y := by
  have e : (nI t).toNatClampNeg = t := nI_clamp (by omega)
  have hi : vp_in (nI t) 4096 := vp_in_nI ht (by decide)
  refine br_f (nI_ge (b := 4096) ht (by decide)) ⟨hi, ?_⟩
  rw [e]
  exact nm_e ⟨hi, nm_e (nm_r (nI_1 t) h)⟩
theorem xg_link {sh lf rt lk : Nat → Int32} {a b : Nat} (hG : xg_G n sh lf rt lk kd pa pb) (hab : a ≠ b) (hb : b < n) : xg_G n sh lf rt (upd lk a (nI b)) (gr_u kd a 1000) (gr_u pa a b) pb := by
  intro i hi
  by_cases c : i = a
  · subst c
    rw [gr_us, gr_us, pk_us]
    exact Or.inl ⟨rfl, Ne.symm hab, hb, rfl⟩
  · rw [gr_un c, gr_un c, pk_un c]; exact hG i hi
theorem xw_eq_l {post : Int32 → SX → Prop} {kd0 pa0 : Nat → Nat} {M : Nat → Prop} {s t : Nat} (hn : n ≤ 4000)
    (hfail : (∀ ρ, gr_V n kd0 pa0 pb ρ → ρ s ≠ ρ t) → ∀ kd pa K tc lk td tdo, gr_W n kd pa pb → xg_G n a_shape a_left a_right lk kd pa pb → gr_L n kd pa K → K + gr_nr kd n ≤ n → post 0 (f_tokenCount, f_accepted, f_lastPlace, f_openCount, f_draftOpen, f_symbolCount, f_stepCount, f_bindingCount, f_waitingCount, f_clashPlace, f_nodeCount, tc, a_kinds, a_values, a_declaredSize, a_declaredNodes, a_draftSize, a_draftNodes, a_symbols, a_symbolPlaces, a_steps, a_stepPlaces, a_bindings, a_boundType, a_waitingTypes, a_waitingFirm, a_shape, a_left, a_right, lk, a_note, td, tdo, a_generalNode))
    (hok : ∀ kd pa K lk td tdo, un_I n kd0 pa0 pb M s t kd pa [] → xg_G n a_shape a_left a_right lk kd pa pb → gr_L n kd pa K → K + gr_nr kd n ≤ n → post 1 (f_tokenCount, f_accepted, f_lastPlace, f_openCount, f_draftOpen, f_symbolCount, f_stepCount, f_bindingCount, f_waitingCount, f_clashPlace, f_nodeCount, 0, a_kinds, a_values, a_declaredSize, a_declaredNodes, a_draftSize, a_draftNodes, a_symbols, a_symbolPlaces, a_steps, a_stepPlaces, a_bindings, a_boundType, a_waitingTypes, a_waitingFirm, a_shape, a_left, a_right, lk, a_note, td, tdo, a_generalNode)) :
    ∀ m kd pa K L lk td tdo c, un_I n kd0 pa0 pb M s t kd pa L → xg_G n a_shape a_left a_right lk kd pa pb → gr_L n kd pa K → K + gr_nr kd n ≤ n → st_2 td tdo L → L.length + 2 * gr_nr kd n ≤ m → c + m < 16384 → L.length + gr_nr kd n ≤ 4001 → wX_makeEqual_13 post (m + 1) (nI c) f_tokenCount f_accepted f_lastPlace f_openCount f_draftOpen f_symbolCount f_stepCount f_bindingCount f_waitingCount f_clashPlace f_nodeCount (nI L.length) a_kinds a_values a_declaredSize a_declaredNodes a_draftSize a_draftNodes a_symbols a_symbolPlaces a_steps a_stepPlaces a_bindings a_boundType a_waitingTypes a_waitingFirm a_shape a_left a_right lk a_note td tdo a_generalNode := by
  intro m
  induction m with
  | zero =>
    intro kd pa K L lk td tdo c U hG hL hK hst hm hc hl
    have e : L = [] := List.eq_nil_of_length_eq_zero (by omega)
    subst e
    exact br_f (nI_ge (b := 16384) (by omega) (by decide)) (br_t (nI_le (a := 0) (b := 0) (by omega) (by omega)) (hok kd pa K lk td tdo U hG hL hK))
  | succ m ih =>
    intro kd pa K L lk td tdo c U hG hL hK hst hm hc hl
    cases L with
    | nil => exact br_f (nI_ge (b := 16384) (by omega) (by decide)) (br_t (nI_le (a := 0) (b := 0) (by omega) (by omega)) (hok kd pa K lk td tdo U hG hL hK))
    | cons x L =>
      obtain ⟨p, q⟩ := x
      rw [List.length_cons] at hm hl
      have W := U.1
      have C := U.2.2.2.1
      have mp := U.2.2.1 (p, q) List.mem_cons_self
      have pn : p < n := (C p mp.1).1
      have qn : q < n := (C q mp.2).1
      have tp := gr_L_to hL pn
      have tq := gr_L_to hL qn
      generalize ea : gr_f kd pa K p = a at tp
      generalize eb : gr_f kd pa K q = b at tq
      have an := gr_to_n W tp pn
      have bn := gr_to_n W tq qn
      have va : vp_in (nI a) 4096 := vp_in_nI (by omega) (by decide)
      have vb : vp_in (nI b) 4096 := vp_in_nI (by omega) (by decide)
      have vl : vp_in (nI L.length) 4096 := vp_in_nI (by omega) (by decide)
      obtain ⟨sa1, sa2, sa3⟩ := xg_sh hG an tp.1
      obtain ⟨sb1, sb2, sb3⟩ := xg_sh hG bn tq.1
      have ca : (nI a).toNatClampNeg = a := nI_clamp (by omega)
      have cb : (nI b).toNatClampNeg = b := nI_clamp (by omega)
      have nr1 := gr_nr_le (kd := kd) n
      refine br_f (nI_ge (b := 16384) (by omega) (by decide)) (br_f (nI_nle (by rw [List.length_cons]; omega) (by rw [List.length_cons]; omega)) (nm_r (nI_pred L.length) ⟨vl, ?_⟩))
      rw [nI_clamp (by omega), hst.1]
      refine xw_find hG (by omega) hL (by omega) pn tp ⟨vl, ?_⟩
      rw [hst.2.1]
      refine xw_find hG (by omega) hL (by omega) qn tq ?_
      refine pk_eq a b (fun e => ?_) (fun e => ⟨va, ?_⟩)
      · subst e
        exact nm_r (nI_1 c) (ih kd pa K L lk td tdo (c + 1) (un_drop U tp tq) hG hL hK hst.2.2 (by omega) (by omega) (by omega))
      · rw [ca, cb, sa2, sb2]
        refine pk_eq (kd a) 7 (fun k7 => ⟨va, ?_⟩) (fun k7 => ⟨vb, ?_⟩)
        · have nr2 := gr_nr_u n an tp.1
          exact nm_e (nm_r (nI_1 c) (ih _ _ (K + 1) L _ td tdo (c + 1) (un_link U tp tq e (Or.inl k7)) (xg_link hG e bn) (gr_L_u hL tp.1 tq.1 e) (by omega) hst.2.2 (by omega) (by omega) (by omega)))
        · refine pk_eq (kd b) 7 (fun j7 => ⟨vb, ?_⟩) (fun j7 => ⟨va, vb, ?_⟩)
          · have nr2 := gr_nr_u n bn tq.1
            have U' := un_L (L' := (q, p) :: L) U (fun x hx => by
              rcases List.mem_cons.mp hx with z | z
              · rw [z]; exact Or.inr List.mem_cons_self
              · exact Or.inl (List.mem_cons_of_mem _ z)) (fun x hx => by
              rcases List.mem_cons.mp hx with z | z
              · rw [z]; exact Or.inr List.mem_cons_self
              · exact Or.inl (List.mem_cons_of_mem _ z))
            exact nm_e (nm_r (nI_1 c) (ih _ _ (K + 1) L _ td tdo (c + 1) (un_link U' tq tp (Ne.symm e) (Or.inl j7)) (xg_link hG (Ne.symm e) an) (gr_L_u hL tq.1 tp.1 (Ne.symm e)) (by omega) hst.2.2 (by omega) (by omega) (by omega)))
          · refine pk_eq (kd a) (kd b) (fun ke => ⟨va, nm_e ?_⟩) (fun ke => hfail (un_fail U tp tq ke k7 j7) kd pa K _ _ _ _ W hG hL hK)
            have nr2 := gr_nr_u n an tp.1
            refine xw_parts (k := kd a) (by omega) sa2 sa1 (fun hc1 => ?_) (fun hc0 => ?_)
            · refine br_f (by decide) ⟨va, vb, ?_⟩
              have hcb : gr_cn (kd b) := ke ▸ hc1
              rw [(sa3 hc1).1, (sb3 hcb).1]
              refine xw_addPair (by omega) ⟨va, vb, ?_⟩
              rw [(sa3 hc1).2, (sb3 hcb).2]
              refine xw_addPair (by omega) (nm_r (nI_1 c) ?_)
              have U' := un_L (L' := (pb a, pb b) :: (pa a, pa b) :: L) (un_con U tp tq e ke hc1) (fun x hx => by
                rcases List.mem_cons.mp hx with z | hx
                · rw [z]; exact Or.inl (List.mem_cons_of_mem _ List.mem_cons_self)
                · rcases List.mem_cons.mp hx with z | hx
                  · rw [z]; exact Or.inl List.mem_cons_self
                  · exact Or.inl (List.mem_cons_of_mem _ (List.mem_cons_of_mem _ hx))) (fun x hx => by
                rcases List.mem_cons.mp hx with z | hx
                · rw [z]; exact Or.inl (List.mem_cons_of_mem _ List.mem_cons_self)
                · rcases List.mem_cons.mp hx with z | hx
                  · rw [z]; exact Or.inl List.mem_cons_self
                  · exact Or.inl (List.mem_cons_of_mem _ (List.mem_cons_of_mem _ hx)))
              exact ih _ _ (K + 1) _ _ _ _ (c + 1) U' (xg_link hG e bn) (gr_L_u hL tp.1 tq.1 e) (by omega) (st_2p (L := (pa a, pa b) :: L) (st_2p hst.2.2)) (by rw [List.length_cons, List.length_cons]; omega) (by omega) (by rw [List.length_cons, List.length_cons]; omega)
            · exact br_t rfl (nm_r (nI_1 c) (ih _ _ (K + 1) L _ td tdo (c + 1) (un_link U tp tq e (Or.inr ⟨ke, hc0⟩)) (xg_link hG e bn) (gr_L_u hL tp.1 tq.1 e) (by omega) hst.2.2 (by omega) (by omega) (by omega)))
theorem xw_eq {post : Int32 → SX → Prop} {M : Nat → Prop} {s t : Nat} (hn : n ≤ 4000) (W : gr_W n kd pa pb) (C : gr_C n kd pa pb M) (G8 : ∀ i, M i → kd i ≠ 8) (hs : M s) (ht : M t) (hG : xg_G n a_shape a_left a_right a_link kd pa pb) (hL : gr_L n kd pa K) (hK : K + gr_nr kd n ≤ n)
    (hfail : (∀ ρ, gr_V n kd pa pb ρ → ρ s ≠ ρ t) → ∀ kd' pa' K' tc lk td tdo, gr_W n kd' pa' pb → xg_G n a_shape a_left a_right lk kd' pa' pb → gr_L n kd' pa' K' → K' + gr_nr kd' n ≤ n → post 0 (f_tokenCount, f_accepted, f_lastPlace, f_openCount, f_draftOpen, f_symbolCount, f_stepCount, f_bindingCount, f_waitingCount, f_clashPlace, f_nodeCount, tc, a_kinds, a_values, a_declaredSize, a_declaredNodes, a_draftSize, a_draftNodes, a_symbols, a_symbolPlaces, a_steps, a_stepPlaces, a_bindings, a_boundType, a_waitingTypes, a_waitingFirm, a_shape, a_left, a_right, lk, a_note, td, tdo, a_generalNode))
    (hok : ∀ kd' pa' K' lk td tdo, un_I n kd pa pb M s t kd' pa' [] → xg_G n a_shape a_left a_right lk kd' pa' pb → gr_L n kd' pa' K' → K' + gr_nr kd' n ≤ n → post 1 (f_tokenCount, f_accepted, f_lastPlace, f_openCount, f_draftOpen, f_symbolCount, f_stepCount, f_bindingCount, f_waitingCount, f_clashPlace, f_nodeCount, 0, a_kinds, a_values, a_declaredSize, a_declaredNodes, a_draftSize, a_draftNodes, a_symbols, a_symbolPlaces, a_steps, a_stepPlaces, a_bindings, a_boundType, a_waitingTypes, a_waitingFirm, a_shape, a_left, a_right, lk, a_note, td, tdo, a_generalNode)) :
    wpX_makeEqual post (f_tokenCount, f_accepted, f_lastPlace, f_openCount, f_draftOpen, f_symbolCount, f_stepCount, f_bindingCount, f_waitingCount, f_clashPlace, f_nodeCount, f_todoCount, a_kinds, a_values, a_declaredSize, a_declaredNodes, a_draftSize, a_draftNodes, a_symbols, a_symbolPlaces, a_steps, a_stepPlaces, a_bindings, a_boundType, a_waitingTypes, a_waitingFirm, a_shape, a_left, a_right, a_link, a_note, a_todo, a_todoOther, a_generalNode) (nI s) (nI t) := by
  have nr1 := gr_nr_le (kd := kd) n
  unfold wpX_makeEqual
  refine xw_addPair (t := 0) (by omega) ?_
  refine ⟨2 * n + 3, ?_⟩
  exact xw_eq_l hn hfail hok (2 * n + 2) kd pa K [(s, t)] a_link _ _ 0 (un_0 W C G8 hs ht) hG hL hK (st_2p (L := []) trivial) (by rw [List.length_singleton]; omega) (by omega) (by rw [List.length_singleton]; omega)
end
