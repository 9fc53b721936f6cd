/-! the component's instance: the loop -/
section
variable {f_tokenCount f_accepted f_lastPlace f_openCount f_draftOpen f_symbolCount f_stepCount f_bindingCount f_waitingCount f_clashPlace f_nodeCount f_todoCount : Int32} {a_kinds a_values a_declaredSize a_declaredNodes a_draftSize a_draftNodes a_symbols a_symbolPlaces a_steps a_stepPlaces a_bindings a_boundType a_waitingTypes a_waitingFirm a_shape a_left a_right a_link a_note a_todo a_todoOther a_generalNode : Nat → Int32}
variable {kd pa pb : Nat → Nat} {n K : Nat}
theorem xi_down {b0 nl n' : Nat} {kd' pa' pb' : Nat → Nat} {M E : Nat → Prop} {ρ : Nat → tr_T} {note : Nat → Int32} {nt : Nat → Nat} {r0 x y : Nat} {P : List Nat}
    (I : xi_I b0 nl n n' kd pa pb kd' pa' pb' M E ρ note nt r0 (x :: P)) (yn : y < n) (yk : kd y ≠ 1000) (y0 : nt y = 0) (yE : E y) (ys : tr_sz (ρ y) < tr_sz (ρ x)) : xi_I b0 nl n n' kd pa pb kd' pa' pb' M E ρ note nt r0 (y :: x :: P) := by
  obtain ⟨ic, iN, iP, iD, iS, i0, iM, iC⟩ := I
  have lt : ∀ z, z ∈ x :: P → tr_sz (ρ y) < tr_sz (ρ z) := by
    intro z hz
    rcases List.mem_cons.mp hz with e | e
    · rw [e]; exact ys
    · exact Nat.lt_trans ys (iS.1 z e)
  refine ⟨ic, iN, fun i hi => ?_, List.nodup_cons.mpr ⟨fun z => Nat.lt_irrefl _ (lt y z), iD⟩, ⟨lt, iS⟩, i0.elim (fun z => Or.inl (List.mem_cons_of_mem _ z)) Or.inr, iM, iC⟩
  rcases List.mem_cons.mp hi with e | e
  · rw [e]; exact ⟨yn, yk, y0, yE⟩
  · exact iP i e
theorem xw_inst_l {post : Int32 → SX → Prop} {b0 nl r0 : Nat} {M E : Nat → Prop} {ρ : Nat → tr_T} (W : gr_W n kd pa pb) (hL : gr_L n kd pa K) (hK : K ≤ 4096) (hM : gr_C n kd pa pb M) (gM : ∀ i, M i → kd i ≠ 8) (cE : gr_C n kd pa pb E) (bE : ∀ i, E i → ¬ M i → b0 ≤ i ∧ i < nl) (hρ : gr_V n kd pa pb ρ) (hb : n + (nl - b0) ≤ 4000) (r0n : r0 < n)
    (h : ∀ n' kd' pa' pb' nt sh lf rt lk note td, xi_I b0 nl n n' kd pa pb kd' pa' pb' M E ρ note nt r0 [] → xg_G n' sh lf rt lk kd' pa' pb' → gr_L n' kd' pa' K → K + gr_nr kd' n' ≤ n' → post (nI (nt r0 - 1)) (f_tokenCount, f_accepted, f_lastPlace, f_openCount, f_draftOpen, f_symbolCount, f_stepCount, f_bindingCount, f_waitingCount, f_clashPlace, nI n', f_todoCount, a_kinds, a_values, a_declaredSize, a_declaredNodes, a_draftSize, a_draftNodes, a_symbols, a_symbolPlaces, a_steps, a_stepPlaces, a_bindings, a_boundType, a_waitingTypes, a_waitingFirm, sh, lf, rt, lk, note, td, a_todoOther, a_generalNode)) :
    ∀ m P n' kd' pa' pb' nt sh lf rt lk note td c, xi_I b0 nl n n' kd pa pb kd' pa' pb' M E ρ note nt r0 P → xg_G n' sh lf rt lk kd' pa' pb' → gr_L n' kd' pa' K → K + gr_nr kd' n' ≤ n' → st_1 td P → 2 * ct_n (fun i => decide (nt i = 0)) n ≤ m + P.length → c + m < 8192 → wX_instance_22 post (nI r0) (m + 1) (nI P.length) (nI c) f_tokenCount f_accepted f_lastPlace f_openCount f_draftOpen f_symbolCount f_stepCount f_bindingCount f_waitingCount f_clashPlace (nI n') f_todoCount a_kinds a_values a_declaredSize a_declaredNodes a_draftSize a_draftNodes a_symbols a_symbolPlaces a_steps a_stepPlaces a_bindings a_boundType a_waitingTypes a_waitingFirm sh lf rt lk note td a_todoOther a_generalNode := by
  intro m
  have done : ∀ m n' kd' pa' pb' nt sh lf rt lk note td c, xi_I b0 nl n n' kd pa pb kd' pa' pb' M E ρ note nt r0 [] → xg_G n' sh lf rt lk kd' pa' pb' → gr_L n' kd' pa' K → K + gr_nr kd' n' ≤ n' → c < 8192 → wX_instance_22 post (nI r0) (m + 1) (nI 0) (nI c) f_tokenCount f_accepted f_lastPlace f_openCount f_draftOpen f_symbolCount f_stepCount f_bindingCount f_waitingCount f_clashPlace (nI n') f_todoCount a_kinds a_values a_declaredSize a_declaredNodes a_draftSize a_draftNodes a_symbols a_symbolPlaces a_steps a_stepPlaces a_bindings a_boundType a_waitingTypes a_waitingFirm sh lf rt lk note td a_todoOther a_generalNode := by
    intro m n' kd' pa' pb' nt sh lf rt lk note td c I hG hL' hK' hc
    have r1 : nt r0 ≠ 0 := by
      rcases I.2.2.2.2.2.1 with z | z
      · cases z
      · exact z
    have q := (I.2.1 r0 r0n).1
    refine br_f (nI_ge (b := 8192) hc (by decide)) (br_t (nI_le (a := 0) (b := 0) (by omega) (by omega)) ⟨vp_in_nI (by omega) (by decide), ?_⟩)
    rw [nI_clamp (by omega), q]
    obtain ⟨k, ek⟩ : ∃ k, nt r0 = k + 1 := ⟨nt r0 - 1, by omega⟩
    have z := h n' kd' pa' pb' nt sh lf rt lk note td I hG hL' hK'
    rw [ek] at z ⊢
    rw [nI_pred]
    exact z
  induction m with
  | zero =>
    intro P n' kd' pa' pb' nt sh lf rt lk note td c I hG hL' hK' hst hm hc
    have pl := ct_nd (n := n) P (fun i => decide (nt i = 0)) I.2.2.2.1 (fun x hx => ⟨(I.2.2.1 x hx).1, by simpa using (I.2.2.1 x hx).2.2.1⟩)
    have e : P = [] := List.eq_nil_of_length_eq_zero (by omega)
    subst e
    exact done 0 n' kd' pa' pb' nt sh lf rt lk note td c I hG hL' hK' (by omega)
  | succ m ih =>
    intro P n' kd' pa' pb' nt sh lf rt lk note td c I hG hL' hK' hst hm hc
    cases P with
    | nil => exact done (m + 1) n' kd' pa' pb' nt sh lf rt lk note td c I hG hL' hK' (by omega)
    | cons x P =>
      have I' := I
      obtain ⟨ic, iN, iP, iD, iS, i0, iM, iC⟩ := I
      obtain ⟨xn, xk, x0, xE⟩ := iP x List.mem_cons_self
      have nn : n ≤ n' := ic.1
      have n4 : n' ≤ 4000 := by omega
      have sm := ic.2.1
      have pl := ct_nd (n := n) (x :: P) (fun i => decide (nt i = 0)) iD (fun y hy => ⟨(iP y hy).1, by simpa using (iP y hy).2.2.1⟩)
      rw [List.length_cons] at hm pl
      have cl := ct_le (p := fun i => decide (nt i = 0)) n
      have W' := ic_W ic W
      have vx : vp_in (nI x) 4096 := vp_in_nI (by omega) (by decide)
      have cx : (nI x).toNatClampNeg = x := nI_clamp (by omega)
      have vl : vp_in (nI P.length) 4096 := vp_in_nI (by omega) (by decide)
      have kx : kd' x = kd x := (sm x xn).1
      obtain ⟨sx1, sx2, sx3⟩ := xg_sh hG (by omega : x < n') (by rw [kx]; exact xk)
      rw [kx] at sx1 sx2 sx3
      rw [(sm x xn).2.1, (sm x xn).2.2] at sx3
      -- a node whose parts have copies gets its own
      have fin : (gr_cn (kd x) → ∃ y1 y2, gr_to kd pa (pa x) y1 ∧ gr_to kd pa (pb x) y2 ∧ nt y1 ≠ 0 ∧ nt y2 ≠ 0) → wX_instance_131 post (wX_instance_22 post (nI r0) (m + 1)) (nI r0) (nI (P.length + 1)) (nI c) (nI x) f_tokenCount f_accepted f_lastPlace f_openCount f_draftOpen f_symbolCount f_stepCount f_bindingCount f_waitingCount f_clashPlace (nI n') f_todoCount a_kinds a_values a_declaredSize a_declaredNodes a_draftSize a_draftNodes a_symbols a_symbolPlaces a_steps a_stepPlaces a_bindings a_boundType a_waitingTypes a_waitingFirm sh lf rt lk note td a_todoOther a_generalNode := by
        intro ch
        have ch' : ∃ y1 y2, gr_cn (kd x) → (gr_to kd pa (pa x) y1 ∧ gr_to kd pa (pb x) y2 ∧ nt y1 ≠ 0 ∧ nt y2 ≠ 0) := by
          by_cases q : gr_cn (kd x)
          · obtain ⟨y1, y2, z⟩ := ch q
            exact ⟨y1, y2, fun _ => z⟩
          · exact ⟨0, 0, fun z => (q z).elim⟩
        obtain ⟨y1, y2, ch'⟩ := ch'
        -- what the parts are
        have inf : gr_cn (kd x) → y1 < n ∧ y2 < n ∧ y1 ≠ x ∧ y2 ≠ x ∧ gr_to kd' pa' (pa' x) y1 ∧ gr_to kd' pa' (pb' x) y2 ∧ note y1 = nI (nt y1 - 1 + 1) ∧ note y2 = nI (nt y2 - 1 + 1) ∧ nt y1 - 1 < 4096 ∧ nt y2 - 1 < 4096 := by
          intro q
          obtain ⟨t1, t2, z1, z2⟩ := ch' q
          have w := (W x xn).2 q
          have n1 := gr_to_n W t1 w.1
          have n2 := gr_to_n W t2 w.2
          have b1 := iN y1 n1
          have b2 := iN y2 n2
          refine ⟨n1, n2, fun e => z1 (e ▸ x0), fun e => z2 (e ▸ x0), ?_, ?_, ?_, ?_, by omega, by omega⟩
          · rw [(sm x xn).2.1]; exact gr_to_s W sm w.1 t1
          · rw [(sm x xn).2.2]; exact gr_to_s W sm w.2 t2
          · rw [b1.1]; congr 1; omega
          · rw [b2.1]; congr 1; omega
        have cnt : ∀ y, ct_n (fun i => decide (gr_u nt x (y + 1) i = 0)) n + 1 = ct_n (fun i => decide (nt i = 0)) n := fun y => ct_u (p := fun i => decide (nt i = 0)) (q := fun i => decide (gr_u nt x (y + 1) i = 0)) (a := x) (by rw [x0]; rfl) (by rw [gr_us]; simp) (fun i hi => by rw [gr_un hi]) n xn
        have same : ∀ y, (y = x ∧ (kd x = 8 → False) ∧ (gr_cn (kd x) → nt y1 = y1 + 1 ∧ nt y2 = y2 + 1)) → vp_in (nI x) 4096 ∧ ∀ note' : Nat → Int32, note' = upd note (nI x).toNatClampNeg (nI y + 1) → ∀ x3 : Int32, x3 = nI (P.length + 1) + (-1) → ∀ x4 : Int32, x4 = nI c + 1 → wX_instance_22 post (nI r0) (m + 1) x3 x4 f_tokenCount f_accepted f_lastPlace f_openCount f_draftOpen f_symbolCount f_stepCount f_bindingCount f_waitingCount f_clashPlace (nI n') f_todoCount a_kinds a_values a_declaredSize a_declaredNodes a_draftSize a_draftNodes a_symbols a_symbolPlaces a_steps a_stepPlaces a_bindings a_boundType a_waitingTypes a_waitingFirm sh lf rt lk note' td a_todoOther a_generalNode := by
          intro y hy
          refine ⟨vx, ?_⟩
          rw [cx, nI_1]
          have hc2 := cnt y
          refine nm_e (nm_r (pk_m1 P.length) (nm_r (nI_1 c) (ih P n' kd' pa' pb' (gr_u nt x (y + 1)) sh lf rt lk _ td (c + 1) ?_ hG hL' hK' hst.2 (by omega) (by omega))))
          refine xi_fin (y := y) I' (Nat.le_refl _) (fun i _ => ⟨rfl, rfl, rfl⟩) (Or.inl ⟨hy.1, rfl⟩) xn (fun k => (hy.2.1 k).elim) (fun k => ?_) (fun _ _ => hy.1) hM gM bE (fun i hi => rfl)
          obtain ⟨t1, t2, z1, z2⟩ := ch' k
          obtain ⟨n1, n2, e1, e2, _⟩ := inf k
          exact ⟨y1, y2, t1, t2, n1, n2, z1, z2, e1, e2, Or.inl ⟨hy.1, hy.2.2 k⟩⟩
        have made : ∀ k a b, k < 30 → k ≠ 8 → (kd x = 8 → k = 7) → (gr_cn (kd x) → k = kd x ∧ a = nt y1 - 1 ∧ b = nt y2 - 1 ∧ ¬ (nt y1 = y1 + 1 ∧ nt y2 = y2 + 1)) → (kd x = 8 ∨ gr_cn (kd x)) → vp_in (nI x) 4096 ∧ ∀ note' : Nat → Int32, note' = upd (upd note n' 0) (nI x).toNatClampNeg (nI n' + 1) → ∀ x3 : Int32, x3 = nI (P.length + 1) + (-1) → ∀ x4 : Int32, x4 = nI c + 1 → wX_instance_22 post (nI r0) (m + 1) x3 x4 f_tokenCount f_accepted f_lastPlace f_openCount f_draftOpen f_symbolCount f_stepCount f_bindingCount f_waitingCount f_clashPlace (nI (n' + 1)) f_todoCount a_kinds a_values a_declaredSize a_declaredNodes a_draftSize a_draftNodes a_symbols a_symbolPlaces a_steps a_stepPlaces a_bindings a_boundType a_waitingTypes a_waitingFirm (upd sh n' (nI k)) (upd lf n' (nI a)) (upd rt n' (nI b)) (upd lk n' (nI n')) note' td a_todoOther a_generalNode := by
          intro k a b k30 k8 hk8 hkc hor
          refine ⟨vx, ?_⟩
          rw [cx, nI_1]
          have hc2 := cnt n'
          have k1 : gr_u kd' n' k n' ≠ 1000 := by rw [gr_us]; omega
          have nr2 : gr_nr (gr_u kd' n' k) (n' + 1) = gr_nr kd' n' + 1 := gr_nr_n (gr_same_u (pa := pa') (pb := pb') (a := a) (b := b)) k1
          have J := xi_fin (y := n') (n2 := n' + 1) (kd2 := gr_u kd' n' k) (pa2 := gr_u pa' n' a) (pb2 := gr_u pb' n' b) (note2 := upd (upd note n' 0) x (nI (n' + 1))) I' (by omega) gr_same_u (Or.inr ⟨rfl, rfl⟩) xn (fun q => ⟨rfl, by rw [gr_us]; exact hk8 q⟩) (fun q => by
              obtain ⟨t1, t2, z1, z2⟩ := ch' q
              obtain ⟨n1, n2, e1, e2, _⟩ := inf q
              obtain ⟨q1, q2, q3, q4⟩ := hkc q
              exact ⟨y1, y2, t1, t2, n1, n2, z1, z2, e1, e2, Or.inr ⟨rfl, by rw [gr_us]; exact q1, by rw [gr_us]; exact q2, by rw [gr_us]; exact q3, q4⟩⟩) (fun q1 q2 => (hor.elim q1 q2).elim) hM gM bE (fun i hi => by
              by_cases e : i = x
              · rw [if_pos e, e, pk_us]
              · rw [if_neg e, pk_un e, pk_un (by omega)])
          exact nm_e (nm_r (pk_m1 P.length) (nm_r (nI_1 c) (ih P (n' + 1) _ _ _ _ _ _ _ _ _ td (c + 1) J (xg_new hG k30) (gr_L_n W' (gr_same_u (pb := pb') (b := b)) hL' k1) (by omega) hst.2 (by omega) (by omega))))
        refine xw_copy (x := x) (y1 := y1) (y2 := y2) (c1 := nt y1 - 1) (c2 := nt y2 - 1) (by omega) hG hL' hK W' (by omega) (by rw [kx]; exact xk) (fun k8 => ?_) (fun k8 kc => ?_) (fun kc => ?_) (fun kc e1 e2 => ?_) (fun kc ne => ?_)
        · rw [kx] at k8
          exact made 7 0 0 (by omega) (by omega) (fun _ => rfl) (fun q => by omega) (Or.inl k8)
        · rw [kx] at k8 kc
          exact same x ⟨rfl, k8, fun q => (kc q).elim⟩
        · rw [kx] at kc
          obtain ⟨_, _, _, _, a1, a2, a3, a4, a5, a6⟩ := inf kc
          exact ⟨a1, a2, a3, a4, a5, a6⟩
        · rw [kx] at kc
          obtain ⟨_, _, z1, z2⟩ := ch' kc
          exact same x ⟨rfl, fun q => by omega, fun _ => ⟨by omega, by omega⟩⟩
        · rw [kx] at kc ⊢
          obtain ⟨_, _, z1, z2⟩ := ch' kc
          exact made (kd x) (nt y1 - 1) (nt y2 - 1) sx1 (by omega) (fun q => by omega) (fun _ => ⟨rfl, rfl, rfl, fun q => ne ⟨by omega, by omega⟩⟩) (Or.inr kc)
      have down : ∀ y, y < n → kd y ≠ 1000 → nt y = 0 → E y → tr_sz (ρ y) < tr_sz (ρ x) → wX_instance_115 post (wX_instance_22 post (nI r0) (m + 1)) (nI r0) (nI (P.length + 1)) (nI c) (nI x) (nI y) f_tokenCount f_accepted f_lastPlace f_openCount f_draftOpen f_symbolCount f_stepCount f_bindingCount f_waitingCount f_clashPlace (nI n') f_todoCount a_kinds a_values a_declaredSize a_declaredNodes a_draftSize a_draftNodes a_symbols a_symbolPlaces a_steps a_stepPlaces a_bindings a_boundType a_waitingTypes a_waitingFirm sh lf rt lk note td a_todoOther a_generalNode := by
        intro y yn yk y0 yE ys
        have yx : y ≠ x := fun e => by rw [e] at ys; exact Nat.lt_irrefl _ ys
        refine br_f (fun e => yx ((nI_eq (by omega) (by omega)).mp e)) (br_t (nI_lt (b := 4096) (by omega) (by decide)) ⟨vp_in_nI (by omega) (by decide), ?_⟩)
        rw [nI_clamp (by omega)]
        refine nm_e (nm_r (nI_1 _) (nm_r (nI_1 c) (ih (y :: x :: P) n' kd' pa' pb' nt sh lf rt lk note _ (c + 1) (xi_down I' yn yk y0 yE ys) hG hL' hK' (st_1p (L := x :: P) hst) (by rw [List.length_cons, List.length_cons]; omega) (by omega))))
      refine br_f (nI_ge (b := 8192) (by omega) (by decide)) (br_f (nI_nle (by rw [List.length_cons]; omega) (by rw [List.length_cons]; omega)) ?_)
      rw [List.length_cons, nI_pred]
      refine ⟨vl, ?_⟩
      rw [nI_clamp (by omega), hst.1]
      refine nm_e ?_
      refine xw_parts (k := kd x) (by omega) sx2 sx1 (fun hc1 => ?_) (fun hc0 => ?_)
      · have w := (W x xn).2 hc1
        have t1 := gr_L_to hL w.1
        have t2 := gr_L_to hL w.2
        generalize e1 : gr_f kd pa K (pa x) = y1 at t1
        generalize e2 : gr_f kd pa K (pb x) = y2 at t2
        have n1 := gr_to_n W t1 w.1
        have n2 := gr_to_n W t2 w.2
        have s1 : tr_sz (ρ y1) < tr_sz (ρ x) := by
          rw [gr_Vc hρ xn hc1, ← gr_to_V W hρ t1 w.1]; exact tr_sz_l _ _ _
        have s2 : tr_sz (ρ y2) < tr_sz (ρ x) := by
          rw [gr_Vc hρ xn hc1, ← gr_to_V W hρ t2 w.2]; exact tr_sz_r _ _ _
        have E1 : E y1 := gr_to_C cE t1 ((cE x xE).2.2 hc1).1
        have E2 : E y2 := gr_to_C cE t2 ((cE x xE).2.2 hc1).2
        have v1 : vp_in (nI y1) 4096 := vp_in_nI (by omega) (by decide)
        have v2 : vp_in (nI y2) 4096 := vp_in_nI (by omega) (by decide)
        have q1 : note (nI y1).toNatClampNeg = nI (nt y1) := by rw [nI_clamp (by omega)]; exact (iN y1 n1).1
        have q2 : note (nI y2).toNatClampNeg = nI (nt y2) := by rw [nI_clamp (by omega)]; exact (iN y2 n2).1
        have b1 := (iN y1 n1).2
        have b2 := (iN y2 n2).2
        refine br_f (by decide) ⟨vx, ?_⟩
        rw [cx, (sx3 hc1).1, (sx3 hc1).2]
        refine xw_find hG (by omega) hL' hK (by omega) (gr_to_s W sm w.1 t1) ⟨vx, ?_⟩
        refine xw_find hG (by omega) hL' hK (by omega) (gr_to_s W sm w.2 t2) ⟨v1, ?_⟩
        rw [q1, q2]
        refine pk_eq (nt y1) 0 (fun z => down y1 n1 t1.1 z E1 s1) (fun z1 => ⟨v2, ?_⟩)
        refine pk_eq (nt y2) 0 (fun z => down y2 n2 t2.1 z E2 s2) (fun z2 => ?_)
        exact br_t rfl (fin (fun _ => ⟨y1, y2, t1, t2, z1, z2⟩))
      · exact br_t rfl (br_t rfl (fin (fun z => (hc0 z).elim)))
/-- the component's instance -/
theorem xw_instance {post : Int32 → SX → Prop} {b0 nl t : Nat} {M E : Nat → Prop} (W : gr_W n kd pa pb) (A : gr_A n kd pa pb) (hG : xg_G n a_shape a_left a_right a_link kd pa pb) (hL : gr_L n kd pa K) (hK : K + gr_nr kd n ≤ n) (hM : gr_C n kd pa pb M) (gM : ∀ i, M i → kd i ≠ 8) (cE : gr_C n kd pa pb E) (bE : ∀ i, E i → ¬ M i → b0 ≤ i ∧ i < nl) (hb : n + (nl - b0) ≤ 4000) (ht : E t)
    (h : ∀ n' kd' pa' pb' (nt : Nat → Nat) r0 sh lf rt lk note td, gr_to kd pa t r0 → nt r0 ≠ 0 → ic_I n n' kd pa pb kd' pa' pb' (fun i => i < n ∧ nt i ≠ 0) (fun i => nt i - 1) → n' ≤ n + (nl - b0) → xg_G n' sh lf rt lk kd' pa' pb' → gr_L n' kd' pa' K → K + gr_nr kd' n' ≤ n' → post (nI (nt r0 - 1)) (f_tokenCount, f_accepted, f_lastPlace, f_openCount, f_draftOpen, f_symbolCount, f_stepCount, f_bindingCount, f_waitingCount, f_clashPlace, nI n', f_todoCount, a_kinds, a_values, a_declaredSize, a_declaredNodes, a_draftSize, a_draftNodes, a_symbols, a_symbolPlaces, a_steps, a_stepPlaces, a_bindings, a_boundType, a_waitingTypes, a_waitingFirm, sh, lf, rt, lk, note, td, a_todoOther, a_generalNode)) :
    wpX_instance post (f_tokenCount, f_accepted, f_lastPlace, f_openCount, f_draftOpen, f_symbolCount, f_stepCount, f_bindingCount, f_waitingCount, f_clashPlace, nI n, f_todoCount, a_kinds, a_values, a_declaredSize, a_declaredNodes, a_draftSize, a_draftNodes, a_symbols, a_symbolPlaces, a_steps, a_stepPlaces, a_bindings, a_boundType, a_waitingTypes, a_waitingFirm, a_shape, a_left, a_right, a_link, a_note, a_todo, a_todoOther, a_generalNode) (nI t) := by
  have tn : t < n := (cE t ht).1
  have tt := gr_L_to hL tn
  generalize e : gr_f kd pa K t = r at tt
  have rn := gr_to_n W tt tn
  obtain ⟨ρ, hρ, _⟩ := gr_ex A (fun _ => tr_at 0)
  unfold wpX_instance
  refine xw_clear (by omega) (fun note hz => ?_)
  refine xw_find hG (by omega) hL (by omega) tn tt (nm_e ⟨2 * n + 1, ?_⟩)
  have cl := ct_le (p := fun i => decide ((fun _ => 0 : Nat → Nat) i = 0)) n
  have cf := ct_from (b := b0) (p := fun i => decide (b0 ≤ i) && decide ((fun _ => 0 : Nat → Nat) i = 0)) (fun i hi => by simp at hi; exact hi) nl
  refine xw_inst_l (r0 := r) W hL (by omega) hM gM cE bE hρ hb rn (fun n' kd' pa' pb' nt sh lf rt lk note td I hG' hL' hK' => h n' kd' pa' pb' nt r sh lf rt lk note td tt ?_ I.1 ?_ hG' hL' hK') (2 * n) [r] n kd pa pb (fun _ => 0) _ _ _ _ _ _ 0 ⟨⟨Nat.le_refl _, fun i _ => ⟨rfl, rfl, rfl⟩, fun r hr => (hr.2 rfl).elim, fun r _ hr => (hr.2 rfl).elim, fun m h1 h2 => by omega⟩, fun i hi => ⟨hz i hi, Nat.zero_le _⟩, fun i hi => ?_, ls_nd1 _, ⟨fun y hy => (by cases hy), trivial⟩, Or.inl List.mem_cons_self, fun i _ h => (h rfl).elim, ?_⟩ hG hL hK (st_1p (L := []) trivial) ?_ (by omega)
  · rcases I.2.2.2.2.2.1 with z | z
    · cases z
    · exact z
  · have := I.2.2.2.2.2.2.2
    have := I.1.1
    omega
  · rw [List.mem_singleton] at hi
    rw [hi]; exact ⟨rn, tt.1, rfl, gr_to_C cE tt ht⟩
  · rw [Nat.sub_self, Nat.zero_add]; exact cf
  · exact Nat.le_trans (Nat.mul_le_mul_left 2 (ct_le n)) (by rw [List.length_singleton]; omega)
end
