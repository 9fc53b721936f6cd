/-! the component's copy of a type with new variables -/
section
variable {f_tokenCount f_accepted f_lastPlace f_openCount f_draftOpen f_symbolCount f_stepCount f_bindingCount f_waitingCount f_clashPlace f_nodeCount f_todoCount : Int32} {a_kinds a_values a_declaredSize a_declaredNodes a_draftSize a_draftNodes a_symbols a_symbolPlaces a_steps a_stepPlaces a_bindings a_boundType a_waitingTypes a_waitingFirm a_shape a_left a_right a_link a_note a_todo a_todoOther a_generalNode : Nat → Int32}
variable {kd pa pb : Nat → Nat} {n K : Nat}
theorem ct_nd : ∀ (P : List Nat) (p : Nat → Bool), P.Nodup → (∀ x, x ∈ P → x < n ∧ p x = true) → P.length ≤ ct_n p n := by
  intro P
  induction P with
  | nil => intro p _ _; exact Nat.zero_le _
  | cons x P ih =>
    intro p hd h
    obtain ⟨d1, d2⟩ := List.nodup_cons.mp hd
    obtain ⟨x1, x2⟩ := h x List.mem_cons_self
    have z := ih (fun i => if i = x then false else p i) d2 (fun y hy => ⟨(h y (List.mem_cons_of_mem _ hy)).1, by
      have ne : ¬ y = x := fun e => d1 (e ▸ hy)
      show (if y = x then false else p y) = true
      rw [if_neg ne]; exact (h y (List.mem_cons_of_mem _ hy)).2⟩)
    have c := ct_u (p := p) (q := fun i => if i = x then false else p i) (a := x) x2 (if_pos rfl) (fun i hi => if_neg hi) n x1
    rw [List.length_cons]; omega
theorem ct_from {b : Nat} {p : Nat → Bool} (h : ∀ i, p i = true → b ≤ i) : ∀ n, ct_n p n ≤ n - b := by
  intro n
  induction n with
  | zero => exact Nat.zero_le _
  | succ n ih =>
    unfold ct_n
    by_cases c : p n = true
    · rw [if_pos c]; have := h n c; omega
    · rw [if_neg c]; omega
theorem xw_copy {post : Int32 → SX → Prop} {x y1 y2 c1 c2 : Nat} (hn : n < 4096) (hG : xg_G n a_shape a_left a_right a_link kd pa pb) (hL : gr_L n kd pa K) (hK : K ≤ 4096) (W : gr_W n kd pa pb) (hx : x < n) (hk : kd x ≠ 1000)
    (h8 : kd x = 8 → post (nI n) (f_tokenCount, f_accepted, f_lastPlace, f_openCount, f_draftOpen, f_symbolCount, f_stepCount, f_bindingCount, f_waitingCount, f_clashPlace, nI (n + 1), f_todoCount, a_kinds, a_values, a_declaredSize, a_declaredNodes, a_draftSize, a_draftNodes, a_symbols, a_symbolPlaces, a_steps, a_stepPlaces, a_bindings, a_boundType, a_waitingTypes, a_waitingFirm, upd a_shape n (nI 7), upd a_left n (nI 0), upd a_right n (nI 0), upd a_link n (nI n), upd a_note n 0, a_todo, a_todoOther, a_generalNode))
    (h0 : kd x ≠ 8 → ¬ gr_cn (kd x) → post (nI x) (f_tokenCount, f_accepted, f_lastPlace, f_openCount, f_draftOpen, f_symbolCount, f_stepCount, f_bindingCount, f_waitingCount, f_clashPlace, nI n, f_todoCount, a_kinds, a_values, a_declaredSize, a_declaredNodes, a_draftSize, a_draftNodes, a_symbols, a_symbolPlaces, a_steps, a_stepPlaces, a_bindings, a_boundType, a_waitingTypes, a_waitingFirm, a_shape, a_left, a_right, a_link, a_note, a_todo, a_todoOther, a_generalNode))
    (hc : gr_cn (kd x) → gr_to kd pa (pa x) y1 ∧ gr_to kd pa (pb x) y2 ∧ a_note y1 = nI (c1 + 1) ∧ a_note y2 = nI (c2 + 1) ∧ c1 < 4096 ∧ c2 < 4096)
    (hs : gr_cn (kd x) → c1 = y1 → c2 = y2 → post (nI x) (f_tokenCount, f_accepted, f_lastPlace, f_openCount, f_draftOpen, f_symbolCount, f_stepCount, f_bindingCount, f_waitingCount, f_clashPlace, nI n, f_todoCount, a_kinds, a_values, a_declaredSize, a_declaredNodes, a_draftSize, a_draftNodes, a_symbols, a_symbolPlaces, a_steps, a_stepPlaces, a_bindings, a_boundType, a_waitingTypes, a_waitingFirm, a_shape, a_left, a_right, a_link, a_note, a_todo, a_todoOther, a_generalNode))
    (hm : gr_cn (kd x) → ¬ (c1 = y1 ∧ c2 = y2) → post (nI n) (f_tokenCount, f_accepted, f_lastPlace, f_openCount, f_draftOpen, f_symbolCount, f_stepCount, f_bindingCount, f_waitingCount, f_clashPlace, nI (n + 1), f_todoCount, a_kinds, a_values, a_declaredSize, a_declaredNodes, a_draftSize, a_draftNodes, a_symbols, a_symbolPlaces, a_steps, a_stepPlaces, a_bindings, a_boundType, a_waitingTypes, a_waitingFirm, upd a_shape n (nI (kd x)), upd a_left n (nI c1), upd a_right n (nI c2), upd a_link n (nI n), upd a_note n 0, a_todo, a_todoOther, a_generalNode)) :
    wpX_copyAboveParts post (f_tokenCount, f_accepted, f_lastPlace, f_openCount, f_draftOpen, f_symbolCount, f_stepCount, f_bindingCount, f_waitingCount, f_clashPlace, nI n, f_todoCount, a_kinds, a_values, a_declaredSize, a_declaredNodes, a_draftSize, a_draftNodes, a_symbols, a_symbolPlaces, a_steps, a_stepPlaces, a_bindings, a_boundType, a_waitingTypes, a_waitingFirm, a_shape, a_left, a_right, a_link, a_note, a_todo, a_todoOther, a_generalNode) (nI x) := by
  have vx : vp_in (nI x) 4096 := vp_in_nI (by omega) (by decide)
  have cx : (nI x).toNatClampNeg = x := nI_clamp (by omega)
  obtain ⟨sx1, sx2, sx3⟩ := xg_sh hG hx hk
  refine ⟨vx, ?_⟩
  rw [cx, sx2]
  refine pk_eq (kd x) 8 (fun k8 => ?_) (fun k8 => ?_)
  · exact xw_new hn (h8 k8)
  · refine xw_parts (k := kd x) (by omega) sx2 sx1 (fun hc1 => ?_) (fun hc0 => ?_)
    · obtain ⟨t1, t2, q1, q2, l1, l2⟩ := hc hc1
      have w := (W x hx).2 hc1
      have n1 := gr_to_n W t1 w.1
      have n2 := gr_to_n W t2 w.2
      refine br_f (by decide) ⟨vx, ?_⟩
      rw [(sx3 hc1).1, (sx3 hc1).2]
      refine xw_find hG (by omega) hL hK w.1 t1 ⟨vx, ?_⟩
      refine xw_find hG (by omega) hL hK w.2 t2 ⟨vp_in_nI (by omega) (by decide), ?_⟩
      rw [nI_clamp (by omega), q1]
      refine nm_r (nI_pred c1) ⟨vp_in_nI (by omega) (by decide), ?_⟩
      rw [nI_clamp (by omega), q2]
      refine nm_r (nI_pred c2) ?_
      have made : ¬ (c1 = y1 ∧ c2 = y2) → wX_copyAboveParts_86 post (nI x) (nI c1) (nI c2) f_tokenCount f_accepted f_lastPlace f_openCount f_draftOpen f_symbolCount f_stepCount f_bindingCount f_waitingCount f_clashPlace (nI n) f_todoCount a_kinds a_values a_declaredSize a_declaredNodes a_draftSize a_draftNodes a_symbols a_symbolPlaces a_steps a_stepPlaces a_bindings a_boundType a_waitingTypes a_waitingFirm a_shape a_left a_right a_link a_note a_todo a_todoOther a_generalNode := by
        intro ne
        refine ⟨vx, ?_⟩
        rw [cx, sx2]
        exact xw_new hn (hm hc1 ne)
      exact pk_eq c1 y1 (fun e1 => pk_eq c2 y2 (fun e2 => hs hc1 e1 e2) (fun e2 => made (fun z => e2 z.2))) (fun e1 => made (fun z => e1 z.1))
    · exact br_t rfl (h0 k8 hc0)
/-- what holds while the copy is at work: nt i = 0: no copy yet, else the copy's number and one; P the way down -/
def xi_I (b0 nl n n' : Nat) (kd pa pb kd' pa' pb' : Nat → Nat) (M E : Nat → Prop) (ρ : Nat → tr_T) (note : Nat → Int32) (nt : Nat → Nat) (r0 : Nat) (P : List Nat) : Prop :=
  ic_I n n' kd pa pb kd' pa' pb' (fun i => i < n ∧ nt i ≠ 0) (fun i => nt i - 1) ∧ (∀ i, i < n → note i = nI (nt i) ∧ nt i ≤ n') ∧
  (∀ i, i ∈ P → i < n ∧ kd i ≠ 1000 ∧ nt i = 0 ∧ E i) ∧ P.Nodup ∧ xm_c ρ P ∧ (r0 ∈ P ∨ nt r0 ≠ 0) ∧ (∀ i, i < n → nt i ≠ 0 → M i → nt i = i + 1) ∧
  (n' - n) + ct_n (fun i => decide (b0 ≤ i) && decide (nt i = 0)) nl ≤ nl - b0
theorem gr_to_s {kd' pa' pb' : Nat → Nat} (W : gr_W n kd pa pb) (s : ∀ i, i < n → kd' i = kd i ∧ pa' i = pa i ∧ pb' i = pb i) {i r : Nat} (hi : i < n) (h : gr_to kd pa i r) : gr_to kd' pa' i r := by
  have rn := gr_to_n W h hi
  obtain ⟨hr, f, e⟩ := h
  refine ⟨by rw [(s r rn).1]; exact hr, f, ?_⟩
  rw [gr_f_n W s f i hi]; exact e
def xi_K (n n' : Nat) (kd pa pb kd2 pa2 pb2 nt : Nat → Nat) (x y : Nat) : Prop := gr_cn (kd x) → ∃ z w, gr_to kd pa (pa x) z ∧ gr_to kd pa (pb x) w ∧ z < n ∧ w < n ∧ nt z ≠ 0 ∧ nt w ≠ 0 ∧ z ≠ x ∧ w ≠ x ∧ ((y = x ∧ nt z = z + 1 ∧ nt w = w + 1) ∨ (y = n' ∧ kd2 y = kd x ∧ pa2 y = nt z - 1 ∧ pb2 y = nt w - 1 ∧ ¬ (nt z = z + 1 ∧ nt w = w + 1)))
/-- the next node gets its copy y -/
theorem xi_fin {b0 nl n' n2 : Nat} {kd' pa' pb' kd2 pa2 pb2 : Nat → Nat} {M E : Nat → Prop} {ρ : Nat → tr_T} {note note2 : Nat → Int32} {nt : Nat → Nat} {r0 x y : Nat} {P : List Nat}
    (I : xi_I b0 nl n n' kd pa pb kd' pa' pb' M E ρ note nt r0 (x :: P)) (h1 : n' ≤ n2) (hs : ∀ i, i < n' → kd2 i = kd' i ∧ pa2 i = pa' i ∧ pb2 i = pb' i)
    (hy : (y = x ∧ n2 = n') ∨ (y = n' ∧ n2 = n' + 1)) (hx : x < n)
    (k8 : kd x = 8 → y = n' ∧ kd2 y = 7) (kc : xi_K n n' kd pa pb kd2 pa2 pb2 nt x y)
    (ko : kd x ≠ 8 → ¬ gr_cn (kd x) → y = x) (hM : gr_C n kd pa pb M) (gM : ∀ i, M i → kd i ≠ 8) (bE : ∀ i, E i → ¬ M i → b0 ≤ i ∧ i < nl) (hnote : ∀ i, i < n → note2 i = if i = x then nI (y + 1) else note i) :
    xi_I b0 nl n n2 kd pa pb kd2 pa2 pb2 M E ρ note2 (gr_u nt x (y + 1)) r0 P := by
  obtain ⟨ic, iN, iP, iD, iS, i0, iM, iC⟩ := I
  obtain ⟨j1, j2, j3, j4, j5⟩ := ic
  have ilt : ∀ r, r < n → nt r ≠ 0 → nt r - 1 < n' ∧ (nt r - 1 = r ∨ n ≤ nt r - 1) := fun r h1 h2 => ic_lt (⟨j1, j2, j3, j4, j5⟩ : ic_I n n' kd pa pb kd' pa' pb' (fun i => i < n ∧ nt i ≠ 0) (fun i => nt i - 1)) (r := r) ⟨h1, h2⟩
  dsimp only at j3 j4 j5
  obtain ⟨d1, d2⟩ := List.nodup_cons.mp iD
  obtain ⟨_, xk, x0, xE⟩ := iP x List.mem_cons_self
  have yx : M x → y = x := by
    intro m
    by_cases c8 : kd x = 8
    · exact (gM x m c8).elim
    · by_cases cc : gr_cn (kd x)
      · obtain ⟨z, w, t1, t2, zn, wn, z0, w0, _, _, q⟩ := kc cc
        rcases q with q | q
        · exact q.1
        · have mz := gr_to_C hM t1 ((hM x m).2.2 cc).1
          have mw := gr_to_C hM t2 ((hM x m).2.2 cc).2
          exact (q.2.2.2.2 ⟨iM z zn z0 mz, iM w wn w0 mw⟩).elim
      · exact ko c8 cc
  have bnd : y = n' → b0 ≤ x ∧ x < nl := by
    intro e
    refine bE x xE (fun m => ?_)
    have := yx m
    omega
  refine ⟨⟨by omega, fun i hi => ?_, fun r hr => ?_, fun r r' hr hr' h h' => ?_, fun m m1 m2 => ?_⟩, fun i hi => ?_, fun i hi => ?_, d2, iS.2, ?_, fun i hi h m => ?_, ?_⟩
  · obtain ⟨a, b, c⟩ := hs i (by omega)
    obtain ⟨a', b', c'⟩ := j2 i hi
    exact ⟨a.trans a', b.trans b', c.trans c'⟩
  · obtain ⟨rn, hr⟩ := hr
    dsimp only
    by_cases e : r = x
    · subst e
      simp only [gr_us, Nat.add_sub_cancel]
      refine ⟨rn, xk, fun c => ?_, fun c => ?_, fun c c' => ko c c'⟩
      · obtain ⟨a, b⟩ := k8 c
        exact ⟨by omega, by omega, b⟩
      · obtain ⟨z, w, t1, t2, zn, wn, z0, w0, zx, wx, q⟩ := kc c
        refine ⟨z, w, t1, t2, ⟨zn, by rw [gr_un zx]; exact z0⟩, ⟨wn, by rw [gr_un wx]; exact w0⟩, ?_⟩
        rw [gr_un zx, gr_un wx]
        rcases q with q | q
        · exact Or.inl ⟨q.1, by omega, by omega⟩
        · exact Or.inr ⟨by omega, by omega, q.2.1, q.2.2.1, q.2.2.2.1⟩
    · rw [gr_un e] at hr ⊢
      obtain ⟨a, b, c, d, g⟩ := j3 r ⟨rn, hr⟩
      refine ⟨a, b, fun q => ?_, fun q => ?_, g⟩
      · obtain ⟨c1, c2, c3⟩ := c q
        exact ⟨c1, by omega, by rw [(hs _ c2).1]; exact c3⟩
      · obtain ⟨z, w, t1, t2, ⟨zn, z0⟩, ⟨wn, w0⟩, q'⟩ := d q
        have zx : z ≠ x := fun e => z0 (e ▸ x0)
        have wx : w ≠ x := fun e => w0 (e ▸ x0)
        refine ⟨z, w, t1, t2, ⟨zn, by rw [gr_un zx]; exact z0⟩, ⟨wn, by rw [gr_un wx]; exact w0⟩, ?_⟩
        rw [gr_un zx, gr_un wx]
        rcases q' with q' | q'
        · exact Or.inl q'
        · obtain ⟨e1, e2, e3⟩ := hs _ q'.2.1
          exact Or.inr ⟨q'.1, by omega, by rw [e1]; exact q'.2.2.1, by rw [e2]; exact q'.2.2.2.1, by rw [e3]; exact q'.2.2.2.2⟩
  · obtain ⟨rn, hr⟩ := hr
    obtain ⟨rn', hr'⟩ := hr'
    dsimp only at h h'
    by_cases e : r = x
    · by_cases e' : r' = x
      · rw [e, e']
      · subst e
        simp only [gr_us, Nat.add_sub_cancel] at h h'
        rw [gr_un e'] at hr' h'
        have l := ilt r' rn' hr'
        omega
    · by_cases e' : r' = x
      · subst e'
        rw [gr_un e] at hr h h'
        simp only [gr_us, Nat.add_sub_cancel] at h'
        have l := ilt r rn hr
        omega
      · rw [gr_un e] at hr h h'
        rw [gr_un e'] at hr' h'
        exact j4 r r' ⟨rn, hr⟩ ⟨rn', hr'⟩ h h'
  · by_cases c : m < n'
    · obtain ⟨r, ⟨rn, hr⟩, e⟩ := j5 m m1 c
      have rx : r ≠ x := fun e => hr (e ▸ x0)
      exact ⟨r, ⟨rn, by rw [gr_un rx]; exact hr⟩, by dsimp only; rw [gr_un rx]; exact e⟩
    · refine ⟨x, ⟨hx, by rw [gr_us]; omega⟩, ?_⟩
      dsimp only
      rw [gr_us]; omega
  · rw [hnote i hi]
    by_cases e : i = x
    · rw [if_pos e, e, gr_us]; exact ⟨rfl, by omega⟩
    · rw [if_neg e, gr_un e]; have := iN i hi; exact ⟨this.1, by omega⟩
  · obtain ⟨a, b, c, d⟩ := iP i (List.mem_cons_of_mem _ hi)
    have ne : i ≠ x := fun e => d1 (e ▸ hi)
    exact ⟨a, b, by rw [gr_un ne]; exact c, d⟩
  · rcases i0 with z | z
    · rcases List.mem_cons.mp z with z | z
      · exact Or.inr (by rw [z, gr_us]; omega)
      · exact Or.inl z
    · refine Or.inr ?_
      by_cases e : r0 = x
      · rw [e, gr_us]; omega
      · rw [gr_un e]; exact z
  · by_cases e : i = x
    · subst e
      rw [gr_us, yx m]
    · rw [gr_un e] at h ⊢; exact iM i hi h m
  · by_cases q : y = n'
    · obtain ⟨b1, b2⟩ := bnd q
      have c := ct_u (p := fun i => decide (b0 ≤ i) && decide (nt i = 0)) (q := fun i => decide (b0 ≤ i) && decide (gr_u nt x (y + 1) i = 0)) (a := x) (by simp [b1, x0]) (by rw [gr_us]; simp) (fun i hi => by rw [gr_un hi]) nl b2
      omega
    · have e2 : n2 = n' := by omega
      have mono : ct_n (fun i => decide (b0 ≤ i) && decide (gr_u nt x (y + 1) i = 0)) nl ≤ ct_n (fun i => decide (b0 ≤ i) && decide (nt i = 0)) nl := by
        by_cases b2 : x < nl
        · by_cases b1 : b0 ≤ x
          · have c := ct_u (p := fun i => decide (b0 ≤ i) && decide (nt i = 0)) (q := fun i => decide (b0 ≤ i) && decide (gr_u nt x (y + 1) i = 0)) (a := x) (by simp [b1, x0]) (by rw [gr_us]; simp) (fun i hi => by rw [gr_un hi]) nl b2
            omega
          · exact Nat.le_of_eq (ct_c nl (fun i hi => by
              by_cases e : i = x
              · rw [e]; simp [b1]
              · rw [gr_un e]))
        · exact Nat.le_of_eq (ct_c nl (fun i hi => by rw [gr_un (by omega)]))
      omega
end
