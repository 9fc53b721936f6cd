/-! the component's bindAndUnbind -/
section
variable {f_tokenCount f_accepted f_lastPlace f_openCount f_draftOpen f_symbolCount f_stepCount f_bindingCount f_waitingCount f_clashPlace f_nodeCount f_todoCount : Int32} {a_kinds a_values a_declaredSize a_declaredNodes a_draftSize a_draftNodes a_symbols a_symbolPlaces a_steps a_stepPlaces a_bindings a_boundType a_waitingTypes a_waitingFirm a_shape a_left a_right a_link a_note a_todo a_todoOther a_generalNode : Nat → Int32}
def xb_T (bt : Nat → Int32) : List (Nat × Bool) → List Nat → Prop
  | [], [] => True
  | b :: bs, e :: env => bt b.1 = nI e ∧ xb_T bt bs env
  | _, _ => False
theorem xb_PT {bd bt : Nat → Int32} : ∀ (bs : List (Nat × Bool)) (env : List Nat), xb_P bd bs → xb_T bt bs env → xb_B bd bt bs env := by
  intro bs
  induction bs with
  | nil => intro env _ h; cases env with
    | nil => trivial
    | cons e env => exact h.elim
  | cons b bs ih =>
    intro env hP hT
    cases env with
    | nil => exact hT.elim
    | cons e env => exact ⟨hP.1, hP.2.1, hT.1, ih env hP.2.2 hT.2⟩
theorem xb_Tu {bt : Nat → Int32} {k : Nat} {x : Int32} : ∀ (bs : List (Nat × Bool)) (env : List Nat), (∀ b, b ∈ bs → b.1 ≠ k) → xb_T bt bs env → xb_T (upd bt k x) bs env := by
  intro bs
  induction bs with
  | nil => intro env _ h; cases env with
    | nil => trivial
    | cons e env => exact h.elim
  | cons b bs ih =>
    intro env hk h
    cases env with
    | nil => exact h.elim
    | cons e env =>
      refine ⟨?_, ih env (fun b' hb' => hk b' (List.mem_cons_of_mem _ hb')) h.2⟩
      rw [pk_un (hk b List.mem_cons_self)]; exact h.1
theorem xb_Tapp {bt : Nat → Int32} : ∀ (A B : List (Nat × Bool)) (env : List Nat), xb_T bt (A ++ B) env → ∃ e1 e2, env = e1 ++ e2 ∧ e1.length = A.length ∧ xb_T bt A e1 ∧ xb_T bt B e2 := by
  intro A
  induction A with
  | nil => intro B env h; exact ⟨[], env, rfl, rfl, trivial, h⟩
  | cons a A ih =>
    intro B env h
    cases env with
    | nil => exact h.elim
    | cons e env =>
      obtain ⟨e1, e2, q1, q2, q3, q4⟩ := ih B env h.2
      exact ⟨e :: e1, e2, by rw [q1]; rfl, by rw [List.length_cons, List.length_cons, q2], ⟨h.1, q3⟩, q4⟩
theorem xw_bau87 {post : SX → Prop} {p m : Nat} {bs : List (Nat × Bool)} (hS : bs_S bs) (hx : ∀ x, x ∈ bs → x.1 ≤ p) (hm : p + m < 24)
    (h : ∀ bd, xb_P bd (pd_ns p m ++ bs) → post (f_tokenCount, f_accepted, f_lastPlace, f_openCount, f_draftOpen, f_symbolCount, f_stepCount, nI (pd_ns p m ++ bs).length, f_waitingCount, f_clashPlace, f_nodeCount, f_todoCount, a_kinds, a_values, a_declaredSize, a_declaredNodes, a_draftSize, a_draftNodes, a_symbols, a_symbolPlaces, a_steps, a_stepPlaces, bd, a_boundType, a_waitingTypes, a_waitingFirm, a_shape, a_left, a_right, a_link, a_note, a_todo, a_todoOther, a_generalNode)) :
    ∀ d i bd, i + d = m → xb_P bd (pd_ns p i ++ bs) → wX_bindAndUnbind_61 post (nI (p + m + 1)) (d + 1) (nI (p + 1 + i)) f_tokenCount f_accepted f_lastPlace f_openCount f_draftOpen f_symbolCount f_stepCount (nI (pd_ns p i ++ bs).length) f_waitingCount f_clashPlace f_nodeCount f_todoCount a_kinds a_values a_declaredSize a_declaredNodes a_draftSize a_draftNodes a_symbols a_symbolPlaces a_steps a_stepPlaces bd a_boundType a_waitingTypes a_waitingFirm a_shape a_left a_right a_link a_note a_todo a_todoOther a_generalNode := by
  intro d
  induction d with
  | zero =>
    intro i bd hi hP
    have e : i = m := by omega
    subst e
    exact br_t (nI_le (by omega) (by omega)) (h bd hP)
  | succ d ih =>
    intro i bd hi hP
    have q := bs_ns hS hx i
    have l := bs_len _ (p + i + 1) q.1 (fun x z => by have := q.2 x z; omega)
    refine br_f (nI_ge (by omega) (by omega)) ?_
    refine xw_bind (by omega) (nm_r (nI_1 _) ?_)
    exact ih (i + 1) _ (by omega) (xb_Pp (b := (p + 1 + i, false)) hP (by show p + 1 + i < 24; omega))
theorem xw_bau {post : SX → Prop} {s p c : Nat} {bs : List (Nat × Bool)} {fl : List Bool} {V : dv_W} {N mq Kt : Nat → Nat} (hT : tk_T a_kinds a_values c Kt N) (pre : dd_pre Kt mq c bs fl V s p) (hS : bs_S bs) (hP : xb_P a_bindings bs)
    (h : ∀ bd, bs_S (dd_bs mq bs fl s p) → xb_P bd (dd_bs mq bs fl s p) → post (nI c, f_accepted, f_lastPlace, f_openCount, f_draftOpen, f_symbolCount, f_stepCount, nI (dd_bs mq bs fl s p).length, f_waitingCount, f_clashPlace, f_nodeCount, f_todoCount, a_kinds, a_values, a_declaredSize, a_declaredNodes, a_draftSize, a_draftNodes, a_symbols, a_symbolPlaces, a_steps, a_stepPlaces, bd, a_boundType, a_waitingTypes, a_waitingFirm, a_shape, a_left, a_right, a_link, a_note, a_todo, a_todoOther, a_generalNode)) : wpX_bindAndUnbind post (nI c, f_accepted, f_lastPlace, f_openCount, f_draftOpen, f_symbolCount, f_stepCount, nI bs.length, f_waitingCount, f_clashPlace, f_nodeCount, f_todoCount, a_kinds, a_values, a_declaredSize, a_declaredNodes, a_draftSize, a_draftNodes, a_symbols, a_symbolPlaces, a_steps, a_stepPlaces, a_bindings, a_boundType, a_waitingTypes, a_waitingFirm, a_shape, a_left, a_right, a_link, a_note, a_todo, a_todoOther, a_generalNode) (nI s) (nI p) := by
  have c24 := hT.1
  obtain ⟨pc, _, s80, s90, _, _, _, _, q85, q86, q87, q88, q89, q90⟩ := pre
  have same : dd_bs mq bs fl s p = bs → post (nI c, f_accepted, f_lastPlace, f_openCount, f_draftOpen, f_symbolCount, f_stepCount, nI bs.length, f_waitingCount, f_clashPlace, f_nodeCount, f_todoCount, a_kinds, a_values, a_declaredSize, a_declaredNodes, a_draftSize, a_draftNodes, a_symbols, a_symbolPlaces, a_steps, a_stepPlaces, a_bindings, a_boundType, a_waitingTypes, a_waitingFirm, a_shape, a_left, a_right, a_link, a_note, a_todo, a_todoOther, a_generalNode) := fun e => by
    have z := h a_bindings
    rw [e] at z
    exact z hS hP
  have bnd : ∀ b : Bool, p + 1 < c → (∀ x, x ∈ bs → x.1 ≤ p) → dd_bs mq bs fl s p = (p + 1, b) :: bs → wX_bindAndUnbind_40 post (nI p) (nI c) f_accepted f_lastPlace f_openCount f_draftOpen f_symbolCount f_stepCount (nI bs.length) f_waitingCount f_clashPlace f_nodeCount f_todoCount a_kinds a_values a_declaredSize a_declaredNodes a_draftSize a_draftNodes a_symbols a_symbolPlaces a_steps a_stepPlaces a_bindings a_boundType a_waitingTypes a_waitingFirm a_shape a_left a_right a_link a_note a_todo a_todoOther a_generalNode := by
    intro b hc hx e
    have l := bs_len bs (p + 1) hS (fun x z => by have := hx x z; omega)
    have z := h (upd a_bindings bs.length (nI (p + 1)))
    rw [e] at z
    unfold wX_bindAndUnbind_40
    rw [nI_1]
    refine xw_bind (by omega) ?_
    exact z ⟨fun x q => by have := hx x q; show x.1 < p + 1; omega, hS⟩ (xb_Pp (b := (p + 1, b)) hP (by show p + 1 < 24; omega))
  have unb : ∀ b bs0, bs = b :: bs0 → bs0.length < 90 → dd_bs mq bs fl s p = bs0 → wX_bindAndUnbind_109 post (nI c) f_accepted f_lastPlace f_openCount f_draftOpen f_symbolCount f_stepCount (nI bs.length) f_waitingCount f_clashPlace f_nodeCount f_todoCount a_kinds a_values a_declaredSize a_declaredNodes a_draftSize a_draftNodes a_symbols a_symbolPlaces a_steps a_stepPlaces a_bindings a_boundType a_waitingTypes a_waitingFirm a_shape a_left a_right a_link a_note a_todo a_todoOther a_generalNode := by
    intro b bs0 e l0 e2
    have z := h a_bindings
    rw [e2] at z
    rw [e] at hS hP
    unfold wX_bindAndUnbind_109
    rw [e, List.length_cons]
    exact xw_unbindA (m := 1) (by omega) (z hS.2 hP.2.2)
  have lb : ∀ b bs0, bs = b :: bs0 → bs0.length < 90 := by
    intro b bs0 e
    rw [e] at hS hP
    have := bs_len bs0 b.1 hS.2 hS.1
    have := hP.2.1
    omega
  unfold wpX_bindAndUnbind
  by_cases c85 : s < 85
  · refine br_t (nI_lt (b := 85) c85 (by decide)) (same ?_)
    unfold dd_bs
    rw [if_neg (by omega), if_neg (by omega), if_neg (by omega), if_neg (by omega), if_neg (by omega), if_neg (by omega)]
  · refine br_f (nI_nlt (b := 85) (by omega) (by omega)) (br_f (nI_nlt (a := 90) (by omega) (by omega)) ?_)
    have hs : s = 85 ∨ s = 86 ∨ s = 87 ∨ s = 88 ∨ s = 89 ∨ s = 90 := by omega
    rcases hs with rfl | rfl | rfl | rfl | rfl | rfl
    · obtain ⟨a1, _, a2⟩ := q85 rfl
      exact br_t rfl (bnd false a1 a2 rfl)
    · obtain ⟨_, _, bs0, e⟩ := q86 rfl
      refine br_f (by decide) (br_t rfl (unb _ bs0 e (lb _ _ e) ?_))
      rw [e]; rfl
    · obtain ⟨hf, hp, hx⟩ := q87 rfl
      refine br_f (by decide) (br_f (by decide) (br_t rfl ?_))
      refine xw_equals hT hf hp (nm_r (nI_1 p) ⟨mq p + 1, ?_⟩)
      exact xw_bau87 hS hx (by omega) (fun bd hbd => h bd (bs_ns hS hx (mq p)).1 hbd) (mq p) 0 a_bindings (by omega) hP
    · obtain ⟨hf, hp, _, bs0, e, _, hx⟩ := q88 rfl
      refine br_f (by decide) (br_f (by decide) (br_f (by decide) (br_t rfl ?_)))
      refine xw_equals hT hf hp ?_
      have ed : dd_bs mq bs fl 88 p = (p + 1, true) :: bs0 := by
        unfold dd_bs
        rw [if_neg (by omega), if_neg (by omega), if_neg (by omega), if_pos rfl, e]
        rw [List.drop_left' (pd_ns_len p (mq p))]
      have em : nI (p + mq p + 1) - nI p - 1 = nI (mq p) := by
        rw [pk_sub (by omega)]
        have : p + mq p + 1 - p = mq p + 1 := by omega
        rw [this, nI_pred]
      have el : bs.length = bs0.length + mq p := by rw [e, List.length_append, pd_ns_len]; omega
      rw [e] at hS hP
      have hS0 := bs_app _ _ hS
      have hP0 := xb_Papp _ _ hP
      have l := bs_len bs0 (p + 1) hS0 (fun x z => by have := hx x z; omega)
      rw [em, el]
      refine xw_unbindA (by omega) ?_
      rw [nI_1]
      refine xw_bind (by omega) ?_
      have z := h (upd a_bindings bs0.length (nI (p + 1)))
      rw [ed] at z
      exact z ⟨fun x q => by have := hx x q; show x.1 < p + 1; omega, hS0⟩ (xb_Pp (b := (p + 1, true)) hP0 (by show p + 1 < 24; omega))
    · obtain ⟨a1, _, _, _, a2⟩ := q89 rfl
      exact br_f (by decide) (br_f (by decide) (br_f (by decide) (br_f (by decide) (br_t rfl (bnd _ a1 a2 rfl)))))
    · obtain ⟨_, ne⟩ := q90 rfl
      cases bs with
      | nil => exact (ne rfl).elim
      | cons b bs0 => exact br_f (by decide) (br_f (by decide) (br_f (by decide) (br_f (by decide) (br_f (by decide) (br_t rfl (unb b bs0 rfl (lb _ _ rfl) rfl))))))
end
