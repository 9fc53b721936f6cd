/-! the component's typeFault -/
def gd_E (K N mq : Nat → Nat) (Dc : Nat → List tr_T → tr_T → Prop) : pm_L → List (Nat × Bool) → List Bool → dv_W → List (Nat × Bool) × List Bool × dv_W
  | [], bs, fl, V => (bs, fl, V)
  | (s, p) :: sp, bs, fl, V => gd_E K N mq Dc sp (dd_bs mq bs fl s p) (dd_fl K fl s p) (dd_V K N mq Dc bs V s p)
def xs_S (sts pls : Nat → Int32) (sp : pm_L) : Prop := ∀ (i s p : Nat), sp[i]? = some (s, p) → sts i = nI s ∧ pls i = nI p
def xd_I (oc nl n K : Nat) (kd pa pb : Nat → Nat) (stk env : List Nat) (bs : List (Nat × Bool)) (fl : List Bool) (V : dv_W) (x : Nat × Nat × Nat) (c : Nat) (Kt : Nat → Nat) (sh lf rt lk bd bt wt wf : Nat → Int32) : Prop :=
  xt_I oc nl n K kd pa pb stk env bs V sh lf rt lk ∧ xb_P bd bs ∧ xb_T bt bs env ∧ bs_S bs ∧ (∀ b, b ∈ bs → b.1 < c ∧ Kt b.1 = 3) ∧ st_1 wt stk ∧ st_b wf fl ∧ fl.length = stk.length ∧ n ≤ oc + x.1 ∧ nl ≤ oc + Nat.max x.2.1 x.2.2 ∧ oc ≤ n
theorem ls_1 {α : Type} {l : List α} (h : 1 ≤ l.length) : ∃ a r, l = a :: r := by
  cases l with
  | nil => simp at h
  | cons a r => exact ⟨a, r, rfl⟩
theorem ls_2 {α : Type} {l : List α} (h : 2 ≤ l.length) : ∃ a b r, l = a :: b :: r := by
  obtain ⟨a, r, e⟩ := ls_1 (l := l) (by omega)
  subst e
  rw [List.length_cons] at h
  obtain ⟨b, r', e⟩ := ls_1 (l := r) (by omega)
  subst e
  exact ⟨a, b, r', rfl⟩
theorem ls_3 {α : Type} {l : List α} (h : 3 ≤ l.length) : ∃ a b c r, l = a :: b :: c :: r := by
  obtain ⟨a, b, r, e⟩ := ls_2 (l := l) (by omega)
  subst e
  rw [List.length_cons, List.length_cons] at h
  obtain ⟨c, r', e⟩ := ls_1 (l := r) (by omega)
  subst e
  exact ⟨a, b, c, r', rfl⟩
theorem st_bd {a : Nat → Int32} : ∀ (L : List Bool) (i : Nat), st_b a L → st_b a (L.drop i) := by
  intro L
  induction L with
  | nil => intro i h; rw [List.drop_nil]; trivial
  | cons b L ih =>
    intro i h
    cases i with
    | zero => exact h
    | succ i => rw [List.drop_succ_cons]; exact ih i h.2
section
variable {f_tokenCount f_accepted f_lastPlace f_openCount f_draftOpen f_symbolCount f_stepCount f_bindingCount f_waitingCount f_clashPlace f_nodeCount f_todoCount : Int32} {a_kinds a_values a_declaredSize a_declaredNodes a_draftSize a_draftNodes a_symbols a_symbolPlaces a_steps a_stepPlaces a_bindings a_boundType a_waitingTypes a_waitingFirm a_shape a_left a_right a_link a_note a_todo a_todoOther a_generalNode : Nat → Int32}
variable {kd pa pb : Nat → Nat} {n K : Nat}
theorem xt_oc {b0 nl n oc : Nat} {kd pa pb : Nat → Nat} {stk env : List Nat} {bs : List (Nat × Bool)} {V : dv_W} (I : rp_I b0 nl n kd pa pb (List.range oc) stk env bs V) : oc ≤ n := by
  obtain ⟨M, Es, ⟨hM, gM, oM, sM, eM⟩, _, _, _, _⟩ := I.2.2.1
  by_cases c : oc = 0
  · omega
  · have := (hM (oc - 1) (oM _ (List.mem_range.mpr (by omega)))).1
    omega
theorem xw_tfbad {post : Int32 → SX → Prop} {m j q : Nat} (hq : q < 100) (h : post (nI q) (f_tokenCount, f_accepted, f_lastPlace, f_openCount, f_draftOpen, f_symbolCount, f_stepCount, f_bindingCount, f_waitingCount, nI q, f_nodeCount, f_todoCount, a_kinds, a_values, a_declaredSize, a_declaredNodes, a_draftSize, a_draftNodes, a_symbols, a_symbolPlaces, a_steps, a_stepPlaces, a_bindings, a_boundType, a_waitingTypes, a_waitingFirm, a_shape, a_left, a_right, a_link, a_note, a_todo, a_todoOther, a_generalNode)) : wX_typeFault_23 post (m + 1) (nI j) f_tokenCount f_accepted f_lastPlace f_openCount f_draftOpen f_symbolCount f_stepCount f_bindingCount f_waitingCount (nI q) f_nodeCount f_todoCount a_kinds a_values a_declaredSize a_declaredNodes a_draftSize a_draftNodes a_symbols a_symbolPlaces a_steps a_stepPlaces a_bindings a_boundType a_waitingTypes a_waitingFirm a_shape a_left a_right a_link a_note a_todo a_todoOther a_generalNode :=
  br_c (fun _ => h) (fun _ => br_t (nI_pos' (by omega)) h)
end
section
variable {f_tokenCount f_accepted f_lastPlace f_openCount f_draftOpen f_symbolCount f_stepCount f_bindingCount f_waitingCount f_clashPlace f_nodeCount f_todoCount : Int32} {a_kinds a_values a_declaredSize a_declaredNodes a_draftSize a_draftNodes a_symbols a_symbolPlaces a_steps a_stepPlaces a_bindings a_boundType a_waitingTypes a_waitingFirm a_shape a_left a_right a_link a_note a_todo a_todoOther a_generalNode : Nat → Int32}
theorem xw_tf {post : Int32 → SX → Prop} {oc c : Nat} {N mq Kt : Nat → Nat} {dc : Nat → List Nat} {sp0 : pm_L} {Fin : List (Nat × Bool) → List Bool → Prop} (hT : tk_T a_kinds a_values c Kt N) (hD : xd_D oc dc a_declaredSize a_declaredNodes) (hsp : xs_S a_steps a_stepPlaces sp0) (hl60 : sp0.length ≤ 60) (hoc : oc ≤ 144) :
    ∀ (sp2 pre : pm_L) (nl n K : Nat) (kd pa pb : Nat → Nat) (stk env : List Nat) (bs : List (Nat × Bool)) (fl : List Bool) (V : dv_W) (x : Nat × Nat × Nat) (tc : Int32) (bd bt wt wf sh lf rt lk note td tdo gn : Nat → Int32), sp0 = pre ++ sp2 → gd_ok Kt N mq (Dc_U dc) c Fin sp2 bs fl V x → gn_N Kt N mq dc sp2 bs fl none → xd_I oc nl n K kd pa pb stk env bs fl V x c Kt sh lf rt lk bd bt wt wf → stk.length ≤ pre.length →
    (∀ nl' n' K' kd' pa' pb' stk' env' x' tc bd bt wt wf sh lf rt lk note td tdo gn, gc_C Kt N mq (Dc_U dc) sp2 bs fl V none → Fin (gd_E Kt N mq (Dc_U dc) sp2 bs fl V).1 (gd_E Kt N mq (Dc_U dc) sp2 bs fl V).2.1 → x'.1 ≤ 1503 ∨ x' = x → xd_I oc nl' n' K' kd' pa' pb' stk' env' (gd_E Kt N mq (Dc_U dc) sp2 bs fl V).1 (gd_E Kt N mq (Dc_U dc) sp2 bs fl V).2.1 (gd_E Kt N mq (Dc_U dc) sp2 bs fl V).2.2 x' c Kt sh lf rt lk bd bt wt wf → post (-1) (nI c, f_accepted, f_lastPlace, nI oc, f_draftOpen, f_symbolCount, nI sp0.length, nI (gd_E Kt N mq (Dc_U dc) sp2 bs fl V).1.length, nI stk'.length, -1, nI n', tc, a_kinds, a_values, a_declaredSize, a_declaredNodes, a_draftSize, a_draftNodes, a_symbols, a_symbolPlaces, a_steps, a_stepPlaces, bd, bt, wt, wf, sh, lf, rt, lk, note, td, tdo, gn)) →
    (∀ q bc wc nc tc bd bt wt wf sh lf rt lk note td tdo gn, gc_C Kt N mq (Dc_U dc) sp2 bs fl V (some q) → q < 24 → post (nI q) (nI c, f_accepted, f_lastPlace, nI oc, f_draftOpen, f_symbolCount, nI sp0.length, bc, wc, nI q, nc, tc, a_kinds, a_values, a_declaredSize, a_declaredNodes, a_draftSize, a_draftNodes, a_symbols, a_symbolPlaces, a_steps, a_stepPlaces, bd, bt, wt, wf, sh, lf, rt, lk, note, td, tdo, gn)) →
    wX_typeFault_23 post (sp2.length + 1) (nI pre.length) (nI c) f_accepted f_lastPlace (nI oc) f_draftOpen f_symbolCount (nI sp0.length) (nI bs.length) (nI stk.length) (-1) (nI n) tc a_kinds a_values a_declaredSize a_declaredNodes a_draftSize a_draftNodes a_symbols a_symbolPlaces a_steps a_stepPlaces bd bt wt wf sh lf rt lk note td tdo gn := by
  intro sp2
  have c24 := hT.1
  induction sp2 with
  | nil =>
    intro pre nl n K kd pa pb stk env bs fl V x tc bd bt wt wf sh lf rt lk note td tdo gn e g gn0 I hst hok hbad
    rw [List.append_nil] at e
    subst e
    exact br_t (nI_le (by omega) (by omega)) (hok nl n K kd pa pb stk env x tc bd bt wt wf sh lf rt lk note td tdo gn rfl g (Or.inr rfl) I)
  | cons y sp2 ih =>
    obtain ⟨s, p⟩ := y
    intro pre nl n K kd pa pb stk env bs fl V x tc bd bt wt wf sh lf rt lk note td tdo gn e g gn0 I hst hok hbad
    obtain ⟨pr, cst, g⟩ := g
    have pr0 := pr
    have ln : pre.length < sp0.length := by rw [e, List.length_append, List.length_cons]; omega
    have hi : sp0[pre.length]? = some (s, p) := by rw [e, List.getElem?_append_right (Nat.le_refl _), Nat.sub_self]; rfl
    obtain ⟨es, ep⟩ := hsp _ s p hi
    have e2 : sp0 = (pre ++ [(s, p)]) ++ sp2 := by rw [e, List.append_assoc]; rfl
    have l2 : (pre ++ [(s, p)]).length = pre.length + 1 := by rw [List.length_append]; rfl
    obtain ⟨It, hP, hB, hS, hN, h1, h2, hfl, hn, hnl, hocn⟩ := I
    obtain ⟨pc, hlen, s80, s90, q80, q82, q83, q84, q85, q86, q87, q88, q89, q90⟩ := pr
    have vi : vp_in (nI pre.length) 64 := vp_in_nI (by omega) (by decide)
    have ci : (nI pre.length).toNatClampNeg = pre.length := nI_clamp (by omega)
    have n4 : n ≤ 1700 := by
      have : x.1 ≤ (cr_1 Kt mq x s p).1 := Nat.le_add_right _ _
      omega
    -- no unbound name here
    have gn1 : ¬ (s = 80 ∧ Kt p = 3 ∧ bx_ix N bs (N p) = none ∧ dc (N p) = []) := by
      intro z
      unfold gn_N at gn0
      rw [if_pos z] at gn0
      cases gn0
    have gn2 : gn_N Kt N mq dc sp2 (dd_bs mq bs fl s p) (dd_fl Kt fl s p) none := by
      unfold gn_N at gn0
      rw [if_neg gn1] at gn0
      exact gn0
    -- on with the next step
    have go : ∀ nl' n' K' kd' pa' pb' stk' env' tc bd bt wt wf sh lf rt lk note td tdo gn, xd_I oc nl' n' K' kd' pa' pb' stk' env' (dd_bs mq bs fl s p) (dd_fl Kt fl s p) (dd_V Kt N mq (Dc_U dc) bs V s p) (cr_1 Kt mq x s p) c Kt sh lf rt lk bd bt wt wf → stk'.length ≤ pre.length + 1 → wX_typeFault_23 post (sp2.length + 1) (nI (pre.length + 1)) (nI c) f_accepted f_lastPlace (nI oc) f_draftOpen f_symbolCount (nI sp0.length) (nI (dd_bs mq bs fl s p).length) (nI stk'.length) (-1) (nI n') tc a_kinds a_values a_declaredSize a_declaredNodes a_draftSize a_draftNodes a_symbols a_symbolPlaces a_steps a_stepPlaces bd bt wt wf sh lf rt lk note td tdo gn := by
      intro nl' n' K' kd' pa' pb' stk' env' tc bd bt wt wf sh lf rt lk note td tdo gn I' hst'
      have some := rp_some I'.1.1
      rw [← l2]
      refine ih (pre ++ [(s, p)]) nl' n' K' kd' pa' pb' stk' env' _ _ _ _ tc bd bt wt wf sh lf rt lk note td tdo gn e2 g gn2 I' (by rw [l2]; exact hst') (fun nl'' n'' K'' kd'' pa'' pb'' stk'' env'' x'' tc bd bt wt wf sh lf rt lk note td tdo gn gc fin hx I'' => ?_) (fun q bc wc nc tc bd bt wt wf sh lf rt lk note td tdo gn gc hq => ?_)
      · refine hok nl'' n'' K'' kd'' pa'' pb'' stk'' env'' x'' tc bd bt wt wf sh lf rt lk note td tdo gn (Or.inl ⟨some, gc⟩) fin ?_ I''
        rcases hx with z | z
        · exact Or.inl z
        · rw [z]; exact Or.inl cst
      · exact hbad q bc wc nc tc bd bt wt wf sh lf rt lk note td tdo gn (Or.inl ⟨some, gc⟩) hq
    -- no world is left
    have stop : ∀ bc wc nc tc bd bt wt wf sh lf rt lk note td tdo gn, (∀ ν st E, ¬ dd_V Kt N mq (Dc_U dc) bs V s p ν st E) → (if s = 88 then p + mq p + 1 else p) < 24 → wX_typeFault_23 post (sp2.length + 1) (nI (pre.length + 1)) (nI c) f_accepted f_lastPlace (nI oc) f_draftOpen f_symbolCount (nI sp0.length) bc wc (nI (if s = 88 then p + mq p + 1 else p)) nc tc a_kinds a_values a_declaredSize a_declaredNodes a_draftSize a_draftNodes a_symbols a_symbolPlaces a_steps a_stepPlaces bd bt wt wf sh lf rt lk note td tdo gn := by
      intro bc wc nc tc bd bt wt wf sh lf rt lk note td tdo gn no hq
      exact xw_tfbad (by omega) (hbad _ bc wc nc tc bd bt wt wf sh lf rt lk note td tdo gn (Or.inr ⟨no, rfl⟩) hq)
    have stop' : ∀ bc wc nc tc bd bt wt wf sh lf rt lk note td tdo gn, s ≠ 88 → (∀ ν st E, ¬ dd_V Kt N mq (Dc_U dc) bs V s p ν st E) → wX_typeFault_23 post (sp2.length + 1) (nI (pre.length + 1)) (nI c) f_accepted f_lastPlace (nI oc) f_draftOpen f_symbolCount (nI sp0.length) bc wc (nI p) nc tc a_kinds a_values a_declaredSize a_declaredNodes a_draftSize a_draftNodes a_symbols a_symbolPlaces a_steps a_stepPlaces bd bt wt wf sh lf rt lk note td tdo gn := by
      intro bc wc nc tc bd bt wt wf sh lf rt lk note td tdo gn ns no
      have z := stop bc wc nc tc bd bt wt wf sh lf rt lk note td tdo gn no (by rw [if_neg ns]; omega)
      rw [if_neg ns] at z
      exact z
    have nmN : ∀ q, q < c → Kt q = 3 → q < c ∧ Kt q = 3 := fun q a b => ⟨a, b⟩
    refine br_f (nI_ge ln (by omega)) (br_f (by decide) ⟨vi, ?_⟩)
    rw [ci, ep]
    refine nm_e ⟨vi, ?_⟩
    rw [es]
    refine xw_bau (V := V) (fl := fl) hT pr0 hS hP (fun bd' hS' hP' => ⟨vi, ?_⟩)
    rw [es]
    refine nm_e ?_
    have nlK : nl ≤ oc + Nat.max (cr_1 Kt mq x s p).2.1 (cr_1 Kt mq x s p).2.2 := Nat.le_trans hnl (Nat.add_le_add_left (Nat.le_max_left _ _) _)
    have c1 : (cr_1 Kt mq x s p).1 = x.1 + cr_c Kt mq (Nat.max x.2.1 x.2.2) s p := rfl
    have hs : s = 80 ∨ s = 81 ∨ s = 82 ∨ s = 83 ∨ s = 84 ∨ s = 85 ∨ s = 86 ∨ s = 87 ∨ s = 88 ∨ s = 89 ∨ s = 90 := by omega
    rcases hs with rfl | rfl | rfl | rfl | rfl | rfl | rfl | rfl | rfl | rfl | rfl
    · have c2 : cr_c Kt mq (Nat.max x.2.1 x.2.2) 80 p = if Kt p = 3 then Nat.max x.2.1 x.2.2 + 12 else 5 := rfl
      refine br_f (by decide) (br_f (by decide) (br_t rfl ?_))
      have bl := bs_len bs c hS (fun b hb => (hN b hb).1)
      refine xw_atom (f_waitingCount := 0) (f_clashPlace := 0) (f_nodeCount := 0) (N := N) (dc := dc) (bs := bs) It (by omega) (fun k3 => ?_) hT hD pc (q80 rfl) hS hP' hB hN (Nat.le_trans bl c24) h1 h2 hfl (by omega) hocn (fun k3 no ne => gn1 ⟨rfl, k3, no, ne⟩) ?_
      · rw [if_pos k3] at c2
        omega
      · intro n' K' kd' pa' pb' t sh lf rt lk note td tdo wt wf tc gn hn' It' h1' h2'
        refine nm_r (nI_1 _) (go _ _ _ _ _ _ _ _ _ _ _ _ _ _ _ _ _ _ _ _ _ ⟨It', hP', hB, hS', hN, h1', h2', by rw [eF_80, List.length_cons, List.length_cons, hfl], ?_, nlK, xt_oc It'.1⟩ (by rw [List.length_cons]; omega))
        by_cases k3 : Kt p = 3
        · rw [if_pos k3] at c2 hn'
          omega
        · rw [if_neg k3] at c2 hn'
          omega
    · have c2 : cr_c Kt mq (Nat.max x.2.1 x.2.2) 81 p = 1 := rfl
      refine br_f (by decide) (br_f (by decide) (br_f (by decide) (br_t rfl ?_)))
      refine xw_unit (f_waitingCount := 0) (f_clashPlace := 0) (f_nodeCount := 0) It (by omega) h1 h2 hfl (by omega) ?_
      intro n' K' kd' pa' pb' t sh lf rt lk note td tdo wt wf tc gn hn' It' h1' h2'
      exact nm_r (nI_1 _) (go _ _ _ _ _ _ _ _ _ _ _ _ _ _ _ _ _ _ _ _ _ ⟨It', hP', hB, hS', hN, h1', h2', by rw [eF_81, List.length_cons, List.length_cons, hfl], by omega, nlK, (xt_oc It'.1)⟩ (by rw [List.length_cons]; omega))
    · have c2 : cr_c Kt mq (Nat.max x.2.1 x.2.2) 82 p = 3 := rfl
      refine br_f (by decide) (br_f (by decide) (br_f (by decide) (br_f (by decide) (br_t rfl ?_))))
      obtain ⟨a, f, stk1, e3⟩ := ls_2 (l := stk) (by have := q82 rfl; omega)
      subst e3
      obtain ⟨b1, b2, fl1, e4⟩ := ls_2 (l := fl) (q82 rfl)
      subst e4
      rw [List.length_cons, List.length_cons] at hst hfl
      have hf1 : fl1.length = stk1.length := by simpa using hfl
      rw [List.length_cons, List.length_cons, hf1] at hlen
      refine xw_apply (f_waitingCount := 0) (f_clashPlace := 0) (f_nodeCount := 0) It (by omega) hlen h1 h2.2.2 hf1 (by omega) ?_ ?_
      · intro n' K' kd' pa' pb' t sh lf rt lk note td tdo wt wf tc gn hn' It' h1' h2'
        exact nm_r (nI_1 _) (go _ _ _ _ _ _ _ _ _ _ _ _ _ _ _ _ _ _ _ _ _ ⟨It', hP', hB, hS', hN, h1', h2', by rw [eF_82]; simp [hf1], by omega, nlK, (xt_oc It'.1)⟩ (by rw [List.length_cons]; omega))
      · exact (fun no n' sh lf rt lk note td tdo wt wf tc wc gn bt hn' C' => nm_r (nI_1 _) (stop' _ _ _ _ _ _ _ _ _ _ _ _ _ _ _ _ (by decide) no))
    · have c2 : cr_c Kt mq (Nat.max x.2.1 x.2.2) 83 p = 3 := rfl
      refine br_f (by decide) (br_f (by decide) (br_f (by decide) (br_f (by decide) (br_f (by decide) (br_t rfl ?_)))))
      obtain ⟨qa, qk⟩ := q83 rfl
      obtain ⟨a, f, stk1, e3⟩ := ls_2 (l := stk) (by omega)
      subst e3
      obtain ⟨b1, b2, fl1, e4⟩ := ls_2 (l := fl) qa
      subst e4
      rw [List.length_cons, List.length_cons] at hst hfl
      have hf1 : fl1.length = stk1.length := by simpa using hfl
      rw [List.length_cons, List.length_cons, hf1] at hlen
      refine xw_operator (f_waitingCount := 0) (f_clashPlace := 0) (f_nodeCount := 0) (kp := Kt p) It (by omega) hlen h1 h2 hf1 (by omega) (by omega) (hT.2.2 p pc).1 qk ?_ ?_
      · intro n' K' kd' pa' pb' t sh lf rt lk note td tdo wt wf tc gn hn' It' h1' h2'
        exact nm_r (nI_1 _) (go _ _ _ _ _ _ _ _ _ _ _ _ _ _ _ _ _ _ _ _ _ ⟨It', hP', hB, hS', hN, h1', h2', by rw [eF_83]; simp [hf1], by omega, nlK, (xt_oc It'.1)⟩ (by rw [List.length_cons]; omega))
      · exact (fun no n' sh lf rt lk note td tdo wt wf tc wc gn bt hn' C' => nm_r (nI_1 _) (stop' _ _ _ _ _ _ _ _ _ _ _ _ _ _ _ _ (by decide) no))
    · have c2 : cr_c Kt mq (Nat.max x.2.1 x.2.2) 84 p = 2 := rfl
      refine br_f (by decide) (br_f (by decide) (br_f (by decide) (br_f (by decide) (br_f (by decide) (br_f (by decide) (br_t rfl ?_))))))
      obtain ⟨a, f, d, stk1, e3⟩ := ls_3 (l := stk) (by have := q84 rfl; omega)
      subst e3
      obtain ⟨b1, b2, b3, fl1, e4⟩ := ls_3 (l := fl) (q84 rfl)
      subst e4
      rw [List.length_cons, List.length_cons, List.length_cons] at hst hfl
      have hf1 : fl1.length = stk1.length := by simpa using hfl
      rw [List.length_cons, List.length_cons, List.length_cons, hf1] at hlen
      refine xw_if (f_waitingCount := 0) (f_clashPlace := 0) (f_nodeCount := 0) It (by omega) hlen h1 h2.2.2.2 hf1 (by omega) (by omega) ?_ ?_
      · intro n' K' kd' pa' pb' t sh lf rt lk note td tdo wt wf tc gn hn' It' h1' h2'
        exact nm_r (nI_1 _) (go _ _ _ _ _ _ _ _ _ _ _ _ _ _ _ _ _ _ _ _ _ ⟨It', hP', hB, hS', hN, h1', h2', by rw [eF_84]; simp [hf1], by omega, nlK, (xt_oc It'.1)⟩ (by rw [List.length_cons]; omega))
      · exact (fun no n' sh lf rt lk note td tdo wt wf tc wc gn bt hn' C' => nm_r (nI_1 _) (stop' _ _ _ _ _ _ _ _ _ _ _ _ _ _ _ _ (by decide) no))
    · have c2 : cr_c Kt mq (Nat.max x.2.1 x.2.2) 85 p = 1 := rfl
      obtain ⟨a1, a2, a3⟩ := q85 rfl
      obtain ⟨J, hG, hL, hK⟩ := It
      obtain ⟨L1, K1⟩ := xt_L (k := 7) (a := 0) (b := 0) J.1 hL hK (by omega)
      have J1 := rp_lam (a := 0) (b := 0) (p + 1) (rp_cg dv_lams_0 J)
      refine br_f (by decide) (br_f (by decide) (br_f (by decide) (br_f (by decide) (br_f (by decide) (br_f (by decide) (br_f (by decide) (br_t rfl ?_)))))))
      refine xw_new (by omega) ?_
      rw [nI_1]
      refine ⟨vp_in_nI (by omega) (by decide), ?_⟩
      rw [nI_clamp (by omega)]
      refine nm_e (nm_r (nI_1 _) (go _ _ _ _ _ _ _ _ _ _ _ _ _ _ _ _ _ _ _ _ _ ⟨⟨J1, xg_new (k := 7) hG (by omega), L1, K1⟩, hP', ⟨by show upd bt (p + 1) (nI n) (p + 1) = _; rw [pk_us], xb_Tu bs env (fun y hy => by have := a3 y hy; omega) hB⟩, hS', fun b hb => ?_, h1, h2, hfl, by omega, nlK, by omega⟩ (by omega)))
      rcases List.mem_cons.mp hb with z | z
      · rw [z]; exact ⟨a1, a2⟩
      · exact hN b z
    · have c2 : cr_c Kt mq (Nat.max x.2.1 x.2.2) 86 p = 1 := rfl
      obtain ⟨a1, a2, bs0, a3⟩ := q86 rfl
      subst a3
      obtain ⟨b, stk1, e3⟩ := ls_1 (l := stk) (by omega)
      subst e3
      obtain ⟨b1, fl1, e4⟩ := ls_1 (l := fl) a1
      subst e4
      have hf1 : fl1.length = stk1.length := by simpa using hfl
      rw [List.length_cons] at hst
      rw [List.length_cons, hf1] at hlen
      refine br_f (by decide) (br_f (by decide) (br_f (by decide) (br_f (by decide) (br_f (by decide) (br_f (by decide) (br_f (by decide) (br_f (by decide) (br_t rfl ?_))))))))
      cases env with
      | nil => exact hB.elim
      | cons xe env0 =>
        refine xw_fn (f_waitingCount := 0) (f_clashPlace := 0) (f_nodeCount := 0) It hlen (by omega) (by omega) hB.1 h1 h2.2 hf1 (by omega) ?_
        intro n' K' kd' pa' pb' t sh lf rt lk note td tdo wt wf tc gn hn' It' h1' h2'
        exact nm_r (nI_1 _) (go _ _ _ _ _ _ _ _ _ _ _ _ _ _ _ _ _ _ _ _ _ ⟨It', hP', hB.2, hS', fun b hb => hN b (List.mem_cons_of_mem _ hb), h1', h2', by rw [eF_86]; simp [hf1], by omega, nlK, xt_oc It'.1⟩ (by rw [List.length_cons]; omega))
    · have c2 : cr_c Kt mq (Nat.max x.2.1 x.2.2) 87 p = mq p := rfl
      obtain ⟨a1, a2, a3⟩ := q87 rfl
      refine br_f (by decide) (br_f (by decide) (br_f (by decide) (br_f (by decide) (br_f (by decide) (br_f (by decide) (br_f (by decide) (br_f (by decide) (br_f (by decide) (br_t rfl ?_)))))))))
      refine xw_bfun (mq := mq) hT a1 a2 rfl a3 It (by omega) hB (fun kd' pa' pb' env' sh lf rt lk note bt It' hB' => ?_)
      refine nm_r (nI_1 _) (go _ _ _ _ _ _ _ _ _ _ _ _ _ _ _ _ _ _ _ _ _ ⟨It', hP', hB', hS', fun b hb => ?_, h1, h2, hfl, by omega, nlK, xt_oc It'.1⟩ (by omega))
      rcases List.mem_append.mp hb with z | z
      · have := pd_ns_lt p (mq p) b z
        exact ⟨by omega, a1.2.2.1 b.1 (by omega) (by omega)⟩
      · exact hN b z
    · have c2 : cr_c Kt mq (Nat.max x.2.1 x.2.2) 88 p = mq p := rfl
      obtain ⟨a1, a2, a3, bs0, a4, a5, a6⟩ := q88 rfl
      obtain ⟨m, em⟩ : ∃ m, mq p = m + 1 := ⟨mq p - 1, by have := a1.1; omega⟩
      have ed : dd_bs mq bs fl 88 p = (p + 1, true) :: bs0 := by
        rw [eB_88, a4, List.drop_left' (pd_ns_len p (mq p))]
      have evm : dd_V Kt N mq (Dc_U dc) bs V 88 p = dv_bind (dv_fun m V) := by
        rw [eV_88, em]; rfl
      rw [em] at a4
      subst a4
      obtain ⟨e1, e2', q1, q2, hB1, hB2⟩ := xb_Tapp _ _ _ hB
      subst q1
      obtain ⟨b, stk1, e3⟩ := ls_1 (l := stk) (by omega)
      subst e3
      obtain ⟨b1, fl1, e4⟩ := ls_1 (l := fl) a3
      subst e4
      have hf1 : fl1.length = stk1.length := by simpa using hfl
      rw [List.length_cons] at hst
      rw [List.length_cons, hf1, List.length_append, pd_ns_len] at hlen
      have hlen' : dv_len (stk1.length + 1) (bs0.length + m + 1) V := by
        have z : m + 1 + bs0.length = bs0.length + m + 1 := by omega
        rw [z] at hlen; exact hlen
      have hC' : dv_CI stk1.length bs0.length V := by
        rw [List.length_cons, Nat.add_sub_cancel, hf1] at a5; exact a5
      have hS0 := bs_app _ _ hS
      have cq : (cr_1 Kt mq x 88 p).2.2 = x.1 + cr_c Kt mq (Nat.max x.2.1 x.2.2) 88 p := rfl
      rw [ed] at hP' hS' ⊢
      rw [List.length_cons]
      refine br_f (by decide) (br_f (by decide) (br_f (by decide) (br_f (by decide) (br_f (by decide) (br_f (by decide) (br_f (by decide) (br_f (by decide) (br_f (by decide) (br_f (by decide) (br_t rfl ?_))))))))))
      refine xw_cfun (f_waitingCount := 0) (f_clashPlace := 0) (f_nodeCount := 0) hT a1 a2 em It hlen' hC' a6 hS0 hP'.2.2 hB1 hB2 h1 (by omega) (by omega) hocn (fun n' K' kd' pa' pb' t sh lf rt lk note td tdo tc hn' It' hB' => ?_) ?_
      · have g2 := go n' n' K' kd' pa' pb' stk1 (t :: e2') tc bd' bt wt wf sh lf rt lk note td tdo gn
        rw [ed, evm] at g2
        refine nm_r (nI_1 _) (g2 ⟨It', hP', hB', hS', fun b hb => ?_, h1.2, by rw [eF_88]; exact h2.2, by rw [eF_88]; exact hf1, by omega, ?_, xt_oc It'.1⟩ (by omega))
        · rcases List.mem_cons.mp hb with z | z
          · rw [z]
            exact ⟨by show p + 1 < c; omega, a1.2.2.1 (p + 1) (by omega) (by omega)⟩
          · exact hN b (List.mem_append_right _ z)
        · refine Nat.le_trans ?_ (Nat.add_le_add_left (Nat.le_max_right _ _) _)
          rw [cq]; omega
      · intro no n' sh lf rt lk note td tdo wt wf tc wc gn bt hn' C'
        have z := stop (nI (bs0.length + 1)) wc (nI n') tc bd' bt wt wf sh lf rt lk note td tdo gn (by rw [evm]; exact no) (by rw [if_pos rfl]; omega)
        rw [if_pos rfl, show p + mq p + 1 = p + m + 2 by omega] at z
        exact nm_r (nI_1 _) z
    · have c2 : cr_c Kt mq (Nat.max x.2.1 x.2.2) 89 p = 0 := rfl
      obtain ⟨a1, a2, a3, a4, a5⟩ := q89 rfl
      obtain ⟨b, stk1, e3⟩ := ls_1 (l := stk) (by omega)
      subst e3
      obtain ⟨b1, fl1, e4⟩ := ls_1 (l := fl) a3
      subst e4
      have hf1 : fl1.length = stk1.length := by simpa using hfl
      rw [List.length_cons] at hst
      rw [List.length_cons, hf1] at hlen
      have hC' : dv_CI stk1.length bs.length V := by
        rw [List.length_cons, Nat.add_sub_cancel, hf1] at a4; exact a4
      have cq : (cr_1 Kt mq x 89 p).2.2 = x.1 + cr_c Kt mq (Nat.max x.2.1 x.2.2) 89 p := rfl
      refine br_f (by decide) (br_f (by decide) (br_f (by decide) (br_f (by decide) (br_f (by decide) (br_f (by decide) (br_f (by decide) (br_f (by decide) (br_f (by decide) (br_f (by decide) (br_f (by decide) (br_t rfl ?_)))))))))))
      refine xw_val It (by omega) (dv_CI_top hlen hC') (by omega) a5 hS hP'.2.2 hB h1 h2 hf1 (by omega) (fun kd' sh note td tc bt nl' hnl' It' hB' => ?_)
      refine nm_r (nI_1 _) (go _ _ _ _ _ _ _ _ _ _ _ _ _ _ _ _ _ _ _ _ _ ⟨It', hP', hB', hS', fun b hb => ?_, h1.2, h2.2, hf1, by omega, ?_, xt_oc It'.1⟩ (by omega))
      · rcases List.mem_cons.mp hb with z | z
        · rw [z]; exact ⟨a1, a2⟩
        · exact hN b z
      · rcases hnl' with z | z
        · rw [z]; exact nlK
        · refine Nat.le_trans ?_ (Nat.add_le_add_left (Nat.le_max_right _ _) _)
          rw [cq]; omega
    · have c2 : cr_c Kt mq (Nat.max x.2.1 x.2.2) 90 p = 0 := rfl
      obtain ⟨a1, a2⟩ := q90 rfl
      obtain ⟨t, stk1, e3⟩ := ls_1 (l := stk) (by omega)
      subst e3
      obtain ⟨b1, fl1, e4⟩ := ls_1 (l := fl) a1
      subst e4
      have hf1 : fl1.length = stk1.length := by simpa using hfl
      rw [List.length_cons] at hst
      cases bs with
      | nil => exact (a2 rfl).elim
      | cons b0 bs0 =>
        cases env with
        | nil => exact hB.elim
        | cons xe env0 =>
          refine br_f (by decide) (br_t (by decide) ?_)
          refine xw_setFirm (by omega) ?_
          obtain ⟨J, hG, hL, hK⟩ := It
          exact nm_r (nI_1 _) (go _ _ _ _ _ _ _ _ _ _ _ _ _ _ _ _ _ _ _ _ _ ⟨⟨rp_unbind J, hG, hL, hK⟩, hP', hB.2, hS', fun b hb => hN b (List.mem_cons_of_mem _ hb), h1, by rw [← hf1]; exact st_bp (b := false) h2.2, by rw [eF_90]; simp [hf1], by omega, nlK, hocn⟩ (by rw [List.length_cons]; omega))
end
