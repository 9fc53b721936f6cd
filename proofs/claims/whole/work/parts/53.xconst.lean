/-! the component's types of constants -/
theorem cs_22 (τ : tr_T) : cs_T 22 τ ↔ ∃ a, τ = tr_con 3 a a := by
  unfold cs_T
  simp
theorem cs_23 (τ : tr_T) : cs_T 23 τ ↔ ∃ a, τ = tr_con 6 a (tr_con 4 a a) := by
  unfold cs_T
  simp
theorem cs_24 (τ : tr_T) : cs_T 24 τ ↔ ∃ a, τ = tr_con 6 (tr_con 4 a a) a := by
  unfold cs_T
  simp
theorem cs_26 (τ : tr_T) : cs_T 26 τ ↔ ∃ a, τ = tr_con 6 (tr_con 3 a a) a := by
  unfold cs_T
  simp
theorem cs_27 (τ : tr_T) : cs_T 27 τ ↔ ∃ a, τ = tr_con 6 (tr_con 3 a a) (tr_con 3 a a) := by
  unfold cs_T
  simp
theorem cs_28 (τ : tr_T) : cs_T 28 τ ↔ ∃ a, τ = tr_con 6 (tr_con 3 a a) (tr_at 1) := by
  unfold cs_T
  simp
theorem cs_29 (τ : tr_T) : cs_T 29 τ ↔ ∃ a b, τ = tr_con 6 (tr_con 5 a b) a := by
  unfold cs_T
  simp
theorem cs_30 (τ : tr_T) : cs_T 30 τ ↔ ∃ a b, τ = tr_con 6 (tr_con 5 a b) b := by
  unfold cs_T
  simp
theorem cs_0 (τ : tr_T) : cs_T 0 τ ↔ τ = tr_at 0 := by
  unfold cs_T
  simp
theorem cs_1 (τ : tr_T) : cs_T 1 τ ↔ τ = tr_at 1 := by
  unfold cs_T
  simp
theorem cs_2 (τ : tr_T) : cs_T 2 τ ↔ τ = tr_at 1 := by
  unfold cs_T
  simp
section
variable {V : dv_W}
theorem xe_c0 (ν st' E : List tr_T) : (∃ st, (∃ s1, st = tr_at 0 :: s1 ∧ V ν s1 E) ∧ ls_g 0 st :: st.drop 1 = st') ↔ dv_psh (fun _ _ τ => cs_T 0 τ) V ν st' E := by
  constructor
  · intro ⟨st, ⟨s1, e1, v⟩, e⟩
    subst e1 e
    exact ⟨_, _, rfl, v, (cs_0 _).mpr rfl⟩
  · intro ⟨τ, s0, e, v, c⟩
    have c := (cs_0 τ).mp c
    subst c
    exact ⟨_, ⟨_, rfl, v⟩, e.symm⟩
theorem xe_c1 (ν st' E : List tr_T) : (∃ st, (∃ s1, st = tr_at 1 :: s1 ∧ V ν s1 E) ∧ ls_g 0 st :: st.drop 1 = st') ↔ dv_psh (fun _ _ τ => cs_T 1 τ) V ν st' E := by
  constructor
  · intro ⟨st, ⟨s1, e1, v⟩, e⟩
    subst e1 e
    exact ⟨_, _, rfl, v, (cs_1 _).mpr rfl⟩
  · intro ⟨τ, s0, e, v, c⟩
    have c := (cs_1 τ).mp c
    subst c
    exact ⟨_, ⟨_, rfl, v⟩, e.symm⟩
theorem xe_c2 (ν st' E : List tr_T) : (∃ st, (∃ s1, st = tr_at 1 :: s1 ∧ V ν s1 E) ∧ ls_g 0 st :: st.drop 1 = st') ↔ dv_psh (fun _ _ τ => cs_T 2 τ) V ν st' E := by
  constructor
  · intro ⟨st, ⟨s1, e1, v⟩, e⟩
    subst e1 e
    exact ⟨_, _, rfl, v, (cs_2 _).mpr rfl⟩
  · intro ⟨τ, s0, e, v, c⟩
    have c := (cs_2 τ).mp c
    subst c
    exact ⟨_, ⟨_, rfl, v⟩, e.symm⟩
theorem xe_c22 (ν st' E : List tr_T) : (∃ st, (∃ s2, st = tr_con 3 (ls_g 0 s2) (ls_g 0 s2) :: s2 ∧ (∃ τ1 s1, s2 = τ1 :: s1 ∧ V ν s1 E)) ∧ ls_g 0 st :: st.drop 2 = st') ↔ dv_psh (fun _ _ τ => cs_T 22 τ) V ν st' E := by
  constructor
  · intro ⟨st, ⟨s2, e2, ⟨t1, s1, e1, v⟩⟩, e⟩
    subst e1 e2 e
    exact ⟨_, _, rfl, v, (cs_22 _).mpr ⟨_, rfl⟩⟩
  · intro ⟨τ, s0, e, v, c⟩
    obtain ⟨a, c⟩ := (cs_22 τ).mp c
    subst c
    exact ⟨_, ⟨_, rfl, ⟨a, _, rfl, v⟩⟩, e.symm⟩
theorem xe_c23 (ν st' E : List tr_T) : (∃ st, (∃ s3, st = tr_con 6 (ls_g 1 s3) (ls_g 0 s3) :: s3 ∧ (∃ s2, s3 = tr_con 4 (ls_g 0 s2) (ls_g 0 s2) :: s2 ∧ (∃ τ1 s1, s2 = τ1 :: s1 ∧ V ν s1 E))) ∧ ls_g 0 st :: st.drop 3 = st') ↔ dv_psh (fun _ _ τ => cs_T 23 τ) V ν st' E := by
  constructor
  · intro ⟨st, ⟨s3, e3, ⟨s2, e2, ⟨t1, s1, e1, v⟩⟩⟩, e⟩
    subst e1 e2 e3 e
    exact ⟨_, _, rfl, v, (cs_23 _).mpr ⟨_, rfl⟩⟩
  · intro ⟨τ, s0, e, v, c⟩
    obtain ⟨a, c⟩ := (cs_23 τ).mp c
    subst c
    exact ⟨_, ⟨_, rfl, ⟨_, rfl, ⟨a, _, rfl, v⟩⟩⟩, e.symm⟩
theorem xe_c24 (ν st' E : List tr_T) : (∃ st, (∃ s3, st = tr_con 6 (ls_g 0 s3) (ls_g 1 s3) :: s3 ∧ (∃ s2, s3 = tr_con 4 (ls_g 0 s2) (ls_g 0 s2) :: s2 ∧ (∃ τ1 s1, s2 = τ1 :: s1 ∧ V ν s1 E))) ∧ ls_g 0 st :: st.drop 3 = st') ↔ dv_psh (fun _ _ τ => cs_T 24 τ) V ν st' E := by
  constructor
  · intro ⟨st, ⟨s3, e3, ⟨s2, e2, ⟨t1, s1, e1, v⟩⟩⟩, e⟩
    subst e1 e2 e3 e
    exact ⟨_, _, rfl, v, (cs_24 _).mpr ⟨_, rfl⟩⟩
  · intro ⟨τ, s0, e, v, c⟩
    obtain ⟨a, c⟩ := (cs_24 τ).mp c
    subst c
    exact ⟨_, ⟨_, rfl, ⟨_, rfl, ⟨a, _, rfl, v⟩⟩⟩, e.symm⟩
theorem xe_c26 (ν st' E : List tr_T) : (∃ st, (∃ s3, st = tr_con 6 (ls_g 0 s3) (ls_g 1 s3) :: s3 ∧ (∃ s2, s3 = tr_con 3 (ls_g 0 s2) (ls_g 0 s2) :: s2 ∧ (∃ τ1 s1, s2 = τ1 :: s1 ∧ V ν s1 E))) ∧ ls_g 0 st :: st.drop 3 = st') ↔ dv_psh (fun _ _ τ => cs_T 26 τ) V ν st' E := by
  constructor
  · intro ⟨st, ⟨s3, e3, ⟨s2, e2, ⟨t1, s1, e1, v⟩⟩⟩, e⟩
    subst e1 e2 e3 e
    exact ⟨_, _, rfl, v, (cs_26 _).mpr ⟨_, rfl⟩⟩
  · intro ⟨τ, s0, e, v, c⟩
    obtain ⟨a, c⟩ := (cs_26 τ).mp c
    subst c
    exact ⟨_, ⟨_, rfl, ⟨_, rfl, ⟨a, _, rfl, v⟩⟩⟩, e.symm⟩
theorem xe_c27 (ν st' E : List tr_T) : (∃ st, (∃ s3, st = tr_con 6 (ls_g 0 s3) (ls_g 0 s3) :: s3 ∧ (∃ s2, s3 = tr_con 3 (ls_g 0 s2) (ls_g 0 s2) :: s2 ∧ (∃ τ1 s1, s2 = τ1 :: s1 ∧ V ν s1 E))) ∧ ls_g 0 st :: st.drop 3 = st') ↔ dv_psh (fun _ _ τ => cs_T 27 τ) V ν st' E := by
  constructor
  · intro ⟨st, ⟨s3, e3, ⟨s2, e2, ⟨t1, s1, e1, v⟩⟩⟩, e⟩
    subst e1 e2 e3 e
    exact ⟨_, _, rfl, v, (cs_27 _).mpr ⟨_, rfl⟩⟩
  · intro ⟨τ, s0, e, v, c⟩
    obtain ⟨a, c⟩ := (cs_27 τ).mp c
    subst c
    exact ⟨_, ⟨_, rfl, ⟨_, rfl, ⟨a, _, rfl, v⟩⟩⟩, e.symm⟩
theorem xe_c28 (ν st' E : List tr_T) : (∃ st, (∃ s4, st = tr_con 6 (ls_g 1 s4) (ls_g 0 s4) :: s4 ∧ (∃ s3, s4 = tr_at 1 :: s3 ∧ (∃ s2, s3 = tr_con 3 (ls_g 0 s2) (ls_g 0 s2) :: s2 ∧ (∃ τ1 s1, s2 = τ1 :: s1 ∧ V ν s1 E)))) ∧ ls_g 0 st :: st.drop 4 = st') ↔ dv_psh (fun _ _ τ => cs_T 28 τ) V ν st' E := by
  constructor
  · intro ⟨st, ⟨s4, e4, ⟨s3, e3, ⟨s2, e2, ⟨t1, s1, e1, v⟩⟩⟩⟩, e⟩
    subst e1 e2 e3 e4 e
    exact ⟨_, _, rfl, v, (cs_28 _).mpr ⟨_, rfl⟩⟩
  · intro ⟨τ, s0, e, v, c⟩
    obtain ⟨a, c⟩ := (cs_28 τ).mp c
    subst c
    exact ⟨_, ⟨_, rfl, ⟨_, rfl, ⟨_, rfl, ⟨a, _, rfl, v⟩⟩⟩⟩, e.symm⟩
theorem xe_c29 (ν st' E : List tr_T) : (∃ st, (∃ s4, st = tr_con 6 (ls_g 0 s4) (ls_g 2 s4) :: s4 ∧ (∃ s3, s4 = tr_con 5 (ls_g 1 s3) (ls_g 0 s3) :: s3 ∧ (∃ τ2 s2, s3 = τ2 :: s2 ∧ (∃ τ1 s1, s2 = τ1 :: s1 ∧ V ν s1 E)))) ∧ ls_g 0 st :: st.drop 4 = st') ↔ dv_psh (fun _ _ τ => cs_T 29 τ) V ν st' E := by
  constructor
  · intro ⟨st, ⟨s4, e4, ⟨s3, e3, ⟨t2, s2, e2, ⟨t1, s1, e1, v⟩⟩⟩⟩, e⟩
    subst e1 e2 e3 e4 e
    exact ⟨_, _, rfl, v, (cs_29 _).mpr ⟨_, _, rfl⟩⟩
  · intro ⟨τ, s0, e, v, c⟩
    obtain ⟨a, b, c⟩ := (cs_29 τ).mp c
    subst c
    exact ⟨_, ⟨_, rfl, ⟨_, rfl, ⟨b, _, rfl, ⟨a, _, rfl, v⟩⟩⟩⟩, e.symm⟩
theorem xe_c30 (ν st' E : List tr_T) : (∃ st, (∃ s4, st = tr_con 6 (ls_g 0 s4) (ls_g 1 s4) :: s4 ∧ (∃ s3, s4 = tr_con 5 (ls_g 1 s3) (ls_g 0 s3) :: s3 ∧ (∃ τ2 s2, s3 = τ2 :: s2 ∧ (∃ τ1 s1, s2 = τ1 :: s1 ∧ V ν s1 E)))) ∧ ls_g 0 st :: st.drop 4 = st') ↔ dv_psh (fun _ _ τ => cs_T 30 τ) V ν st' E := by
  constructor
  · intro ⟨st, ⟨s4, e4, ⟨s3, e3, ⟨t2, s2, e2, ⟨t1, s1, e1, v⟩⟩⟩⟩, e⟩
    subst e1 e2 e3 e4 e
    exact ⟨_, _, rfl, v, (cs_30 _).mpr ⟨_, _, rfl⟩⟩
  · intro ⟨τ, s0, e, v, c⟩
    obtain ⟨a, b, c⟩ := (cs_30 τ).mp c
    subst c
    exact ⟨_, ⟨_, rfl, ⟨_, rfl, ⟨b, _, rfl, ⟨a, _, rfl, v⟩⟩⟩⟩, e.symm⟩
end
section
variable {f_tokenCount f_accepted f_lastPlace f_openCount f_draftOpen f_symbolCount f_stepCount f_bindingCount f_waitingCount f_clashPlace f_nodeCount f_todoCount : Int32} {a_kinds a_values a_declaredSize a_declaredNodes a_draftSize a_draftNodes a_symbols a_symbolPlaces a_steps a_stepPlaces a_bindings a_boundType a_waitingTypes a_waitingFirm a_shape a_left a_right a_link a_note a_todo a_todoOther a_generalNode : Nat → Int32}
variable {kd pa pb : Nat → Nat} {n K : Nat}
theorem xw_const {post : Int32 → SX → Prop} {oc nl k : Nat} {stk env : List Nat} {bs : List (Nat × Bool)} {V : dv_W} (I : xt_I oc nl n K kd pa pb stk env bs V a_shape a_left a_right a_link) (hn : n + 4 ≤ 4000) (hk : pm_alone k = true) (h3 : k ≠ 3)
    (h : ∀ n' kd' pa' pb' t sh lf rt lk note, n' ≤ n + 4 → xt_I oc nl n' K kd' pa' pb' (t :: stk) env bs (dv_psh (fun _ _ τ => cs_T k τ) V) sh lf rt lk → post (nI t) (f_tokenCount, f_accepted, f_lastPlace, f_openCount, f_draftOpen, f_symbolCount, f_stepCount, f_bindingCount, f_waitingCount, f_clashPlace, nI n', f_todoCount, a_kinds, a_values, a_declaredSize, a_declaredNodes, a_draftSize, a_draftNodes, a_symbols, a_symbolPlaces, a_steps, a_stepPlaces, a_bindings, a_boundType, a_waitingTypes, a_waitingFirm, sh, lf, rt, lk, note, a_todo, a_todoOther, a_generalNode)) : wpX_typeOfConstant post (f_tokenCount, f_accepted, f_lastPlace, f_openCount, f_draftOpen, f_symbolCount, f_stepCount, f_bindingCount, f_waitingCount, f_clashPlace, nI n, f_todoCount, a_kinds, a_values, a_declaredSize, a_declaredNodes, a_draftSize, a_draftNodes, a_symbols, a_symbolPlaces, a_steps, a_stepPlaces, a_bindings, a_boundType, a_waitingTypes, a_waitingFirm, a_shape, a_left, a_right, a_link, a_note, a_todo, a_todoOther, a_generalNode) (nI k) := by
  obtain ⟨J, hG, hL, hK⟩ := I
  have hk' : k = 0 ∨ k = 1 ∨ k = 2 ∨ k = 22 ∨ k = 23 ∨ k = 24 ∨ k = 26 ∨ k = 27 ∨ k = 28 ∨ k = 29 ∨ k = 30 := by
    unfold pm_alone at hk
    simp at hk
    omega
  unfold wpX_typeOfConstant
  rcases hk' with rfl | rfl | rfl | rfl | rfl | rfl | rfl | rfl | rfl | rfl | rfl
  · have J0 := rp_leaf (k := 0) J (a := 0) (b := 0) (by omega) (by omega) (by omega)
    obtain ⟨L0, K0⟩ := xt_L (k := 0) (a := 0) (b := 0) J.1 hL hK (by omega)
    refine br_t rfl ?_
    refine xw_new (by omega) ?_
    refine h (n + 1) _ _ _ (n) _ _ _ _ _ (by omega) ⟨rp_cg xe_c0 (rp_sel J0 (stk' := (n) :: stk) (fun _ st _ => ls_g 0 st :: st.drop 1) (fun x hx => ?_) (fun ρ => rfl)), (xg_new (k := 0) (a := 0) (b := 0) hG (by omega)), L0, K0⟩
    rcases List.mem_cons.mp hx with z | z
    · rw [z]; exact Or.inl List.mem_cons_self
    · exact Or.inl (List.mem_cons_of_mem _ z)
  · have J0 := rp_leaf (k := 1) J (a := 0) (b := 0) (by omega) (by omega) (by omega)
    obtain ⟨L0, K0⟩ := xt_L (k := 1) (a := 0) (b := 0) J.1 hL hK (by omega)
    refine br_f (by decide) ?_
    refine br_t rfl ?_
    refine xw_new (by omega) ?_
    refine h (n + 1) _ _ _ (n) _ _ _ _ _ (by omega) ⟨rp_cg xe_c1 (rp_sel J0 (stk' := (n) :: stk) (fun _ st _ => ls_g 0 st :: st.drop 1) (fun x hx => ?_) (fun ρ => rfl)), (xg_new (k := 1) (a := 0) (b := 0) hG (by omega)), L0, K0⟩
    rcases List.mem_cons.mp hx with z | z
    · rw [z]; exact Or.inl List.mem_cons_self
    · exact Or.inl (List.mem_cons_of_mem _ z)
  · have J0 := rp_leaf (k := 1) J (a := 0) (b := 0) (by omega) (by omega) (by omega)
    obtain ⟨L0, K0⟩ := xt_L (k := 1) (a := 0) (b := 0) J.1 hL hK (by omega)
    refine br_f (by decide) ?_
    refine br_f (by decide) ?_
    refine br_t rfl ?_
    refine xw_new (by omega) ?_
    refine h (n + 1) _ _ _ (n) _ _ _ _ _ (by omega) ⟨rp_cg xe_c2 (rp_sel J0 (stk' := (n) :: stk) (fun _ st _ => ls_g 0 st :: st.drop 1) (fun x hx => ?_) (fun ρ => rfl)), (xg_new (k := 1) (a := 0) (b := 0) hG (by omega)), L0, K0⟩
    rcases List.mem_cons.mp hx with z | z
    · rw [z]; exact Or.inl List.mem_cons_self
    · exact Or.inl (List.mem_cons_of_mem _ z)
  · have J0 := rp_var J (a := 0) (b := 0)
    obtain ⟨L0, K0⟩ := xt_L (k := 7) (a := 0) (b := 0) J.1 hL hK (by omega)
    have J1 := rp_con (k := 3) (a := n) (b := n) J0 (by omega) (Or.inl (by simp)) (Or.inl (by simp)) (fun _ st _ => ls_g 0 st) (fun _ st _ => ls_g 0 st) (fun ρ => rfl) (fun ρ => rfl)
    obtain ⟨L1, K1⟩ := xt_L (k := 3) (a := n) (b := n) J0.1 L0 K0 (by omega)
    refine br_f (by decide) ?_
    refine br_f (by decide) ?_
    refine br_f (by decide) ?_
    refine xw_new (by omega) ?_
    refine br_f (by decide) ?_
    refine br_f (by decide) ?_
    refine br_f (by decide) ?_
    refine br_f (by decide) ?_
    refine xw_new (by omega) ?_
    refine br_t (by decide) ?_
    refine h (n + 2) _ _ _ (n + 1) _ _ _ _ _ (by omega) ⟨rp_cg xe_c22 (rp_sel J1 (stk' := (n + 1) :: stk) (fun _ st _ => ls_g 0 st :: st.drop 2) (fun x hx => ?_) (fun ρ => rfl)), (xg_new (k := 3) (a := n) (b := n) (xg_new (k := 7) (a := 0) (b := 0) hG (by omega)) (by omega)), L1, K1⟩
    rcases List.mem_cons.mp hx with z | z
    · rw [z]; exact Or.inl List.mem_cons_self
    · exact Or.inl (List.mem_cons_of_mem _ (List.mem_cons_of_mem _ z))
  · have J0 := rp_var J (a := 0) (b := 0)
    obtain ⟨L0, K0⟩ := xt_L (k := 7) (a := 0) (b := 0) J.1 hL hK (by omega)
    have J1 := rp_con (k := 4) (a := n) (b := n) J0 (by omega) (Or.inl (by simp)) (Or.inl (by simp)) (fun _ st _ => ls_g 0 st) (fun _ st _ => ls_g 0 st) (fun ρ => rfl) (fun ρ => rfl)
    obtain ⟨L1, K1⟩ := xt_L (k := 4) (a := n) (b := n) J0.1 L0 K0 (by omega)
    have J2 := rp_con (k := 6) (a := n) (b := n + 1) J1 (by omega) (Or.inl (by simp)) (Or.inl (by simp)) (fun _ st _ => ls_g 1 st) (fun _ st _ => ls_g 0 st) (fun ρ => rfl) (fun ρ => rfl)
    obtain ⟨L2, K2⟩ := xt_L (k := 6) (a := n) (b := n + 1) J1.1 L1 K1 (by omega)
    refine br_f (by decide) ?_
    refine br_f (by decide) ?_
    refine br_f (by decide) ?_
    refine xw_new (by omega) ?_
    refine br_f (by decide) ?_
    refine br_f (by decide) ?_
    refine br_t rfl ?_
    unfold wX_typeOfConstant_102
    refine xw_new (by omega) ?_
    refine br_f (by decide) ?_
    refine br_f (by decide) ?_
    refine br_t rfl ?_
    refine xw_new (by omega) ?_
    refine h (n + 3) _ _ _ (n + 2) _ _ _ _ _ (by omega) ⟨rp_cg xe_c23 (rp_sel J2 (stk' := (n + 2) :: stk) (fun _ st _ => ls_g 0 st :: st.drop 3) (fun x hx => ?_) (fun ρ => rfl)), (xg_new (k := 6) (a := n) (b := n + 1) (xg_new (k := 4) (a := n) (b := n) (xg_new (k := 7) (a := 0) (b := 0) hG (by omega)) (by omega)) (by omega)), L2, K2⟩
    rcases List.mem_cons.mp hx with z | z
    · rw [z]; exact Or.inl List.mem_cons_self
    · exact Or.inl (List.mem_cons_of_mem _ (List.mem_cons_of_mem _ (List.mem_cons_of_mem _ z)))
  · have J0 := rp_var J (a := 0) (b := 0)
    obtain ⟨L0, K0⟩ := xt_L (k := 7) (a := 0) (b := 0) J.1 hL hK (by omega)
    have J1 := rp_con (k := 4) (a := n) (b := n) J0 (by omega) (Or.inl (by simp)) (Or.inl (by simp)) (fun _ st _ => ls_g 0 st) (fun _ st _ => ls_g 0 st) (fun ρ => rfl) (fun ρ => rfl)
    obtain ⟨L1, K1⟩ := xt_L (k := 4) (a := n) (b := n) J0.1 L0 K0 (by omega)
    have J2 := rp_con (k := 6) (a := n + 1) (b := n) J1 (by omega) (Or.inl (by simp)) (Or.inl (by simp)) (fun _ st _ => ls_g 0 st) (fun _ st _ => ls_g 1 st) (fun ρ => rfl) (fun ρ => rfl)
    obtain ⟨L2, K2⟩ := xt_L (k := 6) (a := n + 1) (b := n) J1.1 L1 K1 (by omega)
    refine br_f (by decide) ?_
    refine br_f (by decide) ?_
    refine br_f (by decide) ?_
    refine xw_new (by omega) ?_
    refine br_f (by decide) ?_
    refine br_f (by decide) ?_
    refine br_f (by decide) ?_
    refine br_t rfl ?_
    unfold wX_typeOfConstant_102
    refine xw_new (by omega) ?_
    refine br_f (by decide) ?_
    refine br_f (by decide) ?_
    refine br_f (by decide) ?_
    refine br_t rfl ?_
    refine xw_new (by omega) ?_
    refine h (n + 3) _ _ _ (n + 2) _ _ _ _ _ (by omega) ⟨rp_cg xe_c24 (rp_sel J2 (stk' := (n + 2) :: stk) (fun _ st _ => ls_g 0 st :: st.drop 3) (fun x hx => ?_) (fun ρ => rfl)), (xg_new (k := 6) (a := n + 1) (b := n) (xg_new (k := 4) (a := n) (b := n) (xg_new (k := 7) (a := 0) (b := 0) hG (by omega)) (by omega)) (by omega)), L2, K2⟩
    rcases List.mem_cons.mp hx with z | z
    · rw [z]; exact Or.inl List.mem_cons_self
    · exact Or.inl (List.mem_cons_of_mem _ (List.mem_cons_of_mem _ (List.mem_cons_of_mem _ z)))
  · have J0 := rp_var J (a := 0) (b := 0)
    obtain ⟨L0, K0⟩ := xt_L (k := 7) (a := 0) (b := 0) J.1 hL hK (by omega)
    have J1 := rp_con (k := 3) (a := n) (b := n) J0 (by omega) (Or.inl (by simp)) (Or.inl (by simp)) (fun _ st _ => ls_g 0 st) (fun _ st _ => ls_g 0 st) (fun ρ => rfl) (fun ρ => rfl)
    obtain ⟨L1, K1⟩ := xt_L (k := 3) (a := n) (b := n) J0.1 L0 K0 (by omega)
    have J2 := rp_con (k := 6) (a := n + 1) (b := n) J1 (by omega) (Or.inl (by simp)) (Or.inl (by simp)) (fun _ st _ => ls_g 0 st) (fun _ st _ => ls_g 1 st) (fun ρ => rfl) (fun ρ => rfl)
    obtain ⟨L2, K2⟩ := xt_L (k := 6) (a := n + 1) (b := n) J1.1 L1 K1 (by omega)
    refine br_f (by decide) ?_
    refine br_f (by decide) ?_
    refine br_f (by decide) ?_
    refine xw_new (by omega) ?_
    refine br_f (by decide) ?_
    refine br_f (by decide) ?_
    refine br_f (by decide) ?_
    refine br_f (by decide) ?_
    refine xw_new (by omega) ?_
    refine br_f (by decide) ?_
    refine br_f (by decide) ?_
    refine br_f (by decide) ?_
    refine br_f (by decide) ?_
    refine br_f (by decide) ?_
    refine br_t rfl ?_
    refine xw_new (by omega) ?_
    refine h (n + 3) _ _ _ (n + 2) _ _ _ _ _ (by omega) ⟨rp_cg xe_c26 (rp_sel J2 (stk' := (n + 2) :: stk) (fun _ st _ => ls_g 0 st :: st.drop 3) (fun x hx => ?_) (fun ρ => rfl)), (xg_new (k := 6) (a := n + 1) (b := n) (xg_new (k := 3) (a := n) (b := n) (xg_new (k := 7) (a := 0) (b := 0) hG (by omega)) (by omega)) (by omega)), L2, K2⟩
    rcases List.mem_cons.mp hx with z | z
    · rw [z]; exact Or.inl List.mem_cons_self
    · exact Or.inl (List.mem_cons_of_mem _ (List.mem_cons_of_mem _ (List.mem_cons_of_mem _ z)))
  · have J0 := rp_var J (a := 0) (b := 0)
    obtain ⟨L0, K0⟩ := xt_L (k := 7) (a := 0) (b := 0) J.1 hL hK (by omega)
    have J1 := rp_con (k := 3) (a := n) (b := n) J0 (by omega) (Or.inl (by simp)) (Or.inl (by simp)) (fun _ st _ => ls_g 0 st) (fun _ st _ => ls_g 0 st) (fun ρ => rfl) (fun ρ => rfl)
    obtain ⟨L1, K1⟩ := xt_L (k := 3) (a := n) (b := n) J0.1 L0 K0 (by omega)
    have J2 := rp_con (k := 6) (a := n + 1) (b := n + 1) J1 (by omega) (Or.inl (by simp)) (Or.inl (by simp)) (fun _ st _ => ls_g 0 st) (fun _ st _ => ls_g 0 st) (fun ρ => rfl) (fun ρ => rfl)
    obtain ⟨L2, K2⟩ := xt_L (k := 6) (a := n + 1) (b := n + 1) J1.1 L1 K1 (by omega)
    refine br_f (by decide) ?_
    refine br_f (by decide) ?_
    refine br_f (by decide) ?_
    refine xw_new (by omega) ?_
    refine br_f (by decide) ?_
    refine br_f (by decide) ?_
    refine br_f (by decide) ?_
    refine br_f (by decide) ?_
    refine xw_new (by omega) ?_
    refine br_f (by decide) ?_
    refine br_f (by decide) ?_
    refine br_f (by decide) ?_
    refine br_f (by decide) ?_
    refine br_f (by decide) ?_
    refine br_f (by decide) ?_
    refine br_t rfl ?_
    refine xw_new (by omega) ?_
    refine h (n + 3) _ _ _ (n + 2) _ _ _ _ _ (by omega) ⟨rp_cg xe_c27 (rp_sel J2 (stk' := (n + 2) :: stk) (fun _ st _ => ls_g 0 st :: st.drop 3) (fun x hx => ?_) (fun ρ => rfl)), (xg_new (k := 6) (a := n + 1) (b := n + 1) (xg_new (k := 3) (a := n) (b := n) (xg_new (k := 7) (a := 0) (b := 0) hG (by omega)) (by omega)) (by omega)), L2, K2⟩
    rcases List.mem_cons.mp hx with z | z
    · rw [z]; exact Or.inl List.mem_cons_self
    · exact Or.inl (List.mem_cons_of_mem _ (List.mem_cons_of_mem _ (List.mem_cons_of_mem _ z)))
  · have J0 := rp_var J (a := 0) (b := 0)
    obtain ⟨L0, K0⟩ := xt_L (k := 7) (a := 0) (b := 0) J.1 hL hK (by omega)
    have J1 := rp_con (k := 3) (a := n) (b := n) J0 (by omega) (Or.inl (by simp)) (Or.inl (by simp)) (fun _ st _ => ls_g 0 st) (fun _ st _ => ls_g 0 st) (fun ρ => rfl) (fun ρ => rfl)
    obtain ⟨L1, K1⟩ := xt_L (k := 3) (a := n) (b := n) J0.1 L0 K0 (by omega)
    have J2 := rp_leaf (k := 1) J1 (a := 0) (b := 0) (by omega) (by omega) (by omega)
    obtain ⟨L2, K2⟩ := xt_L (k := 1) (a := 0) (b := 0) J1.1 L1 K1 (by omega)
    have J3 := rp_con (k := 6) (a := n + 1) (b := n + 2) J2 (by omega) (Or.inl (by simp)) (Or.inl (by simp)) (fun _ st _ => ls_g 1 st) (fun _ st _ => ls_g 0 st) (fun ρ => rfl) (fun ρ => rfl)
    obtain ⟨L3, K3⟩ := xt_L (k := 6) (a := n + 1) (b := n + 2) J2.1 L2 K2 (by omega)
    refine br_f (by decide) ?_
    refine br_f (by decide) ?_
    refine br_f (by decide) ?_
    refine xw_new (by omega) ?_
    refine br_f (by decide) ?_
    refine br_f (by decide) ?_
    refine br_f (by decide) ?_
    refine br_f (by decide) ?_
    refine xw_new (by omega) ?_
    refine br_f (by decide) ?_
    refine br_f (by decide) ?_
    refine br_f (by decide) ?_
    refine br_f (by decide) ?_
    refine br_f (by decide) ?_
    refine br_f (by decide) ?_
    refine br_f (by decide) ?_
    refine br_t rfl ?_
    refine xw_new (by omega) ?_
    refine xw_new (by omega) ?_
    refine h (n + 4) _ _ _ (n + 3) _ _ _ _ _ (by omega) ⟨rp_cg xe_c28 (rp_sel J3 (stk' := (n + 3) :: stk) (fun _ st _ => ls_g 0 st :: st.drop 4) (fun x hx => ?_) (fun ρ => rfl)), (xg_new (k := 6) (a := n + 1) (b := n + 2) (xg_new (k := 1) (a := 0) (b := 0) (xg_new (k := 3) (a := n) (b := n) (xg_new (k := 7) (a := 0) (b := 0) hG (by omega)) (by omega)) (by omega)) (by omega)), L3, K3⟩
    rcases List.mem_cons.mp hx with z | z
    · rw [z]; exact Or.inl List.mem_cons_self
    · exact Or.inl (List.mem_cons_of_mem _ (List.mem_cons_of_mem _ (List.mem_cons_of_mem _ (List.mem_cons_of_mem _ z))))
  · have J0 := rp_var J (a := 0) (b := 0)
    obtain ⟨L0, K0⟩ := xt_L (k := 7) (a := 0) (b := 0) J.1 hL hK (by omega)
    have J1 := rp_var J0 (a := 0) (b := 0)
    obtain ⟨L1, K1⟩ := xt_L (k := 7) (a := 0) (b := 0) J0.1 L0 K0 (by omega)
    have J2 := rp_con (k := 5) (a := n) (b := n + 1) J1 (by omega) (Or.inl (by simp)) (Or.inl (by simp)) (fun _ st _ => ls_g 1 st) (fun _ st _ => ls_g 0 st) (fun ρ => rfl) (fun ρ => rfl)
    obtain ⟨L2, K2⟩ := xt_L (k := 5) (a := n) (b := n + 1) J1.1 L1 K1 (by omega)
    have J3 := rp_con (k := 6) (a := n + 2) (b := n) J2 (by omega) (Or.inl (by simp)) (Or.inl (by simp)) (fun _ st _ => ls_g 0 st) (fun _ st _ => ls_g 2 st) (fun ρ => rfl) (fun ρ => rfl)
    obtain ⟨L3, K3⟩ := xt_L (k := 6) (a := n + 2) (b := n) J2.1 L2 K2 (by omega)
    refine br_f (by decide) ?_
    refine br_f (by decide) ?_
    refine br_f (by decide) ?_
    refine xw_new (by omega) ?_
    refine br_t rfl ?_
    refine xw_new (by omega) ?_
    refine xw_new (by omega) ?_
    refine br_t rfl ?_
    refine xw_new (by omega) ?_
    refine h (n + 4) _ _ _ (n + 3) _ _ _ _ _ (by omega) ⟨rp_cg xe_c29 (rp_sel J3 (stk' := (n + 3) :: stk) (fun _ st _ => ls_g 0 st :: st.drop 4) (fun x hx => ?_) (fun ρ => rfl)), (xg_new (k := 6) (a := n + 2) (b := n) (xg_new (k := 5) (a := n) (b := n + 1) (xg_new (k := 7) (a := 0) (b := 0) (xg_new (k := 7) (a := 0) (b := 0) hG (by omega)) (by omega)) (by omega)) (by omega)), L3, K3⟩
    rcases List.mem_cons.mp hx with z | z
    · rw [z]; exact Or.inl List.mem_cons_self
    · exact Or.inl (List.mem_cons_of_mem _ (List.mem_cons_of_mem _ (List.mem_cons_of_mem _ (List.mem_cons_of_mem _ z))))
  · have J0 := rp_var J (a := 0) (b := 0)
    obtain ⟨L0, K0⟩ := xt_L (k := 7) (a := 0) (b := 0) J.1 hL hK (by omega)
    have J1 := rp_var J0 (a := 0) (b := 0)
    obtain ⟨L1, K1⟩ := xt_L (k := 7) (a := 0) (b := 0) J0.1 L0 K0 (by omega)
    have J2 := rp_con (k := 5) (a := n) (b := n + 1) J1 (by omega) (Or.inl (by simp)) (Or.inl (by simp)) (fun _ st _ => ls_g 1 st) (fun _ st _ => ls_g 0 st) (fun ρ => rfl) (fun ρ => rfl)
    obtain ⟨L2, K2⟩ := xt_L (k := 5) (a := n) (b := n + 1) J1.1 L1 K1 (by omega)
    have J3 := rp_con (k := 6) (a := n + 2) (b := n + 1) J2 (by omega) (Or.inl (by simp)) (Or.inl (by simp)) (fun _ st _ => ls_g 0 st) (fun _ st _ => ls_g 1 st) (fun ρ => rfl) (fun ρ => rfl)
    obtain ⟨L3, K3⟩ := xt_L (k := 6) (a := n + 2) (b := n + 1) J2.1 L2 K2 (by omega)
    refine br_f (by decide) ?_
    refine br_f (by decide) ?_
    refine br_f (by decide) ?_
    refine xw_new (by omega) ?_
    refine br_f (by decide) ?_
    refine br_t rfl ?_
    refine xw_new (by omega) ?_
    refine xw_new (by omega) ?_
    refine br_f (by decide) ?_
    refine xw_new (by omega) ?_
    refine h (n + 4) _ _ _ (n + 3) _ _ _ _ _ (by omega) ⟨rp_cg xe_c30 (rp_sel J3 (stk' := (n + 3) :: stk) (fun _ st _ => ls_g 0 st :: st.drop 4) (fun x hx => ?_) (fun ρ => rfl)), (xg_new (k := 6) (a := n + 2) (b := n + 1) (xg_new (k := 5) (a := n) (b := n + 1) (xg_new (k := 7) (a := 0) (b := 0) (xg_new (k := 7) (a := 0) (b := 0) hG (by omega)) (by omega)) (by omega)) (by omega)), L3, K3⟩
    rcases List.mem_cons.mp hx with z | z
    · rw [z]; exact Or.inl List.mem_cons_self
    · exact Or.inl (List.mem_cons_of_mem _ (List.mem_cons_of_mem _ (List.mem_cons_of_mem _ (List.mem_cons_of_mem _ z))))
end
