/-! the component's fits -/
section
variable {f_tokenCount f_accepted f_lastPlace f_openCount f_draftOpen f_symbolCount f_stepCount f_bindingCount f_waitingCount f_clashPlace f_nodeCount f_todoCount : Int32} {a_kinds a_values a_declaredSize a_declaredNodes a_draftSize a_draftNodes a_symbols a_symbolPlaces a_steps a_stepPlaces a_bindings a_boundType a_waitingTypes a_waitingFirm a_shape a_left a_right a_link a_note a_todo a_todoOther a_generalNode : Nat → Int32}
theorem xw_shape {post : Int32 → Prop} {c p : Nat} {K N : Nat → Nat} (hT : tk_T a_kinds a_values c K N) (hp : p < c) (hk : (31 ≤ K p ∧ K p ≤ 33) ∨ K p = 35) (h : post (nI (if K p = 35 then 10 + N p else K p - 31))) : wpX_shapeOfTypeAtom post (f_tokenCount, f_accepted, f_lastPlace, f_openCount, f_draftOpen, f_symbolCount, f_stepCount, f_bindingCount, f_waitingCount, f_clashPlace, f_nodeCount, f_todoCount, a_kinds, a_values, a_declaredSize, a_declaredNodes, a_draftSize, a_draftNodes, a_symbols, a_symbolPlaces, a_steps, a_stepPlaces, a_bindings, a_boundType, a_waitingTypes, a_waitingFirm, a_shape, a_left, a_right, a_link, a_note, a_todo, a_todoOther, a_generalNode) (nI p) := by
  obtain ⟨c24, k99, kk⟩ := hT
  obtain ⟨e1, e2, _, e4⟩ := kk p hp
  have vi : vp_in (nI p) 24 := vp_in_nI (by omega) (by decide)
  refine ⟨vi, ?_⟩
  rw [nI_clamp (by omega), e1]
  refine nm_e ?_
  refine br_f (nI_nlt (b := 31) (by omega) (by omega)) ?_
  by_cases c35 : K p = 35
  · rw [if_pos c35] at h
    refine br_t (nI_lt (a := 33) (by omega) (by omega)) ⟨vi, ?_⟩
    rw [(e4 c35).1, show (10 : Int32) = nI 10 from rfl, nI_add]
    exact h
  · rw [if_neg c35] at h
    refine br_f (nI_nlt (a := 33) (by omega) (by decide)) ?_
    by_cases c1 : K p = 31
    · rw [c1] at h ⊢
      exact br_t rfl h
    · refine br_f (fun z => c1 ((nI_eq (b := 31) (by omega) (by omega)).mp z)) ?_
      by_cases c2 : K p = 32
      · rw [c2] at h ⊢
        exact br_t rfl h
      · have c3 : K p = 33 := by omega
        rw [c3] at h ⊢
        exact br_f (by decide) (br_t rfl h)
theorem xw_bs {post : Int32 → SX → Prop} {oc c : Nat} {K N : Nat → Nat} {sp0 : pm_L} (hT : tk_T a_kinds a_values c K N) (hsp : xs_S a_steps a_stepPlaces sp0) (hl : sp0.length ≤ 48) (hoc : oc ≤ 144)
    (h : ∀ n kd pa pb t T sh lf rt lk wt wf note, sp_I oc n kd pa pb [t] [T] → ts_E K N sp0 [] = [T] → ts_lab T → n ≤ oc + 48 → (∀ i, i < oc → kd i = 9) → xg_G n sh lf rt lk kd pa pb → post (nI t) (f_tokenCount, f_accepted, f_lastPlace, f_openCount, f_draftOpen, f_symbolCount, nI sp0.length, f_bindingCount, 0, f_clashPlace, nI n, f_todoCount, a_kinds, a_values, a_declaredSize, a_declaredNodes, a_draftSize, a_draftNodes, a_symbols, a_symbolPlaces, a_steps, a_stepPlaces, a_bindings, a_boundType, wt, wf, sh, lf, rt, lk, note, a_todo, a_todoOther, a_generalNode)) :
    ∀ (sp2 pre : pm_L) (n : Nat) (kd pa pb : Nat → Nat) (stk : List Nat) (st : List tr_T) (wt wf sh lf rt lk note : Nat → Int32), sp0 = pre ++ sp2 → ts_ok K c true sp2 stk.length → sp_I oc n kd pa pb stk st → st_1 wt stk → n ≤ oc + pre.length → stk.length ≤ pre.length → ts_E K N sp2 st = ts_E K N sp0 [] → (∀ T, T ∈ st → ts_lab T) → (∀ i, i < oc → kd i = 9) → xg_G n sh lf rt lk kd pa pb →
    wX_buildSpelled_7 post (sp2.length + 1) (nI pre.length) f_tokenCount f_accepted f_lastPlace f_openCount f_draftOpen f_symbolCount (nI sp0.length) f_bindingCount (nI stk.length) f_clashPlace (nI n) f_todoCount a_kinds a_values a_declaredSize a_declaredNodes a_draftSize a_draftNodes a_symbols a_symbolPlaces a_steps a_stepPlaces a_bindings a_boundType wt wf sh lf rt lk note a_todo a_todoOther a_generalNode := by
  have c24 := hT.1
  intro sp2
  induction sp2 with
  | nil =>
    intro pre n kd pa pb stk st wt wf sh lf rt lk note e ok I hst hn hs hE hlab h9 hG
    rw [List.append_nil] at e
    subst e
    have l1 : stk.length = 1 := ok rfl
    obtain ⟨t, r, ee⟩ := ls_1 (l := stk) (by omega)
    have er : r = [] := by
      rw [ee] at l1
      simpa using l1
    subst er ee
    have ls := sp_len I
    obtain ⟨T, r, ee⟩ : ∃ a r, st = a :: r := by
      cases st with
      | nil => simp at ls
      | cons a r => exact ⟨a, r, rfl⟩
    have er : r = [] := by
      rw [ee] at ls
      simpa using ls.symm
    subst er ee
    refine br_t (nI_le (by omega) (by omega)) (xw_pop (h := 0) (by omega) ?_)
    rw [show wt 0 = nI t from hst.1]
    exact h n kd pa pb t T sh lf rt lk wt wf note I hE.symm (hlab T List.mem_cons_self) (by omega) h9 hG
  | cons y sp2 ih =>
    obtain ⟨s, p⟩ := y
    intro pre n kd pa pb stk st wt wf sh lf rt lk note e ok I hst hn hs hE hlab h9 hG
    obtain ⟨hp, ok⟩ := ok
    have lt : pre.length < sp0.length := by rw [e, List.length_append, List.length_cons]; omega
    have lsp : pre.length + sp2.length + 1 = sp0.length := by rw [e, List.length_append, List.length_cons]; omega
    have ix : sp0[pre.length]? = some (s, p) := by rw [e, List.getElem?_append_right (Nat.le_refl _), Nat.sub_self]; rfl
    obtain ⟨s1, s2⟩ := hsp _ _ _ ix
    have vi : vp_in (nI pre.length) 64 := vp_in_nI (by omega) (by decide)
    have ci : (nI pre.length).toNatClampNeg = pre.length := nI_clamp (by omega)
    have pc : p < c := by rcases hp with z | z <;> exact z.2.1
    have cp : (nI p).toNatClampNeg = p := nI_clamp (by omega)
    have vp : vp_in (nI p) 24 := vp_in_nI (by omega) (by decide)
    have tk := hT.2.2 p pc
    have ls := sp_len I
    have e' : sp0 = (pre ++ [(s, p)]) ++ sp2 := by rw [e, List.append_assoc]; rfl
    have pl : (pre ++ [(s, p)]).length = pre.length + 1 := by rw [List.length_append]; rfl
    have lab := ts_lab_1 (N := N) (st := st) (by rw [← ls]; exact hp) (fun c35 => (tk.2.2.2 c35).2) hlab
    have go : ∀ (k x y : Nat) (r : List Nat) (note' : Nat → Int32), k < 30 → r.length ≤ pre.length → st_1 wt r → sp_I oc (n + 1) (gr_u kd n k) (gr_u pa n x) (gr_u pb n y) (n :: r) (ts_1 K N st s p) → wX_buildSpelled_63 post (wX_buildSpelled_7 post (sp2.length + 1)) (nI pre.length) (nI n) f_tokenCount f_accepted f_lastPlace f_openCount f_draftOpen f_symbolCount (nI sp0.length) f_bindingCount (nI r.length) f_clashPlace (nI (n + 1)) f_todoCount a_kinds a_values a_declaredSize a_declaredNodes a_draftSize a_draftNodes a_symbols a_symbolPlaces a_steps a_stepPlaces a_bindings a_boundType wt wf (upd sh n (nI k)) (upd lf n (nI x)) (upd rt n (nI y)) (upd lk n (nI n)) note' a_todo a_todoOther a_generalNode := by
      intro k x y r note' hk hr hst' I'
      have ls' := sp_len I'
      unfold wX_buildSpelled_63
      refine xw_push (b := false) (by omega) (nm_r (nI_1 pre.length) ?_)
      have q := ih (pre ++ [(s, p)]) (n + 1) _ _ _ (n :: r) _ (upd wt r.length (nI n)) (upd wf r.length 0) _ _ _ _ note' e' (by rw [ls', lab.2, ← ls]; exact ok) I' (st_1p hst') (by omega) (by rw [List.length_cons]; omega) hE lab.1 (fun i hi => by rw [gr_un (by have := I.1; omega)]; exact h9 i hi) (xg_new hG hk)
      rw [pl] at q
      exact q
    refine br_f (nI_ge lt (by omega)) ⟨vi, ?_⟩
    rw [ci, s2]
    refine nm_e ⟨vi, ?_⟩
    rw [s1]
    rcases hp with ⟨rfl, _, kp⟩ | ⟨rfl, _, kp⟩
    · refine br_t rfl (xw_shape hT pc kp (xw_new (by omega) ?_))
      refine go _ 0 0 stk _ ?_ hs hst (sp_80 I kp (fun c35 => (tk.2.2.2 c35).2))
      by_cases c35 : K p = 35
      · rw [if_pos c35]; have := (tk.2.2.2 c35).2; omega
      · rw [if_neg c35]; omega
    · refine br_f (by decide) ⟨vp, ?_⟩
      rw [cp, tk.1]
      unfold wpX_buildSpelledWhole
      rcases kp with ⟨kp, h1⟩ | ⟨kp, h2⟩
      · obtain ⟨t, r, ee⟩ := ls_1 (l := stk) h1
        subst ee
        rw [show (t :: r).length = r.length + 1 from rfl] at hs ⊢
        refine xw_pop (h := r.length) (by omega) ?_
        rw [hst.1]
        rcases kp with kp | kp
        · refine br_t (by rw [kp]; rfl) (xw_new (by omega) ?_)
          exact go 3 t t r _ (by omega) (by omega) hst.2 (sp_34 I (Or.inl ⟨kp, rfl⟩))
        · refine br_f (by rw [kp]; decide) (br_t (by rw [kp]; rfl) (xw_new (by omega) ?_))
          exact go 4 t t r _ (by omega) (by omega) hst.2 (sp_34 I (Or.inr ⟨kp, rfl⟩))
      · obtain ⟨t, u, r, ee⟩ := ls_2 (l := stk) h2
        subst ee
        rw [show (t :: u :: r).length = r.length + 1 + 1 from rfl] at hs ⊢
        refine xw_pop (h := r.length + 1) (by omega) ?_
        rw [show wt (r.length + 1) = nI t from hst.1]
        refine br_f (fun z => by have := (nI_eq (b := 34) (by omega) (by omega)).mp z; omega) (br_f (fun z => by have := (nI_eq (b := 23) (by omega) (by omega)).mp z; omega) (xw_pop (by omega) ?_))
        rw [hst.2.1]
        rcases kp with kp | kp
        · refine br_t (by rw [kp]; rfl) ?_
          unfold wX_buildSpelledWhole_51
          refine xw_new (by omega) ?_
          exact go 5 u t r _ (by omega) (by omega) hst.2.2 (sp_36 I (Or.inl ⟨kp, rfl⟩))
        · refine br_f (by rw [kp]; decide) ?_
          unfold wX_buildSpelledWhole_51
          refine xw_new (by omega) ?_
          exact go 6 u t r _ (by omega) (by omega) hst.2.2 (sp_36 I (Or.inr ⟨kp, rfl⟩))
theorem xw_fits {post : Int32 → SX → Prop} {c ac oc f a' : Nat} {b : Bool} {K N : Nat → Nat} {sp' : pm_L} {dc : Nat → List Nat} {x : Int32} (hD : xd_D oc dc a_declaredSize a_declaredNodes) (hoc : oc ≤ 144) (hT : tk_T a_kinds a_values c K N) (hgo : pm_go K f [(45, 0)] 0 [] = some (a', sp', b)) (hf : f ≤ 1000) (ha : a' ≤ 60)
    (h1 : (b = false ∨ a' ≠ c) → xd_Z 1 c ac oc (nI a') post a_kinds a_values a_declaredSize a_declaredNodes)
    (h2 : b = true → a' = c → (x < 0 ∨ 12 ≤ x ∨ ∃ m : Nat, m < 12 ∧ x = nI m ∧ dc m = []) → xd_Z 2 c ac oc (-1) post a_kinds a_values a_declaredSize a_declaredNodes)
    (h6 : b = true → a' = c → ∀ m T, m < 12 → x = nI m → dc m ≠ [] → ts_E K N sp' [] = [T] → ts_lab T → (¬ ∃ γ : Nat → tr_T, cd_ev (fun _ => tr_at 9) γ (dc m) = [T]) → xd_Z 6 c ac oc (-1) post a_kinds a_values a_declaredSize a_declaredNodes)
    (h0 : b = true → a' = c → ∀ m T, m < 12 → x = nI m → dc m ≠ [] → ts_E K N sp' [] = [T] → ts_lab T → (∃ γ : Nat → tr_T, cd_ev (fun _ => tr_at 9) γ (dc m) = [T]) → xd_Z 0 c ac oc (-1) post a_kinds a_values a_declaredSize a_declaredNodes) :
    wpX_fits post (nI c, nI ac, f_lastPlace, nI oc, f_draftOpen, f_symbolCount, f_stepCount, f_bindingCount, f_waitingCount, f_clashPlace, f_nodeCount, f_todoCount, a_kinds, a_values, a_declaredSize, a_declaredNodes, a_draftSize, a_draftNodes, a_symbols, a_symbolPlaces, a_steps, a_stepPlaces, a_bindings, a_boundType, a_waitingTypes, a_waitingFirm, a_shape, a_left, a_right, a_link, a_note, a_todo, a_todoOther, a_generalNode) x := by
  have c24 := hT.1
  refine xw_syntax (f_stepCount := f_stepCount) (f_symbolCount := f_symbolCount) (goal := 45) hT (Or.inr rfl) hgo hf (fun eb ea l48 sc sy pl sts spl hsp => ?_) (fun hb sc stc sy pl sts spl => ?_)
  · refine br_t (by decide) ?_
    by_cases n0 : x < 0
    · exact br_t n0 (br_t rfl (h2 eb ea (Or.inl n0) _ _ _ _ _ _ _ _ _ _ _ _ _ _ _ _ _ _ _ _ _ _ _ _ _ _))
    obtain ⟨m, hm, rfl⟩ := nI_of n0
    refine br_f n0 ?_
    by_cases m12 : m < 12
    · have vi : vp_in (nI m) 12 := vp_in_nI m12 (by decide)
      obtain ⟨D1, D2, D3, D4⟩ := hD m m12
      refine br_f (nI_ge (b := 12) m12 (by decide)) (br_f (by decide) ⟨vi, ?_⟩)
      rw [nI_clamp (by omega), D1]
      by_cases e0 : dc m = []
      · refine br_t (by rw [e0]; rfl) (h2 eb ea (Or.inr (Or.inr ⟨m, m12, rfl, e0⟩)) _ _ _ _ _ _ _ _ _ _ _ _ _ _ _ _ _ _ _ _ _ _ _ _ _ _)
      · have lp : 0 < (dc m).length := List.length_pos_iff.mpr e0
        obtain ⟨wf, one⟩ := D3 e0
        refine br_f (nI_ne0 lp (by omega)) ?_
        refine xw_begin (f_nodeCount := f_nodeCount) (gk := 9) hoc (by decide) (fun sh lf rt lk note hG => ⟨sp'.length + 1, ?_⟩)
        obtain ⟨W0, A0, L0, K0⟩ := gr_0 (oc := oc) (gk := 9) (Or.inr rfl)
        have tok : ts_ok K c true sp' 0 := by
          have q := th_run hT.2.1 f [(45, 0)] 0 [] sp' a' b hgo 0 ⟨1, Or.inr (Or.inl ⟨Or.inl rfl, rfl⟩), rfl⟩
          rw [eb] at q; exact q
        refine xw_bs (oc := oc) hT hsp l48 hoc (fun n kd pa pb t T sh lf rt lk wt wf' note I eT lT hn h9 hG => ?_) sp' [] oc (fun _ => 9) (fun _ => 0) (fun _ => 0) [] [] _ _ _ _ _ _ _ rfl tok ⟨Nat.le_refl _, W0, A0, fun i h1 h2 => by omega, fun x hx => (by cases hx), fun ρ _ => rfl⟩ trivial (Nat.le_refl _) (Nat.le_refl _) rfl (fun T hT => by cases hT) (fun _ _ => rfl) hG
        obtain ⟨i1, W, A, i4, i5, i6⟩ := I
        have n1 : ∀ i, i < n → kd i ≠ 1000 ∧ kd i ≠ 8 ∧ kd i ≠ 7 := fun i hi => by
          by_cases q : i < oc
          · rw [h9 i q]; omega
          · have := (i4 i (by omega) hi).1; omega
        have hL : gr_L n kd pa 0 := fun i hi => (n1 i hi).1
        have hK : 0 + gr_nr kd n ≤ n := by have := gr_nr_le (kd := kd) n; omega
        refine xw_declared (gk := 7) (oc := oc) (codes := dc m) m12 D1 D4 D2 wf one i1 (Or.inl rfl) (by omega) W A hG hL hK (fun n' kd' pa' pb' gn t' sh lf rt lk note td tdo gna tc hn' bd hG' hL' hK' => ?_)
        obtain ⟨e1, e2, e3, e4, e5, e6, e7, e8, e9, e10, e11⟩ := bd
        have n1' : ∀ i, i < n' → kd' i ≠ 1000 ∧ kd' i ≠ 8 := fun i hi => by
          by_cases q : i < n
          · rw [(e2 i q).1]; exact ⟨(n1 i q).1, (n1 i q).2.1⟩
          · have z := e5 i (by omega) hi
            exact ⟨z.1, fun y => by have := z.2.1 y; omega⟩
        have tn' : t' < n' := by
          rcases e6 t' List.mem_cons_self with z | z <;> omega
        have tS := i5 t List.mem_cons_self
        have op9 : ∀ ρ, gr_V n' kd' pa' pb' ρ → ∀ i, i < oc → ρ i = tr_at 9 := fun ρ v i hi => by
          have k9 : kd' i = 9 := by rw [(e2 i (by omega)).1]; exact h9 i hi
          have q := gr_Vt v (i := i) (by omega) (by omega) (by omega) (by omega)
          rw [k9] at q; exact q
        have spT : ∀ ρ, gr_V n' kd' pa' pb' ρ → ρ t = T := fun ρ v => by
          have q := i6 ρ ((gr_V_s e2).mp (fun i hi => v i (by omega)))
          simpa using q
        have C : gr_C n' kd' pa' pb' (fun i => i < n') := gr_Ca e3
        refine xw_eq (M := fun i => i < n') (K := 0) (by omega) e3 C (fun i hi => (n1' i hi).2) tn' (by omega) hG' hL' hK' (fun no kd2 pa2 K2 tc lk td tdo _ _ _ _ => ?_) (fun kd2 pa2 K2 lk td tdo U _ hL2 _ => ?_)
        · refine br_t rfl (h6 eb ea m T m12 rfl e0 eT lT (fun ⟨γ, hγ⟩ => ?_) _ _ _ _ _ _ _ _ _ _ _ _ _ _ _ _ _ _ _ _ _ _ _ _ _ _)
          obtain ⟨ρ0, v0, _⟩ := gr_ex A (fun _ => tr_at 0)
          obtain ⟨ρ, v, a1, a2⟩ := e11 ρ0 v0 γ
          have q := e10 ρ v
          have cg : cd_ev ρ (fun g => ((gn g).map ρ).getD (tr_at 0)) (dc m) = cd_ev (fun _ => tr_at 9) γ (dc m) := by
            refine cd_ev_c (dc m) (fun cc hc h100 => op9 ρ v _ (cd_wf_op _ wf cc hc h100)) (fun cc hc h10 h100 => ?_)
            cases hg : gn (cc - 10) with
            | none => exact (e9 cc hc h10 h100 hg).elim
            | some y => exact a2 _ _ hg
          rw [cg, hγ] at q
          have q' : ρ t' = T := by simpa using q
          exact no ρ v (by rw [q', spT ρ v])
        · have hS : gr_C n' kd' pa' pb' (fun i => oc ≤ i ∧ i < n) := fun i hi => by
            have w := W i hi.2
            rw [(e2 i hi.2).1, (e2 i hi.2).2.1, (e2 i hi.2).2.2]
            exact ⟨by omega, fun z => ((n1 i hi.2).1 z).elim, fun z => ⟨⟨((i4 i hi.1 hi.2).2 z).1, (w.2 z).1⟩, ((i4 i hi.1 hi.2).2 z).2, (w.2 z).2⟩⟩
          have h7 : ∀ i, oc ≤ i ∧ i < n → kd' i ≠ 7 := fun i hi => by
            rw [(e2 i hi.2).1]; exact (n1 i hi.2).2.2
          obtain ⟨ρ, v, eq⟩ := un_match (Sp := fun i => oc ≤ i ∧ i < n) U e3 e4 hL2 n1' hS h7 tn' tS
          refine br_f (by decide) (h0 eb ea m T m12 rfl e0 eT lT ⟨fun g => ((gn g).map ρ).getD (tr_at 0), ?_⟩ _ _ _ _ _ _ _ _ _ _ _ _ _ _ _ _ _ _ _ _ _ _ _ _ _ _)
          have q := e10 ρ v
          have cg : cd_ev ρ (fun g => ((gn g).map ρ).getD (tr_at 0)) (dc m) = cd_ev (fun _ => tr_at 9) (fun g => ((gn g).map ρ).getD (tr_at 0)) (dc m) := cd_ev_c (dc m) (fun cc hc h100 => op9 ρ v _ (cd_wf_op _ wf cc hc h100)) (fun _ _ _ _ => rfl)
          rw [← cg, ← q, List.map_cons, List.map_nil, eq, spT ρ v]
    · exact br_t (nI_le (a := 12) (by omega) hm) (br_t rfl (h2 eb ea (Or.inr (Or.inl (nI_le (a := 12) (by omega) hm))) _ _ _ _ _ _ _ _ _ _ _ _ _ _ _ _ _ _ _ _ _ _ _ _ _ _))
  · refine br_f (nI_pos (by omega)) (h1 ?_ _ _ _ _ _ _ _ _ _ _ _ _ _ _ _ _ _ _ _ _ _ _ _ _ _ _)
    rcases hb with z | z
    · exact Or.inl z
    · exact Or.inr (by omega)
end
