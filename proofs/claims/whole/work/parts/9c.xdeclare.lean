/-! the component's declare -/
def xo_c (kd : Nat → Nat) (x : Nat) : Bool := decide (100000 ≤ x ∨ kd (x - 1001) = 8)
def xo_G (v k : Nat) : Nat := 100000 + 100 * v + k
def xo_L (dc : Nat → List Nat) (g : Nat → tr_T) (nw t v : Nat) : List Nat := if v = nw then tr_pre (g t) else (dc v).flatMap (cd_lb (fun o => tr_pre (g o)) (fun k => [xo_G v k]))
theorem xo_lab {oc nl n t nm : Nat} {kd pa pb : Nat → Nat} {fl : Bool} {V : dv_W} {g : Nat → tr_T} {op : List Nat} (I : rp_I oc nl n kd pa pb op [] [t] [(nm, fl)] V) (hV : dv_st V) (hk : ∀ i, i < n → kd i ≤ 1000) (hg : gr_V n kd pa pb g) (gg : gr_gen n kd g) :
    (∀ x, x ∈ tr_pre (g t) → x < 7 ∨ (1001 ≤ x ∧ x - 1001 < n)) ∧ ∀ y, y ∈ op → ∀ x, x ∈ tr_pre (g y) → x < 7 ∨ (1001 ≤ x ∧ x - 1001 < n ∧ kd (x - 1001) = 7) := by
  obtain ⟨L1, L2⟩ := ds_rp I hV hk hg gg
  have cls := fl_cls I hk hg gg
  obtain ⟨W, A, ⟨M, E, ⟨hM, gM, oM, sM, eM⟩, cE, mE, eE, bE⟩, en, hl, hP, hVV⟩ := I
  have tn : t < n := en t List.mem_cons_self
  refine ⟨fun x hx => ?_, fun y hy x hx => ?_⟩
  · rcases L1 x hx with z | z
    · exact Or.inl z
    · obtain ⟨f, hf⟩ := A t tn
      have q := cls (x - 1001) (Or.inr (by rw [show 1001 + (x - 1001) = x by omega]; exact tr_pre_fl (fl_gok W hg gg f t tn hf) hx))
      exact Or.inr ⟨z, q.2.2⟩
  · rcases L2 y hy x hx with z | z
    · exact Or.inl z
    · have yn := (hM y (oM y hy)).1
      obtain ⟨f, hf⟩ := A y yn
      have mx : 1001 + (x - 1001) ∈ tr_fl (g y) := by rw [show 1001 + (x - 1001) = x by omega]; exact tr_pre_fl (fl_gok W hg gg f y yn hf) hx
      have q := cls (x - 1001) (Or.inl ⟨y, hy, mx⟩)
      refine Or.inr ⟨z, q.2.2, ?_⟩
      rcases q.2.1 with c | c
      · exact c
      · exact ((q.1.mp c).2 ⟨y, hy, mx⟩).elim
theorem xo_F {oc nl n t nm nw : Nat} {kd pa pb : Nat → Nat} {fl : Bool} {V : dv_W} {g : Nat → tr_T} {dc : Nat → List Nat} (I : rp_I oc nl n kd pa pb (List.range oc) [] [t] [(nm, fl)] V) (hV : dv_st V) (hn : n ≤ 2500) (hk : ∀ i, i < n → kd i ≤ 1000) (hg : gr_V n kd pa pb g) (gg : gr_gen n kd g) :
    xf_F oc n nw t kd g dc (xo_c kd) (xo_L dc g nw t) (fun x => x) (fun _ => True) (fun o => tr_pre (g o)) xo_G := by
  obtain ⟨L1, L2⟩ := xo_lab I hV hk hg gg
  have cl : ∀ x, x - 1001 < n → (xo_c kd x = true ↔ kd (x - 1001) = 8) := fun x hx => by
    unfold xo_c
    rw [decide_eq_true_iff]
    exact ⟨fun z => z.elim (fun q => by omega) id, Or.inr⟩
  have eo : ∀ v, v ≠ nw → xo_L dc g nw t v = (dc v).flatMap (cd_lb (fun o => tr_pre (g o)) (fun k => [xo_G v k])) := fun v hv => if_neg hv
  have en : xo_L dc g nw t nw = tr_pre (g t) := if_pos rfl
  refine ⟨by rw [en, List.map_id'], fun v _ h _ => eo v h, fun v _ h e => by rw [eo v h, e]; rfl, fun o _ => by rw [List.map_id'], fun _ _ => rfl, fun x y _ _ e => e, fun o ho x hx => ?_, fun x hx => ?_, fun v _ _ c _ _ _ => ?_, fun v _ _ c d _ _ h1 _ h3 _ e => ?_⟩
  · rcases L2 o (List.mem_range.mpr ho) x hx with z | ⟨z1, z2, z3⟩
    · exact Or.inl z
    · refine Or.inr ⟨by omega, trivial, ?_, z1, z2, z3⟩
      cases h : xo_c kd x with
      | false => rfl
      | true => have := (cl x z2).mp h; omega
  · rw [en] at hx
    rcases L1 x hx with z | ⟨z1, z2⟩
    · exact Or.inl z
    · exact Or.inr ⟨by omega, trivial, z1, z2, (cl x z2).symm⟩
  · unfold xo_G xo_c
    refine ⟨by omega, ?_⟩
    rw [decide_eq_true_iff]
    exact Or.inl (by omega)
  · unfold xo_G at e
    omega
def xd_Z (r : Int32) (c ac oc : Nat) (q : Int32) (post : Int32 → SX → Prop) (a_kinds a_values a_declaredSize a_declaredNodes : Nat → Int32) : Prop := ∀ (f_draftOpen f_symbolCount f_stepCount f_bindingCount f_waitingCount f_clashPlace f_nodeCount f_todoCount : Int32) (a_draftSize a_draftNodes a_symbols a_symbolPlaces a_steps a_stepPlaces a_bindings a_boundType a_waitingTypes a_waitingFirm a_shape a_left a_right a_link a_note a_todo a_todoOther a_generalNode : Nat → Int32), post r (nI c, nI ac, q, nI oc, f_draftOpen, f_symbolCount, f_stepCount, f_bindingCount, f_waitingCount, f_clashPlace, f_nodeCount, f_todoCount, a_kinds, a_values, a_declaredSize, a_declaredNodes, a_draftSize, a_draftNodes, a_symbols, a_symbolPlaces, a_steps, a_stepPlaces, a_bindings, a_boundType, a_waitingTypes, a_waitingFirm, a_shape, a_left, a_right, a_link, a_note, a_todo, a_todoOther, a_generalNode)
section
variable {f_tokenCount f_accepted f_lastPlace f_openCount f_draftOpen f_symbolCount f_stepCount f_bindingCount f_waitingCount f_clashPlace f_nodeCount f_todoCount : Int32} {a_kinds a_values a_declaredSize a_declaredNodes a_draftSize a_draftNodes a_symbols a_symbolPlaces a_steps a_stepPlaces a_bindings a_boundType a_waitingTypes a_waitingFirm a_shape a_left a_right a_link a_note a_todo a_todoOther a_generalNode : Nat → Int32}
theorem xw_draftTypes {post : Int32 → SX → Prop} {oc n0 K nw tX : Nat} {kd0 pa0 pb0 : Nat → Nat} {g0 : Nat → tr_T} {dc : Nat → List Nat} {clY : Nat → Bool} {LY : Nat → List Nat} {s : Nat → Nat} {Lb : Nat → Prop} {OY : Nat → List Nat} {GY : Nat → Nat → Nat} (hoc : oc ≤ n0) (hn0 : n0 ≤ 2500) (hk0 : ∀ i, i < n0 → kd0 i ≤ 1000) (htX : tX < n0) (hbt : a_boundType 1 = nI tX) (hval : a_values 1 = nI nw) (hnw : nw < 12) (hD : xd_D oc dc a_declaredSize a_declaredNodes) (FF : xf_F oc n0 nw tX kd0 g0 dc clY LY s Lb OY GY)
    (W : gr_W n0 kd0 pa0 pb0) (A : gr_A n0 kd0 pa0 pb0) (hG : xg_G n0 a_shape a_left a_right a_link kd0 pa0 pb0) (hL : gr_L n0 kd0 pa0 K) (hK : K + gr_nr kd0 n0 ≤ n0) (hV : gr_V n0 kd0 pa0 pb0 g0) (gg : gr_gen n0 kd0 g0)
    (hbig : (∃ v, v < 12 ∧ 12 < (LY v).length) → ∀ dop nc tc ds dn sh lf rt lk note td tdo gn, post 0 (f_tokenCount, f_accepted, f_lastPlace, f_openCount, dop, f_symbolCount, f_stepCount, f_bindingCount, f_waitingCount, f_clashPlace, nc, tc, a_kinds, a_values, a_declaredSize, a_declaredNodes, ds, dn, a_symbols, a_symbolPlaces, a_steps, a_stepPlaces, a_bindings, a_boundType, a_waitingTypes, a_waitingFirm, sh, lf, rt, lk, note, td, tdo, gn))
    (hok : (∀ v, v < 12 → (LY v).length ≤ 12) → ∀ nc tc ds dn sh lf rt lk note td tdo gn, (∀ v, v < 12 → ds v = nI (nm_d clY LY v).length ∧ ∀ (k x : Nat), (nm_d clY LY v)[k]? = some x → dn (v * 12 + k) = nI x) → post 1 (f_tokenCount, f_accepted, f_lastPlace, f_openCount, nI (nm_S clY LY 12).length, f_symbolCount, f_stepCount, f_bindingCount, f_waitingCount, f_clashPlace, nc, tc, a_kinds, a_values, a_declaredSize, a_declaredNodes, ds, dn, a_symbols, a_symbolPlaces, a_steps, a_stepPlaces, a_bindings, a_boundType, a_waitingTypes, a_waitingFirm, sh, lf, rt, lk, note, td, tdo, gn)) :
    wpX_draftTypes post (f_tokenCount, f_accepted, f_lastPlace, f_openCount, f_draftOpen, f_symbolCount, f_stepCount, f_bindingCount, f_waitingCount, f_clashPlace, nI n0, f_todoCount, a_kinds, a_values, a_declaredSize, a_declaredNodes, a_draftSize, a_draftNodes, a_symbols, a_symbolPlaces, a_steps, a_stepPlaces, a_bindings, a_boundType, a_waitingTypes, a_waitingFirm, a_shape, a_left, a_right, a_link, a_note, a_todo, a_todoOther, a_generalNode) := by
  refine xw_clear (by omega) (fun note hz => ⟨13, ?_⟩)
  refine xw_draftTypes_l (K := K) (pa0 := pa0) (pb0 := pb0) hoc hn0 hk0 htX hbt hval hnw hD FF hbig hok 12 0 n0 kd0 pa0 pb0 g0 [] (fun _ => 0) _ _ _ _ _ _ _ note _ _ _ (by omega) ?_
  refine ⟨Nat.le_refl _, by omega, fun i _ => ⟨rfl, rfl, rfl⟩, W, A, hG, hL, hK, hV, gg, fun _ _ => rfl, ix_R_0, Nat.zero_le _, fun i hi => hz i hi, fun i _ _ => (dn_x0 (by simp)).symm, fun x hx => by simp at hx, fun _ _ _ _ => rfl, fun w hw => by omega⟩
theorem xw_keepDraft {post : SX → Prop} (h : ∀ sz nd, (∀ v, v < 12 → sz v = a_draftSize v) → (∀ j, j < 144 → nd j = a_draftNodes j) → post (0, f_accepted + 1, f_lastPlace, f_draftOpen, f_draftOpen, f_symbolCount, f_stepCount, f_bindingCount, f_waitingCount, f_clashPlace, f_nodeCount, f_todoCount, a_kinds, a_values, sz, nd, a_draftSize, a_draftNodes, a_symbols, a_symbolPlaces, a_steps, a_stepPlaces, a_bindings, a_boundType, a_waitingTypes, a_waitingFirm, a_shape, a_left, a_right, a_link, a_note, a_todo, a_todoOther, a_generalNode)) : wpX_keepDraft post (f_tokenCount, f_accepted, f_lastPlace, f_openCount, f_draftOpen, f_symbolCount, f_stepCount, f_bindingCount, f_waitingCount, f_clashPlace, f_nodeCount, f_todoCount, a_kinds, a_values, a_declaredSize, a_declaredNodes, a_draftSize, a_draftNodes, a_symbols, a_symbolPlaces, a_steps, a_stepPlaces, a_bindings, a_boundType, a_waitingTypes, a_waitingFirm, a_shape, a_left, a_right, a_link, a_note, a_todo, a_todoOther, a_generalNode) := by
  have l2 : ∀ sz, (∀ v, v < 12 → sz v = a_draftSize v) → ∀ d j nd, j + d = 144 → (∀ i, i < j → nd i = a_draftNodes i) → wX_keepDraft_28 post f_tokenCount f_accepted f_lastPlace f_openCount f_draftOpen f_symbolCount f_stepCount f_bindingCount f_waitingCount f_clashPlace f_nodeCount f_todoCount (d + 1) (nI j) a_kinds a_values sz nd a_draftSize a_draftNodes a_symbols a_symbolPlaces a_steps a_stepPlaces a_bindings a_boundType a_waitingTypes a_waitingFirm a_shape a_left a_right a_link a_note a_todo a_todoOther a_generalNode := by
    intro sz hs d
    induction d with
    | zero =>
      intro j nd hj hn
      have e : j = 144 := by omega
      subst e
      exact br_t (Int32.le_refl _) (nm_e (h sz nd hs hn))
    | succ d ih =>
      intro j nd hj hn
      have vv : vp_in (nI j) 144 := vp_in_nI (by omega) (by decide)
      refine br_f (nI_ge (b := 144) (by omega) (by decide)) ⟨vv, vv, ?_⟩
      rw [nI_clamp (by omega)]
      refine nm_e (nm_r (nI_1 j) (ih (j + 1) _ (by omega) (fun i hi => ?_)))
      by_cases c : i = j
      · subst c; exact pk_us
      · rw [pk_un c]; exact hn i (by omega)
  have l1 : ∀ d j sz, j + d = 12 → (∀ i, i < j → sz i = a_draftSize i) → wX_keepDraft_2 post f_tokenCount f_accepted f_lastPlace f_openCount f_draftOpen f_symbolCount f_stepCount f_bindingCount f_waitingCount f_clashPlace f_nodeCount f_todoCount (d + 1) (nI j) a_kinds a_values sz a_declaredNodes a_draftSize a_draftNodes a_symbols a_symbolPlaces a_steps a_stepPlaces a_bindings a_boundType a_waitingTypes a_waitingFirm a_shape a_left a_right a_link a_note a_todo a_todoOther a_generalNode := by
    intro d
    induction d with
    | zero =>
      intro j sz hj hn
      have e : j = 12 := by omega
      subst e
      exact br_t (Int32.le_refl _) ⟨145, l2 sz hn 144 0 _ (by omega) (fun i hi => by omega)⟩
    | succ d ih =>
      intro j sz hj hn
      have vv : vp_in (nI j) 12 := vp_in_nI (by omega) (by decide)
      refine br_f (nI_ge (b := 12) (by omega) (by decide)) ⟨vv, vv, ?_⟩
      rw [nI_clamp (by omega)]
      refine nm_e (nm_r (nI_1 j) (ih (j + 1) _ (by omega) (fun i hi => ?_)))
      by_cases c : i = j
      · subst c; exact pk_us
      · rw [pk_un c]; exact hn i (by omega)
  exact ⟨13, l1 12 0 _ (by omega) (fun i hi => by omega)⟩
theorem xw_declare {post : Int32 → SX → Prop} {c ac oc f a' : Nat} {b : Bool} {K N mq : Nat → Nat} {sp' : pm_L} {dc : Nat → List Nat} (hD : xd_D oc dc a_declaredSize a_declaredNodes) (hoc : oc ≤ 144) (hT : tk_T a_kinds a_values c K N) (hm : ∀ q, mq q = pm_nq K 24 (q + 3) - (q + 1)) (hac : ac ≤ 20) (hgo : pm_go K f [(40, 0)] 0 [] = some (a', sp', b)) (hf : f ≤ 1000) (ha : a' ≤ 60)
    (h5 : ac = 20 → post 5 (nI c, nI ac, (-1), nI oc, f_draftOpen, f_symbolCount, f_stepCount, f_bindingCount, f_waitingCount, f_clashPlace, f_nodeCount, f_todoCount, a_kinds, a_values, a_declaredSize, a_declaredNodes, a_draftSize, a_draftNodes, a_symbols, a_symbolPlaces, a_steps, a_stepPlaces, a_bindings, a_boundType, a_waitingTypes, a_waitingFirm, a_shape, a_left, a_right, a_link, a_note, a_todo, a_todoOther, a_generalNode))
    (h1 : ac < 20 → (b = false ∨ a' ≠ c) → xd_Z 1 c ac oc (nI a') post a_kinds a_values a_declaredSize a_declaredNodes)
    (h2 : ac < 20 → b = true → a' = c → ∀ q, q < 24 → gn_N K N mq dc sp' [] [] (some q) → xd_Z 2 c ac oc (nI q) post a_kinds a_values a_declaredSize a_declaredNodes)
    (h3 : ac < 20 → b = true → a' = c → gn_N K N mq dc sp' [] [] none → ∀ q, q < 24 → gc_C K N mq (Dc_U dc) sp' [] [] (fun ν st E => ν.length = oc ∧ st = [] ∧ E = []) (some q) → xd_Z 3 c ac oc (nI q) post a_kinds a_values a_declaredSize a_declaredNodes)
    (hA : ac < 20 → b = true → a' = c → gn_N K N mq dc sp' [] [] none → gc_C K N mq (Dc_U dc) sp' [] [] (fun ν st E => ν.length = oc ∧ st = [] ∧ E = []) none → ∀ nl n kd pa pb t fl g V, K 1 = 3 → N 1 < 12 → gd_E K N mq (Dc_U dc) sp' [] [] (fun ν st E => ν.length = oc ∧ st = [] ∧ E = []) = ([(1, fl)], [], V) → rp_I oc nl n kd pa pb (List.range oc) [] [t] [(1, fl)] V → n ≤ 2500 → (∀ i, i < n → kd i ≤ 1000) → gr_V n kd pa pb g → gr_gen n kd g →
      ((∃ v, v < 12 ∧ 12 < (xo_L dc g (N 1) t v).length) → xd_Z 4 c ac oc (nI c) post a_kinds a_values a_declaredSize a_declaredNodes) ∧
      ((∀ v, v < 12 → (xo_L dc g (N 1) t v).length ≤ 12) → ∀ sz nd, (∀ v, v < 12 → sz v = nI (nm_d (xo_c kd) (xo_L dc g (N 1) t) v).length ∧ ∀ (k x : Nat), (nm_d (xo_c kd) (xo_L dc g (N 1) t) v)[k]? = some x → nd (v * 12 + k) = nI x) → xd_Z 0 0 (ac + 1) (nm_S (xo_c kd) (xo_L dc g (N 1) t) 12).length (-1) post a_kinds a_values sz nd)) :
    wpX_declare post (nI c, nI ac, f_lastPlace, nI oc, f_draftOpen, f_symbolCount, f_stepCount, f_bindingCount, f_waitingCount, f_clashPlace, f_nodeCount, f_todoCount, a_kinds, a_values, a_declaredSize, a_declaredNodes, a_draftSize, a_draftNodes, a_symbols, a_symbolPlaces, a_steps, a_stepPlaces, a_bindings, a_boundType, a_waitingTypes, a_waitingFirm, a_shape, a_left, a_right, a_link, a_note, a_todo, a_todoOther, a_generalNode) := by
  have c24 := hT.1
  by_cases c20 : ac = 20
  · exact br_f (by rw [c20]; decide) (h5 c20)
  have a20 : ac < 20 := by omega
  refine br_t (nI_lt a20 (by decide)) ?_
  refine xw_syntax hT (Or.inl rfl) hgo hf (fun eb ea l48 sc sy pl sts spl hsp => ?_) (fun hb sc stc sy pl sts spl => ?_)
  · have gd := pm_run0 (N := N) (Dc := Dc_U dc) (oc := oc) hT.2.1 c24 hm hgo
    refine br_t (by decide) ⟨sp'.length + 1, ?_⟩
    refine xw_nf (dc := dc) hT hD hsp (by omega) sp' [] [] [] _ (0, 0, 0) _ rfl gd trivial trivial (fun x hx => by cases hx) (fun gn0 bc bd => ?_) (fun q gnq q24 bc bd => ?_)
    · refine br_t (by decide) ?_
      refine xw_begin (f_nodeCount := f_nodeCount) (gk := 7) hoc (by decide) (fun sh lf rt lk note hG => ⟨sp'.length + 1, ?_⟩)
      obtain ⟨_, _, L0, K0⟩ := gr_0 (oc := oc) (gk := 7) (Or.inl rfl)
      refine xw_tf (dc := dc) hT hD hsp (by omega) hoc sp' [] 0 oc 0 (fun _ => 7) (fun _ => 0) (fun _ => 0) [] [] [] [] _ (0, 0, 0) _ _ _ _ _ _ _ _ _ _ _ _ _ rfl gd gn0 ⟨⟨rp_0, hG, L0, K0⟩, trivial, trivial, trivial, fun x hx => (by cases hx), trivial, trivial, rfl, Nat.le_refl _, Nat.zero_le _, Nat.le_refl _⟩ (Nat.le_refl _) (fun nl' n' K' kd' pa' pb' stk' env' x' tc bd bt wt wf sh lf rt lk note td tdo gn gc0 fin hx' I => ?_) (fun q bc wc nc tc bd bt wt wf sh lf rt lk note td tdo gn gcq q24 => ?_)
      · refine br_t (by decide) ?_
        obtain ⟨⟨ff, e1⟩, e2⟩ := fin eb
        obtain ⟨⟨I1, G1, L1, K1⟩, i2, i3, i4, i5, i6, i7, i8, i9, i10, i11⟩ := I
        rw [e1] at I1 i2 i3 i5
        rw [e2] at i8
        have es : stk' = [] := List.eq_nil_of_length_eq_zero i8.symm
        subst es
        have le := I1.2.2.2.2.1
        obtain ⟨t, r, ee⟩ := ls_1 (l := env') (by rw [← le]; exact Nat.le_refl _)
        have er : r = [] := by
          rw [ee] at le
          simpa using le
        subst er ee
        have bq := i5 (1, ff) List.mem_cons_self
        have k3 : K 1 = 3 := bq.2
        have nv := (hT.2.2 1 bq.1).2.2.1 k3
        have n25 : n' ≤ 2500 := by
          rcases hx' with z | z
          · omega
          · rw [z] at i9
            have : n' ≤ oc + 0 := i9
            omega
        have hk : ∀ i, i < n' → kd' i ≤ 1000 := fun i hi => by rcases G1 i hi with z | z <;> omega
        have A := I1.2.1
        have tn : t < n' := I1.2.2.2.1 t List.mem_cons_self
        obtain ⟨g, vg, gg⟩ := gr_ex A (fun i => tr_at (1001 + i))
        have hV : dv_st (gd_E K N mq (Dc_U dc) sp' [] [] (fun ν st E => ν.length = oc ∧ st = [] ∧ E = [])).2.2 := ds_E ds_Dc sp' [] [] _ (fun ν st E ⟨h1, h2, h3⟩ => ⟨by rw [List.length_map]; exact h1, by rw [h2]; rfl, by rw [h3]; rfl⟩)
        have eE : gd_E K N mq (Dc_U dc) sp' [] [] (fun ν st E => ν.length = oc ∧ st = [] ∧ E = []) = ([(1, ff)], [], (gd_E K N mq (Dc_U dc) sp' [] [] (fun ν st E => ν.length = oc ∧ st = [] ∧ E = [])).2.2) := Prod.ext e1 (Prod.ext e2 rfl)
        obtain ⟨hA1, hA2⟩ := hA a20 eb ea gn0 gc0 nl' n' kd' pa' pb' t ff g _ k3 nv.2 eE I1 n25 hk vg gg
        refine xw_draftTypes (dc := dc) (nw := N 1) i11 n25 hk tn i3.1 nv.1 nv.2 hD (xo_F I1 hV n25 hk vg gg) I1.1 A G1 L1 K1 vg gg (fun hb dop nc tc ds dn sh lf rt lk note td tdo gn => ?_) (fun hl nc tc ds dn sh lf rt lk note td tdo gn hds => ?_)
        · exact br_t rfl (hA1 hb _ _ _ _ _ _ _ _ _ _ _ _ _ _ _ _ _ _ _ _ _ _ _ _ _ _)
        · refine br_f (by decide) (xw_keepDraft (fun sz nd q1 q2 => ?_))
          have q := hA2 hl sz nd (fun v hv => ?_)
          · rw [nI_1 ac]
            exact q _ _ _ _ _ _ _ _ _ _ _ _ _ _ _ _ _ _ _ _ _ _ _ _ _ _
          · obtain ⟨z1, z2⟩ := hds v hv
            refine ⟨by rw [q1 v hv]; exact z1, fun k x hx => ?_⟩
            have kl : k < 12 := by
              have := (List.getElem?_eq_some_iff.mp hx).1
              have e : (nm_d (xo_c kd') (xo_L dc g (N 1) t) v).length = (xo_L dc g (N 1) t v).length := nm_l_len _ _ _
              have := hl v hv
              omega
            rw [q2 _ (by omega)]
            exact z2 k x hx
      · exact br_f (nI_pos (by omega)) (h3 a20 eb ea gn0 q q24 gcq _ _ _ _ _ _ _ _ _ _ _ _ _ _ _ _ _ _ _ _ _ _ _ _ _ _)
    · exact br_f (nI_pos (by omega)) (h2 a20 eb ea q q24 gnq _ _ _ _ _ _ _ _ _ _ _ _ _ _ _ _ _ _ _ _ _ _ _ _ _ _)
  · refine br_f (nI_pos (by omega)) (h1 a20 ?_ _ _ _ _ _ _ _ _ _ _ _ _ _ _ _ _ _ _ _ _ _ _ _ _ _ _)
    rcases hb with z | z
    · exact Or.inl z
    · exact Or.inr (by omega)
end
