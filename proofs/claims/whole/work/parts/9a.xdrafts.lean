/-! the component writes all types out -/
/-- what the component's types and the reference's labels have to do with each other: clY, LY the reference's labels, s their names in the component -/
def xf_F (oc n0 nw tX : Nat) (kd0 : Nat → Nat) (g0 : Nat → tr_T) (dc : Nat → List Nat) (clY : Nat → Bool) (LY : Nat → List Nat) (s : Nat → Nat) (Lb : Nat → Prop) (OY : Nat → List Nat) (GY : Nat → Nat → Nat) : Prop :=
  tr_pre (g0 tX) = (LY nw).map s ∧ (∀ v, v < 12 → v ≠ nw → dc v ≠ [] → LY v = (dc v).flatMap (cd_lb OY (fun k => [GY v k]))) ∧ (∀ v, v < 12 → v ≠ nw → dc v = [] → LY v = []) ∧
  (∀ o, o < oc → tr_pre (g0 o) = (OY o).map s) ∧ (∀ x, x < 7 → s x = x) ∧ (∀ x y, Lb x → Lb y → s x = s y → x = y) ∧
  (∀ o, o < oc → ∀ x, x ∈ OY o → x < 7 ∨ (7 ≤ x ∧ Lb x ∧ clY x = false ∧ 1001 ≤ s x ∧ s x - 1001 < n0 ∧ kd0 (s x - 1001) = 7)) ∧
  (∀ x, x ∈ LY nw → x < 7 ∨ (7 ≤ x ∧ Lb x ∧ 1001 ≤ s x ∧ s x - 1001 < n0 ∧ (kd0 (s x - 1001) = 8 ↔ clY x = true))) ∧
  (∀ v, v < 12 → v ≠ nw → ∀ c, c ∈ dc v → 10 ≤ c → c < 100 → 7 ≤ GY v (c - 10) ∧ clY (GY v (c - 10)) = true) ∧
  (∀ v, v < 12 → v ≠ nw → ∀ c d, c ∈ dc v → d ∈ dc v → 10 ≤ c → c < 100 → 10 ≤ d → d < 100 → GY v (c - 10) = GY v (d - 10) → c = d)
/-- where the writing stands at name v -/
def xf_I (n0 K nw : Nat) (kd0 pa0 pb0 : Nat → Nat) (g0 : Nat → tr_T) (clY : Nat → Bool) (LY : Nat → List Nat) (s : Nat → Nat) (Lb : Nat → Prop) (v n : Nat) (kd pa pb : Nat → Nat) (g : Nat → tr_T) (so : List Nat) (nt : Nat → Nat) (sh lf rt lk note ds dn : Nat → Int32) : Prop :=
  n0 ≤ n ∧ n ≤ n0 + 12 * v ∧ gr_same n0 kd0 pa0 pb0 kd pa pb ∧ gr_W n kd pa pb ∧ gr_A n kd pa pb ∧ xg_G n sh lf rt lk kd pa pb ∧ gr_L n kd pa K ∧ K + gr_nr kd n ≤ n ∧ gr_V n kd pa pb g ∧ gr_gen n kd g ∧ (∀ i, i < n0 → g i = g0 i) ∧
  ix_R (fun x x' => Lb x ∧ x' = s x) (nm_S clY LY v) so ∧ so.length ≤ 12 * v ∧ (∀ i, i < n → note i = nI (nt i)) ∧ (∀ i, i < n → kd i = 7 → nt i = dn_x (1001 + i) so) ∧ (∀ x, x ∈ so → x < 1001 + n0) ∧ (v ≤ nw → ∀ i, i < n0 → kd i = 8 → nt i = 0) ∧
  (∀ w, w < v → (LY w).length ≤ 12 ∧ ds w = nI (nm_d clY LY w).length ∧ ∀ (k x : Nat), (nm_d clY LY w)[k]? = some x → dn (w * 12 + k) = nI x)
section
variable {f_tokenCount f_accepted f_lastPlace f_openCount f_draftOpen f_symbolCount f_stepCount f_bindingCount f_waitingCount f_clashPlace f_nodeCount f_todoCount : Int32} {a_kinds a_values a_declaredSize a_declaredNodes a_draftSize a_draftNodes a_symbols a_symbolPlaces a_steps a_stepPlaces a_bindings a_boundType a_waitingTypes a_waitingFirm a_shape a_left a_right a_link a_note a_todo a_todoOther a_generalNode : Nat → Int32}
variable {oc n0 K nw tX : Nat} {kd0 pa0 pb0 : Nat → Nat} {g0 : Nat → tr_T} {dc : Nat → List Nat} {clY : Nat → Bool} {LY : Nat → List Nat} {s : Nat → Nat} {Lb : Nat → Prop} {OY : Nat → List Nat} {GY : Nat → Nat → Nat}
theorem nm_so_len {cl : Nat → Bool} : ∀ (l so : List Nat), (nm_so cl so l).length ≤ so.length + l.length := by
  intro l
  induction l with
  | nil => intro s; exact Nat.le_refl _
  | cons y l ih =>
    intro s
    have q := ih (nm_o cl s y)
    have : (nm_o cl s y).length ≤ s.length + 1 := by
      unfold nm_o ix_add
      by_cases c1 : y < 7 ∨ cl y = true
      · rw [if_pos c1]; omega
      · rw [if_neg c1]
        by_cases c2 : y ∈ s
        · rw [if_pos c2]; omega
        · rw [if_neg c2, List.length_append]; exact Nat.le_refl _
    show (nm_so cl (nm_o cl s y) l).length ≤ _
    rw [List.length_cons]
    omega
/-- one type written: the rest of the step, new or old -/
theorem xf_step {v n : Nat} {kd pa pb : Nat → Nat} {g : Nat → tr_T} {so : List Nat} {nt nt' : Nat → Nat} {T : List Nat} {sh lf rt lk note ds0 dn0 ds dn : Nat → Int32} (I : n0 ≤ n ∧ n ≤ n0 + 12 * (v + 1) ∧ gr_same n0 kd0 pa0 pb0 kd pa pb ∧ gr_W n kd pa pb ∧ gr_A n kd pa pb ∧ xg_G n sh lf rt lk kd pa pb ∧ gr_L n kd pa K ∧ K + gr_nr kd n ≤ n ∧ gr_V n kd pa pb g ∧ gr_gen n kd g ∧ (∀ i, i < n0 → g i = g0 i))
    (hs1 : so.length ≤ 12 * v) (hso : ∀ x, x ∈ so → x < 1001 + n0) (h8 : v ≤ nw → ∀ i, i < n0 → kd i = 8 → nt i = 0) (hw : ∀ w, w < v → (LY w).length ≤ 12 ∧ ds0 w = nI (nm_d clY LY w).length ∧ ∀ (k x : Nat), (nm_d clY LY w)[k]? = some x → dn0 (w * 12 + k) = nI x)
    (hlen : T.length = (LY v).length) (h12 : T.length ≤ 12) (code : nm_l (kp_c kd) so [] T = nm_d clY LY v) (R : ix_R (fun x x' => Lb x ∧ x' = s x) (nm_S clY LY (v + 1)) (nm_so (kp_c kd) so T)) (hT7 : ∀ x, x ∈ T → x < 7 ∨ kp_c kd x = true ∨ x < 1001 + n0) (hv8 : v + 1 ≤ nw → ∀ i, i < n0 → kd i = 8 → 1001 + i ∉ T)
    (N' : dn_N n kd nt' (nm_so (kp_c kd) so T) (nm_sg (kp_c kd) [] T) (fun i => 1001 + i ∈ T)) (hno : ∀ i, i < n → note i = nI (nt' i)) (hun : ∀ i, i < n → 1001 + i ∉ T → nt' i = nt i) (d1 : ds v = nI T.length) (d2 : ∀ w, w ≠ v → ds w = ds0 w) (d3 : ∀ (k x : Nat), (nm_l (kp_c kd) so [] T)[k]? = some x → dn (v * 12 + k) = nI x) (d4 : ∀ j, j < v * 12 → dn j = dn0 j) :
    xf_I n0 K nw kd0 pa0 pb0 g0 clY LY s Lb (v + 1) n kd pa pb g (nm_so (kp_c kd) so T) nt' sh lf rt lk note ds dn := by
  obtain ⟨i1, i2, i3, i4, i5, i6, i7, i8, i9, i10, i11⟩ := I
  have ls := nm_so_len (cl := kp_c kd) T so
  refine ⟨i1, i2, i3, i4, i5, i6, i7, i8, i9, i10, i11, R, by omega, hno, fun i hi c => (N' i hi).1 c, fun x hx => ?_, fun h i hi c => ?_, fun w hw' => ?_⟩
  · rcases (nm_so_mem _ _).mp hx with z | ⟨z1, z2, z3⟩
    · exact hso x z
    · rcases hT7 x z1 with y | y | y
      · omega
      · rw [y] at z3; cases z3
      · exact y
  · rw [hun i (by omega) (hv8 h i hi c)]; exact h8 (by omega) i hi c
  · by_cases c : w = v
    · subst c
      refine ⟨by omega, ?_, ?_⟩
      · rw [d1, ← code, nm_l_len]
      · rw [← code]; exact d3
    · obtain ⟨q1, q2, q3⟩ := hw w (by omega)
      refine ⟨q1, by rw [d2 w c]; exact q2, fun k x hx => ?_⟩
      have kl : k < 12 := by
        have := (List.getElem?_eq_some_iff.mp hx).1
        have e : (nm_d clY LY w).length = (LY w).length := nm_l_len _ _ _
        omega
      have : w * 12 + k < v * 12 := by
        have : w + 1 ≤ v := by omega
        have := Nat.mul_le_mul_right 12 this
        omega
      rw [d4 _ this]; exact q3 k x hx
theorem xw_draftTypes_l {post : Int32 → SX → Prop} (hoc : oc ≤ n0) (hn0 : n0 ≤ 2500) (hk0 : ∀ i, i < n0 → kd0 i ≤ 1000) (htX : tX < n0) (hbt : a_boundType 1 = nI tX) (hval : a_values 1 = nI nw) (hnw : nw < 12) (hD : xd_D oc dc a_declaredSize a_declaredNodes) (FF : xf_F oc n0 nw tX kd0 g0 dc clY LY s Lb OY GY)
    (hbig : (∃ v, v < 12 ∧ 12 < (LY v).length) → ∀ dop nc tc ds dn sh lf rt lk note td tdo gn, post 0 (f_tokenCount, f_accepted, f_lastPlace, f_openCount, dop, f_symbolCount, f_stepCount, f_bindingCount, f_waitingCount, f_clashPlace, nc, tc, a_kinds, a_values, a_declaredSize, a_declaredNodes, ds, dn, a_symbols, a_symbolPlaces, a_steps, a_stepPlaces, a_bindings, a_boundType, a_waitingTypes, a_waitingFirm, sh, lf, rt, lk, note, td, tdo, gn))
    (hok : (∀ v, v < 12 → (LY v).length ≤ 12) → ∀ nc tc ds dn sh lf rt lk note td tdo gn, (∀ v, v < 12 → ds v = nI (nm_d clY LY v).length ∧ ∀ (k x : Nat), (nm_d clY LY v)[k]? = some x → dn (v * 12 + k) = nI x) → post 1 (f_tokenCount, f_accepted, f_lastPlace, f_openCount, nI (nm_S clY LY 12).length, f_symbolCount, f_stepCount, f_bindingCount, f_waitingCount, f_clashPlace, nc, tc, a_kinds, a_values, a_declaredSize, a_declaredNodes, ds, dn, a_symbols, a_symbolPlaces, a_steps, a_stepPlaces, a_bindings, a_boundType, a_waitingTypes, a_waitingFirm, sh, lf, rt, lk, note, td, tdo, gn)) :
    ∀ d v n kd pa pb g so nt tc ds dn sh lf rt lk note td tdo gn, v + d = 12 → xf_I n0 K nw kd0 pa0 pb0 g0 clY LY s Lb v n kd pa pb g so nt sh lf rt lk note ds dn → wX_draftTypes_11 post (d + 1) (nI v) f_tokenCount f_accepted f_lastPlace f_openCount (nI so.length) f_symbolCount f_stepCount f_bindingCount f_waitingCount f_clashPlace (nI n) tc a_kinds a_values a_declaredSize a_declaredNodes ds dn a_symbols a_symbolPlaces a_steps a_stepPlaces a_bindings a_boundType a_waitingTypes a_waitingFirm sh lf rt lk note td tdo gn := by
  obtain ⟨F1, F2, F3, F4, F5, F6, F7, F8, F9, F10⟩ := FF
  intro d
  induction d with
  | zero =>
    intro v n kd pa pb g so nt tc ds dn sh lf rt lk note td tdo gn hv I
    have e : v = 12 := by omega
    subst e
    obtain ⟨i1, i2, i3, i4, i5, i6, i7, i8, i9, i10, i11, i12, i13, i14, i15, i16, i17, i18⟩ := I
    refine br_t (Int32.le_refl _) ?_
    rw [← i12.1]
    exact hok (fun v hv => (i18 v hv).1) _ _ ds dn sh lf rt lk note td tdo gn (fun v hv => (i18 v hv).2)
  | succ d ih =>
    intro v n kd pa pb g so nt tc ds dn sh lf rt lk note td tdo gn hv I
    obtain ⟨i1, i2, i3, i4, i5, i6, i7, i8, i9, i10, i11, i12, i13, i14, i15, i16, i17, i18⟩ := id I
    have vv : vp_in (nI v) 12 := vp_in_nI (by omega) (by decide)
    have cv : (nI v).toNatClampNeg = v := nI_clamp (by omega)
    have nr := gr_nr_le (kd := kd) n
    refine br_f (nI_ge (b := 12) (by omega) (by decide)) ⟨vv, ?_⟩
    rw [cv]
    refine nm_e ?_
    rw [hval]
    have clk : ∀ i, i < n0 → kp_c kd (1001 + i) = decide (kd0 i = 8) := fun i hi => by
      unfold kp_c
      rw [Nat.add_sub_cancel_left, (i3 i hi).1]
    by_cases c : v = nw
    · subst c
      refine br_t rfl ?_
      unfold wX_draftTypes_39
      refine br_f (by decide) ?_
      unfold wX_draftTypes_53
      refine br_f (by decide) ?_
      unfold wX_draftTypes_73
      rw [hbt]
      have eT : tr_pre (g tX) = (LY v).map s := by rw [i11 tX htX]; exact F1
      have lab : ∀ y, y ∈ tr_pre (g tX) → y < 7 ∨ (1001 ≤ y ∧ y - 1001 < n0) := fun y hy => by
        rw [eT] at hy
        obtain ⟨x, hx, e⟩ := List.mem_map.mp hy
        rcases F8 x hx with z | ⟨z1, z2, z3, z4, z5⟩
        · rw [← e, F5 x z]; exact Or.inl z
        · rw [← e]; exact Or.inr ⟨z3, z4⟩
      have fam := fam_new (clX := kp_c kd) (clY := clY) (s := s) (Lb := Lb) (LY := LY v) (fun x hx => ?_) F6 (soY := nm_S clY LY v) (soX := so) i12
      · refine xw_draftType (T := tr_pre (g tX)) rfl (by omega) i4 i6 i7 (by omega) i9 i10 (by omega) (by omega) (fun y hy => (lab y hy).elim Or.inl (fun z => Or.inr z.1)) pk_us i14 (fun i hi => ⟨i15 i hi, fun c8 q => ?_⟩) (by omega) (fun hb dop tc ds dn note td tdo => ?_) (fun h12 nt' tc2 ds2 dn2 note2 td2 tdo2 N' hno hun d1 d2 d3 d4 => ?_)
        · have := lab _ q
          rw [dn_x0 (by simp)]
          exact i17 (Nat.le_refl _) i (by omega) c8
        · refine br_t rfl (hbig ⟨v, by omega, ?_⟩ _ _ _ _ _ _ _ _ _ _ _ _ _)
          rw [eT, List.length_map] at hb; exact hb
        · refine br_f (by decide) (nm_r (nI_1 v) (ih (v + 1) n kd pa pb g _ nt' _ _ _ _ _ _ _ _ _ _ _ (by omega) ?_))
          rw [eT] at N' hun d1 d3 h12 ⊢
          refine xf_step (ds0 := ds) (dn0 := dn) ⟨i1, by omega, i3, i4, i5, i6, i7, i8, i9, i10, i11⟩ i13 i16 i17 i18 (by rw [List.length_map]) h12 fam.1 fam.2 (fun y hy => ?_) (fun h => by omega) N' hno hun d1 (fun w hw => by rw [d2 w hw, pk_un hw]) d3 d4
          have := lab y (by rw [eT]; exact hy)
          omega
      · rcases F8 x hx with z | ⟨z1, z2, z3, z4, z5⟩
        · exact Or.inl ⟨z, F5 x z⟩
        · refine Or.inr ⟨z1, z2, by omega, ?_⟩
          have := clk (s x - 1001) z4
          rw [show 1001 + (s x - 1001) = s x by omega] at this
          rw [this]
          cases h : clY x with
          | true => exact decide_eq_true (z5.mpr h)
          | false => exact decide_eq_false (fun q => by rw [z5.mp q] at h; cases h)
    · refine br_f (fun z => c ((nI_eq (by omega) (by omega)).mp z)) ?_
      unfold wX_draftTypes_39
      refine br_t rfl ⟨vv, ?_⟩
      obtain ⟨D1, D2, D3, D4⟩ := hD v (by omega)
      rw [cv, D1]
      by_cases e0 : dc v = []
      · rw [e0]
        have eL := F3 v (by omega) c e0
        refine br_t (Int32.le_refl _) (nm_r (nI_1 v) (ih (v + 1) n kd pa pb g so nt _ _ _ _ _ _ _ _ _ _ _ (by omega) ⟨i1, by omega, i3, i4, i5, i6, i7, i8, i9, i10, i11, ?_, by omega, i14, i15, i16, fun h => i17 (by omega), fun w hw => ?_⟩))
        · have e : nm_S clY LY (v + 1) = nm_S clY LY v := by
            show nm_so clY (nm_S clY LY v) (LY v) = _
            rw [eL]; rfl
          rw [e]; exact i12
        · by_cases cw : w = v
          · subst cw
            have en : nm_d clY LY w = [] := by unfold nm_d; rw [eL]; rfl
            rw [eL, en, pk_us]
            exact ⟨Nat.zero_le _, rfl, fun k x hx => by cases hx⟩
          · rw [pk_un cw]; exact i18 w (by omega)
      · obtain ⟨wf, one⟩ := D3 e0
        have lp : 0 < (dc v).length := List.length_pos_iff.mpr e0
        refine br_f (nI_nle lp (by omega)) ?_
        unfold wX_draftTypes_53
        refine br_t rfl ?_
        refine xw_declaredn (gk := 8) (oc := oc) (codes := dc v) (by omega) D1 D4 D2 wf one (by omega) (Or.inr rfl) (by omega) i4 i5 i6 i7 i8 (fun n' kd' pa' pb' gn' t sh' lf' rt' lk' note' td' tdo' gna' tc' hn' xN bd hG' hL' hK' => ?_)
        obtain ⟨e1, e2, e3, e4, e5, e6, e7, e8, e9, e10, e11⟩ := bd
        unfold wX_draftTypes_73
        obtain ⟨g', v', gg'⟩ := gr_ex e4 (fun i => tr_at (1001 + i))
        have gold : ∀ i, i < n → g' i = g i := fun i hi => by
          have vr : gr_V n kd pa pb g' := (gr_V_s e2).mp (fun j hj => v' j (by omega))
          refine gr_agA i5 vr i9 (gr_Ca i4) (fun j hj cj => ?_) hi
          rw [gg' j (by have : j < n := hj; omega) (by rw [(e2 j hj).1]; exact cj), i10 j hj cj]
        have g0' : ∀ i, i < n0 → g' i = g0 i := fun i hi => by rw [gold i (by omega), i11 i hi]
        have nr' := gr_nr_le (kd := kd') n'
        have tn' : t < n' := by
          rcases e6 t List.mem_cons_self with z | z
          · omega
          · exact z.2
        have evT := e10 g' v'
        have pT := cd_pre (ν := g') (γ := fun k => ((gn' k).map g').getD (tr_at 0)) (dc v) wf
        rw [← evT, List.map_cons, List.map_nil, List.flatMap_cons, List.flatMap_nil, List.append_nil] at pT
        have gx : ∀ cc, cc ∈ dc v → 10 ≤ cc → cc < 100 → ∃ y, gn' (cc - 10) = some y := fun cc hc h1 h2 => by
          cases h : gn' (cc - 10) with
          | none => exact (e9 cc hc h1 h2 h).elim
          | some y => exact ⟨y, rfl⟩
        have eT : tr_pre (g' t) = (dc v).flatMap (cd_lb (fun o => tr_pre (g0 o)) (fun k => [1001 + (gn' k).getD 0])) := by
          rw [pT]
          have rng : ∀ cs : List Nat, cd_wf oc cs → ∀ c, c ∈ cs → c < 7 ∨ (10 ≤ c ∧ c < 22) ∨ (100 ≤ c ∧ c < 100 + oc) := by
            intro cs
            induction cs with
            | nil => intro _ c hc; cases hc
            | cons d cs ih =>
              intro ⟨a, b, e⟩ c hc
              rcases List.mem_cons.mp hc with z | z
              · rw [z]; exact a
              · exact ih e c z
          refine fm_cg _ (fun cc hc => ?_)
          have r := rng _ wf cc hc
          unfold cd_lb
          by_cases c1 : 100 ≤ cc
          · rw [if_pos c1, if_pos c1]
            show tr_pre (g' (cc - 100)) = tr_pre (g0 (cc - 100))
            rw [g0' _ (by omega)]
          · rw [if_neg c1, if_neg c1]
            by_cases c2 : 10 ≤ cc
            · rw [if_pos c2, if_pos c2]
              obtain ⟨y, hy⟩ := gx cc hc c2 (by omega)
              show tr_pre (((gn' (cc - 10)).map g').getD (tr_at 0)) = [1001 + (gn' (cc - 10)).getD 0]
              rw [hy]
              obtain ⟨y1, y2, y3⟩ := e7 _ _ hy
              show tr_pre (g' y) = [1001 + y]
              rw [gg' y y2 (Or.inr y3), tr_pre_at]
            · rw [if_neg c2, if_neg c2]
        have gk : ∀ cc, cc ∈ dc v → 10 ≤ cc → cc < 100 → n ≤ (gn' (cc - 10)).getD 0 ∧ (gn' (cc - 10)).getD 0 < n' ∧ kd' ((gn' (cc - 10)).getD 0) = 8 := fun cc hc h1 h2 => by
          obtain ⟨y, hy⟩ := gx cc hc h1 h2
          rw [hy]; exact e7 _ _ hy
        have kdo : ∀ i, i < n0 → kd' i = kd0 i := fun i hi => by rw [(e2 i (by omega)).1, (i3 i hi).1]
        have lab : ∀ y, y ∈ tr_pre (g' t) → y < 7 ∨ (1001 ≤ y ∧ y - 1001 < n0 ∧ kd' (y - 1001) = 7) ∨ (1001 ≤ y ∧ n ≤ y - 1001 ∧ y - 1001 < n' ∧ kd' (y - 1001) = 8) := fun y hy => by
          rw [eT] at hy
          obtain ⟨cc, hc, hy⟩ := List.mem_flatMap.mp hy
          unfold cd_lb at hy
          by_cases c1 : 100 ≤ cc
          · rw [if_pos c1] at hy
            have oo : cc - 100 < oc := cd_wf_op _ wf cc hc c1
            have hy : y ∈ tr_pre (g0 (cc - 100)) := hy
            rw [F4 _ oo] at hy
            obtain ⟨x, hx, e⟩ := List.mem_map.mp hy
            rcases F7 _ oo x hx with z | ⟨z1, z2, z3, z4, z5, z6⟩
            · rw [← e, F5 x z]; exact Or.inl z
            · rw [← e]; exact Or.inr (Or.inl ⟨z4, z5, by rw [kdo _ z5]; exact z6⟩)
          · rw [if_neg c1] at hy
            by_cases c2 : 10 ≤ cc
            · rw [if_pos c2] at hy
              have q := gk cc hc c2 (by omega)
              have e : y = 1001 + (gn' (cc - 10)).getD 0 := List.mem_singleton.mp hy
              rw [e, Nat.add_sub_cancel_left]
              exact Or.inr (Or.inr ⟨by omega, q.1, q.2.1, q.2.2⟩)
            · rw [if_neg c2] at hy
              have e : y = cc := List.mem_singleton.mp hy
              rw [e]
              have rng : ∀ cs : List Nat, cd_wf oc cs → ∀ c, c ∈ cs → c < 7 ∨ 10 ≤ c := by
                intro cs
                induction cs with
                | nil => intro _ c hc; cases hc
                | cons d cs ih =>
                  intro ⟨a, b, e⟩ c hc
                  rcases List.mem_cons.mp hc with z | z
                  · omega
                  · exact ih e c z
              have := rng _ wf cc hc
              exact Or.inl (by omega)
        have fam := fam_old (clX := kp_c kd') (clY := clY) (s := s) (Lb := Lb) (OX := fun o => tr_pre (g0 o)) (OY := OY) (GX := fun k => 1001 + (gn' k).getD 0) (GY := GY v) (oc := oc) (cs := dc v) wf F4 F5 (fun o ho x hx => ?_) F6 (fun cc hc h1 h2 => ?_) (F10 v (by omega) c) (fun cc dd hc hd h1 h2 h3 h4 e => ?_) (soY := nm_S clY LY v) (soX := so) i12
        · rw [← eT, ← F2 v (by omega) c e0] at fam
          have hlen : (tr_pre (g' t)).length = (LY v).length := by
            have := congrArg List.length fam.1
            rw [nm_l_len, nm_l_len] at this
            exact this
          refine xw_draftType (T := tr_pre (g' t)) (nt := fun i => if i < n then nt i else 0) rfl (by omega) e3 hG' hL' (by omega) v' gg' tn' (by omega) (fun y hy => by have := lab y hy; omega) pk_us (fun i hi => ?_) (fun i hi => ⟨fun c7 => ?_, fun c8 q => ?_⟩) (by omega) (fun hb dop tc ds dn note td tdo => ?_) (fun h12 nt' tc2 ds2 dn2 note2 td2 tdo2 N' hno hun d1 d2 d3 d4 => ?_)
          · show _ = nI (if i < n then nt i else 0)
            by_cases z : i < n
            · rw [if_pos z, xN.1 i z]; exact i14 i z
            · rw [if_neg z]; exact xN.2 i (by omega) hi
          · show (if i < n then nt i else 0) = _
            by_cases z : i < n
            · rw [if_pos z]
              exact i15 i z (by rw [← (e2 i z).1]; exact c7)
            · rw [if_neg z, dn_x0 (fun q => by have := i16 _ q; omega)]
          · rcases lab _ q with z | z | z
            · omega
            · rw [Nat.add_sub_cancel_left] at z; omega
            · rw [Nat.add_sub_cancel_left] at z
              have zz : ¬ i < n := by omega
              show (if i < n then nt i else 0) = _
              rw [if_neg zz, dn_x0 (by simp)]
          · refine br_t rfl (hbig ⟨v, by omega, ?_⟩ _ _ _ _ _ _ _ _ _ _ _ _ _)
            rw [← hlen]; exact hb
          · refine br_f (by decide) (nm_r (nI_1 v) (ih (v + 1) n' kd' pa' pb' g' _ nt' _ _ _ _ _ _ _ _ _ _ _ (by omega) ?_))
            refine xf_step (ds0 := ds) (dn0 := dn) (nt := fun i => if i < n then nt i else 0) ⟨by omega, by omega, fun i hi => ?_, e3, e4, hG', hL', hK', v', gg', g0'⟩ i13 i16 (fun h i hi c8 => ?_) i18 hlen h12 fam.1 fam.2 (fun y hy => ?_) (fun h i hi c8 q => ?_) N' hno hun d1 (fun w hw => by rw [d2 w hw, pk_un hw]) d3 d4
            · obtain ⟨y1, y2, y3⟩ := e2 i (by omega)
              obtain ⟨x1, x2, x3⟩ := i3 i hi
              exact ⟨y1.trans x1, y2.trans x2, y3.trans x3⟩
            · have zz : i < n := by omega
              show (if i < n then nt i else 0) = 0
              rw [if_pos zz]
              exact i17 h i hi (by rw [← (e2 i zz).1]; exact c8)
            · rcases lab y hy with z | z | z
              · exact Or.inl z
              · exact Or.inr (Or.inr (by omega))
              · refine Or.inr (Or.inl ?_)
                unfold kp_c
                rw [z.2.2.2]; rfl
            · rcases lab _ q with z | z | z
              · omega
              · rw [Nat.add_sub_cancel_left] at z; omega
              · rw [Nat.add_sub_cancel_left] at z; omega
        · rcases F7 o ho x hx with z | ⟨z1, z2, z3, z4, z5, z6⟩
          · exact Or.inl z
          · refine Or.inr ⟨z1, z2, z3, by omega, ?_⟩
            unfold kp_c
            rw [kdo _ z5, z6]; rfl
        · obtain ⟨q1, q2⟩ := F9 v (by omega) c cc hc h1 h2
          refine ⟨q1, q2, by omega, ?_⟩
          unfold kp_c
          rw [Nat.add_sub_cancel_left, (gk cc hc h1 h2).2.2]; rfl
        · obtain ⟨y, hy⟩ := gx cc hc h1 h2
          obtain ⟨z, hz⟩ := gx dd hd h3 h4
          have e' : 1001 + (gn' (cc - 10)).getD 0 = 1001 + (gn' (dd - 10)).getD 0 := e
          rw [hy, hz] at e'
          have e2' : 1001 + y = 1001 + z := e'
          have e3' : y = z := by omega
          rw [e3'] at hy
          have := e8 _ _ _ hy hz
          omega
end
