/-! the relation, and declare -/
theorem syn_a {c f goal a' : Nat} {Kt : Nat → Nat} {sp' : pm_L} {b : Bool} (hK : ∀ i, c ≤ i → Kt i = 99) (c24 : c ≤ 24) (hg : goal = 40 ∨ goal = 45) (hgo : pm_go Kt f [(goal, 0)] 0 [] = some (a', sp', b)) : a' ≤ 60 := by
  obtain ⟨n, hn, z, z2, z3⟩ := xm_run hK c24 f _ _ _ _ _ _ hgo (Nat.zero_le _) ⟨by unfold lg_1; show (goal < 38 ∧ 0 = 0) ∨ _; dsimp only; omega, trivial⟩ (by rcases hg with rfl | rfl <;> simp [pm_ys, pm_y, pm_h5]) (by rcases hg with rfl | rfl <;> simp [pm_cs, pm_c])
  rcases z with ⟨zb, z⟩ | ⟨zb, ss1, z, s, p, r, e, b1, b3, _⟩
  · have := z3 zb; omega
  · exact b3
/-- two families of labels give the same codes -/
theorem fam_two {clX clY : Nat → Bool} {s : Nat → Nat} {Lb : Nat → Prop} {LX LY OX OY : Nat → List Nat} {GX GY : Nat → Nat → Nat} {oc nw : Nat} {dc : Nat → List Nat} (hw : ∀ v, v < 12 → cd_wf oc (dc v)) (nX : LX nw = (LY nw).map s)
    (oX : ∀ v, v < 12 → v ≠ nw → LX v = (dc v).flatMap (cd_lb OX (fun k => [GX v k]))) (oY : ∀ v, v < 12 → v ≠ nw → LY v = (dc v).flatMap (cd_lb OY (fun k => [GY v k]))) (sO : ∀ o, o < oc → OX o = (OY o).map s) (hs7 : ∀ x, x < 7 → s x = x)
    (hO : ∀ o, o < oc → ∀ x, x ∈ OY o → x < 7 ∨ (7 ≤ x ∧ Lb x ∧ clY x = false ∧ 7 ≤ s x ∧ clX (s x) = false)) (hN : ∀ x, x ∈ LY nw → (x < 7 ∧ s x = x) ∨ (7 ≤ x ∧ Lb x ∧ 7 ≤ s x ∧ clX (s x) = clY x)) (inj : ∀ x y, Lb x → Lb y → s x = s y → x = y)
    (hG : ∀ v, v < 12 → ∀ c, c ∈ dc v → 10 ≤ c → c < 100 → 7 ≤ GY v (c - 10) ∧ clY (GY v (c - 10)) = true ∧ 7 ≤ GX v (c - 10) ∧ clX (GX v (c - 10)) = true)
    (gY : ∀ v, v < 12 → ∀ c d, c ∈ dc v → d ∈ dc v → 10 ≤ c → c < 100 → 10 ≤ d → d < 100 → GY v (c - 10) = GY v (d - 10) → c = d) (gX : ∀ v, v < 12 → ∀ c d, c ∈ dc v → d ∈ dc v → 10 ≤ c → c < 100 → 10 ≤ d → d < 100 → GX v (c - 10) = GX v (d - 10) → c = d) :
    ∀ v, v ≤ 12 → ix_R (fun x x' => Lb x ∧ x' = s x) (nm_S clY LY v) (nm_S clX LX v) ∧ ∀ w, w < v → nm_d clX LX w = nm_d clY LY w := by
  intro v
  induction v with
  | zero => intro _; exact ⟨ix_R_0, fun w hw => by omega⟩
  | succ v ih =>
    intro hv
    obtain ⟨R, hd⟩ := ih (by omega)
    have step : nm_l clX (nm_S clX LX v) [] (LX v) = nm_l clY (nm_S clY LY v) [] (LY v) ∧ ix_R (fun x x' => Lb x ∧ x' = s x) (nm_so clY (nm_S clY LY v) (LY v)) (nm_so clX (nm_S clX LX v) (LX v)) := by
      by_cases c : v = nw
      · subst c
        rw [nX]
        exact fam_new hN inj R
      · rw [oX v (by omega) c, oY v (by omega) c]
        exact fam_old (hw v (by omega)) sO hs7 hO inj (hG v (by omega)) (gY v (by omega)) (gX v (by omega)) R
    refine ⟨step.2, fun w hw => ?_⟩
    by_cases c : w = v
    · subst c; exact step.1
    · exact hd w (by omega)
/-- the component's and the reference's types after a declaration -/
theorem i_two {kc nl n nlY nY t tY nm oc : Nat} {kk ka kb rt lo hi kd pa pb kdY paY pbY : Nat → Nat} {g gX gY : Nat → tr_T} {fl : Bool} {V : dv_W} (H : ky_K kc kk ka kb rt lo hi g) (hl : yl_L kc kk ka kb (ky_o kk rt g) nY kdY paY pbY) (J : rp_I kc nlY nY kdY paY pbY (ky_o kk rt g) [] [tY] [(1, fl)] V) (vY : gr_V nY kdY paY pbY gY) (gYg : gr_gen nY kdY gY)
    (eoc : oc = (ky_o kk rt g).length) (I : rp_I oc nl n kd pa pb (List.range oc) [] [t] [(1, fl)] V) (hV : dv_st V) (hn : n ≤ 2500) (hk : ∀ i, i < n → kd i ≤ 1000) (vX : gr_V n kd pa pb gX) (gXg : gr_gen n kd gX) :
    (∀ v, v < 12 → nm_d (xo_c kd) (xo_L (ky_d kk rt g) gX nm t) v = nm_d (kp_c kdY) (kl_L (yd_rt rt nm tY) gY) v) ∧ (nm_S (xo_c kd) (xo_L (ky_d kk rt g) gX nm t) 12).length = (nm_S (kp_c kdY) (kl_L (yd_rt rt nm tY) gY) 12).length := by
  have hkY : ∀ i, i < nY → kdY i ≤ 1000 := fun i hi => by have := hl.2.2.1 i hi; omega
  obtain ⟨s, s1, s2, s3, s4, s5, s6⟩ := gx_two I hk vX gXg J hkY vY gYg
  obtain ⟨L1, L2⟩ := xo_lab J hV hkY vY gYg
  obtain ⟨W, A, ⟨M, E, ⟨hM, gM, oM, sM, eM⟩, cE, mE, eE, bE⟩, en, hlen, hP, hVV⟩ := J
  have tn : tY < nY := en tY List.mem_cons_self
  have og : ∀ o, o < oc → (ky_o kk rt g)[o]? = some ((ky_o kk rt g).getD o 0) ∧ (ky_o kk rt g).getD o 0 ∈ ky_o kk rt g := fun o ho => by
    have lt : o < (ky_o kk rt g).length := by omega
    rw [List.getD_eq_getElem?_getD, List.getElem?_eq_getElem lt]
    exact ⟨rfl, List.getElem_mem lt⟩
  have flb : ∀ y, y < nY → ∀ x, x ∈ tr_pre (gY y) → x ∈ tr_fl (gY y) := fun y hy x hx => by
    obtain ⟨f, hf⟩ := A y hy
    exact tr_pre_fl (fl_gok W vY gYg f y hy hf) hx
  have eo : ∀ v, v ≠ nm → yd_rt rt nm tY v = rt v := fun v hv => gr_un hv
  have en' : yd_rt rt nm tY nm = tY + 1 := gr_us
  have eNY : kl_L (yd_rt rt nm tY) gY nm = tr_pre (gY tY) := by
    unfold kl_L
    rw [en', if_neg (by omega), Nat.add_sub_cancel]
  have z := fam_two (clX := xo_c kd) (clY := kp_c kdY) (s := s) (Lb := fun x => ∃ y, y ∈ ky_o kk rt g ++ [tY] ∧ x ∈ tr_fl (gY y)) (LX := xo_L (ky_d kk rt g) gX nm t) (LY := kl_L (yd_rt rt nm tY) gY) (OX := fun o => tr_pre (gX o)) (OY := fun o => tr_pre (gY ((ky_o kk rt g).getD o 0))) (GX := xo_G) (GY := fun v k => 1001 + ky_g kk rt g v k) (oc := oc) (nw := nm) (dc := ky_d kk rt g)
    (fun v hv => ?_) ?_ (fun v hv h => if_neg h) (fun v hv h => ?_) (fun o ho => ?_) (fun x hx => s1 x (by omega)) (fun o ho x hx => ?_) (fun x hx => ?_) s3 (fun v hv c hc h1 h2 => ?_) (fun v hv c d hc hd h1 h2 h3 h4 e => ?_) (fun v hv c d hc hd h1 h2 h3 h4 e => ?_) 12 (Nat.le_refl _)
  · exact ⟨fun v hv => z.2 v hv, z.1.1.symm⟩
  · by_cases c : ky_d kk rt g v = []
    · rw [c]; trivial
    · rw [eoc]; exact (ky_wf H hv c).1
  · rw [eNY]
    exact (if_pos rfl : xo_L (ky_d kk rt g) gX nm t nm = tr_pre (gX t)).trans s5
  · unfold kl_L
    rw [eo v h]
    by_cases c : rt v = 0
    · rw [if_pos c, (ky_nil H hv).mpr c]; rfl
    · rw [if_neg c]; exact yl_lab H hl vY gYg hv c
  · have q := og o ho
    exact s4 o _ o (by rw [List.getElem?_range ho]) q.1
  · have q := og o ho
    rcases L2 _ q.2 x hx with z | ⟨z1, z2, z3⟩
    · exact Or.inl z
    · have lb : ∃ y, y ∈ ky_o kk rt g ++ [tY] ∧ x ∈ tr_fl (gY y) := ⟨_, List.mem_append_left _ q.2, flb _ (hM _ (oM _ q.2)).1 x hx⟩
      obtain ⟨p1, p2, p3, p4⟩ := s2 x lb z1
      refine Or.inr ⟨by omega, lb, ?_, by omega, ?_⟩
      · unfold kp_c; rw [z3]; rfl
      · unfold xo_c
        refine decide_eq_false (fun y => ?_)
        rcases y with y | y
        · omega
        · have := p2.mp y; omega
  · rw [eNY] at hx
    rcases L1 x hx with z | ⟨z1, z2⟩
    · exact Or.inl ⟨z, s1 x (by omega)⟩
    · have lb : ∃ y, y ∈ ky_o kk rt g ++ [tY] ∧ x ∈ tr_fl (gY y) := ⟨tY, List.mem_append_right _ List.mem_cons_self, flb _ tn x hx⟩
      obtain ⟨p1, p2, p3, p4⟩ := s2 x lb z1
      refine Or.inr ⟨by omega, lb, by omega, ?_⟩
      unfold xo_c kp_c
      by_cases c : kdY (x - 1001) = 8
      · rw [decide_eq_true c, decide_eq_true (Or.inr (p2.mpr c))]
      · rw [decide_eq_false c]
        refine decide_eq_false (fun y => ?_)
        rcases y with y | y
        · omega
        · exact c (p2.mp y)
  · obtain ⟨k1, k2, k3, _⟩ := ky_gen H hv hc h1 h2
    refine ⟨by show 7 ≤ 1001 + _; omega, ?_, by unfold xo_G; omega, ?_⟩
    · unfold kp_c
      rw [Nat.add_sub_cancel_left, yl_8 H hl k2 k3]; rfl
    · unfold xo_c xo_G
      exact decide_eq_true (Or.inl (by omega))
  · obtain ⟨k1, k2, k3, k4⟩ := ky_gen H hv hd h3 h4
    exact k4 c hc h1 h2 (by have e : 1001 + ky_g kk rt g v (c - 10) = 1001 + ky_g kk rt g v (d - 10) := e; omega)
  · unfold xo_G at e
    omega
def r_R (tc ac lp oc : Int32) (ks vs sz nd : Nat → Int32) (tc' ac' lp' kp' : Int32) (ks' vs' qk qa qb ra : Nat → Int32) : Prop :=
  ∃ (c a : Nat) (K N : Nat → Nat) (kc : Nat) (kk ka kb rt lo hi : Nat → Nat) (g : Nat → tr_T), tc = nI c ∧ tc' = nI c ∧ ac = nI a ∧ ac' = nI a ∧ a ≤ 20 ∧ lp = lp' ∧ tk_T ks vs c K N ∧ tk_T ks' vs' c K N ∧ kp' = nI kc ∧ oc = nI (ky_o kk rt g).length ∧ xd_D (ky_o kk rt g).length (ky_d kk rt g) sz nd ∧ ky_K kc kk ka kb rt lo hi g ∧ ky_X kk rt g ∧ yk_G kc qk qa qb kk ka kb ∧ y_R ra rt
def r_Y (tc ac lp oc : Int32) (ks vs sz nd : Nat → Int32) (v : SY) : Prop := match v with
  | (f_count, f_accepted, f_place, f_kept, f_nodes, f_tt, f_pos, f_bad, f_typing, f_unbound, f_clash, f_top, f_scope, f_doneName, f_doneType, a_kind, a_value, a_keptKind, a_keptA, a_keptB, a_root, a_what, a_partA, a_partB, a_mark, a_twin, a_walk, a_pairs, a_now, a_todo, a_types, a_firm, a_bound, a_boundType) => r_R tc ac lp oc ks vs sz nd f_count f_accepted f_place f_kept a_kind a_value a_keptKind a_keptA a_keptB a_root
/-- the relation: the same tokens, the same number of accepted declarations, the same place; the component's codes are those of the reference's kept types -/
def i_Rel (_k : Nat) (u : SX) (v : SY) : Prop := match u with
  | (f_tokenCount, f_accepted, f_lastPlace, f_openCount, f_draftOpen, f_symbolCount, f_stepCount, f_bindingCount, f_waitingCount, f_clashPlace, f_nodeCount, f_todoCount, a_kinds, a_values, a_declaredSize, a_declaredNodes, a_draftSize, a_draftNodes, a_symbols, a_symbolPlaces, a_steps, a_stepPlaces, a_bindings, a_boundType, a_waitingTypes, a_waitingFirm, a_shape, a_left, a_right, a_link, a_note, a_todo, a_todoOther, a_generalNode) => r_Y f_tokenCount f_accepted f_lastPlace f_openCount a_kinds a_values a_declaredSize a_declaredNodes v
theorem i_up {k : Nat} {u : SX} {v : SY} (h : i_Rel k u v) : i_Rel (k + 3) u v := h
theorem ky_oc {kc : Nat} {kk ka kb rt lo hi : Nat → Nat} {g : Nat → tr_T} (H : ky_K kc kk ka kb rt lo hi g) : (ky_o kk rt g).length ≤ 144 := by
  have k := H.2.2.2.2.2.2.1
  have nd := ky_ond H
  have ho := ky_op H
  have := nd.length_le_of_subset (l₂ := List.range kc) (fun x hx => List.mem_range.mpr ((ho x).mp hx).1)
  rw [List.length_range] at this
  omega
theorem tk_0 {ks vs : Nat → Int32} : tk_T ks vs 0 (fun _ => 99) (fun _ => 0) := ⟨by omega, fun _ _ => rfl, fun i hi => by omega⟩
theorem i_vc_declare {k : Nat} {u : SX} {v : SY} (I : i_Rel k u v) (hk : k + 3 ≤ 1536) : wpX_declare (fun r u' => wpY_declare (fun r' v' => r' = r ∧ i_Rel (k + 3) u' v') v) u := by
  obtain ⟨f_tokenCount, f_accepted, f_lastPlace, f_openCount, f_draftOpen, f_symbolCount, f_stepCount, f_bindingCount, f_waitingCount, f_clashPlace, f_nodeCount, f_todoCount, a_kinds, a_values, a_declaredSize, a_declaredNodes, a_draftSize, a_draftNodes, a_symbols, a_symbolPlaces, a_steps, a_stepPlaces, a_bindings, a_boundType, a_waitingTypes, a_waitingFirm, a_shape, a_left, a_right, a_link, a_note, a_todo, a_todoOther, a_generalNode⟩ := u
  obtain ⟨f_count2, f_accepted2, f_place2, f_kept2, f_nodes2, f_tt2, f_pos2, f_bad2, f_typing2, f_unbound2, f_clash2, f_top2, f_scope2, f_doneName2, f_doneType2, a_kind2, a_value2, a_keptKind2, a_keptA2, a_keptB2, a_root2, a_what2, a_partA2, a_partB2, a_mark2, a_twin2, a_walk2, a_pairs2, a_now2, a_todo2, a_types2, a_firm2, a_bound2, a_boundType2⟩ := v
  obtain ⟨c, ac, K, N, kc, kk, ka, kb, rt, lo, hi, g, e1, e2, e3, e4, hac, e5, T1, T2, e6, e7, D, H, HX, G, R⟩ := I
  have oc144 := ky_oc H
  have c24 := T1.1
  subst e1 e2 e3 e4 e5 e6 e7
  obtain ⟨⟨a', sp', b⟩, hgo⟩ := pm_ex T1.2.1 c24 1000 [(40, 0)] 0 [] (Nat.zero_le _) (by show 1 + 0 + 28 * (c - 0) < 1000; omega)
  have ha := syn_a T1.2.1 c24 (Or.inl rfl) hgo
  have hm : ∀ q, (fun q => pm_nq K 24 (q + 3) - (q + 1)) q = pm_nq K 24 (q + 3) - (q + 1) := fun q => rfl
  refine xw_declare (mq := fun q => pm_nq K 24 (q + 3) - (q + 1)) D oc144 T1 hm hac hgo (Nat.le_refl _) ha (fun e => ?_) (fun e hb => ?_) (fun e eb ea q q24 gnq => ?_) (fun e eb ea gn0 q q24 gcq => ?_) (fun e eb ea gn0 gc0 nl n kd pa pb t fl gX V k3 n12 eE I n25 hkd vX gX' => ⟨fun hbig => ?_, fun hok sz nd hds => ?_⟩)
  · refine yw_declare (mq := fun q => pm_nq K 24 (q + 3) - (q + 1)) H HX G R T2 hm hac hgo (fun _ => ⟨rfl, ?_⟩) (fun z => by omega) (fun z => by omega) (fun z => by omega) (fun z => by omega)
    exact ⟨c, ac, K, N, kc, kk, ka, kb, rt, lo, hi, g, rfl, rfl, rfl, rfl, hac, rfl, T1, T2, rfl, rfl, D, H, HX, G, R⟩
  · intro _ _ _ _ _ _ _ _ _ _ _ _ _ _ _ _ _ _ _ _ _ _ _ _ _ _
    refine yw_declare (mq := fun q => pm_nq K 24 (q + 3) - (q + 1)) H HX G R T2 hm hac hgo (fun z => by omega) (fun _ _ => ?_) (fun _ z1 z2 => ?_) (fun _ z1 z2 => ?_) (fun _ z1 z2 => ?_)
    · intro _ _ _ _ _ _ _ _ _ _ _ _ _ _ _ _ _ _ _ _ _ _ _ _
      exact ⟨rfl, c, ac, K, N, kc, kk, ka, kb, rt, lo, hi, g, rfl, rfl, rfl, rfl, hac, rfl, T1, T2, rfl, rfl, D, H, HX, G, R⟩
    · rcases hb with y | y
      · rw [z1] at y; cases y
      · exact (y z2).elim
    · rcases hb with y | y
      · rw [z1] at y; cases y
      · exact (y z2).elim
    · rcases hb with y | y
      · rw [z1] at y; cases y
      · exact (y z2).elim
  · intro _ _ _ _ _ _ _ _ _ _ _ _ _ _ _ _ _ _ _ _ _ _ _ _ _ _
    refine yw_declare (mq := fun q => pm_nq K 24 (q + 3) - (q + 1)) H HX G R T2 hm hac hgo (fun z => by omega) (fun _ hb => ?_) (fun _ _ _ q' _ gnq' => ?_) (fun _ _ _ gn0 => ?_) (fun _ _ _ gn0 => ?_)
    · rcases hb with y | y
      · rw [eb] at y; cases y
      · exact (y ea).elim
    · have := gn_u _ _ _ _ _ gnq gnq'
      cases this
      intro _ _ _ _ _ _ _ _ _ _ _ _ _ _ _ _ _ _ _ _ _ _ _ _
      exact ⟨rfl, c, ac, K, N, kc, kk, ka, kb, rt, lo, hi, g, rfl, rfl, rfl, rfl, hac, rfl, T1, T2, rfl, rfl, D, H, HX, G, R⟩
    · have := gn_u _ _ _ _ _ gnq gn0
      cases this
    · have := gn_u _ _ _ _ _ gnq gn0
      cases this
  · intro _ _ _ _ _ _ _ _ _ _ _ _ _ _ _ _ _ _ _ _ _ _ _ _ _ _
    refine yw_declare (mq := fun q => pm_nq K 24 (q + 3) - (q + 1)) H HX G R T2 hm hac hgo (fun z => by omega) (fun _ hb => ?_) (fun _ _ _ q' _ gnq' => ?_) (fun _ _ _ _ q' _ gcq' => ?_) (fun _ _ _ _ gc0 => ?_)
    · rcases hb with y | y
      · rw [eb] at y; cases y
      · exact (y ea).elim
    · have := gn_u _ _ _ _ _ gnq' gn0
      cases this
    · have := gc_u _ _ _ _ _ _ gcq gcq'
      cases this
      intro _ _ _ _ _ _ _ _ _ _ _ _ _ _ _ _ _ _ _ _ _ _ _ _
      exact ⟨rfl, c, ac, K, N, kc, kk, ka, kb, rt, lo, hi, g, rfl, rfl, rfl, rfl, hac, rfl, T1, T2, rfl, rfl, D, H, HX, G, R⟩
    · have := gc_u _ _ _ _ _ _ gcq gc0
      cases this
  · intro _ _ _ _ _ _ _ _ _ _ _ _ _ _ _ _ _ _ _ _ _ _ _ _ _ _
    refine yw_declare (mq := fun q => pm_nq K 24 (q + 3) - (q + 1)) H HX G R T2 hm hac hgo (fun z => by omega) (fun _ hb => ?_) (fun _ _ _ q' _ gnq' => ?_) (fun _ _ _ _ q' _ gcq' => ?_) (fun _ _ _ _ _ nlY nY kdY paY pbY tY fl' gY V' _ _ eE' J hl vY gYg => ?_)
    · rcases hb with y | y
      · rw [eb] at y; cases y
      · exact (y ea).elim
    · have := gn_u _ _ _ _ _ gnq' gn0
      cases this
    · have := gc_u _ _ _ _ _ _ gc0 gcq'
      cases this
    · rw [eE] at eE'
      cases eE'
      have hV : dv_st V := by
        have q := ds_E (K := K) (N := N) (mq := fun q => pm_nq K 24 (q + 3) - (q + 1)) (ds_Dc (dc := ky_d kk rt g)) sp' [] [] (fun ν st E => ν.length = (ky_o kk rt g).length ∧ st = [] ∧ E = []) (fun ν st E ⟨h1, h2, h3⟩ => ⟨by rw [List.length_map]; exact h1, by rw [h2]; rfl, by rw [h3]; rfl⟩)
        rw [eE] at q; exact q
      obtain ⟨q1, q2⟩ := i_two (nm := N 1) H hl J vY gYg rfl I hV n25 hkd vX gX'
      have ql : ∀ v, v < 12 → (xo_L (ky_d kk rt g) gX (N 1) t v).length = (kl_L (yd_rt rt (N 1) tY) gY v).length := fun v hv => by
        have := congrArg List.length (q1 v hv)
        rwa [show (nm_d (xo_c kd) (xo_L (ky_d kk rt g) gX (N 1) t) v).length = _ from nm_l_len _ _ _, show (nm_d (kp_c kdY) (kl_L (yd_rt rt (N 1) tY) gY) v).length = _ from nm_l_len _ _ _] at this
      refine ⟨fun _ => ?_, fun hok => ?_⟩
      · intro _ _ _ _ _ _ _ _ _ _ _ _ _ _ _ _ _ _ _ _ _ _ _ _
        exact ⟨rfl, c, ac, K, N, kc, kk, ka, kb, rt, lo, hi, g, rfl, rfl, rfl, rfl, hac, rfl, T1, T2, rfl, rfl, D, H, HX, G, R⟩
      · obtain ⟨v, hv, hb⟩ := hbig
        have := hok v hv
        have := ql v hv
        omega
  · intro _ _ _ _ _ _ _ _ _ _ _ _ _ _ _ _ _ _ _ _ _ _ _ _ _ _
    refine yw_declare (mq := fun q => pm_nq K 24 (q + 3) - (q + 1)) H HX G R T2 hm hac hgo (fun z => by omega) (fun _ hb => ?_) (fun _ _ _ q' _ gnq' => ?_) (fun _ _ _ _ q' _ gcq' => ?_) (fun _ _ _ _ _ nlY nY kdY paY pbY tY fl' gY V' _ _ eE' J hl vY gYg => ?_)
    · rcases hb with y | y
      · rw [eb] at y; cases y
      · exact (y ea).elim
    · have := gn_u _ _ _ _ _ gnq' gn0
      cases this
    · have := gc_u _ _ _ _ _ _ gc0 gcq'
      cases this
    · rw [eE] at eE'
      cases eE'
      have hV : dv_st V := by
        have q := ds_E (K := K) (N := N) (mq := fun q => pm_nq K 24 (q + 3) - (q + 1)) (ds_Dc (dc := ky_d kk rt g)) sp' [] [] (fun ν st E => ν.length = (ky_o kk rt g).length ∧ st = [] ∧ E = []) (fun ν st E ⟨h1, h2, h3⟩ => ⟨by rw [List.length_map]; exact h1, by rw [h2]; rfl, by rw [h3]; rfl⟩)
        rw [eE] at q; exact q
      obtain ⟨q1, q2⟩ := i_two (nm := N 1) H hl J vY gYg rfl I hV n25 hkd vX gX'
      have ql : ∀ v, v < 12 → (xo_L (ky_d kk rt g) gX (N 1) t v).length = (kl_L (yd_rt rt (N 1) tY) gY v).length := fun v hv => by
        have := congrArg List.length (q1 v hv)
        rwa [show (nm_d (xo_c kd) (xo_L (ky_d kk rt g) gX (N 1) t) v).length = _ from nm_l_len _ _ _, show (nm_d (kp_c kdY) (kl_L (yd_rt rt (N 1) tY) gY) v).length = _ from nm_l_len _ _ _] at this
      refine ⟨fun hb => ?_, fun _ m kk' ka' kb' rt' lo' hi' gK qk qa qb rta H' d1 d2 HX' G' R' => ?_⟩
      · obtain ⟨v, hv, hb⟩ := hb
        have := hok v hv
        have := ql v hv
        omega
      · intro _ _ _ _ _ _ _ _ _ _ _ _ _ _ _ _ _ _ _ _ _ _ _ _
        refine ⟨rfl, 0, ac + 1, fun _ => 99, fun _ => 0, m, kk', ka', kb', rt', lo', hi', gK, rfl, rfl, rfl, rfl, by omega, rfl, tk_0, tk_0, rfl, ?_, ?_, H', HX', G', R'⟩
        · rw [d2, q2]
        · intro v hv
          obtain ⟨y1, y2⟩ := hds v hv
          rw [q1 v hv, ← d1 v hv] at y1 y2
          refine ⟨y1, ?_, fun h => ky_wf H' hv h, y2⟩
          rw [ky_len]
          exact (H'.2.2.2.2.2.2.2.1 v hv).2.2.2.1
