section
variable {f_count f_accepted f_place f_kept f_nodes f_tt f_pos f_bad f_typing f_unbound f_clash f_top f_scope f_doneName f_doneType : Int32} {a_kind a_value a_keptKind a_keptA a_keptB a_root a_what a_partA a_partB a_mark a_twin a_walk a_pairs a_now a_todo a_types a_firm a_bound a_boundType : Nat → Int32}
variable {kd pa pb nt : Nat → Nat} {n K bd r0 : Nat} {E : Nat → Prop}
theorem yw_copied {post : Int32 → SY → Prop} {n' p x : Nat} {tw pend : Nat → Nat} (hL : gr_L n kd pa K) (W : gr_W n kd pa pb) (hbd : bd ≤ 2000) (hM : ys_M n kd pa pb nt) (hN : ym_N n a_mark nt) (S : yi_S n bd kd pa pb nt r0 n' tw pend a_what a_partA a_partB a_twin) (pn : p < n) (tx : gr_to kd pa p x) (x2 : 2 ≤ nt x)
    (h2 : (nt x = 2 ∨ tw x ≠ 0) → post (nI (yi_cp nt tw x)) (f_count, f_accepted, f_place, f_kept, nI n', f_tt, f_pos, f_bad, f_typing, f_unbound, f_clash, f_top, f_scope, f_doneName, f_doneType, a_kind, a_value, a_keptKind, a_keptA, a_keptB, a_root, a_what, a_partA, a_partB, a_mark, a_twin, a_walk, a_pairs, a_now, a_todo, a_types, a_firm, a_bound, a_boundType))
    (h3 : tw x = 0 → nt x = 3 → ∀ wh pA pB twin, yi_S n bd kd pa pb nt r0 (n' + 1) (gr_u tw x (n' + 1)) (gr_u pend n' 1) wh pA pB twin → post (nI n') (f_count, f_accepted, f_place, f_kept, nI (n' + 1), f_tt, f_pos, f_bad, f_typing, f_unbound, f_clash, f_top, f_scope, f_doneName, f_doneType, a_kind, a_value, a_keptKind, a_keptA, a_keptB, a_root, wh, pA, pB, a_mark, twin, a_walk, a_pairs, a_now, a_todo, a_types, a_firm, a_bound, a_boundType)) : wpY_copied post (f_count, f_accepted, f_place, f_kept, nI n', f_tt, f_pos, f_bad, f_typing, f_unbound, f_clash, f_top, f_scope, f_doneName, f_doneType, a_kind, a_value, a_keptKind, a_keptA, a_keptB, a_root, a_what, a_partA, a_partB, a_mark, a_twin, a_walk, a_pairs, a_now, a_todo, a_types, a_firm, a_bound, a_boundType) (nI p) := by
  obtain ⟨s1, s2, s3, s4, s5, s6, s7, s8, s9⟩ := id S
  have ctl := ct_le (p := fun i => decide (nt i = 3) && decide (tw i = 0)) n
  have xn := gr_to_n W tx pn
  have vx : vp_in (nI x) 2000 := vp_in_nI (by omega) (by decide)
  have cx : (nI x).toNatClampNeg = x := nI_clamp (by omega)
  refine yw_real s1 (by omega) hL pn tx ⟨vx, ?_⟩
  rw [cx, (hN x xn).1]
  have n3 := (hN x xn).2
  refine pk_p (mk_eq 2 n3 (by omega) (by omega)) (fun z => ?_) (fun z => ⟨vx, ?_⟩)
  · have := h2 (Or.inl z)
    unfold yi_cp at this
    rw [if_pos z] at this
    exact this
  · have x3 : nt x = 3 := by omega
    rw [s2 x xn]
    unfold mk_v'
    by_cases t0 : tw x = 0
    · rw [if_pos t0]
      have hct := ct_u (p := fun i => decide (nt i = 3) && decide (tw i = 0)) (q := fun i => decide (nt i = 3) && decide (gr_u tw x (n' + 1) i = 0)) (a := x) (by rw [x3, t0]; rfl) (by rw [gr_us]; simp) (fun i hi => by rw [gr_un hi]) n xn
      have lt : n' < 2000 := by omega
      have kx := tx.1
      obtain ⟨g1, g2, g3, g4, g5, g6⟩ := yg_r s1 xn kx
      have k8c : kd x = 8 ∨ gr_cn (kd x) := by
        by_cases c : gr_cn (kd x)
        · exact Or.inr c
        · exact Or.inl (((hM x xn x2).1 c).mp x3)
      refine br_f (by decide) ⟨vx, ?_⟩
      have e8 : a_what x = 8 ↔ kd x = 8 := by
        rw [g3]
        have := yk_le (kd x)
        constructor
        · intro y
          have y := (nI_eq (b := 8) (by omega) (by omega)).mp y
          by_cases c : kd x < 9
          · rw [yk_l c] at y; exact y
          · rw [yk_9 (by omega)] at y; omega
        · intro y; rw [y]; rfl
      refine pk_p e8 (fun k8 => ?_) (fun k8 => ⟨vx, vx, vx, ?_⟩)
      · refine yw_fresh lt ⟨vx, ?_⟩
        rw [ys_nn (by omega)]
        refine nm_e ⟨vx, ?_⟩
        rw [pk_us]
        exact h3 t0 x3 _ _ _ _ (yi_new S xn x3 t0 (by omega) (fun _ => ⟨rfl, rfl⟩) (fun c => absurd c (by omega)) _ rfl)
      · have c : gr_cn (kd x) := k8c.resolve_left k8
        obtain ⟨q1, q2, q3⟩ := g5 c
        have w := (W x xn).2 c
        refine yw_make lt ⟨vx, ?_⟩
        rw [ys_nn (by omega)]
        refine nm_e ⟨vx, ?_⟩
        rw [pk_us]
        refine h3 t0 x3 _ _ _ _ (yi_new S xn x3 t0 (by omega) (fun z => (k8 z).elim) (fun _ => ⟨?_, ?_, fun c5 => ?_⟩) _ rfl)
        · rw [g3, yk_l (by omega)]; exact yb_n (by omega)
        · rw [q1]; exact ys_n (by omega)
        · rw [q2 c5]; exact ys_n (by omega)
    · rw [if_neg t0]
      refine br_t (nI_le (a := 0) (by omega) (by have := s4 x xn t0; omega)) ⟨vx, ?_⟩
      have := h2 (Or.inr t0)
      unfold yi_cp at this
      rw [if_neg z] at this
      exact this
/-- from one state of the copying to the next -/
def yi_T (n n' n'' : Nat) (nt tw tw'' pend pend'' : Nat → Nat) (st st'' : List Nat) (x : Nat) : Prop :=
  (nt x = 2 ∨ tw'' x ≠ 0) ∧ (∀ i, tw i ≠ 0 → tw'' i = tw i) ∧ (∀ i, i < n' → pend'' i = pend i) ∧ n' ≤ n'' ∧ (∀ m, n' ≤ m → m < n'' → pend'' m = 1 ∧ m ∈ st'') ∧ (st'' = st ∨ st'' = n' :: st) ∧ (∀ m, m ∈ st'' → m ∈ st ∨ n' ≤ m ∧ m < n'') ∧ st''.length + ct_n (fun i => decide (nt i = 3) && decide (tw'' i = 0)) n ≤ st.length + ct_n (fun i => decide (nt i = 3) && decide (tw i = 0)) n
theorem yw_side {post : Int32 → SY → Prop} {J56 : Int32 → Int32 → Int32 → Int32 → Int32 → Int32 → Int32 → Int32 → Int32 → Int32 → Int32 → Int32 → Int32 → Int32 → Int32 → Int32 → (Nat → Int32) → (Nat → Int32) → (Nat → Int32) → (Nat → Int32) → (Nat → Int32) → (Nat → Int32) → (Nat → Int32) → (Nat → Int32) → (Nat → Int32) → (Nat → Int32) → (Nat → Int32) → (Nat → Int32) → (Nat → Int32) → (Nat → Int32) → (Nat → Int32) → (Nat → Int32) → (Nat → Int32) → (Nat → Int32) → (Nat → Int32) → Prop} {J74 : Int32 → Int32 → Int32 → Int32 → Int32 → Int32 → Int32 → Int32 → Int32 → Int32 → Int32 → Int32 → Int32 → Int32 → Int32 → Int32 → Int32 → (Nat → Int32) → (Nat → Int32) → (Nat → Int32) → (Nat → Int32) → (Nat → Int32) → (Nat → Int32) → (Nat → Int32) → (Nat → Int32) → (Nat → Int32) → (Nat → Int32) → (Nat → Int32) → (Nat → Int32) → (Nat → Int32) → (Nat → Int32) → (Nat → Int32) → (Nat → Int32) → (Nat → Int32) → (Nat → Int32) → (Nat → Int32) → Prop} {n' p x c sd : Nat} {tw pend : Nat → Nat} {st : List Nat} {y2 : Int32} (hL : gr_L n kd pa K) (W : gr_W n kd pa pb) (hbd : bd ≤ 2000) (hM : ys_M n kd pa pb nt) (hN : ym_N n a_mark nt) (S : yi_S n bd kd pa pb nt r0 n' tw pend a_what a_partA a_partB a_twin) (pn : p < n) (tx : gr_to kd pa p x) (x2 : 2 ≤ nt x) (hst : st_1 a_walk st) (hl : st.length < 2000) (hc : c < 2000) (hsd : sd = 0 ∨ sd = 1)
    (hJ : ∀ n'' tw'' pend'' st'' wh pA pB twin wk pA' pB', yi_S n bd kd pa pb nt r0 n'' tw'' pend'' wh pA pB twin → yi_T n n' n'' nt tw tw'' pend pend'' st st'' x → st_1 wk st'' → (sd = 0 → pA' = upd pA c (nI (yi_cp nt tw'' x)) ∧ pB' = pB) → (sd = 1 → pB' = upd pB c (nI (yi_cp nt tw'' x)) ∧ pA' = pA) → J74 (nI st''.length) (nI (sd + 1)) f_count f_accepted f_place f_kept (nI n'') f_tt f_pos f_bad f_typing f_unbound f_clash f_top f_scope f_doneName f_doneType a_kind a_value a_keptKind a_keptA a_keptB a_root wh pA' pB' a_mark twin wk a_pairs a_now a_todo a_types a_firm a_bound a_boundType) :
    wY_instance_112 post J56 J74 y2 (nI st.length) (nI c) (nI sd) (nI p) f_count f_accepted f_place f_kept (nI n') f_tt f_pos f_bad f_typing f_unbound f_clash f_top f_scope f_doneName f_doneType a_kind a_value a_keptKind a_keptA a_keptB a_root a_what a_partA a_partB a_mark a_twin a_walk a_pairs a_now a_todo a_types a_firm a_bound a_boundType := by
  obtain ⟨s1, s2, s3, s4, s5, s6, s7, s8, s9⟩ := id S
  have ctl := ct_le (p := fun i => decide (nt i = 3) && decide (tw i = 0)) n
  have xn := gr_to_n W tx pn
  have vx : vp_in (nI x) 2000 := vp_in_nI (by omega) (by decide)
  have cx : (nI x).toNatClampNeg = x := nI_clamp (by omega)
  have vc : vp_in (nI c) 2000 := vp_in_nI (by omega) (by decide)
  have cc : (nI c).toNatClampNeg = c := nI_clamp (by omega)
  have xx : gr_to kd pa x x := gr_to_r tx.1
  have n3 := (hN x xn).2
  have m0 : yi_cp nt tw x < 32768 ∨ ¬ (nt x = 2 ∨ tw x ≠ 0) := by
    unfold yi_cp
    by_cases z : nt x = 2
    · rw [if_pos z]; exact Or.inl (by omega)
    · rw [if_neg z]
      by_cases z' : tw x = 0
      · exact Or.inr (fun q => q.elim z (fun q => q z'))
      · have := s4 x xn z'
        exact Or.inl (by omega)
  -- a copy that is known
  have known : (nt x = 2 ∨ tw x ≠ 0) → wY_instance_138 post J56 J74 y2 (nI st.length) (nI c) (nI sd) (nI x) f_count f_accepted f_place f_kept (nI n') f_tt f_pos f_bad f_typing f_unbound f_clash f_top f_scope f_doneName f_doneType a_kind a_value a_keptKind a_keptA a_keptB a_root a_what a_partA a_partB a_mark a_twin a_walk a_pairs a_now a_todo a_types a_firm a_bound a_boundType := by
    intro kn
    have lt : yi_cp nt tw x < 32768 := m0.resolve_right (fun z => z kn)
    have T : yi_T n n' n' nt tw tw pend pend st st x := ⟨kn, fun _ _ => rfl, fun _ _ => rfl, Nat.le_refl _, fun m h1 h2 => by omega, Or.inl rfl, fun m h => Or.inl h, Nat.le_refl _⟩
    unfold wY_instance_138 wY_instance_143
    refine yw_copied hL W hbd hM hN S xn xx x2 (fun _ => ?_) (fun t0 t3 => (kn.elim (fun z => by omega) (fun z => z t0)).elim)
    rcases hsd with rfl | rfl
    · refine br_t rfl ⟨vc, ?_⟩
      rw [cc, ys_nn lt]
      exact nm_e (br_f (by decide) (nm_e (hJ n' tw pend st _ _ _ _ _ _ _ S T hst (fun _ => ⟨rfl, rfl⟩) (fun z => by cases z))))
    · refine br_f (by decide) ⟨vc, ?_⟩
      rw [cc, ys_nn lt]
      exact nm_e (br_f (by decide) (nm_e (hJ n' tw pend st _ _ _ _ _ _ _ S T hst (fun z => by cases z) (fun _ => ⟨rfl, rfl⟩))))
  refine yw_real s1 (by omega) hL pn tx ⟨vx, ?_⟩
  rw [cx, (hN x xn).1]
  refine pk_p (mk_eq 2 n3 (by omega) (by omega)) (fun z => known (Or.inl z)) (fun z => ⟨vx, ?_⟩)
  rw [s2 x xn]
  unfold mk_v'
  by_cases t0 : tw x = 0
  · rw [if_pos t0]
    have x3 : nt x = 3 := by omega
    have hct := ct_u (p := fun i => decide (nt i = 3) && decide (tw i = 0)) (q := fun i => decide (nt i = 3) && decide (gr_u tw x (n' + 1) i = 0)) (a := x) (by rw [x3, t0]; rfl) (by rw [gr_us]; simp) (fun i hi => by rw [gr_un hi]) n xn
    have cpx : yi_cp nt (gr_u tw x (n' + 1)) x = n' := by
      unfold yi_cp
      rw [if_neg z, gr_us, Nat.add_sub_cancel]
    have T : yi_T n n' (n' + 1) nt tw (gr_u tw x (n' + 1)) pend (gr_u pend n' 1) st (n' :: st) x := by
      refine ⟨Or.inr (by rw [gr_us]; omega), fun i hi => gr_un (fun e => hi (by rw [e]; exact t0)), fun i hi => gr_un (by omega), by omega, fun m h1 h2 => ?_, Or.inr rfl, fun m h => ?_, ?_⟩
      · have e : m = n' := by omega
        rw [e, gr_us]; exact ⟨rfl, List.mem_cons_self⟩
      · rcases List.mem_cons.mp h with e | e
        · rw [e]; exact Or.inr ⟨Nat.le_refl _, by omega⟩
        · exact Or.inl e
      · rw [List.length_cons]; omega
    refine br_t (by decide) ?_
    unfold wY_instance_143
    refine yw_copied hL W hbd hM hN S xn xx x2 (fun kn => (kn.elim z (fun q => q t0)).elim) (fun _ _ wh pA pB twin S' => ?_)
    have vl : vp_in (nI st.length) 4100 := vp_in_nI (by omega) (by decide)
    rcases hsd with rfl | rfl
    · refine br_t rfl ⟨vc, ?_⟩
      rw [cc, ys_nn (by omega)]
      refine nm_e (br_t rfl (nm_r (nI_1 _) ⟨vl, ?_⟩))
      rw [ys_nn (by omega), nI_clamp (by omega)]
      refine nm_e (nm_e (hJ _ _ _ (n' :: st) _ _ _ _ _ _ _ S' T (st_1p hst) (fun _ => ⟨?_, rfl⟩) (fun z => by cases z)))
      rw [cpx]
    · refine br_f (by decide) ⟨vc, ?_⟩
      rw [cc, ys_nn (by omega)]
      refine nm_e (br_t rfl (nm_r (nI_1 _) ⟨vl, ?_⟩))
      rw [ys_nn (by omega), nI_clamp (by omega)]
      refine nm_e (nm_e (hJ _ _ _ (n' :: st) _ _ _ _ _ _ _ S' T (st_1p hst) (fun z => by cases z) (fun _ => ⟨?_, rfl⟩)))
      rw [cpx]
  · rw [if_neg t0]
    exact br_f (nI_nlt (b := 0) (by omega) (by have := s4 x xn t0; omega)) (known (Or.inr t0))
theorem yw_inst_l {post : Int32 → SY → Prop} {y2 : Int32} {tv : Nat} (htv : tv ≠ 0) (hL : gr_L n kd pa K) (W : gr_W n kd pa pb) (hbd : bd ≤ 2000) (hM : ys_M n kd pa pb nt) (hN : ym_N n a_mark nt)
    (h : ∀ n' tw pend wh pA pB twin wk, yi_S n bd kd pa pb nt r0 n' tw pend wh pA pB twin → (∀ m, n ≤ m → m < n' → pend m = 0) → tw r0 = tv → post y2 (f_count, f_accepted, f_place, f_kept, nI n', f_tt, f_pos, f_bad, f_typing, f_unbound, f_clash, f_top, f_scope, f_doneName, f_doneType, a_kind, a_value, a_keptKind, a_keptA, a_keptB, a_root, wh, pA, pB, a_mark, twin, wk, a_pairs, a_now, a_todo, a_types, a_firm, a_bound, a_boundType)) :
    ∀ m st n' tw pend wh pA pB twin wk, yi_S n bd kd pa pb nt r0 n' tw pend wh pA pB twin → st_1 wk st → st.Nodup → (∀ c, c ∈ st → n ≤ c ∧ c < n' ∧ pend c = 1) → (∀ c, n ≤ c → c < n' → pend c ≠ 0 → c ∈ st) → tw r0 = tv → st.length + ct_n (fun i => decide (nt i = 3) && decide (tw i = 0)) n ≤ m → wY_instance_56 post y2 (m + 1) (nI st.length) f_count f_accepted f_place f_kept (nI n') f_tt f_pos f_bad f_typing f_unbound f_clash f_top f_scope f_doneName f_doneType a_kind a_value a_keptKind a_keptA a_keptB a_root wh pA pB a_mark twin wk a_pairs a_now a_todo a_types a_firm a_bound a_boundType := by
  intro m
  induction m with
  | zero =>
    intro st n' tw pend wh pA pB twin wk S hst nd hp hq ht hm
    have e : st = [] := List.eq_nil_of_length_eq_zero (by omega)
    subst e
    exact br_t (nI_le (a := 0) (b := 0) (by omega) (by omega)) (h n' tw pend wh pA pB twin wk S (fun c h1 h2 => Classical.byContradiction fun z => by cases hq c h1 h2 z) ht)
  | succ m ih =>
    intro st n' tw pend wh pA pB twin wk S hst nd hp hq ht hm
    cases st with
    | nil => exact br_t (nI_le (a := 0) (b := 0) (by omega) (by omega)) (h n' tw pend wh pA pB twin wk S (fun c h1 h2 => Classical.byContradiction fun z => by cases hq c h1 h2 z) ht)
    | cons c st =>
      obtain ⟨s1, s2, s3, s4, s5, s6, s7, s8, s9⟩ := id S
      obtain ⟨nc, cn', pc⟩ := hp c List.mem_cons_self
      obtain ⟨cst, nd'⟩ := List.nodup_cons.mp nd
      rw [List.length_cons] at hm
      have sl : st.length < n' := by
        have := ct_nd (n := n') st (fun _ => true) nd' (fun x hx => ⟨(hp x (List.mem_cons_of_mem _ hx)).2.1, rfl⟩)
        have h1 := ct_nd (n := n') (c :: st) (fun _ => true) nd (fun x hx => ⟨(hp x hx).2.1, rfl⟩)
        have h2 := ct_le (p := fun _ => true) n'
        rw [List.length_cons] at h1
        omega
      have vl : vp_in (nI st.length) 4100 := vp_in_nI (by omega) (by decide)
      have vc : vp_in (nI c) 2000 := vp_in_nI (by omega) (by decide)
      have cc : (nI c).toNatClampNeg = c := nI_clamp (by omega)
      refine br_f (nI_nle (by rw [List.length_cons]; omega) (by rw [List.length_cons]; omega)) ?_
      rw [List.length_cons]
      refine nm_r (pk_m1 st.length) ⟨vl, ?_⟩
      rw [nI_clamp (by omega), hst.1]
      refine nm_e ⟨3, ?_⟩
      obtain ⟨r, rn, tr⟩ := s6 c nc cn'
      have r3 := s4 r rn (by omega)
      have uq : ∀ r', r' < n → tw r' = c + 1 → r' = r := fun r' hr' e => s5 r' r hr' rn (by omega) (by omega)
      have k8c : kd r = 8 ∨ gr_cn (kd r) := by
        by_cases q : gr_cn (kd r)
        · exact Or.inr q
        · exact Or.inl (((hM r rn (by omega)).1 q).mp r3.1)
      refine ⟨vc, ?_⟩
      rw [cc]
      rcases k8c with k8 | kc
      · have q := ((s7 r rn (by omega)).1 k8).1
        rw [tr, Nat.add_sub_cancel] at q
        rw [q]
        refine yw_parts (k := 7) (by omega) (br_t (by decide) ?_)
        refine ih st n' tw (gr_u pend c 0) wh pA pB twin wk (yi_v S (fun r' hr' e => by rw [uq r' hr' e]; omega)) hst.2 nd' (fun d hd => ?_) (fun d h1 h2 h3 => ?_) ht (by omega)
        · have := hp d (List.mem_cons_of_mem _ hd)
          rw [gr_un (fun e : d = c => cst (e ▸ hd))]; exact this
        · by_cases e : d = c
          · rw [e, gr_us] at h3; exact (h3 rfl).elim
          · rw [gr_un e] at h3
            exact (List.mem_cons.mp (hq d h1 h2 h3)).resolve_left e
      · obtain ⟨q1, q2, q3, q4⟩ := (s7 r rn (by omega)).2 kc
        rw [tr, Nat.add_sub_cancel] at q1 q2 q3 q4
        have w := (W r rn).2 kc
        have t1 := gr_L_to hL w.1
        have t2 := gr_L_to hL w.2
        generalize e1 : gr_f kd pa K (pa r) = x at t1
        generalize e2 : gr_f kd pa K (pb r) = y at t2
        obtain ⟨m1, m2, _⟩ := (hM r rn (by omega)).2 kc x y t1 t2
        rw [q1]
        have yp : nI (yp_n (kd r)) = nI (yp_n (yk (kd r))) := by rw [yk_l (by omega)]
        refine yw_parts (k := kd r) (by omega) ?_
        rw [yp]
        have side0 : wY_instance_112 post (wY_instance_56 post y2 (m + 1)) (wY_instance_74 post (wY_instance_56 post y2 (m + 1)) y2 (nI c) 2) y2 (nI st.length) (nI c) (nI 0) (nI (pa r)) f_count f_accepted f_place f_kept (nI n') f_tt f_pos f_bad f_typing f_unbound f_clash f_top f_scope f_doneName f_doneType a_kind a_value a_keptKind a_keptA a_keptB a_root wh pA pB a_mark twin wk a_pairs a_now a_todo a_types a_firm a_bound a_boundType := by
          refine yw_side (n' := n') (tw := tw) (pend := pend) (st := st) hL W hbd hM hN S w.1 t1 m1 hst.2 (by omega) (by omega) (Or.inl rfl) (fun n2 tw2 pend2 st2 wh2 pA2 pB2 twin2 wk2 pA3 pB3 S2 T2 hst2 hs0 _ => ?_)
          obtain ⟨eA, eB⟩ := hs0 rfl
          rw [eA, eB]
          obtain ⟨T1, T2, T3, T4, T5, T6, T7, T8⟩ := T2
          have tr2 : tw2 r = c + 1 := by rw [T2 r (by omega)]; exact tr
          have uq2 : ∀ r', r' < n → tw2 r' = c + 1 → r' = r := fun r' hr' e => S2.2.2.2.2.1 r' r hr' rn (by omega) (by omega)
          have p2c : pend2 c = 1 := by rw [T3 c cn']; exact pc
          have Sa : yi_S n bd kd pa pb nt r0 n2 tw2 (gr_u pend2 c 2) wh2 (upd pA2 c (nI (yi_cp nt tw2 x))) pB2 twin2 := yi_a S2 nc p2c (fun r' hr' e => by rw [uq2 r' hr' e]; exact ⟨kc, x, t1, T1, rfl⟩)
          have nd2 : st2.Nodup := by
            rcases T6 with e | e
            · rw [e]; exact nd'
            · rw [e]; exact List.nodup_cons.mpr ⟨fun q => by have := (hp n' (List.mem_cons_of_mem _ q)).2.1; omega, nd'⟩
          have cst2 : c ∉ st2 := fun q => by
            rcases T7 c q with z | z
            · exact cst z
            · omega
          have hp2 : ∀ d, d ∈ st2 → n ≤ d ∧ d < n2 ∧ pend2 d = 1 := fun d hd => by
            rcases T7 d hd with z | z
            · have := hp d (List.mem_cons_of_mem _ z)
              exact ⟨this.1, by omega, by rw [T3 d this.2.1]; exact this.2.2⟩
            · exact ⟨by omega, z.2, (T5 d z.1 z.2).1⟩
          have sub : ∀ d, d ∈ st → d ∈ st2 := fun d hd => by
            rcases T6 with e | e
            · rw [e]; exact hd
            · rw [e]; exact List.mem_cons_of_mem _ hd
          have hq2 : ∀ d, n ≤ d → d < n2 → pend2 d ≠ 0 → d ∈ st2 ∨ d = c := fun d h1 h2 h3 => by
            by_cases l : d < n'
            · rw [T3 d l] at h3
              rcases List.mem_cons.mp (hq d h1 l h3) with z | z
              · exact Or.inr z
              · exact Or.inl (sub d z)
            · exact Or.inl (T5 d (by omega) h2).2
          have n2b : n2 ≤ 2000 := by have := S2.2.2.2.2.2.2.2.2; omega
          have wh2c : wh2 c = nI (kd r) := by
            have := ((S2.2.2.2.2.2.2.1 r rn (by omega)).2 kc).1
            rw [tr2, Nat.add_sub_cancel] at this
            exact this
          have ht2 : tw2 r0 = tv := by rw [T2 r0 (by omega)]; exact ht
          refine ⟨vc, ?_⟩
          rw [cc, wh2c]
          refine yw_parts (k := kd r) (by omega) ?_
          rw [yp]
          by_cases k4 : kd r ≤ 4
          · rw [yp_1 kc k4]
            refine br_t (by decide) ?_
            refine ih st2 n2 tw2 (gr_u (gr_u pend2 c 2) c 0) _ _ _ _ _ (yi_b Sa nc gr_us (fun _ _ => rfl) (fun r' hr' e k5 => by rw [uq2 r' hr' e] at k5; omega)) hst2 nd2 (fun d hd => ?_) (fun d h1 h2 h3 => ?_) ht2 (by omega)
            · have e : d ≠ c := fun e => cst2 (e ▸ hd)
              rw [gr_un e, gr_un e]; exact hp2 d hd
            · by_cases e : d = c
              · rw [e, gr_us] at h3; exact (h3 rfl).elim
              · rw [gr_un e, gr_un e] at h3
                exact (hq2 d h1 h2 h3).resolve_right e
          · rw [yp_2 kc (by omega)]
            refine br_f (by decide) (br_f (by decide) ⟨vc, ?_⟩)
            have pBc : pB2 c = nI (pb r) := by
              have := (((S2.2.2.2.2.2.2.1 r rn (by omega)).2 kc).2.2.2 (by omega)).1
              rw [tr2, Nat.add_sub_cancel] at this
              exact this (by omega)
            rw [pBc]
            have sl2 : st2.length < 2000 := by
              rcases T6 with e | e
              · rw [e]; omega
              · have h1 := ct_nd (n := n2) (c :: st2) (fun _ => true) (List.nodup_cons.mpr ⟨cst2, nd2⟩) (fun z hz => ⟨by
                  rcases List.mem_cons.mp hz with q | q
                  · rw [q]; omega
                  · exact (hp2 z q).2.1, rfl⟩)
                have h2 := ct_le (p := fun _ => true) n2
                rw [List.length_cons] at h1
                omega
            refine yw_side (n' := n2) (tw := tw2) (pend := gr_u pend2 c 2) (st := st2) (x := y) (sd := 1) hL W hbd hM hN Sa w.2 t2 m2 hst2 sl2 (by omega) (Or.inr rfl) (fun n3 tw3 pend3 st3 wh3 pA4 pB4 twin3 wk3 pA5 pB5 S3 T3' hst3 _ hs1 => ?_)
            obtain ⟨eB3, eA3⟩ := hs1 rfl
            rw [eA3, eB3]
            obtain ⟨U1, U2, U3, U4, U5, U6, U7, U8⟩ := T3'
            have tr3 : tw3 r = c + 1 := by rw [U2 r (by omega)]; exact tr2
            have uq3 : ∀ r', r' < n → tw3 r' = c + 1 → r' = r := fun r' hr' e => S3.2.2.2.2.1 r' r hr' rn (by omega) (by omega)
            have p3c : pend3 c = 2 := by rw [U3 c (by omega), gr_us]
            have ht3 : tw3 r0 = tv := by rw [U2 r0 (by omega)]; exact ht2
            have wh3c : wh3 c = nI (kd r) := by
              have := ((S3.2.2.2.2.2.2.1 r rn (by omega)).2 kc).1
              rw [tr3, Nat.add_sub_cancel] at this
              exact this
            refine ⟨vc, ?_⟩
            rw [cc, wh3c]
            refine yw_parts (k := kd r) (by omega) ?_
            rw [yp, yp_2 kc (by omega)]
            refine br_t (by decide) ?_
            have nd3 : st3.Nodup := by
              rcases U6 with e | e
              · rw [e]; exact nd2
              · rw [e]; exact List.nodup_cons.mpr ⟨fun q => by have := (hp2 n2 q).2.1; omega, nd2⟩
            have cst3 : c ∉ st3 := fun q => by
              rcases U7 c q with z | z
              · exact cst2 z
              · omega
            have sub3 : ∀ d, d ∈ st2 → d ∈ st3 := fun d hd => by
              rcases U6 with e | e
              · rw [e]; exact hd
              · rw [e]; exact List.mem_cons_of_mem _ hd
            refine ih st3 n3 tw3 (gr_u pend3 c 0) _ _ _ _ _ (yi_b S3 nc p3c (fun i hi => pk_un hi) (fun r' hr' e k5 k6 => by rw [uq3 r' hr' e, pk_us]; exact ⟨y, t2, U1, rfl⟩)) hst3 nd3 (fun d hd => ?_) (fun d h1 h2 h3 => ?_) ht3 (by omega)
            · have e : d ≠ c := fun e => cst3 (e ▸ hd)
              rw [gr_un e]
              rcases U7 d hd with z | z
              · have := hp2 d z
                exact ⟨this.1, by omega, by rw [U3 d this.2.1, gr_un e]; exact this.2.2⟩
              · exact ⟨by omega, z.2, (U5 d z.1 z.2).1⟩
            · by_cases e : d = c
              · rw [e, gr_us] at h3; exact (h3 rfl).elim
              · rw [gr_un e] at h3
                by_cases l : d < n2
                · rw [U3 d l, gr_un e] at h3
                  exact sub3 d ((hq2 d h1 l h3).resolve_right e)
                · exact (U5 d (by omega) h2).2
        by_cases k4 : kd r ≤ 4
        · rw [yp_1 kc k4]
          refine br_f (by decide) (br_t rfl ⟨vc, ?_⟩)
          rw [q2 pc]
          exact side0
        · rw [yp_2 kc (by omega)]
          refine br_f (by decide) (br_t rfl ⟨vc, ?_⟩)
          rw [q2 pc]
          exact side0
end
