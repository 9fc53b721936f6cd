/-! the reference's generalise -/
def mk_v' (k : Nat) : Int32 := if k = 0 then -1 else nI (k - 1)
theorem st_1g {a : Nat → Int32} : ∀ (L : List Nat) (k x : Nat), st_1 a L → L[k]? = some x → a (L.length - 1 - k) = nI x := by
  intro L
  induction L with
  | nil => intro k x _ h; cases h
  | cons y L ih =>
    intro k x hs h
    rw [List.length_cons]
    cases k with
    | zero =>
      simp at h
      subst h
      exact hs.1
    | succ k =>
      have := ih k x hs.2 (by simpa using h)
      rw [show L.length + 1 - 1 - (k + 1) = L.length - 1 - k by omega]; exact this
/-- roots: 0 none, else the node and one -/
def y_R (a : Nat → Int32) (rt : Nat → Nat) : Prop := ∀ v, v < 12 → a v = mk_v' (rt v)
section
variable {f_count f_accepted f_place f_kept f_nodes f_tt f_pos f_bad f_typing f_unbound f_clash f_top f_scope f_doneName f_doneType : Int32} {a_kind a_value a_keptKind a_keptA a_keptB a_root a_what a_partA a_partB a_mark a_twin a_walk a_pairs a_now a_todo a_types a_firm a_bound a_boundType : Nat → Int32}
variable {kd pa pb : Nat → Nat} {n K : Nat}
theorem yw_g6 {post : SY → Prop} {b0 nl : Nat} {op stk env : List Nat} {bs : List (Nat × Bool)} {V : dv_W} {t nm : Nat} {rt : Nat → Nat} (hn : n ≤ 2000) (hG : yg_G n a_what a_partA a_partB kd pa pb) (hL : gr_L n kd pa K) (I : rp_I b0 nl n kd pa pb op (t :: stk) env bs V)
    (CI : ∀ ν E τ st τ' st', V ν (τ :: st) E → V ν (τ' :: st') E → V ν (τ' :: st) E) (hB : st_1 a_boundType env) (hb : env.length < 40) (hR : y_R a_now rt) (hb0 : b0 ≤ n)
    (kr : ∀ v, v < 12 → rt v ≠ 0 → rt v - 1 < n ∧ ∀ ρ ρ', gr_V n kd pa pb ρ → gr_V n kd pa pb ρ' → op.map ρ = op.map ρ' → (∀ i, i < n → kd i = 8 → ρ i = ρ' i) → ρ (rt v - 1) = ρ' (rt v - 1))
    (kb : ∀ ρ ρ', gr_V n kd pa pb ρ → gr_V n kd pa pb ρ' → (∀ v, v < 12 → rt v ≠ 0 → ρ (rt v - 1) = ρ' (rt v - 1)) → op.map ρ = op.map ρ' ∧ ∀ i, i < b0 → ρ i = ρ' i)
    (h : ∀ wh kd' mk wk, yg_G n wh a_partA a_partB kd' pa pb → rp_I b0 n n kd' pa pb op stk (t :: env) ((nm, true) :: bs) (dv_bind V) → (∀ i, kd' i = 1000 ↔ kd i = 1000) → (∀ i, kd i = 8 → kd' i = 8) → (∀ i, i < b0 → kd' i = kd i) → (∀ i, kd' i = kd i ∨ gr_fr (kd' i) ∧ gr_fr (kd i)) → post (f_count, f_accepted, f_place, f_kept, nI n, f_tt, f_pos, f_bad, f_typing, f_unbound, f_clash, f_top, nI env.length, f_doneName, f_doneType, a_kind, a_value, a_keptKind, a_keptA, a_keptB, a_root, wh, a_partA, a_partB, mk, a_twin, wk, a_pairs, a_now, a_todo, a_types, a_firm, a_bound, a_boundType)) : wpY_generalise post (f_count, f_accepted, f_place, f_kept, nI n, f_tt, f_pos, f_bad, f_typing, f_unbound, f_clash, f_top, nI env.length, f_doneName, f_doneType, a_kind, a_value, a_keptKind, a_keptA, a_keptB, a_root, a_what, a_partA, a_partB, a_mark, a_twin, a_walk, a_pairs, a_now, a_todo, a_types, a_firm, a_bound, a_boundType) (nI t) := by
  have W := I.1
  have A := I.2.1
  obtain ⟨M, Es, ⟨hM, gM, oM, sM, eM⟩, _, _, _, _⟩ := I.2.2.1
  have en := I.2.2.2.1
  have tn : t < n := (hM t (sM t List.mem_cons_self)).1
  generalize eP : (fun r => ∀ ρ ρ', gr_V n kd pa pb ρ → gr_V n kd pa pb ρ' → op.map ρ = op.map ρ' → env.map ρ = env.map ρ' → (∀ i, i < n → kd i = 8 → ρ i = ρ' i) → ρ r = ρ' r) = P
  have hP : ∀ r, r < n → P r → gr_cn (kd r) → (∀ x, gr_to kd pa (pa r) x → P x) ∧ ∀ x, gr_to kd pa (pb r) x → P x := by
    subst eP
    intro i hi hPi hc
    have w := (W i hi).2 hc
    refine ⟨fun x hx ρ ρ' h1 h2 h3 h4 h5 => ?_, fun x hx ρ ρ' h1 h2 h3 h4 h5 => ?_⟩
    · have e := hPi ρ ρ' h1 h2 h3 h4 h5
      rw [gr_Vc h1 hi hc, gr_Vc h2 hi hc] at e
      rw [← gr_to_V W h1 hx w.1, ← gr_to_V W h2 hx w.1]; exact (tr_con_inj e).2.1
    · have e := hPi ρ ρ' h1 h2 h3 h4 h5
      rw [gr_Vc h1 hi hc, gr_Vc h2 hi hc] at e
      rw [← gr_to_V W h1 hx w.2, ← gr_to_V W h2 hx w.2]; exact (tr_con_inj e).2.2
  -- the last part
  have last : ∀ nt0 mk wk, yq_F n kd pa pb nt0 P → (∀ v, v < 12 → rt v ≠ 0 → ∀ q, gr_to kd pa (rt v - 1) q → nt0 q ≠ 0) → (∀ e, e ∈ env → ∀ q, gr_to kd pa e q → nt0 q ≠ 0) → ym_N n mk nt0 → st_1 wk [t] → ∃ n76 : Nat, wY_generalise_76 post f_count f_accepted f_place f_kept (nI n) f_tt f_pos f_bad f_typing f_unbound f_clash f_top (nI env.length) f_doneName f_doneType n76 (nI 1) a_kind a_value a_keptKind a_keptA a_keptB a_root a_what a_partA a_partB mk a_twin wk a_pairs a_now a_todo a_types a_firm a_bound a_boundType := by
    intro nt0 mk wk F hv he hN hw
    have hS : ∀ r, (r < n ∧ nt0 r ≠ 0) → r < n ∧ kd r ≠ 1000 ∧ (gr_cn (kd r) → (∀ x, gr_to kd pa (pa r) x → (x < n ∧ nt0 x ≠ 0)) ∧ ∀ x, gr_to kd pa (pb r) x → (x < n ∧ nt0 x ≠ 0)) := fun r hr => by
      obtain ⟨a, b, c⟩ := F r hr.1 hr.2
      refine ⟨hr.1, a, fun k => ?_⟩
      have w := (W r hr.1).2 k
      exact ⟨fun x hx => ⟨gr_to_n W hx w.1, (c k).1 x hx⟩, fun x hx => ⟨gr_to_n W hx w.2, (c k).2 x hx⟩⟩
    have CF := xq_C (S := fun r => r < n ∧ nt0 r ≠ 0) W hS hL
    generalize eF : (fun i => i < n ∧ ∃ r, gr_to kd pa i r ∧ r < n ∧ nt0 r ≠ 0) = FF at CF
    have inF : ∀ i, i < n → (∀ q, gr_to kd pa i q → nt0 q ≠ 0) → FF i := fun i hi hq => by
      have t := gr_L_to hL hi
      rw [← eF]; exact ⟨hi, _, t, gr_to_n W t hi, hq _ t⟩
    have rF : ∀ ρ ρ', gr_V n kd pa pb ρ → gr_V n kd pa pb ρ' → (∀ i, FF i → ρ i = ρ' i) → ∀ v, v < 12 → rt v ≠ 0 → ρ (rt v - 1) = ρ' (rt v - 1) := fun ρ ρ' h1 h2 ha v h12 h0 => ha _ (inF _ (kr v h12 h0).1 (hv v h12 h0))
    -- free kept nodes are marked
    have fk : ∀ i, i < b0 → gr_fr (kd i) → nt0 i ≠ 0 := by
      intro i hi hf z
      obtain ⟨ρ, h1, a1⟩ := gr_ex A (fun _ => tr_at 0)
      obtain ⟨ρ', h2, a2⟩ := gr_ex A (fun j => if j = i then tr_at 1 else tr_at 0)
      have ag : ∀ j, FF j → ρ j = ρ' j := fun j hj => gr_agA A h1 h2 CF (fun j hj c => by
        have jn := (CF j hj).1
        rw [a1 j jn c, a2 j jn c]
        by_cases e : j = i
        · rw [← eF] at hj
          obtain ⟨_, r, tr, _, m⟩ := hj
          have : r = j := gr_to_u tr (gr_to_r (by omega))
          rw [this, e] at m
          exact (m z).elim
        · rw [if_neg e]) hj
      have e := (kb ρ ρ' h1 h2 (rF ρ ρ' h1 h2 ag)).2 i hi
      rw [a1 i (by omega) hf, a2 i (by omega) hf, if_pos rfl] at e
      exact absurd (tr_at_inj e) (by decide)
    refine ⟨2 * n + 2, ?_⟩
    have ctl := ct_le (p := fun i => decide (nt0 i = 0)) n
    generalize eQ : (fun r => nt0 r ≠ 0 ∨ ∀ ρ ρ', gr_V n kd pa pb ρ → gr_V n kd pa pb ρ' → ρ t = ρ' t → ρ r = ρ' r) = Q
    have hQ : ∀ r, r < n → Q r → gr_cn (kd r) → (∀ x, gr_to kd pa (pa r) x → Q x) ∧ ∀ x, gr_to kd pa (pb r) x → Q x := by
      subst eQ
      intro i hi hQi hc
      have w := (W i hi).2 hc
      rcases hQi with z | z
      · have f := (F i hi z).2.2 hc
        exact ⟨fun x hx => Or.inl (f.1 x hx), fun x hx => Or.inl (f.2 x hx)⟩
      · refine ⟨fun x hx => Or.inr (fun ρ ρ' h1 h2 h3 => ?_), fun x hx => Or.inr (fun ρ ρ' h1 h2 h3 => ?_)⟩
        · have e := z ρ ρ' h1 h2 h3
          rw [gr_Vc h1 hi hc, gr_Vc h2 hi hc] at e
          rw [← gr_to_V W h1 hx w.1, ← gr_to_V W h2 hx w.1]; exact (tr_con_inj e).2.1
        · have e := z ρ ρ' h1 h2 h3
          rw [gr_Vc h1 hi hc, gr_Vc h2 hi hc] at e
          rw [← gr_to_V W h1 hx w.2, ← gr_to_V W h2 hx w.2]; exact (tr_con_inj e).2.2
    refine yw_gen_l (t := t) (P := Q) (nt0 := nt0) hn W hL hQ (fun nt kd' wh mk wk I1 h0 hk hG' => ?_) (2 * n + 1) [t] nt0 kd a_what mk wk (yq_0 (fun r hr hm => ⟨(F r hr hm).1, by rw [← eQ]; exact Or.inl hm, (F r hr hm).2.2⟩) tn (fun r hr => by
      rw [← eQ]
      exact Or.inr (fun ρ ρ' h1 h2 h3 => by rw [← gr_to_V W h1 hr tn, ← gr_to_V W h2 hr tn]; exact h3))) (fun i hi => hi) (fun i => Or.inr ⟨fun z => z.2.2.1 z.2.2.2, rfl⟩) hG hN hw (by rw [List.length_singleton]; omega) (by rw [List.length_singleton]; omega)
    obtain ⟨F1, F2⟩ := yq_1 I1
    have k1 : ∀ i, kd' i = 1000 ↔ kd i = 1000 := fun i => by
      rcases hk i with z | z
      · omega
      · rw [z.2]
    refine h wh kd' mk wk hG' ?_ k1 (fun i z => ?_) (fun i hi => ?_) (fun i => (hk i).elim (fun y => Or.inr ⟨Or.inr y.2.2.2.2, Or.inl y.1⟩) (fun y => Or.inl y.2))
    · -- the marks as sets
      have hS1 : ∀ r, (r < n ∧ nt r ≠ 0) → r < n ∧ kd r ≠ 1000 ∧ (gr_cn (kd r) → (∀ x, gr_to kd pa (pa r) x → (x < n ∧ nt x ≠ 0)) ∧ ∀ x, gr_to kd pa (pb r) x → (x < n ∧ nt x ≠ 0)) := fun r hr => by
        obtain ⟨a, b, c⟩ := F1 r hr.1 hr.2
        refine ⟨hr.1, a, fun k => ?_⟩
        have w := (W r hr.1).2 k
        exact ⟨fun x hx => ⟨gr_to_n W hx w.1, (c k).1 x hx⟩, fun x hx => ⟨gr_to_n W hx w.2, (c k).2 x hx⟩⟩
      have CR := xq_C (S := fun r => r < n ∧ nt r ≠ 0) W hS1 hL
      have CR2 : gr_C n kd pa pb (fun i => (i < n ∧ ∃ r, gr_to kd pa i r ∧ r < n ∧ nt r ≠ 0) ∧ ∀ ρ ρ', gr_V n kd pa pb ρ → gr_V n kd pa pb ρ' → ρ t = ρ' t → ρ i = ρ' i) := by
        intro i ⟨hi, hd⟩
        obtain ⟨c1, c2, c3⟩ := CR i hi
        refine ⟨c1, fun z => ⟨c2 z, fun ρ ρ' h1 h2 h3 => ?_⟩, fun z => ⟨⟨(c3 z).1, fun ρ ρ' h1 h2 h3 => ?_⟩, (c3 z).2, fun ρ ρ' h1 h2 h3 => ?_⟩⟩
        · rw [← gr_Vl h1 c1 z, ← gr_Vl h2 c1 z]; exact hd ρ ρ' h1 h2 h3
        · have e := hd ρ ρ' h1 h2 h3
          rw [gr_Vc h1 c1 z, gr_Vc h2 c1 z] at e
          exact (tr_con_inj e).2.1
        · have e := hd ρ ρ' h1 h2 h3
          rw [gr_Vc h1 c1 z, gr_Vc h2 c1 z] at e
          exact (tr_con_inj e).2.2
      have tt := gr_L_to hL tn
      refine rp_gen (F := FF) I CI CF (fun ρ ρ' h1 h2 h3 h4 h5 i hi => ?_) (fun ρ ρ' h1 h2 ha => ⟨(kb ρ ρ' h1 h2 (rF ρ ρ' h1 h2 ha)).1, mp_i fun x hx => ha x (inF x (en x hx) (he x hx))⟩) CR2 (fun ρ ρ' h1 h2 h3 i hi => hi.2 ρ ρ' h1 h2 h3) (fun ρ ρ' h1 h2 ha => ha t ⟨⟨tn, _, tt, gr_to_n W tt tn, F2 _ tt⟩, fun _ _ _ _ e => e⟩) (fun ρ ρ' h1 h2 ha => (kb ρ ρ' h1 h2 (rF ρ ρ' h1 h2 ha)).2) (fun i => ?_)
      · rw [← eF] at hi
        obtain ⟨hi, r, tr, rn, m⟩ := hi
        have p := (F r rn m).2.1
        rw [← eP] at p
        rw [gr_to_V W h1 tr hi, gr_to_V W h2 tr hi]; exact p ρ ρ' h1 h2 h3 h4 h5
      · rcases hk i with ⟨z1, z2, z3, z4, z5⟩ | ⟨z1, z2⟩
        · refine Or.inl ⟨z1, ⟨⟨z2, i, gr_to_r (by omega), z2, z3⟩, ?_⟩, fun q => ?_, z5⟩
          · have p := (F1 i z2 z3).2.1
            rw [← eQ] at p
            exact p.resolve_left (fun q => q z4)
          · rw [← eF] at q
            obtain ⟨_, r, tr, _, m⟩ := q
            rw [gr_to_u tr (gr_to_r (by omega))] at m
            exact m z4
        · refine Or.inr ⟨fun ⟨q1, q2, q3⟩ => z1 ⟨q1, q2.1.1, ?_, ?_⟩, z2⟩
          · obtain ⟨_, r, tr, _, m⟩ := q2.1
            rw [gr_to_u tr (gr_to_r (by omega))] at m
            exact m
          · refine Classical.byContradiction fun m => q3 ?_
            rw [← eF]
            exact ⟨q2.1.1, i, gr_to_r (by omega), q2.1.1, m⟩
    · rcases hk i with y | y
      · omega
      · rw [y.2]; exact z
    · rcases hk i with y | y
      · exact (fk i hi (Or.inl y.1) y.2.2.2.1).elim
      · exact y.2
  -- the bindings around
  have l39 : ∀ d j nt mk wk, j + d = env.length → yq_F n kd pa pb nt P → (∀ v, v < 12 → rt v ≠ 0 → ∀ q, gr_to kd pa (rt v - 1) q → nt q ≠ 0) → (∀ i e, i < j → env[env.length - 1 - i]? = some e → ∀ q, gr_to kd pa e q → nt q ≠ 0) → ym_N n mk nt → wY_generalise_39 post (nI t) (d + 1) (nI j) f_count f_accepted f_place f_kept (nI n) f_tt f_pos f_bad f_typing f_unbound f_clash f_top (nI env.length) f_doneName f_doneType a_kind a_value a_keptKind a_keptA a_keptB a_root a_what a_partA a_partB mk a_twin wk a_pairs a_now a_todo a_types a_firm a_bound a_boundType := by
    intro d
    induction d with
    | zero =>
      intro j nt mk wk hj F hv he hN
      refine br_t (nI_le (by omega) (by omega)) ?_
      refine nm_e ?_
      rw [ys_nn (by omega)]
      refine nm_e (last nt mk _ F hv (fun e hm => ?_) hN (st_1p (L := []) trivial))
      obtain ⟨k, hk⟩ := List.getElem?_of_mem hm
      have kl : k < env.length := (List.getElem?_eq_some_iff.mp hk).1
      exact he (env.length - 1 - k) e (by omega) (by rw [show env.length - 1 - (env.length - 1 - k) = k by omega]; exact hk)
    | succ d ih =>
      intro j nt mk wk hj F hv he hN
      refine br_f (nI_ge (by omega) (by omega)) ⟨vp_in_nI (by omega) (by decide), ?_⟩
      rw [nI_clamp (by omega)]
      have hk : env.length - 1 - j < env.length := by omega
      obtain ⟨e, ee⟩ : ∃ e, env[env.length - 1 - j]? = some e := ⟨_, List.getElem?_eq_getElem hk⟩
      have bt := st_1g env (env.length - 1 - j) e hB ee
      rw [show env.length - 1 - (env.length - 1 - j) = j by omega] at bt
      rw [bt]
      have em : e ∈ env := List.mem_of_getElem? ee
      refine yw_spread hn W hG hL hP F (en e em) (fun r hr => ?_) hN (fun nt' mk wk F' up tq hN' => nm_r (nI_1 j) (ih (j + 1) nt' mk wk (by omega) F' (fun v h12 h0 q hq => up q (hv v h12 h0 q hq)) (fun i x hi hx q hq => ?_) hN'))
      · rw [← eP]
        intro ρ ρ' h1 h2 h3 h4 h5
        rw [← gr_to_V W h1 hr (en e em), ← gr_to_V W h2 hr (en e em)]
        exact mp_e h4 e em
      · by_cases c : i = j
        · subst c
          rw [ee] at hx
          cases hx
          exact tq q hq
        · exact up q (he i x (by omega) hx q hq)
  -- the declared types
  have l6 : ∀ d j nt mk wk, j + d = 12 → yq_F n kd pa pb nt P → (∀ v, v < j → rt v ≠ 0 → ∀ q, gr_to kd pa (rt v - 1) q → nt q ≠ 0) → ym_N n mk nt → wY_generalise_6 post (nI t) (d + 1) (nI j) f_count f_accepted f_place f_kept (nI n) f_tt f_pos f_bad f_typing f_unbound f_clash f_top (nI env.length) f_doneName f_doneType a_kind a_value a_keptKind a_keptA a_keptB a_root a_what a_partA a_partB mk a_twin wk a_pairs a_now a_todo a_types a_firm a_bound a_boundType := by
    intro d
    induction d with
    | zero =>
      intro j nt mk wk hj F hv hN
      refine br_t (nI_le (a := 12) (by omega) (by omega)) ⟨env.length + 1, ?_⟩
      exact l39 env.length 0 nt mk wk (by omega) F (fun v h12 h0 => hv v (by omega) h0) (fun i e hi => by omega) hN
    | succ d ih =>
      intro j nt mk wk hj F hv hN
      have vj : vp_in (nI j) 12 := vp_in_nI (by omega) (by decide)
      refine br_f (nI_ge (b := 12) (by omega) (by decide)) ⟨vj, ?_⟩
      rw [nI_clamp (by omega), hR j (by omega)]
      unfold mk_v'
      by_cases z : rt j = 0
      · rw [if_pos z]
        refine br_t (by decide) (nm_r (nI_1 j) (ih (j + 1) nt mk wk (by omega) F (fun v hv' h0 => ?_) hN))
        by_cases c : v = j
        · rw [c] at h0; exact (h0 z).elim
        · exact hv v (by omega) h0
      · rw [if_neg z]
        obtain ⟨rn, rd⟩ := kr j (by omega) z
        refine br_f (nI_nlt (b := 0) (by omega) (by omega)) ⟨vj, ?_⟩
        refine yw_spread hn W hG hL hP F rn (fun r hr => ?_) hN (fun nt' mk wk F' up tq hN' => nm_r (nI_1 j) (ih (j + 1) nt' mk wk (by omega) F' (fun v hv' h0 q hq => ?_) hN'))
        · rw [← eP]
          intro ρ ρ' h1 h2 h3 h4 h5
          rw [← gr_to_V W h1 hr rn, ← gr_to_V W h2 hr rn]
          exact rd ρ ρ' h1 h2 h3 h5
        · by_cases c : v = j
          · rw [c] at hq; exact tq q hq
          · exact up q (hv v (by omega) h0 q hq)
  refine yw_unmark hn (fun mk hz => ⟨13, ?_⟩)
  exact l6 12 0 (fun _ => 0) mk _ (by omega) (fun r _ z => (z rfl).elim) (fun v hv => by omega) (fun i hi => ⟨hz i hi, Nat.zero_le _⟩)
end
