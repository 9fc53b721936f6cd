/-! node -/
/-- the answer so far -/
def nd_a (F : List Nat) (v p0 p j : Nat) : Int32 := if v = p0 ∧ p < j then nI (F.getD p 0) else -1
section
variable {f_count f_accepted f_place f_kept f_nodes f_tt f_pos f_bad f_typing f_unbound f_clash f_top f_scope f_doneName f_doneType : Int32} {a_kind a_value a_keptKind a_keptA a_keptB a_root a_what a_partA a_partB a_mark a_twin a_walk a_pairs a_now a_todo a_types a_firm a_bound a_boundType : Nat → Int32}
variable {kc : Nat} {kk ka kb rt lo hi : Nat → Nat} {g : Nat → tr_T}
theorem yw_n246 {post : Int32 → SY → Prop} {J44 : Int32 → Int32 → Int32 → (Nat → Int32) → (Nat → Int32) → (Nat → Int32) → (Nat → Int32) → (Nat → Int32) → (Nat → Int32) → (Nat → Int32) → (Nat → Int32) → (Nat → Int32) → (Nat → Int32) → (Nat → Int32) → (Nat → Int32) → (Nat → Int32) → (Nat → Int32) → (Nat → Int32) → (Nat → Int32) → (Nat → Int32) → (Nat → Int32) → (Nat → Int32) → Prop} {J89 : Int32 → Int32 → Int32 → Int32 → Int32 → (Nat → Int32) → (Nat → Int32) → (Nat → Int32) → (Nat → Int32) → (Nat → Int32) → (Nat → Int32) → (Nat → Int32) → (Nat → Int32) → (Nat → Int32) → (Nat → Int32) → (Nat → Int32) → (Nat → Int32) → (Nat → Int32) → (Nat → Int32) → (Nat → Int32) → (Nat → Int32) → (Nat → Int32) → (Nat → Int32) → (Nat → Int32) → Prop} {x1 x2 x3 x4 x5 x6 : Int32} {i j : Nat} {S : List Nat} (HK : ky_K kc kk ka kb rt lo hi g) (hG : yg_G kc a_what a_partA a_partB kk ka kb) (hi' : i < kc) (st : st_1 a_walk S) (hS : ∀ z, z ∈ S → z < kc) (hl : S.length ≤ 20)
    (h : ∀ S' wk', st_1 wk' S' → (∀ z, z ∈ S' → z < kc) → S'.length ≤ S.length + 2 → wk_L g (i :: S) = (if gr_fr (kk i) then 1001 + i else kk i) :: wk_L g S' → J89 x3 x4 x5 (nI (j + 1)) (nI S'.length) a_kind a_value a_keptKind a_keptA a_keptB a_root a_what a_partA a_partB a_mark a_twin wk' a_pairs a_now a_todo a_types a_firm a_bound a_boundType) : wY_node_246 post J44 J89 x1 x2 x3 x4 x5 x6 (nI j) (nI S.length) (nI i) f_count f_accepted f_place f_kept f_nodes f_tt f_pos f_bad f_typing f_unbound f_clash f_top f_scope f_doneName f_doneType a_kind a_value a_keptKind a_keptA a_keptB a_root a_what a_partA a_partB a_mark a_twin a_walk a_pairs a_now a_todo a_types a_firm a_bound a_boundType := by
  obtain ⟨W, A, k9, kp, hg, gg, k144, hr, reach⟩ := HK
  have n1 : kk i ≠ 1000 := by have := k9 i hi'; omega
  have cr : (nI i).toNatClampNeg = i := nI_clamp (by omega)
  have cs : (nI S.length).toNatClampNeg = S.length := nI_clamp (by omega)
  have cs1 : (nI (S.length + 1)).toNatClampNeg = S.length + 1 := nI_clamp (by omega)
  have vi : vp_in (nI i) 2000 := vp_in_nI (by omega) (by decide)
  obtain ⟨q1, q2, q3, q4⟩ := wk_1 (S := S) W hg gg hi' (⟨n1, 0, rfl⟩ : gr_to kk ka i i)
  unfold wY_node_246
  refine nm_r (nI_1 j) ⟨vi, ?_⟩
  rw [cr]
  refine yw_p hG hi' n1 (fun c => ?_) (fun c c4 ea eb => ?_) (fun c c5 ea eb => ?_)
  · refine br_t (by decide) ?_
    unfold wY_node_280
    refine ⟨vi, ?_⟩
    rw [cr]
    refine yw_p hG hi' n1 (fun c => br_t (by decide) ?_) (fun c' _ _ _ => (c c').elim) (fun c' _ _ _ => (c c').elim)
    refine h S a_walk st hS (by omega) ?_
    by_cases fr : gr_fr (kk i)
    · rw [if_pos fr]; exact q1 fr
    · rw [if_neg fr]; exact q4 c fr
  · refine br_t (by decide) ?_
    unfold wY_node_280
    refine ⟨vi, ?_⟩
    rw [cr]
    have w := (W i hi').2 c
    refine yw_p hG hi' n1 (fun c' => (c' c).elim) (fun _ _ _ _ => br_f (by decide) (nm_r (nI_1 S.length) ⟨vi, vp_in_nI (by omega) (by decide), ?_⟩)) (fun _ c5' _ _ => by omega)
    rw [cs, ea, ys_v (by omega)]
    refine nm_e (h (ka i :: S) _ (st_1p st) (fun z hz => ?_) (by rw [List.length_cons]; omega) ?_)
    · rcases List.mem_cons.mp hz with e | e
      · rw [e]; exact w.1
      · exact hS z e
    · rw [if_neg (by omega)]; exact q2 (by omega)
  · have w := (W i hi').2 c
    refine br_f (by decide) (nm_r (nI_1 S.length) ⟨vi, vp_in_nI (by omega) (by decide), ?_⟩)
    rw [cs, eb, ys_v (by omega)]
    refine nm_e ?_
    unfold wY_node_280
    refine ⟨vi, ?_⟩
    rw [cr]
    refine yw_p hG hi' n1 (fun c' => (c' c).elim) (fun _ c4 _ _ => by omega) (fun _ _ _ _ => br_f (by decide) (nm_r (nI_1 (S.length + 1)) ⟨vi, vp_in_nI (by omega) (by decide), ?_⟩))
    rw [cs1, ea, ys_v (by omega)]
    refine nm_e (h (ka i :: kb i :: S) _ (st_1p (L := kb i :: S) (st_1p st)) (fun z hz => ?_) (by rw [List.length_cons, List.length_cons]; omega) ?_)
    · rcases List.mem_cons.mp hz with e | e
      · rw [e]; exact w.1
      · rcases List.mem_cons.mp e with e | e
        · rw [e]; exact w.2
        · exact hS z e
    · rw [if_neg (by omega)]; exact q3 (by omega)
theorem yw_n175 {post : Int32 → SY → Prop} {J44 : Int32 → Int32 → Int32 → (Nat → Int32) → (Nat → Int32) → (Nat → Int32) → (Nat → Int32) → (Nat → Int32) → (Nat → Int32) → (Nat → Int32) → (Nat → Int32) → (Nat → Int32) → (Nat → Int32) → (Nat → Int32) → (Nat → Int32) → (Nat → Int32) → (Nat → Int32) → (Nat → Int32) → (Nat → Int32) → (Nat → Int32) → (Nat → Int32) → (Nat → Int32) → Prop} {J89 : Int32 → Int32 → Int32 → Int32 → Int32 → (Nat → Int32) → (Nat → Int32) → (Nat → Int32) → (Nat → Int32) → (Nat → Int32) → (Nat → Int32) → (Nat → Int32) → (Nat → Int32) → (Nat → Int32) → (Nat → Int32) → (Nat → Int32) → (Nat → Int32) → (Nat → Int32) → (Nat → Int32) → (Nat → Int32) → (Nat → Int32) → (Nat → Int32) → (Nat → Int32) → (Nat → Int32) → Prop} {x3 x4 x8 : Int32} {i j v p0 p : Nat} {F : List Nat} (hi' : i < 2000) (hw : a_what i = nI (kk i)) (k9 : kk i < 9) (hv : v < 12) (hp0 : p0 < 12) (hp : p < 2 ^ 31) (hj : j ≤ 20) (c7 : kk i = 7 → 100 + a_mark i = nI (F.getD j 0)) (c8 : kk i = 8 → 10 + a_mark i = nI (F.getD j 0)) (cx : kk i < 7 → kk i = F.getD j 0)
    (h : wY_node_246 post J44 J89 (nI p0) (nI p) x3 x4 (nd_a F v p0 p (j + 1)) (nI v) (nI j) x8 (nI i) f_count f_accepted f_place f_kept f_nodes f_tt f_pos f_bad f_typing f_unbound f_clash f_top f_scope f_doneName f_doneType a_kind a_value a_keptKind a_keptA a_keptB a_root a_what a_partA a_partB a_mark a_twin a_walk a_pairs a_now a_todo a_types a_firm a_bound a_boundType) : wY_node_175 post J44 J89 (nI p0) (nI p) x3 x4 (nd_a F v p0 p j) (nI v) (nI j) x8 (nI i) f_count f_accepted f_place f_kept f_nodes f_tt f_pos f_bad f_typing f_unbound f_clash f_top f_scope f_doneName f_doneType a_kind a_value a_keptKind a_keptA a_keptB a_root a_what a_partA a_partB a_mark a_twin a_walk a_pairs a_now a_todo a_types a_firm a_bound a_boundType := by
  have cl : (nI i).toNatClampNeg = i := nI_clamp (by omega)
  have vi : vp_in (nI i) 2000 := vp_in_nI hi' (by decide)
  have ei : ∀ {x : Nat}, x < 30 → (a_what i = nI x ↔ kk i = x) := fun hx => by rw [hw]; exact nI_eq (by omega) (by omega)
  unfold wY_node_175
  by_cases e : v = p0
  · subst e
    refine br_t rfl ?_
    by_cases ej : j = p
    · subst ej
      have E : nd_a F v v j (j + 1) = nI (F.getD j 0) := if_pos ⟨rfl, by omega⟩
      rw [E] at h
      refine br_t rfl ⟨vi, ?_⟩
      rw [cl]
      by_cases k7 : kk i = 7
      · refine br_t ((ei (x := 7) (by omega)).mpr k7) ⟨vi, ?_⟩
        unfold wY_node_244
        rw [c7 k7]; exact h
      · refine br_f (fun z => k7 ((ei (x := 7) (by omega)).mp z)) ⟨vi, ?_⟩
        by_cases k8 : kk i = 8
        · refine br_t ((ei (x := 8) (by omega)).mpr k8) ⟨vi, ?_⟩
          unfold wY_node_244
          rw [c8 k8]; exact h
        · refine br_f (fun z => k8 ((ei (x := 8) (by omega)).mp z)) ⟨vi, ?_⟩
          unfold wY_node_244
          rw [hw, cx (by omega)]; exact h
    · refine br_f (fun z => ej ((nI_eq (by omega) hp).mp z)) ?_
      have E : nd_a F v v p (j + 1) = nd_a F v v p j := by
        unfold nd_a
        by_cases q : p < j
        · rw [if_pos ⟨rfl, by omega⟩, if_pos ⟨rfl, q⟩]
        · rw [if_neg (fun z => by omega), if_neg (fun z => by omega)]
      rw [E] at h; exact h
  · refine br_f (fun z => e ((nI_eq (by omega) (by omega)).mp z)) ?_
    have E : nd_a F v p0 p (j + 1) = nd_a F v p0 p j := by
      unfold nd_a
      rw [if_neg (fun z => e z.1), if_neg (fun z => e z.1)]
    rw [E] at h; exact h
end
theorem dr_1 {F l : List Nat} {j a : Nat} (h : F.drop j = a :: l) : F.getD j 0 = a ∧ F.drop (j + 1) = l ∧ j < F.length := by
  have lt : j < F.length := by
    have := congrArg List.length h
    rw [List.length_drop, List.length_cons] at this
    omega
  rw [List.drop_eq_getElem_cons lt] at h
  injection h with h1 h2
  refine ⟨?_, h2, lt⟩
  rw [List.getD_eq_getElem?_getD, List.getElem?_eq_getElem lt]
  exact h1
section
variable {f_count f_accepted f_place f_kept f_nodes f_tt f_pos f_bad f_typing f_unbound f_clash f_top f_scope f_doneName f_doneType : Int32} {a_kind a_value a_keptKind a_keptA a_keptB a_root a_what a_partA a_partB a_mark a_twin a_walk a_pairs a_now a_todo a_types a_firm a_bound a_boundType : Nat → Int32}
variable {kc : Nat} {kk ka kb rt lo hi : Nat → Nat} {g : Nat → tr_T}
theorem yw_n89 {post : Int32 → SY → Prop} {J44 : Int32 → Int32 → Int32 → (Nat → Int32) → (Nat → Int32) → (Nat → Int32) → (Nat → Int32) → (Nat → Int32) → (Nat → Int32) → (Nat → Int32) → (Nat → Int32) → (Nat → Int32) → (Nat → Int32) → (Nat → Int32) → (Nat → Int32) → (Nat → Int32) → (Nat → Int32) → (Nat → Int32) → (Nat → Int32) → (Nat → Int32) → (Nat → Int32) → (Nat → Int32) → Prop} {v p0 p : Nat} {F soF : List Nat} {Q : Nat → Prop} {nt0 : Nat → Nat} (HK : ky_K kc kk ka kb rt lo hi g) (hG : yg_G kc a_what a_partA a_partB kk ka kb) (hv : v < 12) (hp0 : p0 < 12) (hp : p < 2 ^ 31) (F12 : F.length ≤ 12)
    (hJ : ∀ (nt : Nat → Nat) (mk wk : Nat → Int32), (∀ i, i < kc → mk i = mk_v' (nt i)) → (∀ i, i < kc → kk i = 7 → nt i = dn_x (1001 + i) soF) → (∀ i, i < kc → kk i = 8 → ¬ Q i → nt i = nt0 i) → J44 (nI soF.length) (nd_a F v p0 p F.length) (nI (v + 1)) a_kind a_value a_keptKind a_keptA a_keptB a_root a_what a_partA a_partB mk a_twin wk a_pairs a_now a_todo a_types a_firm a_bound a_boundType) :
    ∀ (R : List Nat) (j : Nat) (S so sg : List Nat) (nt : Nat → Nat) (mk wk : Nat → Int32), wk_L g S = R → F.drop j = nm_l (kp_c kk) so sg R → nm_so (kp_c kk) so R = soF → dn_N kc kk nt so sg Q → (∀ i, i < kc → mk i = mk_v' (nt i)) → (∀ i, i < kc → kk i = 8 → ¬ Q i → nt i = nt0 i) → (∀ i, i < kc → 1001 + i ∈ R → Q i) → st_1 wk S → (∀ z, z ∈ S → z < kc) → S.length ≤ j + 1 → j + R.length = F.length → so.length ≤ 12 * v + j → sg.length ≤ j →
    wY_node_89 post J44 (nI p0) (nI p) (nI v) f_count f_accepted f_place f_kept f_nodes f_tt f_pos f_bad f_typing f_unbound f_clash f_top f_scope f_doneName f_doneType (R.length + 1) (nI so.length) (nI sg.length) (nd_a F v p0 p j) (nI j) (nI S.length) a_kind a_value a_keptKind a_keptA a_keptB a_root a_what a_partA a_partB mk a_twin wk a_pairs a_now a_todo a_types a_firm a_bound a_boundType := by
  have HK' := HK
  obtain ⟨W, A, k9, kp, hg, gg, k144, hr, reach⟩ := HK
  intro R
  induction R with
  | nil =>
    intro j S so sg nt mk wk eR eF eS N hm h8 hQ st hS hl hj l1 l2
    cases S with
    | cons i S =>
      have := wk_len W A hg gg (hS i List.mem_cons_self)
      rw [wk_0] at eR
      have e := congrArg List.length eR
      rw [List.length_append, List.length_nil] at e
      omega
    | nil =>
      have es : so = soF := eS
      have ej : j = F.length := by rw [← hj]; rfl
      subst es ej
      exact br_t (Int32.le_refl _) (nm_r (nI_1 v) (hJ nt mk wk hm (fun i hi c => (N i hi).1 c) h8))
  | cons y R ih =>
    intro j S so sg nt mk wk eR eF eS N hm h8 hQ st hS hl hj l1 l2
    cases S with
    | nil => cases eR
    | cons i S =>
      rw [List.length_cons] at hl hj
      have hi' := hS i List.mem_cons_self
      have hS' : ∀ z, z ∈ S → z < kc := fun z hz => hS z (List.mem_cons_of_mem _ hz)
      have ki := k9 i hi'
      have n1 : kk i ≠ 1000 := by omega
      have cl : (nI i).toNatClampNeg = i := nI_clamp (by omega)
      have vi : vp_in (nI i) 2000 := vp_in_nI (by omega) (by decide)
      have cs : (nI S.length).toNatClampNeg = S.length := nI_clamp (by omega)
      have hw : a_what i = nI (kk i) := by rw [(yg_r hG hi' n1).2.2.1, yk_l ki]
      have ei : ∀ {x : Nat}, x < 30 → (a_what i = nI x ↔ kk i = x) := fun hx => by rw [hw]; exact nI_eq (by omega) (by omega)
      obtain ⟨q1, q2, q3, q4⟩ := wk_1 (S := S) W hg gg hi' (⟨n1, 0, rfl⟩ : gr_to kk ka i i)
      have hy : y = if gr_fr (kk i) then 1001 + i else kk i := by
        by_cases fr : gr_fr (kk i)
        · rw [if_pos fr]; rw [q1 fr] at eR; injection eR with a b; exact a.symm
        · rw [if_neg fr]
          by_cases c : gr_cn (kk i)
          · by_cases c4 : kk i ≤ 4
            · rw [q2 (by omega)] at eR; injection eR with a b; exact a.symm
            · rw [q3 (by omega)] at eR; injection eR with a b; exact a.symm
          · rw [q4 c fr] at eR; injection eR with a b; exact a.symm
      obtain ⟨f1, f2, f3⟩ := dr_1 (a := nm_c (kp_c kk) so sg y) (l := nm_l (kp_c kk) (nm_o (kp_c kk) so y) (nm_g (kp_c kk) sg y) R) eF
      have eS' : nm_so (kp_c kk) (nm_o (kp_c kk) so y) R = soF := eS
      have go : ∀ (so' sg' : List Nat) (nt' : Nat → Nat) (mk' : Nat → Int32), nm_o (kp_c kk) so y = so' → nm_g (kp_c kk) sg y = sg' → dn_N kc kk nt' so' sg' Q → (∀ i, i < kc → mk' i = mk_v' (nt' i)) → (∀ i, i < kc → kk i = 8 → ¬ Q i → nt' i = nt0 i) → so'.length ≤ so.length + 1 → sg'.length ≤ sg.length + 1 → (kk i = 7 → 100 + mk' i = nI (F.getD j 0)) → (kk i = 8 → 10 + mk' i = nI (F.getD j 0)) → (kk i < 7 → kk i = F.getD j 0) →
          wY_node_175 post J44 (wY_node_89 post J44 (nI p0) (nI p) (nI v) f_count f_accepted f_place f_kept f_nodes f_tt f_pos f_bad f_typing f_unbound f_clash f_top f_scope f_doneName f_doneType (R.length + 1)) (nI p0) (nI p) (nI so'.length) (nI sg'.length) (nd_a F v p0 p j) (nI v) (nI j) (nI S.length) (nI i) f_count f_accepted f_place f_kept f_nodes f_tt f_pos f_bad f_typing f_unbound f_clash f_top f_scope f_doneName f_doneType a_kind a_value a_keptKind a_keptA a_keptB a_root a_what a_partA a_partB mk' a_twin wk a_pairs a_now a_todo a_types a_firm a_bound a_boundType := by
        intro so' sg' nt' mk' eo eg N' hm' h8' lo' lg' a7 a8 ax
        refine yw_n175 (by omega) hw ki hv hp0 hp (by omega) a7 a8 ax ?_
        refine yw_n246 HK' hG hi' st.2 hS' (by omega) (fun S2 wk2 st2 hS2 hl2 e2 => ?_)
        rw [eR, ← hy] at e2
        injection e2 with _ e2
        refine ih (j + 1) S2 so' sg' nt' mk' wk2 e2.symm (by rw [f2, eo, eg]) (by rw [← eo]; exact eS') N' hm' h8' (fun i hi hm => hQ i hi (List.mem_cons_of_mem _ hm)) st2 hS2 (by omega) (by omega) (by omega) (by omega)
      refine br_f (nI_nle (by rw [List.length_cons]; omega) (by rw [List.length_cons]; omega)) ?_
      rw [List.length_cons, pk_m1]
      refine nm_e ⟨vp_in_nI (by omega) (by decide), ?_⟩
      rw [cs, st.1]
      refine nm_e ⟨vi, ?_⟩
      rw [cl]
      by_cases k7 : kk i = 7
      · refine br_t ((ei (x := 7) (by omega)).mpr k7) ⟨vi, ?_⟩
        have ey : y = 1001 + i := by rw [hy, if_pos (Or.inl k7)]
        rw [ey] at f1
        obtain ⟨d1, d2, d3, d4, d5⟩ := dn_o N hi' k7
        rw [hm i hi']
        by_cases z : nt i = 0
        · rw [if_pos z] at d1 d3
          refine br_f (by rw [z]; decide) (nm_r (nI_1 so.length) ⟨vi, ?_⟩)
          rw [ys_nn (by omega)]
          refine nm_e ⟨vi, ?_⟩
          rw [cl]
          refine br_f (fun q => by have := (ei (x := 8) (by omega)).mp q; omega) ?_
          have gg' := go (so ++ [1001 + i]) sg (gr_u nt i (so.length + 1)) (upd mk i (nI so.length)) (by rw [ey]; exact d3) (by rw [ey]; exact d2) (d4 z) (fun x hx => ?_) (fun x hx c8 nq => ?_) (by rw [List.length_append]; exact Nat.le_refl _) (by omega) (fun _ => ?_) (fun c => by omega) (fun c => by omega)
          · rw [List.length_append] at gg'
            exact gg'
          · by_cases e : x = i
            · subst e; rw [pk_us, gr_us]; exact (if_neg (by omega)).symm
            · rw [pk_un e, gr_un e]; exact hm x hx
          · have e : x ≠ i := fun e => by rw [e] at c8; omega
            rw [gr_un e]; exact h8 x hx c8 nq
          · rw [pk_us, f1, d1]; exact nI_add 100 so.length
        · rw [if_neg z] at d1 d3
          have en : mk_v' (nt i) = nI (nt i - 1) := if_neg z
          have := d5 z
          refine br_t (by rw [en]; exact nI_pos' (by omega)) ⟨vi, ?_⟩
          rw [cl]
          refine br_f (fun q => by have := (ei (x := 8) (by omega)).mp q; omega) ?_
          refine go so sg nt mk (by rw [ey]; exact d3) (by rw [ey]; exact d2) N hm h8 (by omega) (by omega) (fun _ => ?_) (fun c => by omega) (fun c => by omega)
          rw [hm i hi', en, f1, d1]; exact nI_add 100 _
      · refine br_f (fun q => k7 ((ei (x := 7) (by omega)).mp q)) ⟨vi, ?_⟩
        rw [cl]
        by_cases k8 : kk i = 8
        · refine br_t ((ei (x := 8) (by omega)).mpr k8) ⟨vi, ?_⟩
          have ey : y = 1001 + i := by rw [hy, if_pos (Or.inr k8)]
          rw [ey] at f1
          obtain ⟨d1, d2, d3, d4, d5⟩ := dn_g N hi' k8 (hQ i hi' (by rw [ey]; exact List.mem_cons_self))
          rw [hm i hi']
          by_cases z : nt i = 0
          · rw [if_pos z] at d1 d3
            refine br_f (by rw [z]; decide) (nm_r (nI_1 sg.length) ⟨vi, ?_⟩)
            rw [ys_nn (by omega)]
            refine nm_e ?_
            have gg' := go so (sg ++ [1001 + i]) (gr_u nt i (sg.length + 1)) (upd mk i (nI sg.length)) (by rw [ey]; exact d2) (by rw [ey]; exact d3) (d4 z) (fun x hx => ?_) (fun x hx c8 nq => ?_) (by omega) (by rw [List.length_append]; exact Nat.le_refl _) (fun c => by omega) (fun _ => ?_) (fun c => by omega)
            · rw [List.length_append] at gg'
              exact gg'
            · by_cases e : x = i
              · subst e; rw [pk_us, gr_us]; exact (if_neg (by omega)).symm
              · rw [pk_un e, gr_un e]; exact hm x hx
            · have e : x ≠ i := fun e => nq (by rw [e]; exact hQ i hi' (by rw [ey]; exact List.mem_cons_self))
              rw [gr_un e]; exact h8 x hx c8 nq
            · rw [pk_us, f1, d1]; exact nI_add 10 sg.length
          · rw [if_neg z] at d1 d3
            have en : mk_v' (nt i) = nI (nt i - 1) := if_neg z
            have := d5 z
            refine br_t (by rw [en]; exact nI_pos' (by omega)) ?_
            refine go so sg nt mk (by rw [ey]; exact d2) (by rw [ey]; exact d3) N hm h8 (by omega) (by omega) (fun c => by omega) (fun _ => ?_) (fun c => by omega)
            rw [hm i hi', en, f1, d1]; exact nI_add 10 _
        · refine br_f (fun q => k8 ((ei (x := 8) (by omega)).mp q)) ?_
          have ey : y = kk i := by rw [hy, if_neg (by omega)]
          obtain ⟨d1, d2, d3⟩ := dn_k (cl := kp_c kk) (so := so) (sg := sg) (c := y) (by omega)
          refine go so sg nt mk d2 d3 N hm h8 (by omega) (by omega) (fun c => by omega) (fun c => by omega) (fun _ => ?_)
          rw [f1, d1, ey]
end
