/-! the reference reads a type -/
def yu_I (kc : Nat) (kk ka kb : Nat → Nat) (n : Nat) (stk : List Nat) (st : List tr_T) (wh pA pB tys : Nat → Int32) : Prop := ∃ kd pa pb, sp_I kc n kd pa pb stk st ∧ gr_same kc kk ka kb kd pa pb ∧ yg_G n wh pA pB kd pa pb ∧ st_1 tys stk
theorem yu_s {kc n k x y : Nat} {kk ka kb kd pa pb : Nat → Nat} (h : kc ≤ n) (s : gr_same kc kk ka kb kd pa pb) : gr_same kc kk ka kb (gr_u kd n k) (gr_u pa n x) (gr_u pb n y) := fun i hi => by
  rw [gr_un (by omega), gr_un (by omega), gr_un (by omega)]; exact s i hi
theorem yu_leaf {kc n p w x : Nat} {kk ka kb K N : Nat → Nat} {stk : List Nat} {st : List tr_T} {wh pA pB tys : Nat → Int32} {y : Int32} (I : yu_I kc kk ka kb n stk st wh pA pB tys) (hp : (31 ≤ K p ∧ K p ≤ 33) ∨ K p = 35) (hN : K p = 35 → N p < 4) (hw : (K p = 35 ∧ w = 9 ∧ x = N p) ∨ (K p ≠ 35 ∧ w = K p - 31)) :
    yu_I kc kk ka kb (n + 1) (n :: stk) (ts_1 K N st 80 p) (upd wh n (nI w)) (upd pA n (nI x)) (upd pB n y) (upd tys stk.length (nI n)) := by
  obtain ⟨kd, pa, pb, I, s, G, st'⟩ := I
  refine ⟨_, _, _, sp_80 (x := 0) (y := 0) I hp hN, yu_s I.1 s, ?_, st_1p st'⟩
  rcases hw with ⟨c, e1, e2⟩ | ⟨c, e1⟩
  · have := hN c
    rw [if_pos c]
    refine yg_mk G (by omega) (by omega) (by rw [e1]; exact (yk_9 (by omega)).symm) (fun z => by omega) (fun z => by omega) (fun _ => by rw [e2, Nat.add_sub_cancel_left])
  · rw [if_neg c]
    refine yg_mk G (by omega) (by omega) (by rw [e1]; exact (yk_l (by omega)).symm) (fun z => by omega) (fun z => by omega) (fun z => by omega)
theorem yu_34 {kc n p k t : Nat} {kk ka kb K N : Nat → Nat} {r : List Nat} {st : List tr_T} {wh pA pB tys : Nat → Int32} {y : Int32} (I : yu_I kc kk ka kb n (t :: r) st wh pA pB tys) (hp : (K p = 34 ∧ k = 3) ∨ (K p = 23 ∧ k = 4)) :
    yu_I kc kk ka kb (n + 1) (n :: r) (ts_1 K N st 83 p) (upd wh n (nI k)) (upd pA n (nI t)) (upd pB n y) (upd tys r.length (nI n)) := by
  obtain ⟨kd, pa, pb, I, s, G, st'⟩ := I
  refine ⟨_, _, _, sp_34 I hp, yu_s I.1 s, ?_, st_1p st'.2⟩
  exact yg_mk G (by omega) (by omega) (yk_l (by omega)).symm (fun z => by omega) (fun _ => ⟨rfl, fun z => by omega, fun _ => rfl⟩) (fun z => by omega)
theorem yu_36 {kc n p k t u : Nat} {kk ka kb K N : Nat → Nat} {r : List Nat} {st : List tr_T} {wh pA pB tys : Nat → Int32} (I : yu_I kc kk ka kb n (t :: u :: r) st wh pA pB tys) (hp : (K p = 36 ∧ k = 5) ∨ (K p = 37 ∧ k = 6)) :
    yu_I kc kk ka kb (n + 1) (n :: r) (ts_1 K N st 83 p) (upd wh n (nI k)) (upd pA n (nI u)) (upd pB n (nI t)) (upd tys r.length (nI n)) := by
  obtain ⟨kd, pa, pb, I, s, G, st'⟩ := I
  refine ⟨_, _, _, sp_36 I hp, yu_s I.1 s, ?_, st_1p st'.2.2⟩
  exact yg_mk G (by omega) (by omega) (yk_l (by omega)).symm (fun z => by omega) (fun _ => ⟨rfl, fun _ => rfl, fun z => by omega⟩) (fun z => by omega)
theorem yu_top {kc n t : Nat} {kk ka kb : Nat → Nat} {r : List Nat} {st : List tr_T} {wh pA pB tys : Nat → Int32} (I : yu_I kc kk ka kb n (t :: r) st wh pA pB tys) : tys r.length = nI t ∧ t < n := by
  obtain ⟨kd, pa, pb, I, s, G, st'⟩ := I
  exact ⟨st'.1, (I.2.2.2.2.1 t List.mem_cons_self).2⟩
theorem yu_top2 {kc n t u : Nat} {kk ka kb : Nat → Nat} {r : List Nat} {st : List tr_T} {wh pA pB tys : Nat → Int32} (I : yu_I kc kk ka kb n (t :: u :: r) st wh pA pB tys) : tys r.length = nI u ∧ u < n := by
  obtain ⟨kd, pa, pb, I, s, G, st'⟩ := I
  exact ⟨st'.2.1, (I.2.2.2.2.1 u (List.mem_cons_of_mem _ List.mem_cons_self)).2⟩
section
variable {f_count f_accepted f_place f_kept f_nodes f_tt f_pos f_bad f_typing f_unbound f_clash f_top f_scope f_doneName f_doneType : Int32} {a_kind a_value a_keptKind a_keptA a_keptB a_root a_what a_partA a_partB a_mark a_twin a_walk a_pairs a_now a_todo a_types a_firm a_bound a_boundType : Nat → Int32}
variable {c a : Nat} {K N : Nat → Nat} {L : List Nat}
theorem yr_27 {post : SY → Prop} {w : Int32} (hT : tk_T a_kind a_value c K N) (ha : a ≤ c) (hL : L.length + 2 < 320) (st : st_1 a_todo L) (h : ∀ td, st_1 td (29 :: 28 :: L) → post (nI c, f_accepted, f_place, f_kept, f_nodes, nI (L.length + 2), nI a, f_bad, f_typing, f_unbound, f_clash, f_top, f_scope, f_doneName, f_doneType, a_kind, a_value, a_keptKind, a_keptA, a_keptB, a_root, a_what, a_partA, a_partB, a_mark, a_twin, a_walk, a_pairs, a_now, td, a_types, a_firm, a_bound, a_boundType)) : wpY_readType post (nI c, f_accepted, f_place, f_kept, f_nodes, nI L.length, nI a, f_bad, f_typing, f_unbound, f_clash, f_top, f_scope, f_doneName, f_doneType, a_kind, a_value, a_keptKind, a_keptA, a_keptB, a_root, a_what, a_partA, a_partB, a_mark, a_twin, a_walk, a_pairs, a_now, a_todo, a_types, a_firm, a_bound, a_boundType) (nI 27) w := by
  unfold wpY_readType
  refine yw_tok hT ha ?_
  refine br_f (by decide) (br_f (by decide) (br_t (by decide) ?_))
  exact yw_then (t := L.length) (s := 28) (w := 0) (by omega) (by omega) (by omega) (yw_then (t := L.length + 1) (s := 29) (w := 0) (by omega) (by omega) (by omega) (h _ (st_1p (L := 28 :: L) (st_1p st))))
theorem yr_28 {post : SY → Prop} {w : Int32} (hT : tk_T a_kind a_value c K N) (ha : a ≤ c) (hL : L.length + 2 < 320) (st : st_1 a_todo L) (h0 : K a ≠ 37 → post (nI c, f_accepted, f_place, f_kept, f_nodes, nI L.length, nI a, f_bad, f_typing, f_unbound, f_clash, f_top, f_scope, f_doneName, f_doneType, a_kind, a_value, a_keptKind, a_keptA, a_keptB, a_root, a_what, a_partA, a_partB, a_mark, a_twin, a_walk, a_pairs, a_now, a_todo, a_types, a_firm, a_bound, a_boundType)) (h1 : K a = 37 → ∀ td, st_1 td (27 :: (32 + 64 * 6) :: L) → post (nI c, f_accepted, f_place, f_kept, f_nodes, nI (L.length + 2), nI (a + 1), f_bad, f_typing, f_unbound, f_clash, f_top, f_scope, f_doneName, f_doneType, a_kind, a_value, a_keptKind, a_keptA, a_keptB, a_root, a_what, a_partA, a_partB, a_mark, a_twin, a_walk, a_pairs, a_now, td, a_types, a_firm, a_bound, a_boundType)) : wpY_readType post (nI c, f_accepted, f_place, f_kept, f_nodes, nI L.length, nI a, f_bad, f_typing, f_unbound, f_clash, f_top, f_scope, f_doneName, f_doneType, a_kind, a_value, a_keptKind, a_keptA, a_keptB, a_root, a_what, a_partA, a_partB, a_mark, a_twin, a_walk, a_pairs, a_now, a_todo, a_types, a_firm, a_bound, a_boundType) (nI 28) w := by
  unfold wpY_readType
  refine yw_tok hT ha ?_
  refine br_f (by decide) (br_f (by decide) (br_f (by decide) (br_t (by decide) ?_)))
  unfold wY_readType_55
  refine br_t (by decide) ?_
  unfold wY_readType_69
  by_cases k : K a = 37
  · refine br_t (yt_y k (by decide)) (nm_r (nI_1 a) (br_t (by decide) ?_))
    unfold wY_readType_98
    exact yw_then (t := L.length) (s := 32) (w := 6) (by omega) (by omega) (by omega) (yw_then (t := L.length + 1) (s := 27) (w := 0) (by omega) (by omega) (by omega) (h1 k _ (st_1p (L := (32 + 64 * 6) :: L) (st_1p st))))
  · exact br_f (yt_n hT k (by decide)) (h0 k)
theorem yr_30 {post : SY → Prop} {w : Int32} (hT : tk_T a_kind a_value c K N) (ha : a ≤ c) (hL : L.length + 2 < 320) (st : st_1 a_todo L) (h0 : K a ≠ 36 → post (nI c, f_accepted, f_place, f_kept, f_nodes, nI L.length, nI a, f_bad, f_typing, f_unbound, f_clash, f_top, f_scope, f_doneName, f_doneType, a_kind, a_value, a_keptKind, a_keptA, a_keptB, a_root, a_what, a_partA, a_partB, a_mark, a_twin, a_walk, a_pairs, a_now, a_todo, a_types, a_firm, a_bound, a_boundType)) (h1 : K a = 36 → ∀ td, st_1 td (29 :: (32 + 64 * 5) :: L) → post (nI c, f_accepted, f_place, f_kept, f_nodes, nI (L.length + 2), nI (a + 1), f_bad, f_typing, f_unbound, f_clash, f_top, f_scope, f_doneName, f_doneType, a_kind, a_value, a_keptKind, a_keptA, a_keptB, a_root, a_what, a_partA, a_partB, a_mark, a_twin, a_walk, a_pairs, a_now, td, a_types, a_firm, a_bound, a_boundType)) : wpY_readType post (nI c, f_accepted, f_place, f_kept, f_nodes, nI L.length, nI a, f_bad, f_typing, f_unbound, f_clash, f_top, f_scope, f_doneName, f_doneType, a_kind, a_value, a_keptKind, a_keptA, a_keptB, a_root, a_what, a_partA, a_partB, a_mark, a_twin, a_walk, a_pairs, a_now, a_todo, a_types, a_firm, a_bound, a_boundType) (nI 30) w := by
  unfold wpY_readType
  refine yw_tok hT ha ?_
  refine br_f (by decide) (br_f (by decide) (br_f (by decide) (br_f (by decide) (br_f (by decide) (br_t (by decide) ?_)))))
  unfold wY_readType_55
  refine br_f (by decide) ?_
  unfold wY_readType_69
  by_cases k : K a = 36
  · refine br_t (yt_y k (by decide)) (nm_r (nI_1 a) (br_f (by decide) ?_))
    unfold wY_readType_98
    exact yw_then (t := L.length) (s := 32) (w := 5) (by omega) (by omega) (by omega) (yw_then (t := L.length + 1) (s := 29) (w := 0) (by omega) (by omega) (by omega) (h1 k _ (st_1p (L := (32 + 64 * 5) :: L) (st_1p st))))
  · exact br_f (yt_n hT k (by decide)) (h0 k)
theorem yr_31 {post : SY → Prop} {w : Int32} {kc n : Nat} {kk ka kb : Nat → Nat} {st0 : List tr_T} {stk : List Nat} (hT : tk_T a_kind a_value c K N) (ha : a ≤ c) (hL : L.length + 2 < 320) (st : st_1 a_todo L) (I : yu_I kc kk ka kb n stk st0 a_what a_partA a_partB a_types) (h1s : 1 ≤ stk.length) (hs : stk.length < 64) (hn : n < 2000) (h0 : ¬ (K a = 34 ∨ K a = 23) → post (nI c, f_accepted, f_place, f_kept, nI n, nI L.length, nI a, f_bad, f_typing, f_unbound, f_clash, nI stk.length, f_scope, f_doneName, f_doneType, a_kind, a_value, a_keptKind, a_keptA, a_keptB, a_root, a_what, a_partA, a_partB, a_mark, a_twin, a_walk, a_pairs, a_now, a_todo, a_types, a_firm, a_bound, a_boundType)) (h1 : (K a = 34 ∨ K a = 23) → ∀ stk' td wh pA pB tys, stk'.length = stk.length → yu_I kc kk ka kb (n + 1) stk' (ts_1 K N st0 83 a) wh pA pB tys → st_1 td (31 :: L) → post (nI c, f_accepted, f_place, f_kept, nI (n + 1), nI (L.length + 1), nI (a + 1), f_bad, f_typing, f_unbound, f_clash, nI stk.length, f_scope, f_doneName, f_doneType, a_kind, a_value, a_keptKind, a_keptA, a_keptB, a_root, wh, pA, pB, a_mark, a_twin, a_walk, a_pairs, a_now, td, tys, a_firm, a_bound, a_boundType)) : wpY_readType post (nI c, f_accepted, f_place, f_kept, nI n, nI L.length, nI a, f_bad, f_typing, f_unbound, f_clash, nI stk.length, f_scope, f_doneName, f_doneType, a_kind, a_value, a_keptKind, a_keptA, a_keptB, a_root, a_what, a_partA, a_partB, a_mark, a_twin, a_walk, a_pairs, a_now, a_todo, a_types, a_firm, a_bound, a_boundType) (nI 31) w := by
  unfold wpY_readType
  refine yw_tok hT ha ?_
  refine br_f (by decide) (br_f (by decide) (br_f (by decide) (br_f (by decide) (br_f (by decide) (br_f (by decide) (br_t (by decide) ?_))))))
  obtain ⟨t, r, ee⟩ := ls_1 (l := stk) h1s
  subst ee
  rw [List.length_cons] at hs
  have q : ∀ k, (K a = 34 ∧ k = 3) ∨ (K a = 23 ∧ k = 4) → wY_readType_277 post (nI k) (nI (r.length + 1) - 1) (nI c) f_accepted f_place f_kept (nI n) (nI L.length) (nI (a + 1)) f_bad f_typing f_unbound f_clash (nI (r.length + 1)) f_scope f_doneName f_doneType a_kind a_value a_keptKind a_keptA a_keptB a_root a_what a_partA a_partB a_mark a_twin a_walk a_pairs a_now a_todo a_types a_firm a_bound a_boundType := by
    intro k hk
    unfold wY_readType_277
    rw [nI_pred]
    have vr : vp_in (nI r.length) 64 := vp_in_nI (by omega) (by decide)
    have cr : (nI r.length).toNatClampNeg = r.length := nI_clamp (by omega)
    obtain ⟨et, tn⟩ := yu_top I
    refine ⟨vr, yw_make hn ⟨vr, ?_⟩⟩
    rw [cr, et, yb_n (by omega), ys_n (a := t) (by omega), ys_nn (a := n) (by omega)]
    refine nm_e (yw_then (t := L.length) (s := 31) (w := 0) (by omega) (by omega) (by omega) ?_)
    exact h1 (by omega) (n :: r) _ _ _ _ _ rfl (yu_34 (y := (0 : Int32).toInt16.toInt32) I hk) (st_1p st)
  by_cases k34 : K a = 34
  · refine br_t (yt_y k34 (by decide)) ?_
    unfold wY_readType_245
    refine nm_r (nI_1 a) (br_t (yt_y k34 (by decide)) ?_)
    exact q 3 (Or.inl ⟨k34, rfl⟩)
  · refine br_f (yt_n hT k34 (by decide)) ?_
    by_cases k23 : K a = 23
    · refine br_t (yt_y k23 (by decide)) ?_
      unfold wY_readType_245
      refine nm_r (nI_1 a) (br_f (yt_n hT k34 (by decide)) ?_)
      exact q 4 (Or.inr ⟨k23, rfl⟩)
    · exact br_f (yt_n hT k23 (by decide)) (h0 (by omega))
theorem yr_32 {post : SY → Prop} {kc n p k : Nat} {kk ka kb : Nat → Nat} {st0 : List tr_T} {stk : List Nat} (hT : tk_T a_kind a_value c K N) (ha : a ≤ c) (I : yu_I kc kk ka kb n stk st0 a_what a_partA a_partB a_types) (h2s : 2 ≤ stk.length) (hs : stk.length < 64) (hn : n < 2000) (hk : (K p = 36 ∧ k = 5) ∨ (K p = 37 ∧ k = 6)) (h1 : ∀ stk' wh pA pB tys fr, stk'.length + 1 = stk.length → yu_I kc kk ka kb (n + 1) stk' (ts_1 K N st0 83 p) wh pA pB tys → post (nI c, f_accepted, f_place, f_kept, nI (n + 1), f_tt, nI a, f_bad, f_typing, f_unbound, f_clash, nI stk'.length, f_scope, f_doneName, f_doneType, a_kind, a_value, a_keptKind, a_keptA, a_keptB, a_root, wh, pA, pB, a_mark, a_twin, a_walk, a_pairs, a_now, a_todo, tys, fr, a_bound, a_boundType)) : wpY_readType post (nI c, f_accepted, f_place, f_kept, nI n, f_tt, nI a, f_bad, f_typing, f_unbound, f_clash, nI stk.length, f_scope, f_doneName, f_doneType, a_kind, a_value, a_keptKind, a_keptA, a_keptB, a_root, a_what, a_partA, a_partB, a_mark, a_twin, a_walk, a_pairs, a_now, a_todo, a_types, a_firm, a_bound, a_boundType) (nI 32) (nI k) := by
  unfold wpY_readType
  refine yw_tok hT ha ?_
  refine br_f (by decide) (br_t (by decide) ?_)
  obtain ⟨t, u, r, ee⟩ := ls_2 (l := stk) h2s
  subst ee
  have e2 : nI (t :: u :: r).length - 2 = nI r.length := by
    show nI (r.length + 2) - nI 2 = _
    rw [pk_sub (by omega), Nat.add_sub_cancel]
  have hs' : r.length + 2 < 64 := hs
  rw [e2]
  have vr : vp_in (nI r.length) 64 := vp_in_nI (by omega) (by decide)
  have vr1 : vp_in (nI (r.length + 1)) 64 := vp_in_nI (by omega) (by decide)
  have cr : (nI r.length).toNatClampNeg = r.length := nI_clamp (by omega)
  have cr1 : (nI (r.length + 1)).toNatClampNeg = r.length + 1 := nI_clamp (by omega)
  obtain ⟨et, tn⟩ := yu_top I
  obtain ⟨eu, un⟩ := yu_top2 I
  refine nm_e ⟨vr, ?_⟩
  rw [nI_1]
  refine ⟨vr1, ?_⟩
  rw [cr, cr1, show a_types (r.length + 1) = nI t from et, eu]
  refine yw_make hn (yw_push (b := true) (by omega) (by omega) ?_)
  rw [yb_n (by omega), ys_n (by omega), ys_n (by omega)]
  exact h1 (n :: r) _ _ _ _ _ rfl (yu_36 I hk)
end
