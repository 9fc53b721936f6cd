/-! the reference's reading, turn by turn -/
/-- the tokens stop being a beginning at place q -/
def yb_Z (q c : Nat) (post : SY → Prop) (f_accepted f_place f_kept : Int32) (a_kind a_value a_keptKind a_keptA a_keptB a_root a_now : Nat → Int32) : Prop :=
  ∀ (f_nodes f_tt f_typing f_unbound f_clash f_top f_scope f_doneName f_doneType : Int32) (a_what a_partA a_partB a_mark a_twin a_walk a_pairs a_todo a_types a_firm a_bound a_boundType : Nat → Int32), post (nI c, f_accepted, f_place, f_kept, f_nodes, f_tt, nI q, 1, f_typing, f_unbound, f_clash, f_top, f_scope, f_doneName, f_doneType, a_kind, a_value, a_keptKind, a_keptA, a_keptB, a_root, a_what, a_partA, a_partB, a_mark, a_twin, a_walk, a_pairs, a_now, a_todo, a_types, a_firm, a_bound, a_boundType)
section
variable {f_count f_accepted f_place f_kept f_nodes f_tt f_pos f_bad f_typing f_unbound f_clash f_top f_scope f_doneName f_doneType : Int32} {a_kind a_value a_keptKind a_keptA a_keptB a_root a_what a_partA a_partB a_mark a_twin a_walk a_pairs a_now a_todo a_types a_firm a_bound a_boundType : Nat → Int32}
variable {c a : Nat} {K N : Nat → Nat} {L : List Nat}
theorem yd_63 {r w : Nat} (hr : r < 64) (hw : w < 1048576) : nI (r + 64 * w) &&& 63 = nI r := by
  rw [pk_andN (by omega) 6 (by decide)]
  congr 1
  omega
theorem yd_6 {r w : Nat} (hr : r < 64) (hw : w < 1048576) : nI (r + 64 * w) >>> ((6 : Int32) &&& 31) = nI w := by
  rw [pk_shrN (by omega) _ 6 (by decide)]
  congr 1
  omega
theorem yw_te {post : Int32 → SY → Prop} {F r w : Nat} (hr : r < 14) (hw : w < 1048576) (hL : L.length < 320) (st : st_1 a_todo ((r + 64 * w) :: L)) (h : wpY_expression (fun u => match u with | (f_count, f_accepted, f_place, f_kept, f_nodes, f_tt, f_pos, f_bad, f_typing, f_unbound, f_clash, f_top, f_scope, f_doneName, f_doneType, a_kind, a_value, a_keptKind, a_keptA, a_keptB, a_root, a_what, a_partA, a_partB, a_mark, a_twin, a_walk, a_pairs, a_now, a_todo, a_types, a_firm, a_bound, a_boundType) => wY_read_46 post F f_count f_accepted f_place f_kept f_nodes f_tt f_pos f_bad f_typing f_unbound f_clash f_top f_scope f_doneName f_doneType a_kind a_value a_keptKind a_keptA a_keptB a_root a_what a_partA a_partB a_mark a_twin a_walk a_pairs a_now a_todo a_types a_firm a_bound a_boundType) (f_count, f_accepted, f_place, f_kept, f_nodes, nI L.length, f_pos, 0, f_typing, f_unbound, f_clash, f_top, f_scope, f_doneName, f_doneType, a_kind, a_value, a_keptKind, a_keptA, a_keptB, a_root, a_what, a_partA, a_partB, a_mark, a_twin, a_walk, a_pairs, a_now, a_todo, a_types, a_firm, a_bound, a_boundType) (nI r) (nI w)) : wY_read_46 post (F + 1) f_count f_accepted f_place f_kept f_nodes (nI (L.length + 1)) f_pos 0 f_typing f_unbound f_clash f_top f_scope f_doneName f_doneType a_kind a_value a_keptKind a_keptA a_keptB a_root a_what a_partA a_partB a_mark a_twin a_walk a_pairs a_now a_todo a_types a_firm a_bound a_boundType := by
  refine br_f (nI_nle (by omega) (by omega)) (br_t rfl (nm_r (nI_pred L.length) ?_))
  rw [nI_pred]
  refine ⟨vp_in_nI hL (by decide), ?_⟩
  rw [nI_clamp (by omega), st.1]
  refine nm_e ?_
  rw [yd_63 (by omega) hw, yd_6 (by omega) hw]
  exact br_t (nI_lt (b := 27) (by omega) (by decide)) (br_t (nI_lt (b := 14) hr (by decide)) h)
theorem yw_tf {post : Int32 → SY → Prop} {F r w : Nat} (hr : r < 27) (hr2 : 14 ≤ r) (hw : w < 1048576) (hL : L.length < 320) (st : st_1 a_todo ((r + 64 * w) :: L)) (h : wpY_finish (fun u => match u with | (f_count, f_accepted, f_place, f_kept, f_nodes, f_tt, f_pos, f_bad, f_typing, f_unbound, f_clash, f_top, f_scope, f_doneName, f_doneType, a_kind, a_value, a_keptKind, a_keptA, a_keptB, a_root, a_what, a_partA, a_partB, a_mark, a_twin, a_walk, a_pairs, a_now, a_todo, a_types, a_firm, a_bound, a_boundType) => wY_read_46 post F f_count f_accepted f_place f_kept f_nodes f_tt f_pos f_bad f_typing f_unbound f_clash f_top f_scope f_doneName f_doneType a_kind a_value a_keptKind a_keptA a_keptB a_root a_what a_partA a_partB a_mark a_twin a_walk a_pairs a_now a_todo a_types a_firm a_bound a_boundType) (f_count, f_accepted, f_place, f_kept, f_nodes, nI L.length, f_pos, 0, f_typing, f_unbound, f_clash, f_top, f_scope, f_doneName, f_doneType, a_kind, a_value, a_keptKind, a_keptA, a_keptB, a_root, a_what, a_partA, a_partB, a_mark, a_twin, a_walk, a_pairs, a_now, a_todo, a_types, a_firm, a_bound, a_boundType) (nI r) (nI w)) : wY_read_46 post (F + 1) f_count f_accepted f_place f_kept f_nodes (nI (L.length + 1)) f_pos 0 f_typing f_unbound f_clash f_top f_scope f_doneName f_doneType a_kind a_value a_keptKind a_keptA a_keptB a_root a_what a_partA a_partB a_mark a_twin a_walk a_pairs a_now a_todo a_types a_firm a_bound a_boundType := by
  refine br_f (nI_nle (by omega) (by omega)) (br_t rfl (nm_r (nI_pred L.length) ?_))
  rw [nI_pred]
  refine ⟨vp_in_nI hL (by decide), ?_⟩
  rw [nI_clamp (by omega), st.1]
  refine nm_e ?_
  rw [yd_63 (by omega) hw, yd_6 (by omega) hw]
  exact br_t (nI_lt (b := 27) hr (by decide)) (br_f (nI_nlt (b := 14) hr2 (by omega)) h)
theorem yw_tt {post : Int32 → SY → Prop} {F r w : Nat} (hr : r < 64) (hr2 : 27 ≤ r) (hw : w < 1048576) (hL : L.length < 320) (st : st_1 a_todo ((r + 64 * w) :: L)) (h : wpY_readType (fun u => match u with | (f_count, f_accepted, f_place, f_kept, f_nodes, f_tt, f_pos, f_bad, f_typing, f_unbound, f_clash, f_top, f_scope, f_doneName, f_doneType, a_kind, a_value, a_keptKind, a_keptA, a_keptB, a_root, a_what, a_partA, a_partB, a_mark, a_twin, a_walk, a_pairs, a_now, a_todo, a_types, a_firm, a_bound, a_boundType) => wY_read_46 post F f_count f_accepted f_place f_kept f_nodes f_tt f_pos f_bad f_typing f_unbound f_clash f_top f_scope f_doneName f_doneType a_kind a_value a_keptKind a_keptA a_keptB a_root a_what a_partA a_partB a_mark a_twin a_walk a_pairs a_now a_todo a_types a_firm a_bound a_boundType) (f_count, f_accepted, f_place, f_kept, f_nodes, nI L.length, f_pos, 0, f_typing, f_unbound, f_clash, f_top, f_scope, f_doneName, f_doneType, a_kind, a_value, a_keptKind, a_keptA, a_keptB, a_root, a_what, a_partA, a_partB, a_mark, a_twin, a_walk, a_pairs, a_now, a_todo, a_types, a_firm, a_bound, a_boundType) (nI r) (nI w)) : wY_read_46 post (F + 1) f_count f_accepted f_place f_kept f_nodes (nI (L.length + 1)) f_pos 0 f_typing f_unbound f_clash f_top f_scope f_doneName f_doneType a_kind a_value a_keptKind a_keptA a_keptB a_root a_what a_partA a_partB a_mark a_twin a_walk a_pairs a_now a_todo a_types a_firm a_bound a_boundType := by
  refine br_f (nI_nle (by omega) (by omega)) (br_t rfl (nm_r (nI_pred L.length) ?_))
  rw [nI_pred]
  refine ⟨vp_in_nI hL (by decide), ?_⟩
  rw [nI_clamp (by omega), st.1]
  refine nm_e ?_
  rw [yd_63 (by omega) hw, yd_6 (by omega) hw]
  exact br_f (nI_nlt (b := 27) hr2 (by omega)) h
/-- the loop after a fault -/
theorem yw_bad {post : Int32 → SY → Prop} {F : Nat} {tt : Int32} (h : post 0 (f_count, f_accepted, f_place, f_kept, f_nodes, tt, f_pos, 1, f_typing, f_unbound, f_clash, f_top, f_scope, f_doneName, f_doneType, a_kind, a_value, a_keptKind, a_keptA, a_keptB, a_root, a_what, a_partA, a_partB, a_mark, a_twin, a_walk, a_pairs, a_now, a_todo, a_types, a_firm, a_bound, a_boundType)) : wY_read_46 post (F + 1) f_count f_accepted f_place f_kept f_nodes tt f_pos 1 f_typing f_unbound f_clash f_top f_scope f_doneName f_doneType a_kind a_value a_keptKind a_keptA a_keptB a_root a_what a_partA a_partB a_mark a_twin a_walk a_pairs a_now a_todo a_types a_firm a_bound a_boundType :=
  br_c (fun _ => br_f (by decide) h) (fun _ => br_f (by decide) (br_f (by decide) h))
/-! single symbols; L waits below -/
theorem ye_1 {post : SY → Prop} {k : Nat} (hT : tk_T a_kind a_value c K N) (ha : a ≤ c) (hk : k < 38) (h1 : K a = k → post (nI c, f_accepted, f_place, f_kept, f_nodes, f_tt, nI (a + 1), 0, f_typing, f_unbound, f_clash, f_top, f_scope, f_doneName, f_doneType, a_kind, a_value, a_keptKind, a_keptA, a_keptB, a_root, a_what, a_partA, a_partB, a_mark, a_twin, a_walk, a_pairs, a_now, a_todo, a_types, a_firm, a_bound, a_boundType)) (h0 : K a ≠ k → post (nI c, f_accepted, f_place, f_kept, f_nodes, f_tt, nI a, 1, f_typing, f_unbound, f_clash, f_top, f_scope, f_doneName, f_doneType, a_kind, a_value, a_keptKind, a_keptA, a_keptB, a_root, a_what, a_partA, a_partB, a_mark, a_twin, a_walk, a_pairs, a_now, a_todo, a_types, a_firm, a_bound, a_boundType)) : wpY_expression post (nI c, f_accepted, f_place, f_kept, f_nodes, f_tt, nI a, 0, f_typing, f_unbound, f_clash, f_top, f_scope, f_doneName, f_doneType, a_kind, a_value, a_keptKind, a_keptA, a_keptB, a_root, a_what, a_partA, a_partB, a_mark, a_twin, a_walk, a_pairs, a_now, a_todo, a_types, a_firm, a_bound, a_boundType) 1 (nI k) := by
  unfold wpY_expression
  refine yw_tok hT ha ?_
  refine br_f (by decide) (br_f (by decide) (br_t (by decide) ?_))
  exact yw_take hT ha (by omega) h1 h0
theorem ye_mic {post : SY → Prop} {k k2 : Nat} {w : Int32} (hk : (k = 3 ∧ k2 = 5) ∨ (k = 5 ∧ k2 = 7) ∨ (k = 7 ∧ k2 = 9) ∨ (k = 9 ∧ k2 = 11) ∨ (k = 11 ∧ k2 = 13)) (hT : tk_T a_kind a_value c K N) (ha : a ≤ c) (hL : L.length + 2 < 320) (st : st_1 a_todo L) (h : ∀ td, st_1 td (k2 :: (k + 1) :: L) → post (nI c, f_accepted, f_place, f_kept, f_nodes, nI (L.length + 2), nI a, f_bad, f_typing, f_unbound, f_clash, f_top, f_scope, f_doneName, f_doneType, a_kind, a_value, a_keptKind, a_keptA, a_keptB, a_root, a_what, a_partA, a_partB, a_mark, a_twin, a_walk, a_pairs, a_now, td, a_types, a_firm, a_bound, a_boundType)) : wpY_expression post (nI c, f_accepted, f_place, f_kept, f_nodes, nI L.length, nI a, f_bad, f_typing, f_unbound, f_clash, f_top, f_scope, f_doneName, f_doneType, a_kind, a_value, a_keptKind, a_keptA, a_keptB, a_root, a_what, a_partA, a_partB, a_mark, a_twin, a_walk, a_pairs, a_now, a_todo, a_types, a_firm, a_bound, a_boundType) (nI k) w := by
  unfold wpY_expression
  refine yw_tok hT ha ?_
  rcases hk with ⟨rfl, rfl⟩ | ⟨rfl, rfl⟩ | ⟨rfl, rfl⟩ | ⟨rfl, rfl⟩ | ⟨rfl, rfl⟩
  · refine br_f (by decide) (br_f (by decide) (br_f (by decide) (br_f (by decide) (br_t (by decide) ?_))))
    unfold wY_expression_81
    refine yw_then (s := 4) (w := 0) (by omega) (by omega) (by omega) (br_f (by decide) ?_)
    exact yw_then (s := 5) (w := 0) (by omega) (by omega) (by omega) (h _ (st_1p (L := 4 :: L) (st_1p st)))
  · refine br_f (by decide) (br_f (by decide) (br_f (by decide) (br_f (by decide) (br_f (by decide) (br_f (by decide) (br_t (by decide) ?_))))))
    unfold wY_expression_81
    refine yw_then (s := 6) (w := 0) (by omega) (by omega) (by omega) (br_f (by decide) ?_)
    exact yw_then (s := 7) (w := 0) (by omega) (by omega) (by omega) (h _ (st_1p (L := 6 :: L) (st_1p st)))
  · refine br_f (by decide) (br_f (by decide) (br_f (by decide) (br_f (by decide) (br_f (by decide) (br_f (by decide) (br_f (by decide) (br_f (by decide) (br_t (by decide) ?_))))))))
    unfold wY_expression_81
    refine yw_then (s := 8) (w := 0) (by omega) (by omega) (by omega) (br_f (by decide) ?_)
    exact yw_then (s := 9) (w := 0) (by omega) (by omega) (by omega) (h _ (st_1p (L := 8 :: L) (st_1p st)))
  · refine br_f (by decide) (br_f (by decide) (br_f (by decide) (br_f (by decide) (br_f (by decide) (br_f (by decide) (br_f (by decide) (br_f (by decide) (br_f (by decide) (br_f (by decide) (br_t (by decide) ?_))))))))))
    unfold wY_expression_81
    refine yw_then (s := 10) (w := 0) (by omega) (by omega) (by omega) (br_f (by decide) ?_)
    exact yw_then (s := 11) (w := 0) (by omega) (by omega) (by omega) (h _ (st_1p (L := 10 :: L) (st_1p st)))
  · refine br_f (by decide) (br_f (by decide) (br_f (by decide) (br_f (by decide) (br_f (by decide) (br_f (by decide) (br_f (by decide) (br_f (by decide) (br_f (by decide) (br_f (by decide) (br_f (by decide) (br_f (by decide) (br_t (by decide) ?_))))))))))))
    unfold wY_expression_81
    refine yw_then (s := 12) (w := 0) (by omega) (by omega) (by omega) (br_t (by decide) ?_)
    exact yw_then (s := 13) (w := 0) (by omega) (by omega) (by omega) (h _ (st_1p (L := 12 :: L) (st_1p st)))
/-- the tails of an expression, from a level on -/
theorem yl_11 {post : Int32 → SY → Prop} {F : Nat} (hT : tk_T a_kind a_value c K N) (ha : a ≤ c) (hL : L.length + 12 < 320) (st : st_1 a_todo (11 :: L)) (h : ∀ td, st_1 td (13 :: 12 :: L) → wY_read_46 post F (nI c) f_accepted f_place f_kept f_nodes (nI (L.length + 2)) (nI a) 0 f_typing f_unbound f_clash f_top f_scope f_doneName f_doneType a_kind a_value a_keptKind a_keptA a_keptB a_root a_what a_partA a_partB a_mark a_twin a_walk a_pairs a_now td a_types a_firm a_bound a_boundType) : wY_read_46 post (F + 1) (nI c) f_accepted f_place f_kept f_nodes (nI (L.length + 1)) (nI a) 0 f_typing f_unbound f_clash f_top f_scope f_doneName f_doneType a_kind a_value a_keptKind a_keptA a_keptB a_root a_what a_partA a_partB a_mark a_twin a_walk a_pairs a_now a_todo a_types a_firm a_bound a_boundType :=
  yw_te (r := 11) (w := 0) (by omega) (by omega) (by omega) st (ye_mic (by omega) hT ha (by omega) st.2 h)
theorem yl_9 {post : Int32 → SY → Prop} {F : Nat} (hT : tk_T a_kind a_value c K N) (ha : a ≤ c) (hL : L.length + 13 < 320) (st : st_1 a_todo (9 :: L)) (h : ∀ td, st_1 td (13 :: 12 :: 10 :: L) → wY_read_46 post F (nI c) f_accepted f_place f_kept f_nodes (nI (L.length + 3)) (nI a) 0 f_typing f_unbound f_clash f_top f_scope f_doneName f_doneType a_kind a_value a_keptKind a_keptA a_keptB a_root a_what a_partA a_partB a_mark a_twin a_walk a_pairs a_now td a_types a_firm a_bound a_boundType) : wY_read_46 post (F + 2) (nI c) f_accepted f_place f_kept f_nodes (nI (L.length + 1)) (nI a) 0 f_typing f_unbound f_clash f_top f_scope f_doneName f_doneType a_kind a_value a_keptKind a_keptA a_keptB a_root a_what a_partA a_partB a_mark a_twin a_walk a_pairs a_now a_todo a_types a_firm a_bound a_boundType :=
  yw_te (r := 9) (w := 0) (by omega) (by omega) (by omega) st (ye_mic (k := 9) (k2 := 11) (by omega) hT ha (by omega) st.2 (fun td s => yl_11 (L := 10 :: L) hT ha (by simp; omega) s h))
theorem yl_7 {post : Int32 → SY → Prop} {F : Nat} (hT : tk_T a_kind a_value c K N) (ha : a ≤ c) (hL : L.length + 14 < 320) (st : st_1 a_todo (7 :: L)) (h : ∀ td, st_1 td (13 :: 12 :: 10 :: 8 :: L) → wY_read_46 post F (nI c) f_accepted f_place f_kept f_nodes (nI (L.length + 4)) (nI a) 0 f_typing f_unbound f_clash f_top f_scope f_doneName f_doneType a_kind a_value a_keptKind a_keptA a_keptB a_root a_what a_partA a_partB a_mark a_twin a_walk a_pairs a_now td a_types a_firm a_bound a_boundType) : wY_read_46 post (F + 3) (nI c) f_accepted f_place f_kept f_nodes (nI (L.length + 1)) (nI a) 0 f_typing f_unbound f_clash f_top f_scope f_doneName f_doneType a_kind a_value a_keptKind a_keptA a_keptB a_root a_what a_partA a_partB a_mark a_twin a_walk a_pairs a_now a_todo a_types a_firm a_bound a_boundType :=
  yw_te (r := 7) (w := 0) (by omega) (by omega) (by omega) st (ye_mic (k := 7) (k2 := 9) (by omega) hT ha (by omega) st.2 (fun td s => yl_9 (L := 8 :: L) hT ha (by simp; omega) s h))
theorem yl_5 {post : Int32 → SY → Prop} {F : Nat} (hT : tk_T a_kind a_value c K N) (ha : a ≤ c) (hL : L.length + 15 < 320) (st : st_1 a_todo (5 :: L)) (h : ∀ td, st_1 td (13 :: 12 :: 10 :: 8 :: 6 :: L) → wY_read_46 post F (nI c) f_accepted f_place f_kept f_nodes (nI (L.length + 5)) (nI a) 0 f_typing f_unbound f_clash f_top f_scope f_doneName f_doneType a_kind a_value a_keptKind a_keptA a_keptB a_root a_what a_partA a_partB a_mark a_twin a_walk a_pairs a_now td a_types a_firm a_bound a_boundType) : wY_read_46 post (F + 4) (nI c) f_accepted f_place f_kept f_nodes (nI (L.length + 1)) (nI a) 0 f_typing f_unbound f_clash f_top f_scope f_doneName f_doneType a_kind a_value a_keptKind a_keptA a_keptB a_root a_what a_partA a_partB a_mark a_twin a_walk a_pairs a_now a_todo a_types a_firm a_bound a_boundType :=
  yw_te (r := 5) (w := 0) (by omega) (by omega) (by omega) st (ye_mic (k := 5) (k2 := 7) (by omega) hT ha (by omega) st.2 (fun td s => yl_7 (L := 6 :: L) hT ha (by simp; omega) s h))
theorem yl_3 {post : Int32 → SY → Prop} {F : Nat} (hT : tk_T a_kind a_value c K N) (ha : a ≤ c) (hL : L.length + 16 < 320) (st : st_1 a_todo (3 :: L)) (h : ∀ td, st_1 td (13 :: 12 :: 10 :: 8 :: 6 :: 4 :: L) → wY_read_46 post F (nI c) f_accepted f_place f_kept f_nodes (nI (L.length + 6)) (nI a) 0 f_typing f_unbound f_clash f_top f_scope f_doneName f_doneType a_kind a_value a_keptKind a_keptA a_keptB a_root a_what a_partA a_partB a_mark a_twin a_walk a_pairs a_now td a_types a_firm a_bound a_boundType) : wY_read_46 post (F + 5) (nI c) f_accepted f_place f_kept f_nodes (nI (L.length + 1)) (nI a) 0 f_typing f_unbound f_clash f_top f_scope f_doneName f_doneType a_kind a_value a_keptKind a_keptA a_keptB a_root a_what a_partA a_partB a_mark a_twin a_walk a_pairs a_now a_todo a_types a_firm a_bound a_boundType :=
  yw_te (r := 3) (w := 0) (by omega) (by omega) (by omega) st (ye_mic (k := 3) (k2 := 5) (by omega) hT ha (by omega) st.2 (fun td s => yl_5 (L := 4 :: L) hT ha (by simp; omega) s h))
/-- an expression that begins with neither fn nor if -/
theorem ye_2 {post : SY → Prop} {w : Int32} (hT : tk_T a_kind a_value c K N) (ha : a ≤ c) (k4 : K a ≠ 4) (k12 : K a ≠ 12) (hL : L.length + 2 < 320) (st : st_1 a_todo L) (h : ∀ td, st_1 td (3 :: L) → post (nI c, f_accepted, f_place, f_kept, f_nodes, nI (L.length + 1), nI a, f_bad, f_typing, f_unbound, f_clash, f_top, f_scope, f_doneName, f_doneType, a_kind, a_value, a_keptKind, a_keptA, a_keptB, a_root, a_what, a_partA, a_partB, a_mark, a_twin, a_walk, a_pairs, a_now, td, a_types, a_firm, a_bound, a_boundType)) : wpY_expression post (nI c, f_accepted, f_place, f_kept, f_nodes, nI L.length, nI a, f_bad, f_typing, f_unbound, f_clash, f_top, f_scope, f_doneName, f_doneType, a_kind, a_value, a_keptKind, a_keptA, a_keptB, a_root, a_what, a_partA, a_partB, a_mark, a_twin, a_walk, a_pairs, a_now, a_todo, a_types, a_firm, a_bound, a_boundType) 2 w := by
  unfold wpY_expression
  refine yw_tok hT ha ?_
  refine br_f (by decide) (br_f (by decide) (br_f (by decide) (br_t (by decide) ?_)))
  refine br_f (yt_n (k := 4) hT k4 (by omega)) (br_f (yt_n (k := 12) hT k12 (by omega)) ?_)
  exact yw_then (s := 3) (w := 0) (by omega) (by omega) (by omega) (h _ (st_1p st))
theorem ye_if {post : SY → Prop} {w : Int32} (hT : tk_T a_kind a_value c K N) (ha : a < c) (k12 : K a = 12) (hL : L.length + 7 < 320) (st : st_1 a_todo L) (h : ∀ td, st_1 td (2 :: (1 + 64 * 13) :: 2 :: (1 + 64 * 14) :: 2 :: (22 + 64 * a) :: L) → post (nI c, f_accepted, f_place, f_kept, f_nodes, nI (L.length + 6), nI (a + 1), f_bad, f_typing, f_unbound, f_clash, f_top, f_scope, f_doneName, f_doneType, a_kind, a_value, a_keptKind, a_keptA, a_keptB, a_root, a_what, a_partA, a_partB, a_mark, a_twin, a_walk, a_pairs, a_now, td, a_types, a_firm, a_bound, a_boundType)) : wpY_expression post (nI c, f_accepted, f_place, f_kept, f_nodes, nI L.length, nI a, f_bad, f_typing, f_unbound, f_clash, f_top, f_scope, f_doneName, f_doneType, a_kind, a_value, a_keptKind, a_keptA, a_keptB, a_root, a_what, a_partA, a_partB, a_mark, a_twin, a_walk, a_pairs, a_now, a_todo, a_types, a_firm, a_bound, a_boundType) 2 w := by
  have c24 := hT.1
  unfold wpY_expression
  refine yw_tok hT (by omega) ?_
  refine br_f (by decide) (br_f (by decide) (br_f (by decide) (br_t (by decide) ?_)))
  refine br_f (yt_n (k := 4) hT (by omega) (by omega)) (br_t (yt_y (k := 12) k12 (by omega)) (nm_r (nI_1 a) ?_))
  refine yw_then (s := 22) (w := a) (by omega) (by omega) (by omega) ?_
  refine yw_then (s := 2) (w := 0) (by omega) (by omega) (by omega) ?_
  refine yw_then (s := 1) (w := 14) (by omega) (by omega) (by omega) ?_
  refine yw_then (s := 2) (w := 0) (by omega) (by omega) (by omega) ?_
  refine yw_then (s := 1) (w := 13) (by omega) (by omega) (by omega) ?_
  refine yw_then (s := 2) (w := 0) (by omega) (by omega) (by omega) ?_
  exact h _ (st_1p (L := (1 + 64 * 13) :: 2 :: (1 + 64 * 14) :: 2 :: (22 + 64 * a) :: L) (st_1p (L := 2 :: (1 + 64 * 14) :: 2 :: (22 + 64 * a) :: L) (st_1p (L := (1 + 64 * 14) :: 2 :: (22 + 64 * a) :: L) (st_1p (L := 2 :: (22 + 64 * a) :: L) (st_1p (L := (22 + 64 * a) :: L) (st_1p st))))))
theorem ye_4 {post : SY → Prop} {w : Int32} (hT : tk_T a_kind a_value c K N) (ha : a ≤ c) (hL : L.length + 3 < 320) (st : st_1 a_todo L) (h0 : K a ≠ 25 → post (nI c, f_accepted, f_place, f_kept, f_nodes, nI L.length, nI a, f_bad, f_typing, f_unbound, f_clash, f_top, f_scope, f_doneName, f_doneType, a_kind, a_value, a_keptKind, a_keptA, a_keptB, a_root, a_what, a_partA, a_partB, a_mark, a_twin, a_walk, a_pairs, a_now, a_todo, a_types, a_firm, a_bound, a_boundType)) (h1 : K a = 25 → ∀ td, st_1 td (3 :: (23 + 64 * a) :: L) → post (nI c, f_accepted, f_place, f_kept, f_nodes, nI (L.length + 2), nI (a + 1), f_bad, f_typing, f_unbound, f_clash, f_top, f_scope, f_doneName, f_doneType, a_kind, a_value, a_keptKind, a_keptA, a_keptB, a_root, a_what, a_partA, a_partB, a_mark, a_twin, a_walk, a_pairs, a_now, td, a_types, a_firm, a_bound, a_boundType)) : wpY_expression post (nI c, f_accepted, f_place, f_kept, f_nodes, nI L.length, nI a, f_bad, f_typing, f_unbound, f_clash, f_top, f_scope, f_doneName, f_doneType, a_kind, a_value, a_keptKind, a_keptA, a_keptB, a_root, a_what, a_partA, a_partB, a_mark, a_twin, a_walk, a_pairs, a_now, a_todo, a_types, a_firm, a_bound, a_boundType) 4 w := by
  have c24 := hT.1
  unfold wpY_expression
  refine yw_tok hT ha ?_
  refine br_f (by decide) (br_f (by decide) (br_f (by decide) (br_f (by decide) (br_f (by decide) (br_t (by decide) ?_)))))
  unfold wY_expression_109
  refine br_t rfl ?_
  unfold wY_expression_122
  by_cases k : K a = 25
  · refine br_t (yt_y (k := 25) k (by omega)) (br_t rfl (nm_r (nI_1 a) ?_))
    refine yw_then (s := 23) (w := a) (by omega) (by omega) (by omega) ?_
    exact yw_then (s := 3) (w := 0) (by omega) (by omega) (by omega) (h1 k _ (st_1p (L := (23 + 64 * a) :: L) (st_1p st)))
  · exact br_f (yt_n (k := 25) hT k (by omega)) (h0 k)
theorem ye_6 {post : SY → Prop} {w : Int32} (hT : tk_T a_kind a_value c K N) (ha : a ≤ c) (hL : L.length + 3 < 320) (st : st_1 a_todo L) (h0 : K a ≠ 18 → post (nI c, f_accepted, f_place, f_kept, f_nodes, nI L.length, nI a, f_bad, f_typing, f_unbound, f_clash, f_top, f_scope, f_doneName, f_doneType, a_kind, a_value, a_keptKind, a_keptA, a_keptB, a_root, a_what, a_partA, a_partB, a_mark, a_twin, a_walk, a_pairs, a_now, a_todo, a_types, a_firm, a_bound, a_boundType)) (h1 : K a = 18 → ∀ td, st_1 td (5 :: (24 + 64 * a) :: L) → post (nI c, f_accepted, f_place, f_kept, f_nodes, nI (L.length + 2), nI (a + 1), f_bad, f_typing, f_unbound, f_clash, f_top, f_scope, f_doneName, f_doneType, a_kind, a_value, a_keptKind, a_keptA, a_keptB, a_root, a_what, a_partA, a_partB, a_mark, a_twin, a_walk, a_pairs, a_now, td, a_types, a_firm, a_bound, a_boundType)) : wpY_expression post (nI c, f_accepted, f_place, f_kept, f_nodes, nI L.length, nI a, f_bad, f_typing, f_unbound, f_clash, f_top, f_scope, f_doneName, f_doneType, a_kind, a_value, a_keptKind, a_keptA, a_keptB, a_root, a_what, a_partA, a_partB, a_mark, a_twin, a_walk, a_pairs, a_now, a_todo, a_types, a_firm, a_bound, a_boundType) 6 w := by
  have c24 := hT.1
  unfold wpY_expression
  refine yw_tok hT ha ?_
  refine br_f (by decide) (br_f (by decide) (br_f (by decide) (br_f (by decide) (br_f (by decide) (br_f (by decide) (br_f (by decide) (br_t (by decide) ?_)))))))
  unfold wY_expression_109
  refine br_f (by decide) ?_
  unfold wY_expression_122
  by_cases k : K a = 18
  · refine br_t (yt_y (k := 18) k (by omega)) (br_f (by decide) (nm_r (nI_1 a) ?_))
    refine yw_then (s := 24) (w := a) (by omega) (by omega) (by omega) ?_
    exact yw_then (s := 5) (w := 0) (by omega) (by omega) (by omega) (h1 k _ (st_1p (L := (24 + 64 * a) :: L) (st_1p st)))
  · exact br_f (yt_n (k := 18) hT k (by omega)) (h0 k)
theorem ye_190 {post : SY → Prop} {x : Nat} (hx : x < 60) (hT : tk_T a_kind a_value c K N) (ha : a ≤ c) (hL : L.length + 4 < 320) (st : st_1 a_todo L) (h1 : ∀ td, st_1 td ((x + 1) :: (25 + 64 * a) :: x :: L) → post (nI c, f_accepted, f_place, f_kept, f_nodes, nI (L.length + 3), nI (a + 1), f_bad, f_typing, f_unbound, f_clash, f_top, f_scope, f_doneName, f_doneType, a_kind, a_value, a_keptKind, a_keptA, a_keptB, a_root, a_what, a_partA, a_partB, a_mark, a_twin, a_walk, a_pairs, a_now, td, a_types, a_firm, a_bound, a_boundType)) : wY_expression_190 post (nI x) (nI c) f_accepted f_place f_kept f_nodes (nI L.length) (nI a) f_bad f_typing f_unbound f_clash f_top f_scope f_doneName f_doneType a_kind a_value a_keptKind a_keptA a_keptB a_root a_what a_partA a_partB a_mark a_twin a_walk a_pairs a_now a_todo a_types a_firm a_bound a_boundType := by
  have c24 := hT.1
  have s0 : st_1 (upd a_todo L.length (nI (x + 64 * 0))) (x :: L) := st_1p st
  unfold wY_expression_190
  refine yw_then (s := x) (w := 0) (by omega) (by omega) (by omega) (nm_r (nI_1 a) ?_)
  refine yw_then (s := 25) (w := a) (by omega) (by omega) (by omega) ?_
  rw [nI_1]
  exact yw_then (s := x + 1) (w := 0) (by omega) (by omega) (by omega) (h1 _ (st_1p (L := (25 + 64 * a) :: x :: L) (st_1p (L := x :: L) s0)))
theorem ye_8 {post : SY → Prop} {w : Int32} (hT : tk_T a_kind a_value c K N) (ha : a ≤ c) (hL : L.length + 4 < 320) (st : st_1 a_todo L) (h0 : K a ≠ 21 → post (nI c, f_accepted, f_place, f_kept, f_nodes, nI L.length, nI a, f_bad, f_typing, f_unbound, f_clash, f_top, f_scope, f_doneName, f_doneType, a_kind, a_value, a_keptKind, a_keptA, a_keptB, a_root, a_what, a_partA, a_partB, a_mark, a_twin, a_walk, a_pairs, a_now, a_todo, a_types, a_firm, a_bound, a_boundType)) (h1 : K a = 21 → ∀ td, st_1 td (9 :: (25 + 64 * a) :: 8 :: L) → post (nI c, f_accepted, f_place, f_kept, f_nodes, nI (L.length + 3), nI (a + 1), f_bad, f_typing, f_unbound, f_clash, f_top, f_scope, f_doneName, f_doneType, a_kind, a_value, a_keptKind, a_keptA, a_keptB, a_root, a_what, a_partA, a_partB, a_mark, a_twin, a_walk, a_pairs, a_now, td, a_types, a_firm, a_bound, a_boundType)) : wpY_expression post (nI c, f_accepted, f_place, f_kept, f_nodes, nI L.length, nI a, f_bad, f_typing, f_unbound, f_clash, f_top, f_scope, f_doneName, f_doneType, a_kind, a_value, a_keptKind, a_keptA, a_keptB, a_root, a_what, a_partA, a_partB, a_mark, a_twin, a_walk, a_pairs, a_now, a_todo, a_types, a_firm, a_bound, a_boundType) 8 w := by
  unfold wpY_expression
  refine yw_tok hT ha ?_
  refine br_f (by decide) (br_f (by decide) (br_f (by decide) (br_f (by decide) (br_f (by decide) (br_f (by decide) (br_f (by decide) (br_f (by decide) (br_f (by decide) (br_t (by decide) ?_)))))))))
  unfold wY_expression_162
  refine br_t rfl ?_
  by_cases k : K a = 21
  · exact br_t (yt_y (k := 21) k (by omega)) (ye_190 (x := 8) (by omega) hT ha hL st (h1 k))
  · exact br_f (yt_n (k := 21) hT k (by omega)) (h0 k)
theorem ye_10 {post : SY → Prop} {w : Int32} (hT : tk_T a_kind a_value c K N) (ha : a ≤ c) (hL : L.length + 4 < 320) (st : st_1 a_todo L) (h0 : ¬ (K a = 19 ∨ K a = 20) → post (nI c, f_accepted, f_place, f_kept, f_nodes, nI L.length, nI a, f_bad, f_typing, f_unbound, f_clash, f_top, f_scope, f_doneName, f_doneType, a_kind, a_value, a_keptKind, a_keptA, a_keptB, a_root, a_what, a_partA, a_partB, a_mark, a_twin, a_walk, a_pairs, a_now, a_todo, a_types, a_firm, a_bound, a_boundType)) (h1 : (K a = 19 ∨ K a = 20) → ∀ td, st_1 td (11 :: (25 + 64 * a) :: 10 :: L) → post (nI c, f_accepted, f_place, f_kept, f_nodes, nI (L.length + 3), nI (a + 1), f_bad, f_typing, f_unbound, f_clash, f_top, f_scope, f_doneName, f_doneType, a_kind, a_value, a_keptKind, a_keptA, a_keptB, a_root, a_what, a_partA, a_partB, a_mark, a_twin, a_walk, a_pairs, a_now, td, a_types, a_firm, a_bound, a_boundType)) : wpY_expression post (nI c, f_accepted, f_place, f_kept, f_nodes, nI L.length, nI a, f_bad, f_typing, f_unbound, f_clash, f_top, f_scope, f_doneName, f_doneType, a_kind, a_value, a_keptKind, a_keptA, a_keptB, a_root, a_what, a_partA, a_partB, a_mark, a_twin, a_walk, a_pairs, a_now, a_todo, a_types, a_firm, a_bound, a_boundType) 10 w := by
  unfold wpY_expression
  refine yw_tok hT ha ?_
  refine br_f (by decide) (br_f (by decide) (br_f (by decide) (br_f (by decide) (br_f (by decide) (br_f (by decide) (br_f (by decide) (br_f (by decide) (br_f (by decide) (br_f (by decide) (br_f (by decide) (br_t (by decide) ?_)))))))))))
  unfold wY_expression_162
  refine br_f (by decide) ?_
  by_cases k : K a = 19
  · exact br_t (yt_y (k := 19) k (by omega)) (ye_190 (x := 10) (by omega) hT ha hL st (h1 (Or.inl k)))
  · refine br_f (yt_n (k := 19) hT k (by omega)) ?_
    by_cases k' : K a = 20
    · exact br_t (yt_y (k := 20) k' (by omega)) (ye_190 (x := 10) (by omega) hT ha hL st (h1 (Or.inr k')))
    · exact br_f (yt_n (k := 20) hT k' (by omega)) (h0 (by omega))
/-- whether an atom begins here -/
def pm_bg (t : Nat) : Bool := pm_alone t || decide (t = 15) || decide (t = 6)
theorem ye_12 {post : SY → Prop} {w : Int32} (hT : tk_T a_kind a_value c K N) (ha : a ≤ c) (hL : L.length + 4 < 320) (st : st_1 a_todo L) (h0 : pm_bg (K a) = false → post (nI c, f_accepted, f_place, f_kept, f_nodes, nI L.length, nI a, f_bad, f_typing, f_unbound, f_clash, f_top, f_scope, f_doneName, f_doneType, a_kind, a_value, a_keptKind, a_keptA, a_keptB, a_root, a_what, a_partA, a_partB, a_mark, a_twin, a_walk, a_pairs, a_now, a_todo, a_types, a_firm, a_bound, a_boundType)) (h1 : pm_bg (K a) = true → ∀ td, st_1 td (13 :: (26 + 64 * a) :: 12 :: L) → post (nI c, f_accepted, f_place, f_kept, f_nodes, nI (L.length + 3), nI a, f_bad, f_typing, f_unbound, f_clash, f_top, f_scope, f_doneName, f_doneType, a_kind, a_value, a_keptKind, a_keptA, a_keptB, a_root, a_what, a_partA, a_partB, a_mark, a_twin, a_walk, a_pairs, a_now, td, a_types, a_firm, a_bound, a_boundType)) : wpY_expression post (nI c, f_accepted, f_place, f_kept, f_nodes, nI L.length, nI a, f_bad, f_typing, f_unbound, f_clash, f_top, f_scope, f_doneName, f_doneType, a_kind, a_value, a_keptKind, a_keptA, a_keptB, a_root, a_what, a_partA, a_partB, a_mark, a_twin, a_walk, a_pairs, a_now, a_todo, a_types, a_firm, a_bound, a_boundType) 12 w := by
  have c24 := hT.1
  unfold wpY_expression
  refine yw_tok hT ha ?_
  refine br_f (by decide) (br_f (by decide) (br_f (by decide) (br_f (by decide) (br_f (by decide) (br_f (by decide) (br_f (by decide) (br_f (by decide) (br_f (by decide) (br_f (by decide) (br_f (by decide) (br_f (by decide) (br_f (by decide) (br_t (by decide) ?_)))))))))))))
  have go : pm_bg (K a) = true → wY_expression_262 post (nI c) f_accepted f_place f_kept f_nodes (nI L.length) (nI a) f_bad f_typing f_unbound f_clash f_top f_scope f_doneName f_doneType a_kind a_value a_keptKind a_keptA a_keptB a_root a_what a_partA a_partB a_mark a_twin a_walk a_pairs a_now a_todo a_types a_firm a_bound a_boundType := fun hb => by
    unfold wY_expression_262
    refine yw_then (s := 12) (w := 0) (by omega) (by omega) (by omega) ?_
    refine yw_then (s := 26) (w := a) (by omega) (by omega) (by omega) ?_
    exact yw_then (s := 13) (w := 0) (by omega) (by omega) (by omega) (h1 hb _ (st_1p (L := (26 + 64 * a) :: 12 :: L) (st_1p (L := 12 :: L) (st_1p st))))
  unfold yt
  by_cases k99 : K a = 99
  · rw [if_pos k99]
    exact br_t (by decide) (h0 (by rw [k99]; decide))
  · rw [if_neg k99]
    have lt : K a < 38 := by
      by_cases q : a < c
      · exact (hT.2.2 a q).2.1
      · exact (k99 (hT.2.1 a (by omega))).elim
    generalize K a = k at *
    refine br_f (nI_pos (by omega)) (pk_le k 3 (fun z => go ?_) (fun z => pk_eq k 6 (fun z2 => go ?_) (fun z2 => pk_eq k 15 (fun z3 => go ?_) (fun z3 => pk_lt k 22 (fun z4 => h0 ?_) (fun z4 => pk_lt 30 k (fun z5 => h0 ?_) (fun z5 => pk_eq k 25 (fun z6 => h0 ?_) (fun z6 => go ?_)))))))
    · unfold pm_bg pm_alone
      have : k < 4 := by omega
      simp [this]
    · rw [z2]; rfl
    · rw [z3]; rfl
    · unfold pm_bg pm_alone
      have q1 : ¬ k < 4 := by omega
      have q2 : ¬ 22 ≤ k := by omega
      simp [q1, q2, z2, z3]
    · unfold pm_bg pm_alone
      have q1 : ¬ k < 4 := by omega
      have q2 : ¬ k ≤ 30 := by omega
      simp [q1, q2, z2, z3]
    · rw [z6]; rfl
    · unfold pm_bg pm_alone
      have q1 : 22 ≤ k := by omega
      have q2 : k ≤ 30 := by omega
      simp [q1, q2, z6]
end
