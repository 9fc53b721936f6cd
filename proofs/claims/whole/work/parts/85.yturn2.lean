/-! the reference's reading: atoms, brackets, binders -/
section
variable {f_count f_accepted f_place f_kept f_nodes f_tt f_pos f_bad f_typing f_unbound f_clash f_top f_scope f_doneName f_doneType : Int32} {a_kind a_value a_keptKind a_keptA a_keptB a_root a_what a_partA a_partB a_mark a_twin a_walk a_pairs a_now a_todo a_types a_firm a_bound a_boundType : Nat → Int32}
variable {c a : Nat} {K N : Nat → Nat} {L : List Nat}
theorem ye_13 {post : SY → Prop} {w : Int32} (hT : tk_T a_kind a_value c K N) (ha : a ≤ c) (hL : L.length + 4 < 320) (st : st_1 a_todo L) (h0 : pm_bg (K a) = false → post (nI c, f_accepted, f_place, f_kept, f_nodes, nI L.length, nI a, 1, f_typing, f_unbound, f_clash, f_top, f_scope, f_doneName, f_doneType, a_kind, a_value, a_keptKind, a_keptA, a_keptB, a_root, a_what, a_partA, a_partB, a_mark, a_twin, a_walk, a_pairs, a_now, a_todo, a_types, a_firm, a_bound, a_boundType))
    (hl0 : K a = 0 → wpY_leaf post (nI c, f_accepted, f_place, f_kept, f_nodes, nI L.length, nI (a + 1), f_bad, f_typing, f_unbound, f_clash, f_top, f_scope, f_doneName, f_doneType, a_kind, a_value, a_keptKind, a_keptA, a_keptB, a_root, a_what, a_partA, a_partB, a_mark, a_twin, a_walk, a_pairs, a_now, a_todo, a_types, a_firm, a_bound, a_boundType) 0) (hl1 : (K a = 1 ∨ K a = 2) → wpY_leaf post (nI c, f_accepted, f_place, f_kept, f_nodes, nI L.length, nI (a + 1), f_bad, f_typing, f_unbound, f_clash, f_top, f_scope, f_doneName, f_doneType, a_kind, a_value, a_keptKind, a_keptA, a_keptB, a_root, a_what, a_partA, a_partB, a_mark, a_twin, a_walk, a_pairs, a_now, a_todo, a_types, a_firm, a_bound, a_boundType) 1) (hn : K a = 3 → wpY_name post (nI c, f_accepted, f_place, f_kept, f_nodes, nI L.length, nI (a + 1), f_bad, f_typing, f_unbound, f_clash, f_top, f_scope, f_doneName, f_doneType, a_kind, a_value, a_keptKind, a_keptA, a_keptB, a_root, a_what, a_partA, a_partB, a_mark, a_twin, a_walk, a_pairs, a_now, a_todo, a_types, a_firm, a_bound, a_boundType) (nI (N a))) (hw : pm_alone (K a) = true → 22 ≤ K a → wpY_word post (nI c, f_accepted, f_place, f_kept, f_nodes, nI L.length, nI (a + 1), f_bad, f_typing, f_unbound, f_clash, f_top, f_scope, f_doneName, f_doneType, a_kind, a_value, a_keptKind, a_keptA, a_keptB, a_root, a_what, a_partA, a_partB, a_mark, a_twin, a_walk, a_pairs, a_now, a_todo, a_types, a_firm, a_bound, a_boundType) (nI (K a)))
    (h6 : K a = 6 → ∀ td, st_1 td (18 :: 16 :: L) → post (nI c, f_accepted, f_place, f_kept, f_nodes, nI (L.length + 2), nI (a + 1), f_bad, f_typing, f_unbound, f_clash, f_top, f_scope, f_doneName, f_doneType, a_kind, a_value, a_keptKind, a_keptA, a_keptB, a_root, a_what, a_partA, a_partB, a_mark, a_twin, a_walk, a_pairs, a_now, td, a_types, a_firm, a_bound, a_boundType)) (hu : K a = 15 → K (a + 1) = 16 → wpY_leaf post (nI c, f_accepted, f_place, f_kept, f_nodes, nI L.length, nI (a + 2), f_bad, f_typing, f_unbound, f_clash, f_top, f_scope, f_doneName, f_doneType, a_kind, a_value, a_keptKind, a_keptA, a_keptB, a_root, a_what, a_partA, a_partB, a_mark, a_twin, a_walk, a_pairs, a_now, a_todo, a_types, a_firm, a_bound, a_boundType) 2) (h15 : K a = 15 → K (a + 1) ≠ 16 → ∀ td, st_1 td (2 :: 14 :: L) → post (nI c, f_accepted, f_place, f_kept, f_nodes, nI (L.length + 2), nI (a + 1), f_bad, f_typing, f_unbound, f_clash, f_top, f_scope, f_doneName, f_doneType, a_kind, a_value, a_keptKind, a_keptA, a_keptB, a_root, a_what, a_partA, a_partB, a_mark, a_twin, a_walk, a_pairs, a_now, td, a_types, a_firm, a_bound, a_boundType)) :
    wpY_expression post (nI c, f_accepted, f_place, f_kept, f_nodes, nI L.length, nI a, f_bad, f_typing, f_unbound, f_clash, f_top, f_scope, f_doneName, f_doneType, a_kind, a_value, a_keptKind, a_keptA, a_keptB, a_root, a_what, a_partA, a_partB, a_mark, a_twin, a_walk, a_pairs, a_now, a_todo, a_types, a_firm, a_bound, a_boundType) 13 w := by
  have c24 := hT.1
  unfold wpY_expression
  refine yw_tok hT ha (br_f (by decide) (br_t (by decide) ?_))
  refine nm_r (nI_1 a) ?_
  have bad : pm_bg (K a) = false → wY_atom_236 post (nI c) f_accepted f_place f_kept f_nodes (nI L.length) (nI (a + 1)) f_bad f_typing f_unbound f_clash f_top f_scope f_doneName f_doneType a_kind a_value a_keptKind a_keptA a_keptB a_root a_what a_partA a_partB a_mark a_twin a_walk a_pairs a_now a_todo a_types a_firm a_bound a_boundType := fun hb => by
    unfold wY_atom_236
    exact nm_r (nI_pred a) (h0 hb)
  by_cases k99 : K a = 99
  · have e : yt K a = -1 := if_pos k99
    rw [e]
    exact br_t (by decide) (bad (by rw [k99]; rfl))
  · have lc : a < c := by
      by_cases q : a < c
      · exact q
      · exact (k99 (hT.2.1 a (by omega))).elim
    obtain ⟨t1, t2, t3, _⟩ := hT.2.2 a lc
    by_cases k30 : 30 < K a
    · rw [yt_y rfl (by omega)]
      refine br_f (nI_pos (by omega)) (br_t (nI_lt (a := 30) k30 (by omega)) (bad ?_))
      unfold pm_bg pm_alone
      have q1 : ¬ K a < 4 := by omega
      have q2 : ¬ K a ≤ 30 := by omega
      have q3 : ¬ K a = 15 := by omega
      have q4 : ¬ K a = 6 := by omega
      simp [q1, q2, q3, q4]
    · have cs : K a = 0 ∨ K a = 1 ∨ K a = 2 ∨ K a = 3 ∨ K a = 4 ∨ K a = 5 ∨ K a = 6 ∨ K a = 7 ∨ K a = 8 ∨ K a = 9 ∨ K a = 10 ∨ K a = 11 ∨ K a = 12 ∨ K a = 13 ∨ K a = 14 ∨ K a = 15 ∨ K a = 16 ∨ K a = 17 ∨ K a = 18 ∨ K a = 19 ∨ K a = 20 ∨ K a = 21 ∨ K a = 22 ∨ K a = 23 ∨ K a = 24 ∨ K a = 25 ∨ K a = 26 ∨ K a = 27 ∨ K a = 28 ∨ K a = 29 ∨ K a = 30 := by omega
      rcases cs with e | e | e | e | e | e | e | e | e | e | e | e | e | e | e | e | e | e | e | e | e | e | e | e | e | e | e | e | e | e | e
      · rw [yt_y e (by omega)]
        refine br_f (by decide) (br_f (by decide) (br_t (by decide) ?_))
        exact hl0 e
      · rw [yt_y e (by omega)]
        refine br_f (by decide) (br_f (by decide) (br_f (by decide) (br_t (by decide) ?_)))
        unfold wY_atom_154
        exact hl1 (Or.inl e)
      · rw [yt_y e (by omega)]
        refine br_f (by decide) (br_f (by decide) (br_f (by decide) (br_f (by decide) (br_t (by decide) ?_))))
        unfold wY_atom_154
        exact hl1 (Or.inr e)
      · rw [yt_y e (by omega)]
        refine br_f (by decide) (br_f (by decide) (br_f (by decide) (br_f (by decide) (br_f (by decide) (br_t (by decide) ?_)))))
        rw [nI_pred]
        refine ⟨vp_in_nI (by omega) (by decide), ?_⟩
        rw [nI_clamp (by omega), (t3 e).1]
        exact hn e
      · rw [yt_y e (by omega)]
        refine br_f (by decide) (br_f (by decide) (br_f (by decide) (br_f (by decide) (br_f (by decide) (br_f (by decide) (br_t (by decide) ?_))))))
        exact bad (by rw [e]; rfl)
      · rw [yt_y e (by omega)]
        refine br_f (by decide) (br_f (by decide) (br_f (by decide) (br_f (by decide) (br_f (by decide) (br_f (by decide) (br_f (by decide) (br_t (by decide) ?_)))))))
        exact bad (by rw [e]; rfl)
      · rw [yt_y e (by omega)]
        refine br_f (by decide) (br_f (by decide) (br_f (by decide) (br_f (by decide) (br_f (by decide) (br_f (by decide) (br_f (by decide) (br_f (by decide) (br_t (by decide) ?_))))))))
        refine yw_then (s := 16) (w := 0) (by omega) (by omega) (by omega) ?_
        exact yw_then (s := 18) (w := 0) (by omega) (by omega) (by omega) (h6 e _ (st_1p (L := 16 :: L) (st_1p st)))
      · rw [yt_y e (by omega)]
        refine br_f (by decide) (br_f (by decide) (br_f (by decide) (br_f (by decide) (br_f (by decide) (br_f (by decide) (br_f (by decide) (br_f (by decide) (br_f (by decide) (br_t (by decide) ?_)))))))))
        exact bad (by rw [e]; rfl)
      · rw [yt_y e (by omega)]
        refine br_f (by decide) (br_f (by decide) (br_f (by decide) (br_f (by decide) (br_f (by decide) (br_f (by decide) (br_f (by decide) (br_f (by decide) (br_f (by decide) (br_f (by decide) (br_t (by decide) ?_))))))))))
        exact bad (by rw [e]; rfl)
      · rw [yt_y e (by omega)]
        refine br_f (by decide) (br_f (by decide) (br_f (by decide) (br_f (by decide) (br_f (by decide) (br_f (by decide) (br_f (by decide) (br_f (by decide) (br_f (by decide) (br_f (by decide) (br_f (by decide) (br_t (by decide) ?_)))))))))))
        exact bad (by rw [e]; rfl)
      · rw [yt_y e (by omega)]
        refine br_f (by decide) (br_f (by decide) (br_f (by decide) (br_f (by decide) (br_f (by decide) (br_f (by decide) (br_f (by decide) (br_f (by decide) (br_f (by decide) (br_f (by decide) (br_f (by decide) (br_f (by decide) (br_t (by decide) ?_))))))))))))
        exact bad (by rw [e]; rfl)
      · rw [yt_y e (by omega)]
        refine br_f (by decide) (br_f (by decide) (br_f (by decide) (br_f (by decide) (br_f (by decide) (br_f (by decide) (br_f (by decide) (br_f (by decide) (br_f (by decide) (br_f (by decide) (br_f (by decide) (br_f (by decide) (br_f (by decide) (br_t (by decide) ?_)))))))))))))
        exact bad (by rw [e]; rfl)
      · rw [yt_y e (by omega)]
        refine br_f (by decide) (br_f (by decide) (br_f (by decide) (br_f (by decide) (br_f (by decide) (br_f (by decide) (br_f (by decide) (br_f (by decide) (br_f (by decide) (br_f (by decide) (br_f (by decide) (br_f (by decide) (br_f (by decide) (br_f (by decide) (br_t (by decide) ?_))))))))))))))
        exact bad (by rw [e]; rfl)
      · rw [yt_y e (by omega)]
        refine br_f (by decide) (br_f (by decide) (br_f (by decide) (br_f (by decide) (br_f (by decide) (br_f (by decide) (br_f (by decide) (br_f (by decide) (br_f (by decide) (br_f (by decide) (br_f (by decide) (br_f (by decide) (br_f (by decide) (br_f (by decide) (br_f (by decide) (br_t (by decide) ?_)))))))))))))))
        exact bad (by rw [e]; rfl)
      · rw [yt_y e (by omega)]
        refine br_f (by decide) (br_f (by decide) (br_f (by decide) (br_f (by decide) (br_f (by decide) (br_f (by decide) (br_f (by decide) (br_f (by decide) (br_f (by decide) (br_f (by decide) (br_f (by decide) (br_f (by decide) (br_f (by decide) (br_f (by decide) (br_f (by decide) (br_f (by decide) (br_t (by decide) ?_))))))))))))))))
        exact bad (by rw [e]; rfl)
      · rw [yt_y e (by omega)]
        refine br_f (by decide) (br_f (by decide) (br_f (by decide) (br_f (by decide) (br_f (by decide) (br_f (by decide) (br_f (by decide) (br_f (by decide) (br_f (by decide) (br_f (by decide) (br_f (by decide) (br_f (by decide) (br_f (by decide) (br_f (by decide) (br_f (by decide) (br_f (by decide) (br_f (by decide) (br_t (by decide) ?_)))))))))))))))))
        refine yw_tok hT (by omega) ?_
        by_cases k16 : K (a + 1) = 16
        · exact br_t (yt_y (k := 16) k16 (by omega)) (nm_r (nI_1 (a + 1)) (hu e k16))
        · refine br_f (yt_n (k := 16) hT k16 (by omega)) ?_
          refine yw_then (s := 14) (w := 0) (by omega) (by omega) (by omega) ?_
          exact yw_then (s := 2) (w := 0) (by omega) (by omega) (by omega) (h15 e k16 _ (st_1p (L := 14 :: L) (st_1p st)))
      · rw [yt_y e (by omega)]
        refine br_f (by decide) (br_f (by decide) (br_f (by decide) (br_f (by decide) (br_f (by decide) (br_f (by decide) (br_f (by decide) (br_f (by decide) (br_f (by decide) (br_f (by decide) (br_f (by decide) (br_f (by decide) (br_f (by decide) (br_f (by decide) (br_f (by decide) (br_f (by decide) (br_f (by decide) (br_f (by decide) (br_t (by decide) ?_))))))))))))))))))
        exact bad (by rw [e]; rfl)
      · rw [yt_y e (by omega)]
        refine br_f (by decide) (br_f (by decide) (br_f (by decide) (br_f (by decide) (br_f (by decide) (br_f (by decide) (br_f (by decide) (br_f (by decide) (br_f (by decide) (br_f (by decide) (br_f (by decide) (br_f (by decide) (br_f (by decide) (br_f (by decide) (br_f (by decide) (br_f (by decide) (br_f (by decide) (br_f (by decide) (br_f (by decide) (br_t (by decide) ?_)))))))))))))))))))
        exact bad (by rw [e]; rfl)
      · rw [yt_y e (by omega)]
        refine br_f (by decide) (br_f (by decide) (br_f (by decide) (br_f (by decide) (br_f (by decide) (br_f (by decide) (br_f (by decide) (br_f (by decide) (br_f (by decide) (br_f (by decide) (br_f (by decide) (br_f (by decide) (br_f (by decide) (br_f (by decide) (br_f (by decide) (br_f (by decide) (br_f (by decide) (br_f (by decide) (br_f (by decide) (br_f (by decide) (br_t (by decide) ?_))))))))))))))))))))
        exact bad (by rw [e]; rfl)
      · rw [yt_y e (by omega)]
        refine br_f (by decide) (br_f (by decide) (br_f (by decide) (br_f (by decide) (br_f (by decide) (br_f (by decide) (br_f (by decide) (br_f (by decide) (br_f (by decide) (br_f (by decide) (br_f (by decide) (br_f (by decide) (br_f (by decide) (br_f (by decide) (br_f (by decide) (br_f (by decide) (br_f (by decide) (br_f (by decide) (br_f (by decide) (br_f (by decide) (br_f (by decide) (br_t (by decide) ?_)))))))))))))))))))))
        exact bad (by rw [e]; rfl)
      · rw [yt_y e (by omega)]
        refine br_f (by decide) (br_f (by decide) (br_f (by decide) (br_f (by decide) (br_f (by decide) (br_f (by decide) (br_f (by decide) (br_f (by decide) (br_f (by decide) (br_f (by decide) (br_f (by decide) (br_f (by decide) (br_f (by decide) (br_f (by decide) (br_f (by decide) (br_f (by decide) (br_f (by decide) (br_f (by decide) (br_f (by decide) (br_f (by decide) (br_f (by decide) (br_f (by decide) (br_t (by decide) ?_))))))))))))))))))))))
        exact bad (by rw [e]; rfl)
      · rw [yt_y e (by omega)]
        refine br_f (by decide) (br_f (by decide) (br_f (by decide) (br_f (by decide) (br_f (by decide) (br_f (by decide) (br_f (by decide) (br_f (by decide) (br_f (by decide) (br_f (by decide) (br_f (by decide) (br_f (by decide) (br_f (by decide) (br_f (by decide) (br_f (by decide) (br_f (by decide) (br_f (by decide) (br_f (by decide) (br_f (by decide) (br_f (by decide) (br_f (by decide) (br_f (by decide) (br_f (by decide) (br_t (by decide) ?_)))))))))))))))))))))))
        exact bad (by rw [e]; rfl)
      · rw [yt_y e (by omega)]
        refine br_f (by decide) (br_f (by decide) (br_f (by decide) (br_f (by decide) (br_f (by decide) (br_f (by decide) (br_f (by decide) (br_f (by decide) (br_f (by decide) (br_f (by decide) (br_f (by decide) (br_f (by decide) (br_f (by decide) (br_f (by decide) (br_f (by decide) (br_f (by decide) (br_f (by decide) (br_f (by decide) (br_f (by decide) (br_f (by decide) (br_f (by decide) (br_f (by decide) (br_f (by decide) (br_f (by decide) (br_t (by decide) ?_))))))))))))))))))))))))
        unfold wY_atom_230
        have z := hw (by rw [e]; rfl) (by omega)
        rw [e] at z
        exact z
      · rw [yt_y e (by omega)]
        refine br_f (by decide) (br_f (by decide) (br_f (by decide) (br_f (by decide) (br_f (by decide) (br_f (by decide) (br_f (by decide) (br_f (by decide) (br_f (by decide) (br_f (by decide) (br_f (by decide) (br_f (by decide) (br_f (by decide) (br_f (by decide) (br_f (by decide) (br_f (by decide) (br_f (by decide) (br_f (by decide) (br_f (by decide) (br_f (by decide) (br_f (by decide) (br_f (by decide) (br_f (by decide) (br_f (by decide) (br_f (by decide) (br_t (by decide) ?_)))))))))))))))))))))))))
        unfold wY_atom_230
        have z := hw (by rw [e]; rfl) (by omega)
        rw [e] at z
        exact z
      · rw [yt_y e (by omega)]
        refine br_f (by decide) (br_f (by decide) (br_f (by decide) (br_f (by decide) (br_f (by decide) (br_f (by decide) (br_f (by decide) (br_f (by decide) (br_f (by decide) (br_f (by decide) (br_f (by decide) (br_f (by decide) (br_f (by decide) (br_f (by decide) (br_f (by decide) (br_f (by decide) (br_f (by decide) (br_f (by decide) (br_f (by decide) (br_f (by decide) (br_f (by decide) (br_f (by decide) (br_f (by decide) (br_f (by decide) (br_f (by decide) (br_f (by decide) (br_t (by decide) ?_))))))))))))))))))))))))))
        unfold wY_atom_230
        have z := hw (by rw [e]; rfl) (by omega)
        rw [e] at z
        exact z
      · rw [yt_y e (by omega)]
        refine br_f (by decide) (br_f (by decide) (br_f (by decide) (br_f (by decide) (br_f (by decide) (br_f (by decide) (br_f (by decide) (br_f (by decide) (br_f (by decide) (br_f (by decide) (br_f (by decide) (br_f (by decide) (br_f (by decide) (br_f (by decide) (br_f (by decide) (br_f (by decide) (br_f (by decide) (br_f (by decide) (br_f (by decide) (br_f (by decide) (br_f (by decide) (br_f (by decide) (br_f (by decide) (br_f (by decide) (br_f (by decide) (br_f (by decide) (br_f (by decide) (br_t (by decide) ?_)))))))))))))))))))))))))))
        exact bad (by rw [e]; rfl)
      · rw [yt_y e (by omega)]
        refine br_f (by decide) (br_f (by decide) (br_f (by decide) (br_f (by decide) (br_f (by decide) (br_f (by decide) (br_f (by decide) (br_f (by decide) (br_f (by decide) (br_f (by decide) (br_f (by decide) (br_f (by decide) (br_f (by decide) (br_f (by decide) (br_f (by decide) (br_f (by decide) (br_f (by decide) (br_f (by decide) (br_f (by decide) (br_f (by decide) (br_f (by decide) (br_f (by decide) (br_f (by decide) (br_f (by decide) (br_f (by decide) (br_f (by decide) (br_f (by decide) (br_f (by decide) (br_t (by decide) ?_))))))))))))))))))))))))))))
        unfold wY_atom_230
        have z := hw (by rw [e]; rfl) (by omega)
        rw [e] at z
        exact z
      · rw [yt_y e (by omega)]
        refine br_f (by decide) (br_f (by decide) (br_f (by decide) (br_f (by decide) (br_f (by decide) (br_f (by decide) (br_f (by decide) (br_f (by decide) (br_f (by decide) (br_f (by decide) (br_f (by decide) (br_f (by decide) (br_f (by decide) (br_f (by decide) (br_f (by decide) (br_f (by decide) (br_f (by decide) (br_f (by decide) (br_f (by decide) (br_f (by decide) (br_f (by decide) (br_f (by decide) (br_f (by decide) (br_f (by decide) (br_f (by decide) (br_f (by decide) (br_f (by decide) (br_f (by decide) (br_f (by decide) (br_t (by decide) ?_)))))))))))))))))))))))))))))
        unfold wY_atom_230
        have z := hw (by rw [e]; rfl) (by omega)
        rw [e] at z
        exact z
      · rw [yt_y e (by omega)]
        refine br_f (by decide) (br_f (by decide) (br_f (by decide) (br_f (by decide) (br_f (by decide) (br_f (by decide) (br_f (by decide) (br_f (by decide) (br_f (by decide) (br_f (by decide) (br_f (by decide) (br_f (by decide) (br_f (by decide) (br_f (by decide) (br_f (by decide) (br_f (by decide) (br_f (by decide) (br_f (by decide) (br_f (by decide) (br_f (by decide) (br_f (by decide) (br_f (by decide) (br_f (by decide) (br_f (by decide) (br_f (by decide) (br_f (by decide) (br_f (by decide) (br_f (by decide) (br_f (by decide) (br_f (by decide) (br_t (by decide) ?_))))))))))))))))))))))))))))))
        unfold wY_atom_230
        have z := hw (by rw [e]; rfl) (by omega)
        rw [e] at z
        exact z
      · rw [yt_y e (by omega)]
        refine br_f (by decide) (br_f (by decide) (br_f (by decide) (br_f (by decide) (br_f (by decide) (br_f (by decide) (br_f (by decide) (br_f (by decide) (br_f (by decide) (br_f (by decide) (br_f (by decide) (br_f (by decide) (br_f (by decide) (br_f (by decide) (br_f (by decide) (br_f (by decide) (br_f (by decide) (br_f (by decide) (br_f (by decide) (br_f (by decide) (br_f (by decide) (br_f (by decide) (br_f (by decide) (br_f (by decide) (br_f (by decide) (br_f (by decide) (br_f (by decide) (br_f (by decide) (br_f (by decide) (br_f (by decide) (br_f (by decide) (br_t (by decide) ?_)))))))))))))))))))))))))))))))
        unfold wY_atom_230
        have z := hw (by rw [e]; rfl) (by omega)
        rw [e] at z
        exact z
      · rw [yt_y e (by omega)]
        refine br_f (by decide) (br_f (by decide) (br_f (by decide) (br_f (by decide) (br_f (by decide) (br_f (by decide) (br_f (by decide) (br_f (by decide) (br_f (by decide) (br_f (by decide) (br_f (by decide) (br_f (by decide) (br_f (by decide) (br_f (by decide) (br_f (by decide) (br_f (by decide) (br_f (by decide) (br_f (by decide) (br_f (by decide) (br_f (by decide) (br_f (by decide) (br_f (by decide) (br_f (by decide) (br_f (by decide) (br_f (by decide) (br_f (by decide) (br_f (by decide) (br_f (by decide) (br_f (by decide) (br_f (by decide) (br_f (by decide) (br_f (by decide) (br_t (by decide) ?_))))))))))))))))))))))))))))))))
        unfold wY_atom_230
        have z := hw (by rw [e]; rfl) (by omega)
        rw [e] at z
        exact z
theorem ye_fn {post : SY → Prop} {w : Int32} {n e : Nat} (hT : tk_T a_kind a_value c K N) (k4 : K a = 4) (hn : n < 2000) (he : e < 40) (hL : L.length + 4 < 320) (st : st_1 a_todo L) (h1 : K (a + 1) ≠ 3 → yb_Z (a + 1) c post f_accepted f_place f_kept a_kind a_value a_keptKind a_keptA a_keptB a_root a_now) (h2 : K (a + 1) = 3 → K (a + 2) ≠ 5 → yb_Z (a + 2) c post f_accepted f_place f_kept a_kind a_value a_keptKind a_keptA a_keptB a_root a_now)
    (h3 : K (a + 1) = 3 → K (a + 2) = 5 → ∀ td, st_1 td (2 :: 21 :: L) → post (nI c, f_accepted, f_place, f_kept, nI (n + 1), nI (L.length + 2), nI (a + 3), 0, f_typing, f_unbound, f_clash, f_top, nI (e + 1), f_doneName, f_doneType, a_kind, a_value, a_keptKind, a_keptA, a_keptB, a_root, upd a_what n 7, upd a_partA n (-1), upd a_partB n (-1), a_mark, a_twin, a_walk, a_pairs, a_now, td, a_types, a_firm, upd a_bound e (nI (N (a + 1))), upd a_boundType e (nI n))) :
    wpY_expression post (nI c, f_accepted, f_place, f_kept, nI n, nI L.length, nI a, 0, f_typing, f_unbound, f_clash, f_top, nI e, f_doneName, f_doneType, a_kind, a_value, a_keptKind, a_keptA, a_keptB, a_root, a_what, a_partA, a_partB, a_mark, a_twin, a_walk, a_pairs, a_now, a_todo, a_types, a_firm, a_bound, a_boundType) 2 w := by
  have c24 := hT.1
  have lc : a < c := pm_lt hT.2.1 k4 (by decide)
  unfold wpY_expression
  refine yw_tok hT (by omega) ?_
  refine br_f (by decide) (br_f (by decide) (br_f (by decide) (br_t (by decide) ?_)))
  refine br_t (yt_y (k := 4) k4 (by omega)) (nm_r (nI_1 a) ?_)
  refine yw_take (k := 3) hT (by omega) (by omega) (fun k3 => ?_) (fun k3 => ?_)
  · have lc1 : a + 1 < c := pm_lt hT.2.1 k3 (by decide)
    obtain ⟨_, _, t3, _⟩ := hT.2.2 (a + 1) lc1
    refine br_f (by decide) ?_
    refine yw_fresh hn ⟨?_, ?_⟩
    · rw [nI_pred]; exact vp_in_nI (by omega) (by decide)
    rw [nI_pred, nI_clamp (by omega), (t3 k3).1]
    refine yw_bind he (by have := (t3 k3).2; omega) (by omega) ?_
    refine yw_then (s := 21) (w := 0) (by omega) (by omega) (by omega) ?_
    refine yw_then (s := 2) (w := 0) (by omega) (by omega) (by omega) ?_
    refine yw_take (k := 5) hT (by omega) (by omega) (fun k5 => ?_) (fun k5 => ?_)
    · exact h3 k3 k5 _ (st_1p (L := 21 :: L) (st_1p st))
    · exact h2 k3 k5 _ _ _ _ _ _ _ _ _ _ _ _ _ _ _ _ _ _ _ _ _
  · exact br_t rfl (h1 k3 _ _ _ _ _ _ _ _ _ _ _ _ _ _ _ _ _ _ _ _ _)
theorem yf_14 {post : SY → Prop} {w : Int32} (hT : tk_T a_kind a_value c K N) (ha : a ≤ c) (hL : L.length + 4 < 320) (st : st_1 a_todo L) (h1 : K a = 17 → ∀ td, st_1 td (2 :: (1 + 64 * 16) :: 15 :: L) → post (nI c, f_accepted, f_place, f_kept, f_nodes, nI (L.length + 3), nI (a + 1), 0, f_typing, f_unbound, f_clash, f_top, f_scope, f_doneName, f_doneType, a_kind, a_value, a_keptKind, a_keptA, a_keptB, a_root, a_what, a_partA, a_partB, a_mark, a_twin, a_walk, a_pairs, a_now, td, a_types, a_firm, a_bound, a_boundType)) (h2 : K a = 16 → post (nI c, f_accepted, f_place, f_kept, f_nodes, nI L.length, nI (a + 1), 0, f_typing, f_unbound, f_clash, f_top, f_scope, f_doneName, f_doneType, a_kind, a_value, a_keptKind, a_keptA, a_keptB, a_root, a_what, a_partA, a_partB, a_mark, a_twin, a_walk, a_pairs, a_now, a_todo, a_types, a_firm, a_bound, a_boundType)) (h3 : K a ≠ 17 → K a ≠ 16 → post (nI c, f_accepted, f_place, f_kept, f_nodes, nI L.length, nI a, 1, f_typing, f_unbound, f_clash, f_top, f_scope, f_doneName, f_doneType, a_kind, a_value, a_keptKind, a_keptA, a_keptB, a_root, a_what, a_partA, a_partB, a_mark, a_twin, a_walk, a_pairs, a_now, a_todo, a_types, a_firm, a_bound, a_boundType)) : wpY_finish post (nI c, f_accepted, f_place, f_kept, f_nodes, nI L.length, nI a, 0, f_typing, f_unbound, f_clash, f_top, f_scope, f_doneName, f_doneType, a_kind, a_value, a_keptKind, a_keptA, a_keptB, a_root, a_what, a_partA, a_partB, a_mark, a_twin, a_walk, a_pairs, a_now, a_todo, a_types, a_firm, a_bound, a_boundType) 14 w := by
  refine br_f (by decide) (br_f (by decide) (br_t (by decide) ?_))
  refine yw_tok hT ha ?_
  by_cases k : K a = 17
  · refine br_t (yt_y (k := 17) k (by omega)) (nm_r (nI_1 a) ?_)
    refine yw_then (s := 15) (w := 0) (by omega) (by omega) (by omega) ?_
    refine yw_then (s := 1) (w := 16) (by omega) (by omega) (by omega) ?_
    exact yw_then (s := 2) (w := 0) (by omega) (by omega) (by omega) (h1 k _ (st_1p (L := (1 + 64 * 16) :: 15 :: L) (st_1p (L := 15 :: L) (st_1p st))))
  · refine br_f (yt_n (k := 17) hT k (by omega)) ?_
    exact yw_take (k := 16) hT ha (by omega) h2 (h3 k)
theorem yf_16 {post : SY → Prop} {w : Int32} {e v t : Nat} (hT : tk_T a_kind a_value c K N) (ha : a ≤ c) (he : e < 40) (hv : v < 12) (ht : t < 2000) (hL : L.length + 4 < 320) (st : st_1 a_todo L) (h1 : K a = 10 → ∀ td, st_1 td (2 :: 17 :: L) → post (nI c, f_accepted, f_place, f_kept, f_nodes, nI (L.length + 2), nI (a + 1), 0, f_typing, f_unbound, f_clash, f_top, nI (e + 1), nI v, nI t, a_kind, a_value, a_keptKind, a_keptA, a_keptB, a_root, a_what, a_partA, a_partB, a_mark, a_twin, a_walk, a_pairs, a_now, td, a_types, a_firm, upd a_bound e (nI v), upd a_boundType e (nI t))) (h2 : K a ≠ 10 → post (nI c, f_accepted, f_place, f_kept, f_nodes, nI L.length, nI a, 1, f_typing, f_unbound, f_clash, f_top, nI e, nI v, nI t, a_kind, a_value, a_keptKind, a_keptA, a_keptB, a_root, a_what, a_partA, a_partB, a_mark, a_twin, a_walk, a_pairs, a_now, a_todo, a_types, a_firm, a_bound, a_boundType)) : wpY_finish post (nI c, f_accepted, f_place, f_kept, f_nodes, nI L.length, nI a, 0, f_typing, f_unbound, f_clash, f_top, nI e, nI v, nI t, a_kind, a_value, a_keptKind, a_keptA, a_keptB, a_root, a_what, a_partA, a_partB, a_mark, a_twin, a_walk, a_pairs, a_now, a_todo, a_types, a_firm, a_bound, a_boundType) 16 w := by
  refine br_f (by decide) (br_f (by decide) (br_f (by decide) (br_f (by decide) (br_t (by decide) ?_))))
  refine yw_take (k := 10) hT ha (by omega) (fun k => br_f (by decide) ?_) (fun k => br_t rfl (h2 k))
  refine yw_bind he (by omega) (by omega) ?_
  refine yw_then (s := 17) (w := 0) (by omega) (by omega) (by omega) ?_
  exact yw_then (s := 2) (w := 0) (by omega) (by omega) (by omega) (h1 k _ (st_1p (L := 17 :: L) (st_1p st)))
end
section
variable {f_count f_accepted f_place f_kept f_nodes f_tt f_pos f_bad f_typing f_unbound f_clash f_top f_scope f_doneName f_doneType : Int32} {a_kind a_value a_keptKind a_keptA a_keptB a_root a_what a_partA a_partB a_mark a_twin a_walk a_pairs a_now a_todo a_types a_firm a_bound a_boundType : Nat → Int32}
variable {c a : Nat} {K N mq : Nat → Nat} {L : List Nat}
variable {kc : Nat} {kk ka kb rt lo hi : Nat → Nat} {g : Nat → tr_T} {nl n : Nat} {stk env : List Nat} {bs : List (Nat × Bool)} {V : dv_W} {H : Int32 → Int32 → Prop} {ty ub cl : Int32}
/-- the names of a fun, one by one -/
theorem yf_99 {post : SY → Prop} {q : Nat} (hT : tk_T a_kind a_value c K N) (qk : ∀ m, m < a + 26 → a + 3 ≤ m → (∀ z, a + 3 ≤ z → z < m → K z = 3) → K m ≠ 3 → q = m) (hm : mq a = q - (a + 1)) (hlen : bs.length = env.length) (hbl : bs.length ≤ a) (hn' : n + 24 ≤ 2000) (hL : L.length + 4 < 320)
    (h4 : K (a + 2) ≠ 3 → yb_Z (a + 2) c post f_accepted f_place f_kept a_kind a_value a_keptKind a_keptA a_keptB a_root a_now) (h5 : K (a + 2) = 3 → K q ≠ 9 → yb_Z q c post f_accepted f_place f_kept a_kind a_value a_keptKind a_keptA a_keptB a_root a_now)
    (h6 : K (a + 2) = 3 → K q = 9 → ∀ td wh pA pB e1 bd bt, st_1 td (2 :: (20 + 64 * (q + 32 * bs.length)) :: L) → e1.length = mq a → ya_W H ty ub cl (ya_G kc kk ka kb rt g nl (n + mq a) stk (e1 ++ env) (pd_ns a (mq a) ++ bs) (dv_lams (mq a) V) wh pA pB) → st_1 bd ((pd_ns a (mq a) ++ bs).map (fun b => N b.1)) → st_1 bt (e1 ++ env) → (∀ x, x ∈ e1 ++ env → x < 2000) → post (nI c, f_accepted, f_place, f_kept, nI (n + mq a), nI (L.length + 2), nI (q + 1), 0, ty, ub, cl, f_top, nI (bs.length + mq a), f_doneName, f_doneType, a_kind, a_value, a_keptKind, a_keptA, a_keptB, a_root, wh, pA, pB, a_mark, a_twin, a_walk, a_pairs, a_now, td, a_types, a_firm, bd, bt)) :
    ∀ d i td wh pA pB e1 bd bt, i + d = 24 → 1 ≤ i → a + 1 + i ≤ c → (∀ j, a + 1 ≤ j → j < a + 1 + i → K j = 3) → (2 ≤ i → K (a + 1 + i) = 3) → st_1 td L → e1.length = i → ya_W H ty ub cl (ya_G kc kk ka kb rt g nl (n + i) stk (e1 ++ env) (pd_ns a i ++ bs) (dv_lams i V) wh pA pB) → st_1 bd ((pd_ns a i ++ bs).map (fun b => N b.1)) → st_1 bt (e1 ++ env) → (∀ x, x ∈ e1 ++ env → x < 2000) → wY_declaration_99 post (nI bs.length) (d + 1) (nI c) f_accepted f_place f_kept (nI (n + i)) (nI L.length) (nI (a + 1 + i)) 0 ty ub cl f_top (nI (bs.length + i)) f_doneName f_doneType a_kind a_value a_keptKind a_keptA a_keptB a_root wh pA pB a_mark a_twin a_walk a_pairs a_now td a_types a_firm bd bt := by
  have c24 := hT.1
  intro d
  induction d with
  | zero =>
    intro i td wh pA pB e1 bd bt hi
    intros
    omega
  | succ d ih =>
    intro i td wh pA pB e1 bd bt hi i1 ic hk hk2 std le1 Ii hb1 hb2 he
    unfold wY_declaration_99
    refine yw_take (k := 3) hT (by omega) (by omega) (fun kn => ?_) (fun kn => ?_)
    · have lci : a + 1 + i < c := pm_lt hT.2.1 kn (by decide)
      obtain ⟨_, _, u3, _⟩ := hT.2.2 (a + 1 + i) lci
      refine br_f (by decide) ?_
      refine yw_fresh (by omega) ⟨?_, ?_⟩
      · rw [nI_pred]; exact vp_in_nI (by omega) (by decide)
      rw [nI_pred, nI_clamp (by omega), (u3 kn).1]
      refine yw_bind (by omega) (by have := (u3 kn).2; omega) (by omega) ?_
      have Ij := ya_m Ii (ya_lam (a + 1 + i))
      have el : (e1 ++ env).length = bs.length + i := by rw [List.length_append, le1]; omega
      have bl : ((pd_ns a i ++ bs).map (fun b => N b.1)).length = bs.length + i := by rw [List.length_map, List.length_append, pd_ns_len]; omega
      have sb1 : st_1 (upd bd (bs.length + i) (nI (N (a + 1 + i)))) ((pd_ns a (i + 1) ++ bs).map (fun b => N b.1)) := by
        rw [← bl]; exact st_1p hb1
      have sb2 : st_1 (upd bt (bs.length + i) (nI (n + i))) ((n + i) :: (e1 ++ env)) := by
        rw [← el]; exact st_1p hb2
      have he' : ∀ x, x ∈ (n + i) :: (e1 ++ env) → x < 2000 := fun x hx => by
        rcases List.mem_cons.mp hx with z | z
        · omega
        · exact he x z
      have hkj : ∀ j, a + 1 ≤ j → j < a + 1 + (i + 1) → K j = 3 := fun j j1 j2 => by
        by_cases q : j = a + 1 + i
        · rw [q]; exact kn
        · exact hk j j1 (by omega)
      refine yw_tok hT (by omega) ?_
      by_cases kn2 : K (a + 1 + i + 1) = 3
      · refine br_t (yt_y (k := 3) kn2 (by omega)) ?_
        exact ih (i + 1) td _ _ _ ((n + i) :: e1) _ _ (by omega) (by omega) (by omega) hkj (fun _ => kn2) std (by rw [List.length_cons, le1]) Ij sb1 sb2 he'
      · refine br_f (yt_n (k := 3) hT kn2 (by omega)) ?_
        have q2 : K (a + 2) = 3 := hkj (a + 2) (by omega) (by omega)
        have eq : q = a + 1 + i + 1 := qk (a + 1 + i + 1) (by omega) (by omega) (fun z z1 z2 => hkj z (by omega) (by omega)) kn2
        have em : mq a = i + 1 := by omega
        rw [yo_5 (by omega) (by omega)]
        refine yw_then (s := 20) (w := a + 1 + i + 1 + 32 * bs.length) (by omega) (by omega) (by omega) ?_
        refine yw_then (s := 2) (w := 0) (by omega) (by omega) (by omega) ?_
        refine yw_take (k := 9) hT (by omega) (by omega) (fun k9 => ?_) (fun k9 => ?_)
        · have z := h6 q2 (by rw [eq]; exact k9)
          rw [em, eq] at z
          exact z _ _ _ _ ((n + i) :: e1) _ _ (st_1p (L := (20 + 64 * (a + 1 + i + 1 + 32 * bs.length)) :: L) (st_1p std)) (by rw [List.length_cons, le1]) Ij sb1 sb2 he'
        · have z := h5 q2 (by rw [eq]; exact k9)
          rw [eq] at z
          exact z _ _ _ _ _ _ _ _ _ _ _ _ _ _ _ _ _ _ _ _ _
    · refine br_t rfl ?_
      have i1' : i = 1 := by
        refine Classical.byContradiction fun z => kn (hk2 (by omega))
      subst i1'
      exact h4 kn _ _ _ _ _ _ _ _ _ _ _ _ _ _ _ _ _ _ _ _ _

theorem yf_18 {post : SY → Prop} {w : Int32} {q : Nat} (hT : tk_T a_kind a_value c K N) (ha : a ≤ c) (hq : q = pm_nq K 24 (a + 3)) (hm : mq a = q - (a + 1)) (I : ya_W H ty ub cl (ya_G kc kk ka kb rt g nl n stk env bs V a_what a_partA a_partB)) (hB1 : st_1 a_bound (bs.map (fun b => N b.1))) (hB2 : st_1 a_boundType env) (hE : ∀ x, x ∈ env → x < 2000) (hlen : bs.length = env.length) (hbl : bs.length ≤ a) (hn : K a = 8 → K (a + 1) = 3 → K (a + 2) = 3 → K q = 9 → n + mq a ≤ 2000) (hn' : n + 24 ≤ 2000) (hL : L.length + 4 < 320) (st : st_1 a_todo L)
    (h0 : K a ≠ 7 → K a ≠ 8 → yb_Z a c post f_accepted f_place f_kept a_kind a_value a_keptKind a_keptA a_keptB a_root a_now) (h1 : (K a = 7 ∨ K a = 8) → K (a + 1) ≠ 3 → yb_Z (a + 1) c post f_accepted f_place f_kept a_kind a_value a_keptKind a_keptA a_keptB a_root a_now)
    (h2 : K a = 7 → K (a + 1) = 3 → K (a + 2) ≠ 9 → yb_Z (a + 2) c post f_accepted f_place f_kept a_kind a_value a_keptKind a_keptA a_keptB a_root a_now) (h3 : K a = 7 → K (a + 1) = 3 → K (a + 2) = 9 → ∀ td, st_1 td (2 :: (19 + 64 * (a + 1)) :: L) → post (nI c, f_accepted, f_place, f_kept, nI n, nI (L.length + 2), nI (a + 3), 0, ty, ub, cl, f_top, nI bs.length, f_doneName, f_doneType, a_kind, a_value, a_keptKind, a_keptA, a_keptB, a_root, a_what, a_partA, a_partB, a_mark, a_twin, a_walk, a_pairs, a_now, td, a_types, a_firm, a_bound, a_boundType))
    (h4 : K a = 8 → K (a + 1) = 3 → K (a + 2) ≠ 3 → yb_Z (a + 2) c post f_accepted f_place f_kept a_kind a_value a_keptKind a_keptA a_keptB a_root a_now) (h5 : K a = 8 → K (a + 1) = 3 → K (a + 2) = 3 → K q ≠ 9 → yb_Z q c post f_accepted f_place f_kept a_kind a_value a_keptKind a_keptA a_keptB a_root a_now)
    (h6 : K a = 8 → K (a + 1) = 3 → K (a + 2) = 3 → K q = 9 → ∀ td wh pA pB e1 bd bt, st_1 td (2 :: (20 + 64 * (q + 32 * bs.length)) :: L) → e1.length = mq a → ya_W H ty ub cl (ya_G kc kk ka kb rt g nl (n + mq a) stk (e1 ++ env) (pd_ns a (mq a) ++ bs) (dv_lams (mq a) V) wh pA pB) → st_1 bd ((pd_ns a (mq a) ++ bs).map (fun b => N b.1)) → st_1 bt (e1 ++ env) → (∀ x, x ∈ e1 ++ env → x < 2000) → post (nI c, f_accepted, f_place, f_kept, nI (n + mq a), nI (L.length + 2), nI (q + 1), 0, ty, ub, cl, f_top, nI (bs.length + mq a), f_doneName, f_doneType, a_kind, a_value, a_keptKind, a_keptA, a_keptB, a_root, wh, pA, pB, a_mark, a_twin, a_walk, a_pairs, a_now, td, a_types, a_firm, bd, bt)) :
    wpY_finish post (nI c, f_accepted, f_place, f_kept, nI n, nI L.length, nI a, 0, ty, ub, cl, f_top, nI bs.length, f_doneName, f_doneType, a_kind, a_value, a_keptKind, a_keptA, a_keptB, a_root, a_what, a_partA, a_partB, a_mark, a_twin, a_walk, a_pairs, a_now, a_todo, a_types, a_firm, a_bound, a_boundType) 18 w := by
  have c24 := hT.1
  have nqg := pm_nq_ge (K := K) 24 (a + 3)
  have qk : ∀ m, m < a + 26 → a + 3 ≤ m → (∀ z, a + 3 ≤ z → z < m → K z = 3) → K m ≠ 3 → q = m := by
    intro m m1 m2 m3 m4
    rw [hq]
    have key : ∀ f z, z ≤ m → a + 3 ≤ z → m - z < f → pm_nq K f z = m := by
      intro f
      induction f with
      | zero => intro z _ _ h; omega
      | succ f ihf =>
        intro z z1 z3 z2
        unfold pm_nq
        by_cases ez : z = m
        · rw [ez, if_neg m4]
        · rw [if_pos (m3 z z3 (by omega))]
          exact ihf (z + 1) (by omega) (by omega) (by omega)
    exact key 24 (a + 3) m2 (Nat.le_refl _) (by omega)
  rw [← hq] at nqg
  clear hq
  refine br_f (by decide) (br_f (by decide) (br_f (by decide) (br_f (by decide) (br_f (by decide) (br_f (by decide) (br_t (by decide) ?_))))))
  unfold wpY_declaration
  refine yw_tok hT ha ?_
  by_cases k7 : K a = 7
  · have lc : a < c := pm_lt hT.2.1 k7 (by decide)
    refine br_t (yt_y (k := 7) k7 (by omega)) ?_
    unfold wY_declaration_23
    refine nm_r (nI_1 a) (yw_take (k := 3) hT (by omega) (by omega) (fun k3 => ?_) (fun k3 => br_t rfl (h1 (Or.inl k7) k3 _ _ _ _ _ _ _ _ _ _ _ _ _ _ _ _ _ _ _ _ _)))
    have lc1 : a + 1 < c := pm_lt hT.2.1 k3 (by decide)
    refine br_f (by decide) (nm_r (nI_pred (a + 1)) (br_t (yt_y (k := 7) k7 (by omega)) ?_))
    refine yw_then (s := 19) (w := a + 1) (by omega) (by omega) (by omega) ?_
    refine yw_then (s := 2) (w := 0) (by omega) (by omega) (by omega) ?_
    refine yw_take (k := 9) hT (by omega) (by omega) (fun k9 => ?_) (fun k9 => ?_)
    · exact h3 k7 k3 k9 _ (st_1p (L := (19 + 64 * (a + 1)) :: L) (st_1p st))
    · exact h2 k7 k3 k9 _ _ _ _ _ _ _ _ _ _ _ _ _ _ _ _ _ _ _ _ _
  · refine br_f (yt_n (k := 7) hT k7 (by omega)) ?_
    by_cases k8 : K a = 8
    · have lc : a < c := pm_lt hT.2.1 k8 (by decide)
      refine br_t (yt_y (k := 8) k8 (by omega)) ?_
      unfold wY_declaration_23
      refine nm_r (nI_1 a) (yw_take (k := 3) hT (by omega) (by omega) (fun k3 => ?_) (fun k3 => br_t rfl (h1 (Or.inr k8) k3 _ _ _ _ _ _ _ _ _ _ _ _ _ _ _ _ _ _ _ _ _)))
      have lc1 : a + 1 < c := pm_lt hT.2.1 k3 (by decide)
      obtain ⟨_, _, t3, _⟩ := hT.2.2 (a + 1) lc1
      refine br_f (by decide) (nm_r (nI_pred (a + 1)) (br_f (yt_n (k := 7) hT k7 (by omega)) ?_))
      refine yw_fresh (by omega) ⟨vp_in_nI (by omega) (by decide), ?_⟩
      rw [nI_clamp (by omega), (t3 k3).1]
      refine yw_bind (by omega) (by have := (t3 k3).2; omega) (by omega) ⟨24, ?_⟩
      have I1 : ya_W H ty ub cl (ya_G kc kk ka kb rt g nl (n + 1) stk ([n] ++ env) (pd_ns a 1 ++ bs) (dv_lams 1 V) (upd a_what n 7) (upd a_partA n (-1)) (upd a_partB n (-1))) := ya_m I (fun G => ya_lam (a + 1) (ya_cg G dv_lams_0))
      have sb1 : st_1 (upd a_bound bs.length (nI (N (a + 1)))) ((pd_ns a 1 ++ bs).map (fun b => N b.1)) := by
        have := st_1p (x := N (a + 1)) hB1
        rw [List.length_map] at this
        exact this
      have sb2 : st_1 (upd a_boundType bs.length (nI n)) ([n] ++ env) := by
        rw [hlen]; exact st_1p hB2
      refine yf_99 (q := q) hT qk hm hlen hbl hn' hL (h4 k8 k3) (h5 k8 k3) (h6 k8 k3) 23 1 a_todo _ _ _ [n] _ _ (by omega) (by omega) (by omega) (fun j j1 j2 => ?_) (fun z => by omega) st rfl I1 sb1 sb2 (fun x hx => ?_)
      · rw [show j = a + 1 by omega]; exact k3
      · rcases List.mem_cons.mp hx with z | z
        · omega
        · exact hE x z
    · exact br_f (yt_n (k := 8) hT k8 (by omega)) (h0 k7 k8 _ _ _ _ _ _ _ _ _ _ _ _ _ _ _ _ _ _ _ _ _)
end
