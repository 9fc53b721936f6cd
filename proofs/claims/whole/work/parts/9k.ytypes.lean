def ye (r p : Nat) : pm_L := if r = 27 then [(45, 0)] else if r = 28 then [(60, 0)] else if r = 29 then [(63, 0), (62, 0), (61, 0)] else if r = 30 then [(61, 0)] else if r = 31 then [(62, 0)] else if r = 32 then [(83, p)] else [(p, 0)]
def yE : pm_L → pm_L
  | [] => []
  | (r, p) :: l => ye r p ++ yE l
def yv (K : Nat → Nat) (r p : Nat) : Nat := if r = 32 then 32 + 64 * (if K p = 36 then 5 else 6) else if r = 1 then 1 + 64 * p else r
def yV (K : Nat → Nat) : pm_L → List Nat
  | [] => []
  | (r, p) :: l => yv K r p :: yV K l
def yW : pm_L → Nat
  | [] => 0
  | (r, _) :: l => (if r = 27 then 2 else 1) + yW l
def yK (K : Nat → Nat) (c : Nat) : pm_L → Prop
  | [] => True
  | (r, p) :: l => (r = 27 ∨ r = 28 ∨ r = 29 ∨ r = 30 ∨ r = 31 ∨ (r = 32 ∧ p < c ∧ (K p = 36 ∨ K p = 37)) ∨ (r = 1 ∧ p < 38)) ∧ yK K c l
theorem yV_len {K : Nat → Nat} : ∀ l, (yV K l).length = l.length := by
  intro l
  induction l with
  | nil => rfl
  | cons x l ih => obtain ⟨r, p⟩ := x; unfold yV; rw [List.length_cons, List.length_cons, ih]
theorem yW_len : ∀ l, l.length ≤ yW l := by
  intro l
  induction l with
  | nil => exact Nat.le_refl _
  | cons x l ih =>
    obtain ⟨r, p⟩ := x
    unfold yW
    rw [List.length_cons]
    by_cases h : r = 27
    · rw [if_pos h]; omega
    · rw [if_neg h]; omega
section
variable {f_count f_accepted f_place f_kept f_nodes f_tt f_pos f_bad f_typing f_unbound f_clash f_top f_scope f_doneName f_doneType : Int32} {a_kind a_value a_keptKind a_keptA a_keptB a_root a_what a_partA a_partB a_mark a_twin a_walk a_pairs a_now a_todo a_types a_firm a_bound a_boundType : Nat → Int32}
theorem yr_29 {post : SY → Prop} {w : Int32} {kc n c a : Nat} {kk ka kb K N : Nat → Nat} {st0 : List tr_T} {stk L : List Nat} (hT : tk_T a_kind a_value c K N) (ha : a ≤ c) (hL : L.length + 4 < 320) (st : st_1 a_todo L) (I : yu_I kc kk ka kb n stk st0 a_what a_partA a_partB a_types) (hs : stk.length < 64) (hn : n < 2000)
    (h0 : K a ≠ 15 → ¬ ((31 ≤ K a ∧ K a ≤ 33) ∨ K a = 35) → ∀ tt td, post (nI c, f_accepted, f_place, f_kept, nI n, tt, nI a, 1, f_typing, f_unbound, f_clash, nI stk.length, f_scope, f_doneName, f_doneType, a_kind, a_value, a_keptKind, a_keptA, a_keptB, a_root, a_what, a_partA, a_partB, a_mark, a_twin, a_walk, a_pairs, a_now, td, a_types, a_firm, a_bound, a_boundType))
    (h15 : K a = 15 → ∀ td, st_1 td (27 :: (1 + 64 * 16) :: 31 :: 30 :: L) → post (nI c, f_accepted, f_place, f_kept, nI n, nI (L.length + 4), nI (a + 1), f_bad, f_typing, f_unbound, f_clash, nI stk.length, f_scope, f_doneName, f_doneType, a_kind, a_value, a_keptKind, a_keptA, a_keptB, a_root, a_what, a_partA, a_partB, a_mark, a_twin, a_walk, a_pairs, a_now, td, a_types, a_firm, a_bound, a_boundType))
    (h80 : ((31 ≤ K a ∧ K a ≤ 33) ∨ K a = 35) → ∀ td wh pA pB tys fr, yu_I kc kk ka kb (n + 1) (n :: stk) (ts_1 K N st0 80 a) wh pA pB tys → st_1 td (31 :: 30 :: L) → post (nI c, f_accepted, f_place, f_kept, nI (n + 1), nI (L.length + 2), nI (a + 1), f_bad, f_typing, f_unbound, f_clash, nI (stk.length + 1), f_scope, f_doneName, f_doneType, a_kind, a_value, a_keptKind, a_keptA, a_keptB, a_root, wh, pA, pB, a_mark, a_twin, a_walk, a_pairs, a_now, td, tys, fr, a_bound, a_boundType)) :
    wpY_readType post (nI c, f_accepted, f_place, f_kept, nI n, nI L.length, nI a, f_bad, f_typing, f_unbound, f_clash, nI stk.length, f_scope, f_doneName, f_doneType, a_kind, a_value, a_keptKind, a_keptA, a_keptB, a_root, a_what, a_partA, a_partB, a_mark, a_twin, a_walk, a_pairs, a_now, a_todo, a_types, a_firm, a_bound, a_boundType) (nI 29) w := by
  have hT' := hT
  obtain ⟨c24, k99, tk⟩ := hT
  unfold wpY_readType
  refine yw_tok hT' ha ?_
  refine br_f (by decide) (br_f (by decide) (br_f (by decide) (br_f (by decide) (br_t (by decide) ?_))))
  refine yw_then (t := L.length) (s := 30) (w := 0) (by omega) (by omega) (by omega) (yw_then (t := L.length + 1) (s := 31) (w := 0) (by omega) (by omega) (by omega) (nm_r (nI_1 a) ?_))
  have st2 := st_1p (x := 31) (L := 30 :: L) (st_1p (x := 30) st)
  by_cases k15 : K a = 15
  · refine br_t (yt_y k15 (by decide)) ?_
    exact yw_then (t := L.length + 2) (s := 1) (w := 16) (by omega) (by omega) (by omega) (yw_then (t := L.length + 3) (s := 27) (w := 0) (by omega) (by omega) (by omega) (h15 k15 _ (st_1p (L := (1 + 64 * 16) :: 31 :: 30 :: L) (st_1p (L := 31 :: 30 :: L) st2))))
  refine br_f (yt_n hT' k15 (by decide)) ?_
  by_cases kat : (31 ≤ K a ∧ K a ≤ 33) ∨ K a = 35
  · have n99 : K a ≠ 99 := by omega
    have ey : yt K a = nI (K a) := if_neg n99
    have ac : a < c := Nat.lt_of_not_le (fun q => n99 (k99 a q))
    obtain ⟨t1, t2, t3, t4⟩ := tk a ac
    rw [ey]
    refine br_f (nI_nlt (b := 31) (by omega) (by omega)) ?_
    by_cases k35 : K a = 35
    · refine br_t (nI_lt (a := 33) (by omega) (by omega)) ?_
      unfold wY_readType_180
      refine br_t (by rw [k35]; rfl) ?_
      rw [nI_pred]
      refine ⟨vp_in_nI (by omega) (by decide), ?_⟩
      rw [nI_clamp (by omega), (t4 k35).1]
      have n4 := (t4 k35).2
      refine yw_make hn (yw_push (b := true) hs (by omega) ?_)
      rw [ys_n (a := N a) (by omega)]
      exact h80 kat _ _ _ _ _ _ (yu_leaf (w := 9) I kat (fun _ => n4) (Or.inl ⟨k35, rfl, rfl⟩)) st2
    · refine br_f (nI_nlt (a := 33) (by omega) (by decide)) ?_
      have e31 : nI (K a) - 31 = nI (K a - 31) := pk_sub (b := 31) (by omega)
      rw [e31]
      unfold wpY_leaf
      refine yw_make hn (yw_push (b := true) hs (by omega) ?_)
      rw [yb_n (by omega)]
      exact h80 kat _ _ _ _ _ _ (yu_leaf (w := K a - 31) (x := 0) I kat (fun z => (k35 z).elim) (Or.inr ⟨k35, rfl⟩)) st2
  · have q : ∀ tt td, wY_readType_180 post (yt K a) (nI c) f_accepted f_place f_kept (nI n) tt (nI (a + 1)) f_bad f_typing f_unbound f_clash (nI stk.length) f_scope f_doneName f_doneType a_kind a_value a_keptKind a_keptA a_keptB a_root a_what a_partA a_partB a_mark a_twin a_walk a_pairs a_now td a_types a_firm a_bound a_boundType := by
      intro tt td
      unfold wY_readType_180
      exact br_f (yt_n hT' (k := 35) (by omega) (by decide)) (nm_r (nI_pred a) (h0 k15 kat tt td))
    by_cases k31 : yt K a < 31
    · exact br_t k31 (q _ _)
    · refine br_f k31 ?_
      have n99 : K a ≠ 99 := fun z => k31 (by unfold yt; rw [if_pos z]; decide)
      have ey : yt K a = nI (K a) := if_neg n99
      have k38 : K a < 38 := (tk a (Nat.lt_of_not_le (fun q => n99 (k99 a q)))).2.1
      have g31 : ¬ K a < 31 := fun z => k31 (by rw [ey]; exact nI_lt (b := 31) z (by decide))
      refine br_t (by rw [ey]; exact nI_lt (a := 33) (by omega) (by omega)) (q _ _)
end
