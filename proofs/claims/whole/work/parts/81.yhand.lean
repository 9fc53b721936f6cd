/-! the reference's operators -/
/-- how a step may go on: a type t waits, the worlds are V' -/
def yh_O (kc : Nat) (kk ka kb rt : Nat → Nat) (g : Nat → tr_T) (H : Int32 → Int32 → Prop) (ty : Int32) (nl nb : Nat) (stk env : List Nat) (bs : List (Nat × Bool)) (fl : List Bool) (V' : dv_W) (u : SY) (post : SY → Prop) : Prop :=
  match u with
  | (f_count, f_accepted, f_place, f_kept, f_nodes, f_tt, f_pos, f_bad, f_typing, f_unbound, f_clash, f_top, f_scope, f_doneName, f_doneType, a_kind, a_value, a_keptKind, a_keptA, a_keptB, a_root, a_what, a_partA, a_partB, a_mark, a_twin, a_walk, a_pairs, a_now, a_todo, a_types, a_firm, a_bound, a_boundType) => ∀ n' ty' cl' t wh pA pB mk tw wk pr tys fr, n' ≤ nb → (ty' = 1 → ty = 1) → ya_W H ty' f_unbound cl' (ya_G kc kk ka kb rt g nl n' (t :: stk) env bs V' wh pA pB) → st_1 tys (t :: stk) → st_b fr fl → t < 2000 → post (f_count, f_accepted, f_place, f_kept, nI n', f_tt, f_pos, f_bad, ty', f_unbound, cl', nI (stk.length + 1), f_scope, f_doneName, f_doneType, a_kind, a_value, a_keptKind, a_keptA, a_keptB, a_root, wh, pA, pB, mk, tw, wk, pr, a_now, a_todo, tys, fr, a_bound, a_boundType)
section
variable {f_count f_accepted f_place f_kept f_nodes f_tt f_pos f_bad f_typing f_unbound f_clash f_top f_scope f_doneName f_doneType : Int32} {a_kind a_value a_keptKind a_keptA a_keptB a_root a_what a_partA a_partB a_mark a_twin a_walk a_pairs a_now a_todo a_types a_firm a_bound a_boundType : Nat → Int32}
variable {kc : Nat} {kk ka kb rt lo hi : Nat → Nat} {g : Nat → tr_T} {nl n : Nat} {stk env : List Nat} {bs : List (Nat × Bool)} {fl : List Bool} {V : dv_W} {H : Int32 → Int32 → Prop} {ty ub cl : Int32}
theorem yw_mkz {post : Int32 → SY → Prop} {k : Nat} {z a b : Int32} (hz : z = nI k) (hk : k < 128) (hn : n < 2000) (h : post (nI n) (f_count, f_accepted, f_place, f_kept, nI (n + 1), f_tt, f_pos, f_bad, f_typing, f_unbound, f_clash, f_top, f_scope, f_doneName, f_doneType, a_kind, a_value, a_keptKind, a_keptA, a_keptB, a_root, upd a_what n (nI k), upd a_partA n a.toInt16.toInt32, upd a_partB n b.toInt16.toInt32, a_mark, a_twin, a_walk, a_pairs, a_now, a_todo, a_types, a_firm, a_bound, a_boundType)) : wpY_make post (f_count, f_accepted, f_place, f_kept, nI n, f_tt, f_pos, f_bad, f_typing, f_unbound, f_clash, f_top, f_scope, f_doneName, f_doneType, a_kind, a_value, a_keptKind, a_keptA, a_keptB, a_root, a_what, a_partA, a_partB, a_mark, a_twin, a_walk, a_pairs, a_now, a_todo, a_types, a_firm, a_bound, a_boundType) z a b := by
  refine yw_make hn ?_
  rw [hz, yb_n hk]; exact h
theorem yw_mkc {post : Int32 → SY → Prop} {k a : Nat} {z y : Int32} (hz : z = nI k) (hk : k < 128) (ha : a < 32768) (hn : n < 2000) (h : post (nI n) (f_count, f_accepted, f_place, f_kept, nI (n + 1), f_tt, f_pos, f_bad, f_typing, f_unbound, f_clash, f_top, f_scope, f_doneName, f_doneType, a_kind, a_value, a_keptKind, a_keptA, a_keptB, a_root, upd a_what n (nI k), upd a_partA n (nI a), upd a_partB n y.toInt16.toInt32, a_mark, a_twin, a_walk, a_pairs, a_now, a_todo, a_types, a_firm, a_bound, a_boundType)) : wpY_make post (f_count, f_accepted, f_place, f_kept, nI n, f_tt, f_pos, f_bad, f_typing, f_unbound, f_clash, f_top, f_scope, f_doneName, f_doneType, a_kind, a_value, a_keptKind, a_keptA, a_keptB, a_root, a_what, a_partA, a_partB, a_mark, a_twin, a_walk, a_pairs, a_now, a_todo, a_types, a_firm, a_bound, a_boundType) z (nI a) y := by
  refine yw_make hn ?_
  rw [hz, yb_n hk, ys_n ha]; exact h
theorem yo_pre {post : SY → Prop} {s : Int32} {p x y : Nat} {bx by' : Bool} (h1 : st_1 a_types (y :: x :: stk)) (h2 : st_b a_firm (by' :: bx :: fl)) (hfl : fl.length = stk.length) (hs : stk.length + 2 < 64)
    (h : wY_operate_66 post s (nI p) (nI y) (nI x) (if (bx && by') = true then 1 else 0) f_count f_accepted f_place f_kept f_nodes f_tt f_pos f_bad f_typing f_unbound f_clash (nI stk.length) f_scope f_doneName f_doneType a_kind a_value a_keptKind a_keptA a_keptB a_root a_what a_partA a_partB a_mark a_twin a_walk a_pairs a_now a_todo a_types a_firm a_bound a_boundType) : wpY_operate post (f_count, f_accepted, f_place, f_kept, f_nodes, f_tt, f_pos, f_bad, f_typing, f_unbound, f_clash, nI (stk.length + 2), f_scope, f_doneName, f_doneType, a_kind, a_value, a_keptKind, a_keptA, a_keptB, a_root, a_what, a_partA, a_partB, a_mark, a_twin, a_walk, a_pairs, a_now, a_todo, a_types, a_firm, a_bound, a_boundType) s (nI p) := by
  refine nm_r (nI_pred (stk.length + 1)) ?_
  rw [nI_pred (stk.length + 1)]
  refine ⟨vp_in_nI (by omega) (by decide), ?_⟩
  rw [nI_clamp (by omega), show a_types (stk.length + 1) = nI y from h1.1]
  refine nm_e (nm_r (nI_pred stk.length) ?_)
  rw [nI_pred stk.length]
  refine ⟨vp_in_nI (by omega) (by decide), ?_⟩
  rw [nI_clamp (by omega), h1.2.1]
  refine nm_e ⟨vp_in_nI (by omega) (by decide), ?_⟩
  have q1 : a_firm stk.length = if bx = true then 1 else 0 := by rw [← hfl]; exact h2.2.1
  have q2 : a_firm (stk.length + 1) = if by' = true then 1 else 0 := by rw [← hfl]; exact h2.1
  rw [q1, nI_1]
  cases bx with
  | false =>
    refine br_t rfl ?_
    exact h
  | true =>
    refine br_f (by decide) ⟨vp_in_nI (by omega) (by decide), ?_⟩
    rw [nI_clamp (by omega), q2]
    cases by' with
    | false => exact br_t rfl h
    | true => exact br_f (by decide) h
theorem yw_app {post : SY → Prop} {p x y e : Nat} {bx by' : Bool} (HK : ky_K kc kk ka kb rt lo hi g) (hn : n + 3 ≤ 2000) (I : ya_W H ty ub cl (ya_G kc kk ka kb rt g nl n (y :: x :: stk) env bs V a_what a_partA a_partB)) (hl : dv_len (stk.length + 2) e V) (h1 : st_1 a_types (y :: x :: stk)) (h2 : st_b a_firm (by' :: bx :: fl)) (hfl : fl.length = stk.length) (hs : stk.length + 2 < 64) (hy : y < 2000)
    (hbad : ty = 1 → (∀ ν st E, ¬ dv_app V ν st E) → H (-1) (nI p)) (h : yh_O kc kk ka kb rt g H ty nl (n + 3) stk env bs (false :: fl) (dv_app V) (f_count, f_accepted, f_place, f_kept, 0, f_tt, f_pos, f_bad, 0, ub, 0, 0, f_scope, f_doneName, f_doneType, a_kind, a_value, a_keptKind, a_keptA, a_keptB, a_root, a_what, a_partA, a_partB, a_mark, a_twin, a_walk, a_pairs, a_now, a_todo, a_types, a_firm, a_bound, a_boundType) post) : wpY_operate post (f_count, f_accepted, f_place, f_kept, nI n, f_tt, f_pos, f_bad, ty, ub, cl, nI (stk.length + 2), f_scope, f_doneName, f_doneType, a_kind, a_value, a_keptKind, a_keptA, a_keptB, a_root, a_what, a_partA, a_partB, a_mark, a_twin, a_walk, a_pairs, a_now, a_todo, a_types, a_firm, a_bound, a_boundType) 26 (nI p) := by
  refine yo_pre h1 h2 hfl hs (br_f (by decide) ?_)
  unfold wY_operate_80
  refine yw_mkz (k := 1) rfl (by omega) (by omega) ?_
  have I1 := ya_m I (fun G => ya_skip G (k := 1) (x := (0 : Int32).toInt16.toInt32) (y := (0 : Int32).toInt16.toInt32) (by omega))
  refine br_f (by decide) (br_t (by decide) ?_)
  unfold wY_operate_302
  refine yw_fresh (by omega) ?_
  have I2 := ya_m I1 ya_var
  refine yw_mkc (k := 6) rfl (by omega) (by omega) (by omega) ?_
  have I3 := ya_m I2 (fun G => ya_con G (k := 6) (a := y) (b := n + 1) (y := (nI (n + 1)).toInt16.toInt32) (by omega) (Or.inl (List.mem_cons_of_mem _ List.mem_cons_self)) (Or.inl List.mem_cons_self) (fun z => by omega) (fun _ => ys_n (by omega)) (fun _ st _ => ls_g 1 st) (fun _ st _ => ls_g 0 st) (fun ρ => rfl) (fun ρ => rfl))
  refine yw_dem HK (by omega) I3 (Or.inl (List.mem_cons_of_mem _ (List.mem_cons_of_mem _ (List.mem_cons_of_mem _ List.mem_cons_self)))) (Or.inl List.mem_cons_self) (fun _ st _ => ls_g 3 st = ls_g 0 st) (fun ρ => Iff.rfl) (fun t1 no => hbad t1 (fun ν st E v => ?_)) (fun ty' cl' wh pA mk wk pr ht I4 => ?_)
  · obtain ⟨st0, ⟨v1, v2⟩, _⟩ := (xe_app hl ν st E).mpr v
    exact no ν st0 E ⟨v1, v2⟩
  · refine yw_push (b := false) (by omega) (by omega) ?_
    refine h (n + 1 + 1 + 1) ty' cl' (n + 1) wh pA _ mk _ wk pr _ _ (by omega) ht (ya_m I4 (fun G => ?_)) (st_1p h1.2.2) ?_ (by omega)
    · refine ya_cg (ya_sel G (stk' := (n + 1) :: stk) (fun _ st _ => ls_g 1 st :: st.drop 4) (fun z hz => ?_) (fun ρ => rfl)) (xe_app hl)
      rcases List.mem_cons.mp hz with q | q
      · rw [q]; exact Or.inl (List.mem_cons_of_mem _ List.mem_cons_self)
      · exact Or.inl (List.mem_cons_of_mem _ (List.mem_cons_of_mem _ (List.mem_cons_of_mem _ (List.mem_cons_of_mem _ q))))
    · rw [← hfl]; exact st_bp h2.2.2
theorem yw_pair {post : SY → Prop} {p x y e : Nat} {bx by' : Bool} (hn : n + 3 ≤ 2000) (I : ya_W H ty ub cl (ya_G kc kk ka kb rt g nl n (y :: x :: stk) env bs V a_what a_partA a_partB)) (hl : dv_len (stk.length + 2) e V) (h1 : st_1 a_types (y :: x :: stk)) (h2 : st_b a_firm (by' :: bx :: fl)) (hfl : fl.length = stk.length) (hs : stk.length + 2 < 64) (hx : x < 2000) (hy : y < 2000)
    (h : yh_O kc kk ka kb rt g H ty nl (n + 3) stk env bs ((bx && by') :: fl) (dv_pair V) (f_count, f_accepted, f_place, f_kept, 0, f_tt, f_pos, f_bad, 0, ub, 0, 0, f_scope, f_doneName, f_doneType, a_kind, a_value, a_keptKind, a_keptA, a_keptB, a_root, a_what, a_partA, a_partB, a_mark, a_twin, a_walk, a_pairs, a_now, a_todo, a_types, a_firm, a_bound, a_boundType) post) : wpY_operate post (f_count, f_accepted, f_place, f_kept, nI n, f_tt, f_pos, f_bad, ty, ub, cl, nI (stk.length + 2), f_scope, f_doneName, f_doneType, a_kind, a_value, a_keptKind, a_keptA, a_keptB, a_root, a_what, a_partA, a_partB, a_mark, a_twin, a_walk, a_pairs, a_now, a_todo, a_types, a_firm, a_bound, a_boundType) 15 (nI p) := by
  refine yo_pre h1 h2 hfl hs (br_f (by decide) ?_)
  unfold wY_operate_80
  refine yw_mkz (k := 1) rfl (by omega) (by omega) ?_
  have I1 := ya_m I (fun G => ya_skip G (k := 1) (x := (0 : Int32).toInt16.toInt32) (y := (0 : Int32).toInt16.toInt32) (by omega))
  refine br_f (by decide) (br_f (by decide) (br_t (by decide) ?_))
  refine yw_mkc (k := 5) rfl (by omega) (by omega) (by omega) ?_
  have I2 := ya_m I1 (fun G => ya_con G (k := 5) (a := x) (b := y) (y := (nI y).toInt16.toInt32) (by omega) (Or.inl (List.mem_cons_of_mem _ List.mem_cons_self)) (Or.inl List.mem_cons_self) (fun z => by omega) (fun _ => ys_n (by omega)) (fun _ st _ => ls_g 1 st) (fun _ st _ => ls_g 0 st) (fun ρ => rfl) (fun ρ => rfl))
  refine yw_push (b := bx && by') (by omega) (by omega) ?_
  refine h (n + 1 + 1) ty cl (n + 1) _ _ _ _ _ _ _ _ _ (by omega) id (ya_m I2 (fun G => ?_)) (st_1p h1.2.2) ?_ (by omega)
  · refine ya_cg (ya_sel G (stk' := (n + 1) :: stk) (fun _ st _ => ls_g 0 st :: st.drop 3) (fun z hz => ?_) (fun ρ => rfl)) (xe_pair hl)
    rcases List.mem_cons.mp hz with q | q
    · rw [q]; exact Or.inl List.mem_cons_self
    · exact Or.inl (List.mem_cons_of_mem _ (List.mem_cons_of_mem _ (List.mem_cons_of_mem _ q)))
  · rw [← hfl]; exact st_bp h2.2.2
theorem yw_cons {post : SY → Prop} {p x y e : Nat} {bx by' : Bool} (HK : ky_K kc kk ka kb rt lo hi g) (hn : n + 3 ≤ 2000) (I : ya_W H ty ub cl (ya_G kc kk ka kb rt g nl n (y :: x :: stk) env bs V a_what a_partA a_partB)) (hl : dv_len (stk.length + 2) e V) (h1 : st_1 a_types (y :: x :: stk)) (h2 : st_b a_firm (by' :: bx :: fl)) (hfl : fl.length = stk.length) (hs : stk.length + 2 < 64) (hx : x < 2000) (hy : y < 2000)
    (hbad : ty = 1 → (∀ ν st E, ¬ dv_cons V ν st E) → H (-1) (nI p)) (h : yh_O kc kk ka kb rt g H ty nl (n + 3) stk env bs ((bx && by') :: fl) (dv_cons V) (f_count, f_accepted, f_place, f_kept, 0, f_tt, f_pos, f_bad, 0, ub, 0, 0, f_scope, f_doneName, f_doneType, a_kind, a_value, a_keptKind, a_keptA, a_keptB, a_root, a_what, a_partA, a_partB, a_mark, a_twin, a_walk, a_pairs, a_now, a_todo, a_types, a_firm, a_bound, a_boundType) post) : wpY_operate post (f_count, f_accepted, f_place, f_kept, nI n, f_tt, f_pos, f_bad, ty, ub, cl, nI (stk.length + 2), f_scope, f_doneName, f_doneType, a_kind, a_value, a_keptKind, a_keptA, a_keptB, a_root, a_what, a_partA, a_partB, a_mark, a_twin, a_walk, a_pairs, a_now, a_todo, a_types, a_firm, a_bound, a_boundType) 24 (nI p) := by
  refine yo_pre h1 h2 hfl hs (br_f (by decide) ?_)
  unfold wY_operate_80
  refine yw_mkz (k := 1) rfl (by omega) (by omega) ?_
  have I1 := ya_m I (fun G => ya_skip G (k := 1) (x := (0 : Int32).toInt16.toInt32) (y := (0 : Int32).toInt16.toInt32) (by omega))
  refine br_f (by decide) (br_f (by decide) (br_f (by decide) (br_f (by decide) (br_f (by decide) (br_f (by decide) (br_f (by decide) (br_f (by decide) (br_f (by decide) (br_f (by decide) (br_f (by decide) (br_t (by decide) ?_)))))))))))
  refine yw_mkc (k := 3) rfl (by omega) (by omega) (by omega) ?_
  have I3 := ya_m I1 (fun G => ya_con G (k := 3) (a := x) (b := x) (y := (0 : Int32).toInt16.toInt32) (by omega) (Or.inl (List.mem_cons_of_mem _ List.mem_cons_self)) (Or.inl (List.mem_cons_of_mem _ List.mem_cons_self)) (fun z => rfl) (fun z => by omega) (fun _ st _ => ls_g 1 st) (fun _ st _ => ls_g 1 st) (fun ρ => rfl) (fun ρ => rfl))
  refine yw_dem HK (by omega) I3 (Or.inl (List.mem_cons_of_mem _ List.mem_cons_self)) (Or.inl List.mem_cons_self) (fun _ st _ => ls_g 1 st = ls_g 0 st) (fun ρ => Iff.rfl) (fun t1 no => hbad t1 (fun ν st E v => ?_)) (fun ty' cl' wh pA mk wk pr ht I4 => ?_)
  · obtain ⟨st0, ⟨v1, v2⟩, _⟩ := (xe_cons hl ν st E).mpr v
    exact no ν st0 E ⟨v1, v2⟩
  · refine yw_push (b := bx && by') (by omega) (by omega) ?_
    refine h (n + 1 + 1) ty' cl' y wh pA _ mk _ wk pr _ _ (by omega) ht (ya_m I4 (fun G => ?_)) (st_1p h1.2.2) ?_ (by omega)
    · refine ya_cg (ya_sel G (stk' := y :: stk) (fun _ st _ => ls_g 1 st :: st.drop 3) (fun z hz => ?_) (fun ρ => rfl)) (xe_cons hl)
      rcases List.mem_cons.mp hz with q | q
      · rw [q]; exact Or.inl (List.mem_cons_of_mem _ List.mem_cons_self)
      · exact Or.inl (List.mem_cons_of_mem _ (List.mem_cons_of_mem _ (List.mem_cons_of_mem _ q)))
    · rw [← hfl]; exact st_bp h2.2.2
theorem yw_336 {post : SY → Prop} {h : Nat} (hh : h < 64) (hp : post (f_count, f_accepted, f_place, f_kept, f_nodes, f_tt, f_pos, f_bad, f_typing, f_unbound, f_clash, nI (h + 1), f_scope, f_doneName, f_doneType, a_kind, a_value, a_keptKind, a_keptA, a_keptB, a_root, a_what, a_partA, a_partB, a_mark, a_twin, a_walk, a_pairs, a_now, a_todo, a_types, upd a_firm h (if false = true then 1 else 0), a_bound, a_boundType)) : wY_operate_336 post f_count f_accepted f_place f_kept f_nodes f_tt f_pos f_bad f_typing f_unbound f_clash (nI (h + 1)) f_scope f_doneName f_doneType a_kind a_value a_keptKind a_keptA a_keptB a_root a_what a_partA a_partB a_mark a_twin a_walk a_pairs a_now a_todo a_types a_firm a_bound a_boundType := by
  unfold wY_operate_336
  rw [nI_pred]
  refine ⟨vp_in_nI hh (by decide), ?_⟩
  rw [nI_clamp (by omega)]
  exact nm_e hp
theorem yw_asg {post : SY → Prop} {p x y e : Nat} {bx by' : Bool} (HK : ky_K kc kk ka kb rt lo hi g) (hn : n + 3 ≤ 2000) (I : ya_W H ty ub cl (ya_G kc kk ka kb rt g nl n (y :: x :: stk) env bs V a_what a_partA a_partB)) (hl : dv_len (stk.length + 2) e V) (h1 : st_1 a_types (y :: x :: stk)) (h2 : st_b a_firm (by' :: bx :: fl)) (hfl : fl.length = stk.length) (hs : stk.length + 2 < 64) (hx : x < 2000) (hy : y < 2000)
    (hbad : ty = 1 → (∀ ν st E, ¬ dv_asg V ν st E) → H (-1) (nI p)) (h : yh_O kc kk ka kb rt g H ty nl (n + 3) stk env bs (false :: fl) (dv_asg V) (f_count, f_accepted, f_place, f_kept, 0, f_tt, f_pos, f_bad, 0, ub, 0, 0, f_scope, f_doneName, f_doneType, a_kind, a_value, a_keptKind, a_keptA, a_keptB, a_root, a_what, a_partA, a_partB, a_mark, a_twin, a_walk, a_pairs, a_now, a_todo, a_types, a_firm, a_bound, a_boundType) post) : wpY_operate post (f_count, f_accepted, f_place, f_kept, nI n, f_tt, f_pos, f_bad, ty, ub, cl, nI (stk.length + 2), f_scope, f_doneName, f_doneType, a_kind, a_value, a_keptKind, a_keptA, a_keptB, a_root, a_what, a_partA, a_partB, a_mark, a_twin, a_walk, a_pairs, a_now, a_todo, a_types, a_firm, a_bound, a_boundType) 23 (nI p) := by
  refine yo_pre h1 h2 hfl hs (br_f (by decide) ?_)
  unfold wY_operate_80
  refine yw_mkz (k := 1) rfl (by omega) (by omega) ?_
  have I1 := ya_m I (fun G => ya_skip G (k := 1) (x := (0 : Int32).toInt16.toInt32) (y := (0 : Int32).toInt16.toInt32) (by omega))
  refine br_f (by decide) (br_f (by decide) (br_f (by decide) (br_f (by decide) (br_f (by decide) (br_f (by decide) (br_f (by decide) (br_f (by decide) (br_f (by decide) (br_f (by decide) (br_t (by decide) ?_))))))))))
  refine yw_mkc (k := 4) rfl (by omega) (by omega) (by omega) ?_
  have I3 := ya_m I1 (fun G => ya_con G (k := 4) (a := y) (b := y) (y := (0 : Int32).toInt16.toInt32) (by omega) (Or.inl List.mem_cons_self) (Or.inl List.mem_cons_self) (fun z => rfl) (fun z => by omega) (fun _ st _ => ls_g 0 st) (fun _ st _ => ls_g 0 st) (fun ρ => rfl) (fun ρ => rfl))
  have none : ∀ ν st E, dv_asg V ν st E → ∃ s2, (∃ s0, s2 = tr_con 4 (ls_g 0 s0) (ls_g 0 s0) :: s0 ∧ V ν s0 E) ∧ ls_g 2 s2 = ls_g 0 s2 := fun ν st E v => by
    obtain ⟨st0, ⟨s2, _, q⟩, _⟩ := (xe_asg hl ν st E).mpr v
    exact ⟨s2, q⟩
  refine yw_dem HK (by omega) I3 (Or.inl (List.mem_cons_of_mem _ (List.mem_cons_of_mem _ List.mem_cons_self))) (Or.inl List.mem_cons_self) (fun _ st _ => ls_g 2 st = ls_g 0 st) (fun ρ => Iff.rfl) (fun t1 no => hbad t1 (fun ν st E v => ?_)) (fun ty' cl' wh pA mk wk pr ht I4 => ?_)
  · obtain ⟨s2, v1, v2⟩ := none ν st E v
    exact no ν s2 E ⟨v1, v2⟩
  · unfold wpY_leaf
    refine yw_mkz (k := 2) rfl (by omega) (by omega) ?_
    have I5 := ya_m I4 (fun G => ya_leaf G (k := 2) (x := (0 : Int32).toInt16.toInt32) (y := (0 : Int32).toInt16.toInt32) (by omega))
    refine yw_push (b := true) (by omega) (by omega) ?_
    refine yw_336 (by omega) ?_
    refine h (n + 1 + 1 + 1) ty' cl' (n + 1 + 1) _ _ _ mk _ wk pr _ _ (by omega) ht (ya_m I5 (fun G => ?_)) (st_1p h1.2.2) ?_ (by omega)
    · refine ya_cg (ya_sel G (stk' := (n + 1 + 1) :: stk) (fun _ st _ => ls_g 0 st :: st.drop 4) (fun z hz => ?_) (fun ρ => rfl)) (xe_asg hl)
      rcases List.mem_cons.mp hz with q | q
      · rw [q]; exact Or.inl List.mem_cons_self
      · exact Or.inl (List.mem_cons_of_mem _ (List.mem_cons_of_mem _ (List.mem_cons_of_mem _ (List.mem_cons_of_mem _ q))))
    · rw [← hfl]; exact st_bp (st_bu fl (Nat.le_refl _) h2.2.2)
theorem yw_num {post : SY → Prop} {p x y e c k : Nat} {bx by' : Bool} {K N : Nat → Nat} (hT : tk_T a_kind a_value c K N) (hp : p < c) (hk : k = if K p = 21 then 1 else 0) (HK : ky_K kc kk ka kb rt lo hi g) (hn : n + 3 ≤ 2000) (I : ya_W H ty ub cl (ya_G kc kk ka kb rt g nl n (y :: x :: stk) env bs V a_what a_partA a_partB)) (hl : dv_len (stk.length + 2) e V) (h1 : st_1 a_types (y :: x :: stk)) (h2 : st_b a_firm (by' :: bx :: fl)) (hfl : fl.length = stk.length) (hs : stk.length + 2 < 64) (hx : x < 2000) (hy : y < 2000)
    (hbad : ty = 1 → (∀ ν st E, ¬ dv_num k V ν st E) → H (-1) (nI p)) (h : yh_O kc kk ka kb rt g H ty nl (n + 3) stk env bs (false :: fl) (dv_num k V) (f_count, f_accepted, f_place, f_kept, 0, f_tt, f_pos, f_bad, 0, ub, 0, 0, f_scope, f_doneName, f_doneType, a_kind, a_value, a_keptKind, a_keptA, a_keptB, a_root, a_what, a_partA, a_partB, a_mark, a_twin, a_walk, a_pairs, a_now, a_todo, a_types, a_firm, a_bound, a_boundType) post) : wpY_operate post (f_count, f_accepted, f_place, f_kept, nI n, f_tt, f_pos, f_bad, ty, ub, cl, nI (stk.length + 2), f_scope, f_doneName, f_doneType, a_kind, a_value, a_keptKind, a_keptA, a_keptB, a_root, a_what, a_partA, a_partB, a_mark, a_twin, a_walk, a_pairs, a_now, a_todo, a_types, a_firm, a_bound, a_boundType) 25 (nI p) := by
  have c24 := hT.1
  refine yo_pre h1 h2 hfl hs (br_t rfl ?_)
  unfold wY_operate_80
  refine yw_mkz (k := 0) rfl (by omega) (by omega) ?_
  have I1 := ya_m I (fun G => ya_leaf G (k := 0) (x := (0 : Int32).toInt16.toInt32) (y := (0 : Int32).toInt16.toInt32) (by omega))
  refine br_f (by decide) (br_f (by decide) (br_f (by decide) (br_f (by decide) (br_f (by decide) (br_f (by decide) (br_f (by decide) (br_f (by decide) (br_f (by decide) (br_f (by decide) (br_f (by decide) (br_f (by decide) (br_t (by decide) ?_))))))))))))
  have none : ∀ ν st E, dv_num k V ν st E → ∃ s2, ((∃ s0, s2 = tr_at 0 :: s0 ∧ V ν s0 E) ∧ ls_g 2 s2 = ls_g 0 s2) ∧ ls_g 1 s2 = ls_g 0 s2 := fun ν st E v => by
    obtain ⟨st0, ⟨s2, _, q⟩, _⟩ := (xe_num hl ν st E).mpr v
    exact ⟨s2, q⟩
  refine yw_dem HK (by omega) I1 (Or.inl (List.mem_cons_of_mem _ (List.mem_cons_of_mem _ List.mem_cons_self))) (Or.inl List.mem_cons_self) (fun _ st _ => ls_g 2 st = ls_g 0 st) (fun ρ => Iff.rfl) (fun t1 no => hbad t1 (fun ν st E v => ?_)) (fun ty' cl' wh pA mk wk pr ht I4 => ?_)
  · obtain ⟨s2, v1, v2⟩ := none ν st E v
    exact no ν s2 E v1
  · refine yw_dem HK (by omega) I4 (Or.inl (List.mem_cons_of_mem _ List.mem_cons_self)) (Or.inl List.mem_cons_self) (fun _ st _ => ls_g 1 st = ls_g 0 st) (fun ρ => Iff.rfl) (fun t1 no => hbad (ht t1) (fun ν st E v => ?_)) (fun ty' cl' wh pA mk wk pr ht2 I5 => ?_)
    · obtain ⟨s2, v1, v2⟩ := none ν st E v
      exact no ν s2 E ⟨v1, v2⟩
    · refine ⟨vp_in_nI (by omega) (by decide), ?_⟩
      rw [nI_clamp (by omega), (hT.2.2 p hp).1]
      have k38 := (hT.2.2 p hp).2.1
      have fin : wY_operate_296 post (nI k) f_count f_accepted f_place f_kept (nI (n + 1)) f_tt f_pos f_bad ty' ub cl' (nI stk.length) f_scope f_doneName f_doneType a_kind a_value a_keptKind a_keptA a_keptB a_root wh pA (upd a_partB n (0 : Int32).toInt16.toInt32) mk a_twin wk pr a_now a_todo a_types a_firm a_bound a_boundType := by
        have k2 : k < 2 := by
          rw [hk]
          by_cases q : K p = 21
          · rw [if_pos q]; omega
          · rw [if_neg q]; omega
        unfold wY_operate_296 wpY_leaf
        refine yw_mkz (k := k) rfl (by omega) (by omega) ?_
        have I6 := ya_m I5 (fun G => ya_leaf G (k := k) (x := (0 : Int32).toInt16.toInt32) (y := (0 : Int32).toInt16.toInt32) (by omega))
        refine yw_push (b := true) (by omega) (by omega) ?_
        refine yw_336 (by omega) ?_
        refine h (n + 1 + 1) ty' cl' (n + 1) _ _ _ mk _ wk pr _ _ (by omega) (fun z => ht (ht2 z)) (ya_m I6 (fun G => ?_)) (st_1p h1.2.2) ?_ (by omega)
        · refine ya_cg (ya_sel G (stk' := (n + 1) :: stk) (fun _ st _ => ls_g 0 st :: st.drop 4) (fun z hz => ?_) (fun ρ => rfl)) (xe_num hl)
          rcases List.mem_cons.mp hz with q | q
          · rw [q]; exact Or.inl List.mem_cons_self
          · exact Or.inl (List.mem_cons_of_mem _ (List.mem_cons_of_mem _ (List.mem_cons_of_mem _ (List.mem_cons_of_mem _ q))))
        · rw [← hfl]; exact st_bp (st_bu fl (Nat.le_refl _) h2.2.2)
      by_cases q : K p = 21
      · rw [if_pos q] at hk
        rw [hk] at fin
        exact br_t (by rw [q]; rfl) fin
      · rw [if_neg q] at hk
        rw [hk] at fin
        exact br_f (fun z => q ((nI_eq (b := 21) (by omega) (by omega)).mp z)) fin
theorem yw_if {post : SY → Prop} {p x y c0 e : Nat} {bx by' bc : Bool} (HK : ky_K kc kk ka kb rt lo hi g) (hn : n + 3 ≤ 2000) (I : ya_W H ty ub cl (ya_G kc kk ka kb rt g nl n (y :: x :: c0 :: stk) env bs V a_what a_partA a_partB)) (hl : dv_len (stk.length + 3) e V) (h1 : st_1 a_types (y :: x :: c0 :: stk)) (h2 : st_b a_firm (by' :: bx :: bc :: fl)) (hfl : fl.length = stk.length) (hs : stk.length + 3 < 64) (hx : x < 2000)
    (hbad : ty = 1 → (∀ ν st E, ¬ dv_if V ν st E) → H (-1) (nI p)) (h : yh_O kc kk ka kb rt g H ty nl (n + 2) stk env bs (false :: fl) (dv_if V) (f_count, f_accepted, f_place, f_kept, 0, f_tt, f_pos, f_bad, 0, ub, 0, 0, f_scope, f_doneName, f_doneType, a_kind, a_value, a_keptKind, a_keptA, a_keptB, a_root, a_what, a_partA, a_partB, a_mark, a_twin, a_walk, a_pairs, a_now, a_todo, a_types, a_firm, a_bound, a_boundType) post) : wpY_operate post (f_count, f_accepted, f_place, f_kept, nI n, f_tt, f_pos, f_bad, ty, ub, cl, nI (stk.length + 3), f_scope, f_doneName, f_doneType, a_kind, a_value, a_keptKind, a_keptA, a_keptB, a_root, a_what, a_partA, a_partB, a_mark, a_twin, a_walk, a_pairs, a_now, a_todo, a_types, a_firm, a_bound, a_boundType) 22 (nI p) := by
  refine yo_pre (stk := c0 :: stk) (fl := bc :: fl) h1 h2 (by rw [List.length_cons, List.length_cons, hfl]) (by rw [List.length_cons]; omega) (br_f (by decide) ?_)
  unfold wY_operate_80
  refine yw_mkz (k := 1) rfl (by omega) (by omega) ?_
  have I1 := ya_m I (fun G => ya_leaf G (k := 1) (x := (0 : Int32).toInt16.toInt32) (y := (0 : Int32).toInt16.toInt32) (by omega))
  refine br_f (by decide) (br_f (by decide) (br_f (by decide) (br_f (by decide) (br_f (by decide) (br_f (by decide) (br_f (by decide) (br_f (by decide) (br_f (by decide) (br_t (by decide) ?_)))))))))
  have ep : nI (c0 :: stk).length - 1 = nI stk.length := nI_pred stk.length
  rw [ep]
  refine nm_e ⟨vp_in_nI (by omega) (by decide), ?_⟩
  rw [nI_clamp (by omega), h1.2.2.1]
  refine nm_e ?_
  have none : ∀ ν st E, dv_if V ν st E → ∃ s2, ((∃ s0, s2 = tr_at 1 :: s0 ∧ V ν s0 E) ∧ ls_g 3 s2 = ls_g 0 s2) ∧ ls_g 1 s2 = ls_g 2 s2 := fun ν st E v => by
    obtain ⟨st0, q, _⟩ := (xe_if hl ν st E).mpr v
    exact ⟨st0, q⟩
  refine yw_dem HK (by omega) I1 (Or.inl (List.mem_cons_of_mem _ (List.mem_cons_of_mem _ (List.mem_cons_of_mem _ List.mem_cons_self)))) (Or.inl List.mem_cons_self) (fun _ st _ => ls_g 3 st = ls_g 0 st) (fun ρ => Iff.rfl) (fun t1 no => hbad t1 (fun ν st E v => ?_)) (fun ty' cl' wh pA mk wk pr ht I4 => ?_)
  · obtain ⟨s2, v1, v2⟩ := none ν st E v
    exact no ν s2 E v1
  · refine yw_dem HK (by omega) I4 (Or.inl (List.mem_cons_of_mem _ (List.mem_cons_of_mem _ List.mem_cons_self))) (Or.inl (List.mem_cons_of_mem _ List.mem_cons_self)) (fun _ st _ => ls_g 1 st = ls_g 2 st) (fun ρ => ⟨Eq.symm, Eq.symm⟩) (fun t1 no => hbad (ht t1) (fun ν st E v => ?_)) (fun ty' cl' wh pA mk wk pr ht2 I5 => ?_)
    · obtain ⟨s2, v1, v2⟩ := none ν st E v
      exact no ν s2 E ⟨v1, v2⟩
    · refine yw_push (b := false) (by omega) (by omega) ?_
      refine h (n + 1) ty' cl' x wh pA _ mk _ wk pr _ _ (by omega) (fun z => ht (ht2 z)) (ya_m I5 (fun G => ?_)) (st_1p h1.2.2.2) ?_ (by omega)
      · refine ya_cg (ya_sel G (stk' := x :: stk) (fun _ st _ => ls_g 2 st :: st.drop 4) (fun z hz => ?_) (fun ρ => rfl)) (xe_if hl)
        rcases List.mem_cons.mp hz with q | q
        · rw [q]; exact Or.inl (List.mem_cons_of_mem _ (List.mem_cons_of_mem _ List.mem_cons_self))
        · exact Or.inl (List.mem_cons_of_mem _ (List.mem_cons_of_mem _ (List.mem_cons_of_mem _ (List.mem_cons_of_mem _ q))))
      · rw [← hfl]; exact st_bp h2.2.2.2
end
