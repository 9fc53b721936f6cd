/-! the reference's atoms -/
theorem xe_lf {V : dv_W} {P : tr_T → Prop} {k : Nat} (hP : ∀ τ, P τ ↔ τ = tr_at k) (ν st E : List tr_T) : (∃ st0, st = tr_at k :: st0 ∧ V ν st0 E) ↔ dv_psh (fun _ _ τ => P τ) V ν st E := by
  constructor
  · intro ⟨s, e, v⟩; exact ⟨_, s, e, v, (hP _).mpr rfl⟩
  · intro ⟨τ, s, e, v, c⟩; exact ⟨s, by rw [e, (hP τ).mp c], v⟩
/-- the type found for a name: z if there is none -/
def yn_x (v : Nat) (z : Int32) : List (Nat × Nat) → Int32
  | [] => z
  | x :: l => if x.1 = v then nI x.2 else yn_x v z l
theorem yn_some {N : Nat → Nat} {v : Nat} {z : Int32} : ∀ (bs : List (Nat × Bool)) (env : List Nat) (j t : Nat), bx_ix N bs v = some j → env[j]? = some t → yn_x v z ((bs.map (fun b => N b.1)).zip env) = nI t := by
  intro bs
  induction bs with
  | nil => intro env j t h; cases h
  | cons b bs ih =>
    intro env j t h h'
    cases env with
    | nil => cases h'
    | cons e env =>
      unfold bx_ix at h
      show (if N b.1 = v then nI e else yn_x v z ((bs.map (fun b => N b.1)).zip env)) = nI t
      by_cases c : N b.1 = v
      · rw [if_pos c] at h ⊢
        cases h
        simp at h'
        rw [h']
      · rw [if_neg c] at h ⊢
        cases e : bx_ix N bs v with
        | none => rw [e] at h; cases h
        | some i =>
          rw [e] at h
          cases h
          rw [List.getElem?_cons_succ] at h'
          exact ih env i t e h'
theorem yn_none {N : Nat → Nat} {v : Nat} {z : Int32} : ∀ (bs : List (Nat × Bool)) (env : List Nat), bx_ix N bs v = none → yn_x v z ((bs.map (fun b => N b.1)).zip env) = z := by
  intro bs
  induction bs with
  | nil => intro env _; rfl
  | cons b bs ih =>
    intro env h
    cases env with
    | nil => rfl
    | cons e env =>
      unfold bx_ix at h
      show (if N b.1 = v then nI e else yn_x v z ((bs.map (fun b => N b.1)).zip env)) = z
      by_cases c : N b.1 = v
      · rw [if_pos c] at h; cases h
      · rw [if_neg c] at h ⊢
        cases e : bx_ix N bs v with
        | none => exact ih env e
        | some i => rw [e] at h; cases h
section
variable {f_count f_accepted f_place f_kept f_nodes f_tt f_pos f_bad f_typing f_unbound f_clash f_top f_scope f_doneName f_doneType : Int32} {a_kind a_value a_keptKind a_keptA a_keptB a_root a_what a_partA a_partB a_mark a_twin a_walk a_pairs a_now a_todo a_types a_firm a_bound a_boundType : Nat → Int32}
variable {kc : Nat} {kk ka kb rt lo hi : Nat → Nat} {g : Nat → tr_T} {nl n : Nat} {stk env : List Nat} {bs : List (Nat × Bool)} {fl : List Bool} {V : dv_W} {H : Int32 → Int32 → Prop} {ty ub cl : Int32}
theorem yw_leaf {post : SY → Prop} {k : Nat} {z : Int32} {V' : dv_W} (hz : z = nI k) (hk : k < 3) (hV : ∀ ν st E, (∃ st0, st = tr_at k :: st0 ∧ V ν st0 E) ↔ V' ν st E) (hn : n + 5 ≤ 2000) (I : ya_W H ty ub cl (ya_G kc kk ka kb rt g nl n stk env bs V a_what a_partA a_partB)) (h1 : st_1 a_types stk) (h2 : st_b a_firm fl) (hfl : fl.length = stk.length) (hs : stk.length < 64)
    (h : yh_O kc kk ka kb rt g H ty nl (n + 1) stk env bs (true :: fl) V' (f_count, f_accepted, f_place, f_kept, 0, f_tt, f_pos, f_bad, 0, ub, 0, 0, f_scope, f_doneName, f_doneType, a_kind, a_value, a_keptKind, a_keptA, a_keptB, a_root, a_what, a_partA, a_partB, a_mark, a_twin, a_walk, a_pairs, a_now, a_todo, a_types, a_firm, a_bound, a_boundType) post) : wpY_leaf post (f_count, f_accepted, f_place, f_kept, nI n, f_tt, f_pos, f_bad, ty, ub, cl, nI stk.length, f_scope, f_doneName, f_doneType, a_kind, a_value, a_keptKind, a_keptA, a_keptB, a_root, a_what, a_partA, a_partB, a_mark, a_twin, a_walk, a_pairs, a_now, a_todo, a_types, a_firm, a_bound, a_boundType) z := by
  unfold wpY_leaf
  refine yw_mkz (k := k) hz (by omega) (by omega) ?_
  refine yw_push (b := true) (by omega) (by omega) ?_
  refine h (n + 1) ty cl n _ _ _ _ _ _ _ _ _ (by omega) id (ya_m I (fun G => ya_cg (ya_leaf G hk) hV)) (st_1p h1) ?_ (by omega)
  rw [← hfl]; exact st_bp h2
theorem yw_cst {post : SY → Prop} {a b : Nat} (hn : n < 2000) (ha : a < 32768) (hs : stk.length < 64) (h : post (f_count, f_accepted, f_place, f_kept, nI (n + 1), f_tt, f_pos, f_bad, f_typing, f_unbound, f_clash, nI (stk.length + 1), f_scope, f_doneName, f_doneType, a_kind, a_value, a_keptKind, a_keptA, a_keptB, a_root, upd a_what n (nI 6), upd a_partA n (nI a), upd a_partB n (nI b).toInt16.toInt32, a_mark, a_twin, a_walk, a_pairs, a_now, a_todo, upd a_types stk.length (nI n), upd a_firm stk.length (if true = true then 1 else 0), a_bound, a_boundType)) : wpY_constant post (f_count, f_accepted, f_place, f_kept, nI n, f_tt, f_pos, f_bad, f_typing, f_unbound, f_clash, nI stk.length, f_scope, f_doneName, f_doneType, a_kind, a_value, a_keptKind, a_keptA, a_keptB, a_root, a_what, a_partA, a_partB, a_mark, a_twin, a_walk, a_pairs, a_now, a_todo, a_types, a_firm, a_bound, a_boundType) (nI a) (nI b) := by
  unfold wpY_constant
  refine yw_mkc (k := 6) rfl (by omega) ha hn ?_
  refine yw_push (b := true) hs (by omega) ?_
  exact h
theorem yw_word {post : SY → Prop} {t : Nat} (ht : pm_alone t = true) (h4 : 22 ≤ t) (hn : n + 5 ≤ 2000) (I : ya_W H ty ub cl (ya_G kc kk ka kb rt g nl n stk env bs V a_what a_partA a_partB)) (h1 : st_1 a_types stk) (h2 : st_b a_firm fl) (hfl : fl.length = stk.length) (hs : stk.length < 64)
    (h : yh_O kc kk ka kb rt g H ty nl (n + 5) stk env bs (true :: fl) (dv_psh (fun _ _ τ => cs_T t τ) V) (f_count, f_accepted, f_place, f_kept, 0, f_tt, f_pos, f_bad, 0, ub, 0, 0, f_scope, f_doneName, f_doneType, a_kind, a_value, a_keptKind, a_keptA, a_keptB, a_root, a_what, a_partA, a_partB, a_mark, a_twin, a_walk, a_pairs, a_now, a_todo, a_types, a_firm, a_bound, a_boundType) post) : wpY_word post (f_count, f_accepted, f_place, f_kept, nI n, f_tt, f_pos, f_bad, ty, ub, cl, nI stk.length, f_scope, f_doneName, f_doneType, a_kind, a_value, a_keptKind, a_keptA, a_keptB, a_root, a_what, a_partA, a_partB, a_mark, a_twin, a_walk, a_pairs, a_now, a_todo, a_types, a_firm, a_bound, a_boundType) (nI t) := by
  have tt : t = 22 ∨ t = 23 ∨ t = 24 ∨ t = 26 ∨ t = 27 ∨ t = 28 ∨ t = 29 ∨ t = 30 := by
    unfold pm_alone at ht
    simp at ht
    omega
  have sb : st_b (upd a_firm stk.length (if true = true then 1 else 0)) (true :: fl) := by rw [← hfl]; exact st_bp h2
  unfold wpY_word
  refine yw_fresh (by omega) ?_
  have I1 := ya_m I ya_var
  refine yw_fresh (by omega) ?_
  have mem : ∀ (s' : List Nat) (m z : Nat), z ∈ m :: stk → m ∈ s' → (∀ w, w ∈ stk → w ∈ s') → (z ∈ s' ∨ z ∈ mo_l bs env) := fun s' m z hz hm hw => Or.inl ((List.mem_cons.mp hz).elim (fun e => e ▸ hm) (hw z))
  rcases tt with e | e | e | e | e | e | e | e
  · subst e
    refine br_f (by decide) (br_t (by decide) (br_f (by decide) ?_))
    unfold wY_word_38
    refine yw_mkc (k := 3) rfl (by omega) (by omega) (by omega) ?_
    have I2 := ya_m I1 ya_skipv
    have I3 := ya_m I2 (fun G => ya_con G (k := 3) (a := n) (b := n) (y := (nI (n + 1)).toInt16.toInt32) (by omega) (Or.inl List.mem_cons_self) (Or.inl List.mem_cons_self) (fun z => rfl) (fun z => by omega) (fun _ st _ => ls_g 0 st) (fun _ st _ => ls_g 0 st) (fun ρ => rfl) (fun ρ => rfl))
    refine br_f (by decide) (br_f (by decide) (br_t (by decide) ?_))
    refine yw_push (b := true) (by omega) (by omega) ?_
    refine h (n + 1 + 1 + 1) ty cl (n + 1 + 1) _ _ _ _ _ _ _ _ _ (by omega) id (ya_m I3 (fun G => ya_cg (ya_sel G (stk' := (n + 1 + 1) :: stk) (fun _ st _ => ls_g 0 st :: st.drop 2) (fun z hz => mem _ _ z hz (by simp) (fun w hw => by simp [hw])) (fun ρ => rfl)) xe_c22)) (st_1p h1) sb (by omega)
  · subst e
    refine br_f (by decide) (br_f (by decide) ?_)
    unfold wY_word_38
    refine yw_mkc (k := 4) rfl (by omega) (by omega) (by omega) ?_
    have I2 := ya_m I1 ya_skipv
    have I3 := ya_m I2 (fun G => ya_con G (k := 4) (a := n) (b := n) (y := (nI (n + 1)).toInt16.toInt32) (by omega) (Or.inl List.mem_cons_self) (Or.inl List.mem_cons_self) (fun z => rfl) (fun z => by omega) (fun _ st _ => ls_g 0 st) (fun _ st _ => ls_g 0 st) (fun ρ => rfl) (fun ρ => rfl))
    refine br_f (by decide) (br_f (by decide) (br_f (by decide) (br_t (by decide) ?_)))
    have I5 := ya_m I3 (fun G => ya_con G (k := 6) (a := n) (b := n + 1 + 1) (y := (nI (n + 1 + 1)).toInt16.toInt32) (by omega) (Or.inl (List.mem_cons_of_mem _ List.mem_cons_self)) (Or.inl List.mem_cons_self) (fun z => by omega) (fun _ => ys_n (by omega)) (fun _ st _ => ls_g 1 st) (fun _ st _ => ls_g 0 st) (fun ρ => rfl) (fun ρ => rfl))
    refine yw_cst (by omega) (by omega) (by omega) ?_
    refine h (n + 1 + 1 + 1 + 1) ty cl (n + 1 + 1 + 1) _ _ _ _ _ _ _ _ _ (by omega) id (ya_m I5 (fun G => ya_cg (ya_sel G (stk' := (n + 1 + 1 + 1) :: stk) (fun _ st _ => ls_g 0 st :: st.drop 3) (fun z hz => mem _ _ z hz (by simp) (fun w hw => by simp [hw])) (fun ρ => rfl)) xe_c23)) (st_1p h1) sb (by omega)
  · subst e
    refine br_f (by decide) (br_f (by decide) ?_)
    unfold wY_word_38
    refine yw_mkc (k := 4) rfl (by omega) (by omega) (by omega) ?_
    have I2 := ya_m I1 ya_skipv
    have I3 := ya_m I2 (fun G => ya_con G (k := 4) (a := n) (b := n) (y := (nI (n + 1)).toInt16.toInt32) (by omega) (Or.inl List.mem_cons_self) (Or.inl List.mem_cons_self) (fun z => rfl) (fun z => by omega) (fun _ st _ => ls_g 0 st) (fun _ st _ => ls_g 0 st) (fun ρ => rfl) (fun ρ => rfl))
    refine br_f (by decide) (br_f (by decide) (br_f (by decide) (br_f (by decide) (br_t (by decide) ?_))))
    unfold wY_word_147
    have I5 := ya_m I3 (fun G => ya_con G (k := 6) (a := n + 1 + 1) (b := n) (y := (nI (n)).toInt16.toInt32) (by omega) (Or.inl List.mem_cons_self) (Or.inl (List.mem_cons_of_mem _ List.mem_cons_self)) (fun z => by omega) (fun _ => ys_n (by omega)) (fun _ st _ => ls_g 0 st) (fun _ st _ => ls_g 1 st) (fun ρ => rfl) (fun ρ => rfl))
    refine yw_cst (by omega) (by omega) (by omega) ?_
    refine h (n + 1 + 1 + 1 + 1) ty cl (n + 1 + 1 + 1) _ _ _ _ _ _ _ _ _ (by omega) id (ya_m I5 (fun G => ya_cg (ya_sel G (stk' := (n + 1 + 1 + 1) :: stk) (fun _ st _ => ls_g 0 st :: st.drop 3) (fun z hz => mem _ _ z hz (by simp) (fun w hw => by simp [hw])) (fun ρ => rfl)) xe_c24)) (st_1p h1) sb (by omega)
  · subst e
    refine br_t (by decide) (br_f (by decide) ?_)
    unfold wY_word_38
    refine yw_mkc (k := 3) rfl (by omega) (by omega) (by omega) ?_
    have I2 := ya_m I1 ya_skipv
    have I3 := ya_m I2 (fun G => ya_con G (k := 3) (a := n) (b := n) (y := (nI (n + 1)).toInt16.toInt32) (by omega) (Or.inl List.mem_cons_self) (Or.inl List.mem_cons_self) (fun z => rfl) (fun z => by omega) (fun _ st _ => ls_g 0 st) (fun _ st _ => ls_g 0 st) (fun ρ => rfl) (fun ρ => rfl))
    refine br_f (by decide) (br_f (by decide) (br_f (by decide) (br_f (by decide) (br_f (by decide) (br_f (by decide) (br_t (by decide) ?_))))))
    unfold wY_word_147
    have I5 := ya_m I3 (fun G => ya_con G (k := 6) (a := n + 1 + 1) (b := n) (y := (nI (n)).toInt16.toInt32) (by omega) (Or.inl List.mem_cons_self) (Or.inl (List.mem_cons_of_mem _ List.mem_cons_self)) (fun z => by omega) (fun _ => ys_n (by omega)) (fun _ st _ => ls_g 0 st) (fun _ st _ => ls_g 1 st) (fun ρ => rfl) (fun ρ => rfl))
    refine yw_cst (by omega) (by omega) (by omega) ?_
    refine h (n + 1 + 1 + 1 + 1) ty cl (n + 1 + 1 + 1) _ _ _ _ _ _ _ _ _ (by omega) id (ya_m I5 (fun G => ya_cg (ya_sel G (stk' := (n + 1 + 1 + 1) :: stk) (fun _ st _ => ls_g 0 st :: st.drop 3) (fun z hz => mem _ _ z hz (by simp) (fun w hw => by simp [hw])) (fun ρ => rfl)) xe_c26)) (st_1p h1) sb (by omega)
  · subst e
    refine br_t (by decide) (br_f (by decide) ?_)
    unfold wY_word_38
    refine yw_mkc (k := 3) rfl (by omega) (by omega) (by omega) ?_
    have I2 := ya_m I1 ya_skipv
    have I3 := ya_m I2 (fun G => ya_con G (k := 3) (a := n) (b := n) (y := (nI (n + 1)).toInt16.toInt32) (by omega) (Or.inl List.mem_cons_self) (Or.inl List.mem_cons_self) (fun z => rfl) (fun z => by omega) (fun _ st _ => ls_g 0 st) (fun _ st _ => ls_g 0 st) (fun ρ => rfl) (fun ρ => rfl))
    refine br_f (by decide) (br_f (by decide) (br_f (by decide) (br_f (by decide) (br_f (by decide) (br_f (by decide) (br_f (by decide) (br_t (by decide) ?_)))))))
    have I5 := ya_m I3 (fun G => ya_con G (k := 6) (a := n + 1 + 1) (b := n + 1 + 1) (y := (nI (n + 1 + 1)).toInt16.toInt32) (by omega) (Or.inl List.mem_cons_self) (Or.inl List.mem_cons_self) (fun z => by omega) (fun _ => ys_n (by omega)) (fun _ st _ => ls_g 0 st) (fun _ st _ => ls_g 0 st) (fun ρ => rfl) (fun ρ => rfl))
    refine yw_cst (by omega) (by omega) (by omega) ?_
    refine h (n + 1 + 1 + 1 + 1) ty cl (n + 1 + 1 + 1) _ _ _ _ _ _ _ _ _ (by omega) id (ya_m I5 (fun G => ya_cg (ya_sel G (stk' := (n + 1 + 1 + 1) :: stk) (fun _ st _ => ls_g 0 st :: st.drop 3) (fun z hz => mem _ _ z hz (by simp) (fun w hw => by simp [hw])) (fun ρ => rfl)) xe_c27)) (st_1p h1) sb (by omega)
  · subst e
    refine br_t (by decide) (br_f (by decide) ?_)
    unfold wY_word_38
    refine yw_mkc (k := 3) rfl (by omega) (by omega) (by omega) ?_
    have I2 := ya_m I1 ya_skipv
    have I3 := ya_m I2 (fun G => ya_con G (k := 3) (a := n) (b := n) (y := (nI (n + 1)).toInt16.toInt32) (by omega) (Or.inl List.mem_cons_self) (Or.inl List.mem_cons_self) (fun z => rfl) (fun z => by omega) (fun _ st _ => ls_g 0 st) (fun _ st _ => ls_g 0 st) (fun ρ => rfl) (fun ρ => rfl))
    refine br_f (by decide) (br_f (by decide) (br_f (by decide) (br_f (by decide) (br_f (by decide) (br_f (by decide) (br_f (by decide) (br_f (by decide) (br_t (by decide) ?_))))))))
    refine yw_mkz (k := 1) rfl (by omega) (by omega) ?_
    have I4 := ya_m I3 (fun G => ya_leaf G (k := 1) (x := (0 : Int32).toInt16.toInt32) (y := (0 : Int32).toInt16.toInt32) (by omega))
    have I5 := ya_m I4 (fun G => ya_con G (k := 6) (a := n + 1 + 1) (b := n + 1 + 1 + 1) (y := (nI (n + 1 + 1 + 1)).toInt16.toInt32) (by omega) (Or.inl (List.mem_cons_of_mem _ List.mem_cons_self)) (Or.inl List.mem_cons_self) (fun z => by omega) (fun _ => ys_n (by omega)) (fun _ st _ => ls_g 1 st) (fun _ st _ => ls_g 0 st) (fun ρ => rfl) (fun ρ => rfl))
    refine yw_cst (by omega) (by omega) (by omega) ?_
    refine h (n + 1 + 1 + 1 + 1 + 1) ty cl (n + 1 + 1 + 1 + 1) _ _ _ _ _ _ _ _ _ (by omega) id (ya_m I5 (fun G => ya_cg (ya_sel G (stk' := (n + 1 + 1 + 1 + 1) :: stk) (fun _ st _ => ls_g 0 st :: st.drop 4) (fun z hz => mem _ _ z hz (by simp) (fun w hw => by simp [hw])) (fun ρ => rfl)) xe_c28)) (st_1p h1) sb (by omega)
  · subst e
    refine br_t (by decide) (br_t (by decide) ?_)
    unfold wY_word_38
    refine yw_mkc (k := 5) rfl (by omega) (by omega) (by omega) ?_
    have I2 := ya_m I1 ya_var
    have I3 := ya_m I2 (fun G => ya_con G (k := 5) (a := n) (b := n + 1) (y := (nI (n + 1)).toInt16.toInt32) (by omega) (Or.inl (List.mem_cons_of_mem _ List.mem_cons_self)) (Or.inl List.mem_cons_self) (fun z => by omega) (fun _ => ys_n (by omega)) (fun _ st _ => ls_g 1 st) (fun _ st _ => ls_g 0 st) (fun ρ => rfl) (fun ρ => rfl))
    refine br_f (by decide) (br_f (by decide) (br_f (by decide) (br_f (by decide) (br_f (by decide) (br_f (by decide) (br_f (by decide) (br_f (by decide) (br_f (by decide) (br_t (by decide) ?_)))))))))
    unfold wY_word_147
    have I5 := ya_m I3 (fun G => ya_con G (k := 6) (a := n + 1 + 1) (b := n) (y := (nI (n)).toInt16.toInt32) (by omega) (Or.inl List.mem_cons_self) (Or.inl (List.mem_cons_of_mem _ (List.mem_cons_of_mem _ List.mem_cons_self))) (fun z => by omega) (fun _ => ys_n (by omega)) (fun _ st _ => ls_g 0 st) (fun _ st _ => ls_g 2 st) (fun ρ => rfl) (fun ρ => rfl))
    refine yw_cst (by omega) (by omega) (by omega) ?_
    refine h (n + 1 + 1 + 1 + 1) ty cl (n + 1 + 1 + 1) _ _ _ _ _ _ _ _ _ (by omega) id (ya_m I5 (fun G => ya_cg (ya_sel G (stk' := (n + 1 + 1 + 1) :: stk) (fun _ st _ => ls_g 0 st :: st.drop 4) (fun z hz => mem _ _ z hz (by simp) (fun w hw => by simp [hw])) (fun ρ => rfl)) xe_c29)) (st_1p h1) sb (by omega)
  · subst e
    refine br_t (by decide) (br_t (by decide) ?_)
    unfold wY_word_38
    refine yw_mkc (k := 5) rfl (by omega) (by omega) (by omega) ?_
    have I2 := ya_m I1 ya_var
    have I3 := ya_m I2 (fun G => ya_con G (k := 5) (a := n) (b := n + 1) (y := (nI (n + 1)).toInt16.toInt32) (by omega) (Or.inl (List.mem_cons_of_mem _ List.mem_cons_self)) (Or.inl List.mem_cons_self) (fun z => by omega) (fun _ => ys_n (by omega)) (fun _ st _ => ls_g 1 st) (fun _ st _ => ls_g 0 st) (fun ρ => rfl) (fun ρ => rfl))
    refine br_f (by decide) (br_f (by decide) (br_f (by decide) (br_f (by decide) (br_f (by decide) (br_f (by decide) (br_f (by decide) (br_f (by decide) (br_f (by decide) (br_f (by decide) (br_t (by decide) ?_))))))))))
    have I5 := ya_m I3 (fun G => ya_con G (k := 6) (a := n + 1 + 1) (b := n + 1) (y := (nI (n + 1)).toInt16.toInt32) (by omega) (Or.inl List.mem_cons_self) (Or.inl (List.mem_cons_of_mem _ List.mem_cons_self)) (fun z => by omega) (fun _ => ys_n (by omega)) (fun _ st _ => ls_g 0 st) (fun _ st _ => ls_g 1 st) (fun ρ => rfl) (fun ρ => rfl))
    refine yw_cst (by omega) (by omega) (by omega) ?_
    refine h (n + 1 + 1 + 1 + 1) ty cl (n + 1 + 1 + 1) _ _ _ _ _ _ _ _ _ (by omega) id (ya_m I5 (fun G => ya_cg (ya_sel G (stk' := (n + 1 + 1 + 1) :: stk) (fun _ st _ => ls_g 0 st :: st.drop 4) (fun z hz => mem _ _ z hz (by simp) (fun w hw => by simp [hw])) (fun ρ => rfl)) xe_c30)) (st_1p h1) sb (by omega)
theorem yw_name {post : SY → Prop} {c p : Nat} {N : Nat → Nat} (HK : ky_K kc kk ka kb rt lo hi g) (hv : N p < 12) (hR : y_R a_now rt) (hp : p < 24) (I : ya_W H ty ub cl (ya_G kc kk ka kb rt g nl n stk env bs V a_what a_partA a_partB)) (hn : n + 12 ≤ 2000) (hn2 : n + (nl - kc) ≤ 2000) (hu : ub = -1 ∨ 0 ≤ ub) (hb : bs.length ≤ 24) (hlen : bs.length = env.length) (hB1 : st_1 a_bound (bs.map (fun b => N b.1))) (hB2 : st_1 a_boundType env) (hN : ∀ b, b ∈ bs → N b.1 < 12) (hE : ∀ x, x ∈ env → x < 2000) (h1 : st_1 a_types stk) (h2 : st_b a_firm fl) (hfl : fl.length = stk.length) (hs : stk.length < 64)
    (hH : bx_ix N bs (N p) = none → ky_d kk rt g (N p) = [] → ub = -1 → H (nI p) cl)
    (h : ∀ n' ty' ub' t wh pA pB mk tw wk tys fr, n' ≤ n + 12 + (nl - kc) → (ty' = 1 → ty = 1) → ya_W H ty' ub' cl (ya_G kc kk ka kb rt g nl n' (t :: stk) env bs (dv_psh (dd_name N (Dc_U (ky_d kk rt g)) bs V (N p)) V) wh pA pB) → ((ub' = ub ∧ ¬ (bx_ix N bs (N p) = none ∧ ky_d kk rt g (N p) = [])) ∨ (0 ≤ ub' ∧ ty' = 0)) → st_1 tys (t :: stk) → st_b fr (true :: fl) → t < 2000 → post (f_count, f_accepted, f_place, f_kept, nI n', f_tt, nI (p + 1), f_bad, ty', ub', cl, nI (stk.length + 1), nI bs.length, f_doneName, f_doneType, a_kind, a_value, a_keptKind, a_keptA, a_keptB, a_root, wh, pA, pB, mk, tw, wk, a_pairs, a_now, a_todo, tys, fr, a_bound, a_boundType)) :
    wpY_name post (f_count, f_accepted, f_place, f_kept, nI n, f_tt, nI (p + 1), f_bad, ty, ub, cl, nI stk.length, nI bs.length, f_doneName, f_doneType, a_kind, a_value, a_keptKind, a_keptA, a_keptB, a_root, a_what, a_partA, a_partB, a_mark, a_twin, a_walk, a_pairs, a_now, a_todo, a_types, a_firm, a_bound, a_boundType) (nI (N p)) := by
  have sb : st_b (upd a_firm stk.length (if true = true then 1 else 0)) (true :: fl) := by rw [← hfl]; exact st_bp h2
  have dead : ∀ ty' ub', ty' = 0 → ya_W H ty' ub' cl (ya_G kc kk ka kb rt g nl n (0 :: stk) env bs (dv_psh (dd_name N (Dc_U (ky_d kk rt g)) bs V (N p)) V) a_what a_partA a_partB) → ((ub' = ub ∧ ¬ (bx_ix N bs (N p) = none ∧ ky_d kk rt g (N p) = [])) ∨ (0 ≤ ub' ∧ ty' = 0)) → wY_name_82 post 0 f_count f_accepted f_place f_kept (nI n) f_tt (nI (p + 1)) f_bad ty' ub' cl (nI stk.length) (nI bs.length) f_doneName f_doneType a_kind a_value a_keptKind a_keptA a_keptB a_root a_what a_partA a_partB a_mark a_twin a_walk a_pairs a_now a_todo a_types a_firm a_bound a_boundType := by
    intro ty' ub' e0 I' hc
    unfold wY_name_82
    refine yw_push (x := 0) (b := true) (by omega) (by omega) ?_
    exact h n ty' ub' 0 _ _ _ _ _ _ _ _ (by omega) (fun z => by rw [e0] at z; exact absurd z (by decide)) I' hc (st_1p h1) sb (by omega)
  -- the type is found
  have fin : wY_name_9 post (nI (N p)) f_count f_accepted f_place f_kept (nI n) f_tt (nI (p + 1)) f_bad ty ub cl (nI stk.length) (nI bs.length) f_doneName f_doneType a_kind a_value a_keptKind a_keptA a_keptB a_root a_what a_partA a_partB a_mark a_twin a_walk a_pairs a_now a_todo a_types a_firm a_bound a_boundType 1 (yn_x (N p) (a_now (N p)) ((bs.map (fun b => N b.1)).zip env)) (nI bs.length) := by
    refine br_t (nI_le (by omega) (by omega)) ?_
    cases hix : bx_ix N bs (N p) with
    | some j =>
      obtain ⟨b, hb'⟩ := bx_ix_lt bs j hix
      have jl : j < env.length := by rw [← hlen]; exact (List.getElem?_eq_some_iff.mp hb').1
      obtain ⟨t, ht⟩ : ∃ t, env[j]? = some t := ⟨_, List.getElem?_eq_getElem jl⟩
      have t2 := hE t (List.mem_of_getElem? ht)
      rw [yn_some bs env j t hix ht]
      refine br_t (nI_pos' (by omega)) ?_
      have nn : ¬ (bx_ix N bs (N p) = none ∧ ky_d kk rt g (N p) = []) := fun z => by rw [hix] at z; cases z.1
      rcases I with ⟨e1, e2, e3, K, kd, pa, pb, J, hG, hL, hl⟩ | ⟨e1, hh⟩
      · subst e1 e2 e3
        refine br_f (by decide) ?_
        have J' := J
        obtain ⟨W, A, ⟨M, E, ⟨hM, gM, oM, sM, eM⟩, cE, mE, eE, bE⟩, en, hl', hPr, hV⟩ := J
        have tE : E t := eE t (List.mem_of_getElem? ht)
        refine yw_instance W A hG hL hM gM cE bE hn2 tE (fun n' kd' pa' pb' R cp x wh pA pB mk tw wk tr rx ic hn' hG' hL' => ?_)
        have cx : cp x < n' := (ic_lt ic rx).1
        unfold wY_name_82
        refine yw_push (b := true) (by omega) (by omega) ?_
        refine h n' 1 (-1) (cp x) wh pA pB mk tw wk _ _ (by omega) (fun _ => rfl) (Or.inl ⟨rfl, rfl, rfl, K, kd', pa', pb', ?_, hG', hL', yl_ic hl ic⟩) (Or.inl ⟨rfl, fun z => by rw [hix] at z; cases z.1⟩) (st_1p h1) sb (by omega)
        have eU : dd_name N (Dc_U (ky_d kk rt g)) bs V (N p) = if (bs[j]?).map Prod.snd = some true then dd_poly bs V j else dd_mono j := by
          unfold dd_name
          rw [hix]
        rw [eU, hb']
        obtain ⟨q, fb⟩ := b
        cases fb with
        | true =>
          have e1 : Option.map Prod.snd (some (q, true)) = some true := rfl
          rw [if_pos e1]
          obtain ⟨u1, u2⟩ := rp_ug J' ht hb'
          exact rp_use (r0 := x) (U := dd_poly bs V j) J' ic (cE t tE).1 tr rx u1 u2
        | false =>
          have e1 : ¬ Option.map Prod.snd (some (q, false)) = some true := by simp
          rw [if_neg e1]
          obtain ⟨u1, u2⟩ := rp_um J' ht (mo_at bs env j q t hb' ht)
          exact rp_use (r0 := x) (U := dd_mono j) J' ic (cE t tE).1 tr rx u1 u2
      · exact br_t e1 (dead ty ub e1 (Or.inr ⟨e1, hh⟩) (Or.inl ⟨rfl, fun z => by rw [hix] at z; cases z.1⟩))
    | none =>
      rw [yn_none bs env hix, hR (N p) hv]
      unfold mk_v'
      by_cases z : rt (N p) = 0
      · rw [if_pos z]
        have dn := (ky_nil HK hv).mpr z
        refine br_f (by decide) ?_
        rcases hu with hu | hu
        · refine br_f (by rw [hu]; decide) (nm_r (nI_pred p) ?_)
          unfold wY_name_61
          have hh := hH hix dn hu
          exact br_t rfl (dead 0 (nI p) rfl (Or.inr ⟨rfl, hh⟩) (Or.inr ⟨nI_pos' (by omega), rfl⟩))
        · refine br_t hu ?_
          unfold wY_name_61
          rcases I with ⟨_, e2, _⟩ | ⟨e1, hh⟩
          · rw [e2] at hu
            exact absurd hu (by decide)
          · exact br_t rfl (dead 0 ub rfl (Or.inr ⟨rfl, hh⟩) (Or.inr ⟨hu, rfl⟩))
      · rw [if_neg z]
        have rc : rt (N p) ≤ kc := (HK.2.2.2.2.2.2.2.1 (N p) hv).1
        have k144 := HK.2.2.2.2.2.2.1
        have dn : ¬ ky_d kk rt g (N p) = [] := fun q => z ((ky_nil HK hv).mp q)
        refine br_t (nI_pos' (by omega)) ?_
        rcases I with ⟨e1, e2, e3, K, kd, pa, pb, J, hG, hL, hl⟩ | ⟨e1, hh⟩
        · subst e1 e2 e3
          refine br_f (by decide) ?_
          have J' := J
          obtain ⟨W, A, ⟨M0, E0, ⟨hM0, gM0, oM0, _, _⟩, _, _, _, _⟩, en, hl', hPr, hV⟩ := J
          obtain ⟨M, E, hM, gM, cE, bE, tE⟩ := yl_E HK hl W A hM0 gM0 oM0 hv z
          have hlo := (HK.2.2.2.2.2.2.2.1 (N p) hv).2.1
          refine yw_instance W A hG hL hM gM cE bE (by omega) tE (fun n' kd' pa' pb' R cp x wh pA pB mk tw wk tr rx ic hn' hG' hL' => ?_)
          have cx : cp x < n' := (ic_lt ic rx).1
          unfold wY_name_82
          refine yw_push (b := true) (by omega) (by omega) ?_
          refine h n' 1 (-1) (cp x) wh pA pB mk tw wk _ _ (by omega) (fun _ => rfl) (Or.inl ⟨rfl, rfl, rfl, K, kd', pa', pb', ?_, hG', hL', yl_ic hl ic⟩) (Or.inl ⟨rfl, fun q => dn q.2⟩) (st_1p h1) sb (by omega)
          have eU : dd_name N (Dc_U (ky_d kk rt g)) bs V (N p) = fun ν _ τ => Dc_U (ky_d kk rt g) (N p) ν τ := by
            unfold dd_name
            rw [hix]
          rw [eU]
          obtain ⟨u1, u2⟩ := yl_u HK hl J' hv z
          exact rp_use (r0 := x) (U := fun ν _ τ => Dc_U (ky_d kk rt g) (N p) ν τ) J' ic (cE _ tE).1 tr rx u1 u2
        · exact br_t e1 (dead ty ub e1 (Or.inr ⟨e1, hh⟩) (Or.inl ⟨rfl, fun q => dn q.2⟩))
  -- the search
  have zl : ((bs.map (fun b => N b.1)).zip env).length = bs.length := by simp [hlen]
  have loop : ∀ d k, k + d = bs.length → wY_name_9 post (nI (N p)) f_count f_accepted f_place f_kept (nI n) f_tt (nI (p + 1)) f_bad ty ub cl (nI stk.length) (nI bs.length) f_doneName f_doneType a_kind a_value a_keptKind a_keptA a_keptB a_root a_what a_partA a_partB a_mark a_twin a_walk a_pairs a_now a_todo a_types a_firm a_bound a_boundType (d + 1) (yn_x (N p) (a_now (N p)) (((bs.map (fun b => N b.1)).zip env).drop d)) (nI k) := by
    intro d
    induction d with
    | zero =>
      intro k hk
      rw [List.drop_zero, show k = bs.length by omega]
      exact fin
    | succ d ih =>
      intro k hk
      have dl : d < ((bs.map (fun b => N b.1)).zip env).length := by rw [zl]; omega
      have ed := List.drop_eq_getElem_cons dl
      have bl : d < bs.length := by omega
      have el : d < env.length := by omega
      have eb : ((bs.map (fun b => N b.1)).zip env)[d] = (N bs[d].1, env[d]) := by simp
      have q1 := st_1g (bs.map (fun b => N b.1)) d (N bs[d].1) hB1 (by simp [bl])
      have q2 := st_1g env d env[d] hB2 (List.getElem?_eq_getElem el)
      rw [List.length_map, show bs.length - 1 - d = k by omega] at q1
      rw [show env.length - 1 - d = k by omega] at q2
      have nb := hN bs[d] (List.getElem_mem bl)
      have e40 : vp_in (nI k) 40 := vp_in_nI (by omega) (by decide)
      refine br_f (nI_ge (by omega) (by omega)) ⟨e40, ?_⟩
      rw [nI_clamp (by omega), q1]
      have r := ih (k + 1) (by omega)
      rw [ed, eb] at r
      have r' : wY_name_9 post (nI (N p)) f_count f_accepted f_place f_kept (nI n) f_tt (nI (p + 1)) f_bad ty ub cl (nI stk.length) (nI bs.length) f_doneName f_doneType a_kind a_value a_keptKind a_keptA a_keptB a_root a_what a_partA a_partB a_mark a_twin a_walk a_pairs a_now a_todo a_types a_firm a_bound a_boundType (d + 1) (if N bs[d].1 = N p then nI env[d] else yn_x (N p) (a_now (N p)) (((bs.map (fun b => N b.1)).zip env).drop (d + 1))) (nI (k + 1)) := r
      by_cases c : N bs[d].1 = N p
      · rw [if_pos c] at r'
        refine br_t (by rw [c]) ⟨e40, nm_r q2 (nm_r (nI_1 k) r')⟩
      · rw [if_neg c] at r'
        exact br_f (fun z => c ((nI_eq (by omega) (by omega)).mp z)) (nm_r (nI_1 k) r')
  refine ⟨vp_in_nI hv (by decide), ?_⟩
  rw [nI_clamp (by omega)]
  have l0 := loop bs.length 0 (by omega)
  rw [List.drop_eq_nil_of_le (by rw [zl]; omega)] at l0
  exact nm_e ⟨bs.length + 1, l0⟩
end
