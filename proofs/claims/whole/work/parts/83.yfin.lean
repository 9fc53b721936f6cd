/-! the reference: the ends of fn, val, fun and let, and new binders -/
section
variable {kc : Nat} {kk ka kb rt lo hi : Nat → Nat} {g : Nat → tr_T} {nl n : Nat} {stk env : List Nat} {bs : List (Nat × Bool)} {V : dv_W} {wh pA pB : Nat → Int32}
theorem ya_lam {i : Nat} (q : Nat) (I : ya_G kc kk ka kb rt g nl n stk env bs (dv_lams i V) wh pA pB) : ya_G kc kk ka kb rt g nl (n + 1) stk (n :: env) ((q, false) :: bs) (dv_lams (i + 1) V) (upd wh n 7) (upd pA n (-1)) (upd pB n (-1)) := ya_cg (ya_bind q (ya_var I)) dv_lams_s
theorem ya_unbinds {e1 e2 : List Nat} {A B : List (Nat × Bool)} (hl : e1.length = A.length) (I : ya_G kc kk ka kb rt g nl n stk (e1 ++ e2) (A ++ B) V wh pA pB) : ya_G kc kk ka kb rt g nl n stk e2 B (fun ν st E => ∃ xs, xs.length = e1.length ∧ V ν st (xs ++ E)) wh pA pB := by
  obtain ⟨K, kd, pa, pb, I, r⟩ := I
  exact ⟨K, kd, pa, pb, rp_unbinds e1 A B e2 V hl I, r⟩
end
section
variable {f_count f_accepted f_place f_kept f_nodes f_tt f_pos f_bad f_typing f_unbound f_clash f_top f_scope f_doneName f_doneType : Int32} {a_kind a_value a_keptKind a_keptA a_keptB a_root a_what a_partA a_partB a_mark a_twin a_walk a_pairs a_now a_todo a_types a_firm a_bound a_boundType : Nat → Int32}
variable {kc : Nat} {kk ka kb rt lo hi : Nat → Nat} {g : Nat → tr_T} {nl n : Nat} {stk env : List Nat} {bs : List (Nat × Bool)} {fl : List Bool} {V : dv_W} {H : Int32 → Int32 → Prop} {ty ub cl : Int32}
theorem yw_fnend {post : SY → Prop} {q x b e : Nat} {bf : Bool} {w : Int32} (hn : n + 1 ≤ 2000) (I : ya_W H ty ub cl (ya_G kc kk ka kb rt g nl n (b :: stk) (x :: env) ((q, false) :: bs) V a_what a_partA a_partB)) (hl : dv_len (stk.length + 1) e V) (h1 : st_1 a_types (b :: stk)) (h2 : st_b a_firm (bf :: fl)) (hfl : fl.length = stk.length) (hs : stk.length + 1 < 64) (hB : st_1 a_boundType (x :: env)) (he : env.length < 39) (hx : x < 2000) (hb : b < 2000)
    (h : yh_O kc kk ka kb rt g H ty nl (n + 1) stk env bs (true :: fl) (dv_fn V) (f_count, f_accepted, f_place, f_kept, 0, f_tt, f_pos, f_bad, 0, ub, 0, 0, nI env.length, f_doneName, f_doneType, a_kind, a_value, a_keptKind, a_keptA, a_keptB, a_root, a_what, a_partA, a_partB, a_mark, a_twin, a_walk, a_pairs, a_now, a_todo, a_types, a_firm, a_bound, a_boundType) post) : wpY_finish post (f_count, f_accepted, f_place, f_kept, nI n, f_tt, f_pos, f_bad, ty, ub, cl, nI (stk.length + 1), nI (env.length + 1), f_doneName, f_doneType, a_kind, a_value, a_keptKind, a_keptA, a_keptB, a_root, a_what, a_partA, a_partB, a_mark, a_twin, a_walk, a_pairs, a_now, a_todo, a_types, a_firm, a_bound, a_boundType) 21 w := by
  refine br_f (by decide) (br_f (by decide) (br_f (by decide) (br_f (by decide) (br_f (by decide) (br_f (by decide) (br_f (by decide) (br_f (by decide) (br_f (by decide) (br_t (by decide) ?_)))))))))
  refine nm_r (nI_pred env.length) ?_
  rw [nI_pred env.length]
  refine ⟨vp_in_nI (by omega) (by decide), ?_⟩
  rw [nI_clamp (by omega), hB.1]
  refine nm_e (nm_r (nI_pred stk.length) ⟨vp_in_nI (by omega) (by decide), ?_⟩)
  rw [nI_clamp (by omega), h1.1]
  refine yw_cst (by omega) (by omega) (by omega) ?_
  have I1 := ya_m I (fun G => ya_con G (k := 6) (a := x) (b := b) (y := (nI b).toInt16.toInt32) (by omega) (Or.inr (by rw [mo_f]; exact List.mem_cons_self)) (Or.inl List.mem_cons_self) (fun z => by omega) (fun _ => ys_n (by omega)) (fun _ _ E => ls_g 0 E) (fun _ st _ => ls_g 0 st) (fun ρ => rfl) (fun ρ => rfl))
  refine h (n + 1) ty cl n _ _ _ _ _ _ _ _ _ (by omega) id (ya_m I1 (fun G => ya_cg (ya_unbind (ya_sel G (stk' := n :: stk) (fun _ st _ => ls_g 0 st :: st.drop 2) (fun y hy => ?_) (fun ρ => rfl))) (xe_fn hl))) (st_1p h1.2) ?_ (by omega)
  · rcases List.mem_cons.mp hy with z | z
    · rw [z]; exact Or.inl List.mem_cons_self
    · exact Or.inl (List.mem_cons_of_mem _ (List.mem_cons_of_mem _ z))
  · rw [← hfl]; exact st_bp h2.2
theorem yw_valend {post : SY → Prop} {c p t : Nat} {f : Bool} {K N : Nat → Nat} (HK : ky_K kc kk ka kb rt lo hi g) (hT : tk_T a_kind a_value c K N) (hp : p + 1 < c) (hk : K (p + 1) = 3) (hn : n ≤ 2000) (I : ya_W H ty ub cl (ya_G kc kk ka kb rt g nl n (t :: stk) env bs V a_what a_partA a_partB)) (CI : ∀ ν E τ st τ' st', V ν (τ :: st) E → V ν (τ' :: st') E → V ν (τ' :: st) E) (h1 : st_1 a_types (t :: stk)) (h2 : st_b a_firm (f :: fl)) (hfl : fl.length = stk.length) (hs : stk.length + 1 < 64) (hB : st_1 a_boundType env) (he : env.length < 40) (hR : y_R a_now rt)
    (h : ∀ nl' wh mk wk, (nl' = n ∨ nl' = nl) → ya_W H ty ub cl (ya_G kc kk ka kb rt g nl' n stk (t :: env) ((p + 1, f) :: bs) (dv_bind V) wh a_partA a_partB) → post (f_count, f_accepted, f_place, f_kept, nI n, f_tt, f_pos, f_bad, ty, ub, cl, nI stk.length, nI env.length, nI (N (p + 1)), nI t, a_kind, a_value, a_keptKind, a_keptA, a_keptB, a_root, wh, a_partA, a_partB, mk, a_twin, wk, a_pairs, a_now, a_todo, a_types, a_firm, a_bound, a_boundType)) :
    wpY_finish post (f_count, f_accepted, f_place, f_kept, nI n, f_tt, f_pos, f_bad, ty, ub, cl, nI (stk.length + 1), nI env.length, f_doneName, f_doneType, a_kind, a_value, a_keptKind, a_keptA, a_keptB, a_root, a_what, a_partA, a_partB, a_mark, a_twin, a_walk, a_pairs, a_now, a_todo, a_types, a_firm, a_bound, a_boundType) 19 (nI (p + 1)) := by
  have c24 := hT.1
  obtain ⟨_, _, v, _⟩ := hT.2.2 (p + 1) hp
  refine br_f (by decide) (br_f (by decide) (br_f (by decide) (br_f (by decide) (br_f (by decide) (br_f (by decide) (br_f (by decide) (br_t (by decide) ?_)))))))
  refine nm_r (nI_pred stk.length) ⟨vp_in_nI (by omega) (by decide), ?_⟩
  rw [nI_clamp (by omega), (v hk).1]
  refine nm_e ⟨vp_in_nI (by omega) (by decide), ?_⟩
  rw [nI_clamp (by omega), h1.1]
  refine nm_e ?_
  have q1 : a_firm stk.length = if f = true then 1 else 0 := by rw [← hfl]; exact h2.1
  rcases I with ⟨e1, e2, e3, G⟩ | ⟨e1, hh⟩
  · subst e1 e2 e3
    refine br_f (by decide) ⟨vp_in_nI (by omega) (by decide), ?_⟩
    rw [q1]
    cases f with
    | false => exact br_t rfl (h nl _ _ _ (Or.inr rfl) (Or.inl ⟨rfl, rfl, rfl, ya_bind (p + 1) G⟩))
    | true =>
      refine br_f (by decide) (yw_gen (nm := p + 1) HK hn G CI hB he hR (fun wh mk wk G' => ?_))
      exact h n wh mk wk (Or.inl rfl) (Or.inl ⟨rfl, rfl, rfl, G'⟩)
  · exact br_t e1 (h nl _ _ _ (Or.inr rfl) (Or.inr ⟨e1, hh⟩))
theorem yw_funend {post : SY → Prop} {p m ct b : Nat} {e1 e2 : List Nat} {N : Nat → Nat} (HK : ky_K kc kk ka kb rt lo hi g) (hp : p + m + 2 < 24) (I : ya_W H ty ub cl (ya_G kc kk ka kb rt g nl n (ct :: stk) (e1 ++ e2) (pd_ns p (m + 1) ++ bs) V a_what a_partA a_partB)) (le1 : e1.length = m + 1) (le2 : e2.length = bs.length) (hb : b = bs.length)
    (hl : dv_len (stk.length + 1) (bs.length + m + 1) V) (hC : dv_CI stk.length bs.length V) (h1 : st_1 a_types (ct :: stk)) (hn : n + m ≤ 2000) (hs : stk.length + 1 < 64) (hbl : bs.length + m + 1 < 40) (hB1 : st_1 a_bound ((pd_ns p (m + 1) ++ bs).map (fun b => N b.1))) (hB2 : st_1 a_boundType (e1 ++ e2)) (hE : ∀ x, x ∈ e1 ++ e2 → x < 2000) (hc : ct < 2000) (hR : y_R a_now rt)
    (hbad : ty = 1 → (∀ ν st E, ¬ dv_bind (dv_fun m V) ν st E) → H (-1) (nI (p + m + 2)))
    (h : ∀ n' nl' ty' cl' t wh pA pB mk wk pr, n' ≤ n + m → (ty' = 1 → ty = 1) → (nl' = n' ∨ nl' = nl) → ya_W H ty' ub cl' (ya_G kc kk ka kb rt g nl' n' stk (t :: e2) ((p + 1, true) :: bs) (dv_bind (dv_fun m V)) wh pA pB) → t < 2000 → st_1 a_boundType e2 → st_1 a_bound (bs.map (fun b => N b.1)) → post (f_count, f_accepted, f_place, f_kept, nI n', f_tt, f_pos, f_bad, ty', ub, cl', nI stk.length, nI bs.length, nI (N (p + 1)), nI t, a_kind, a_value, a_keptKind, a_keptA, a_keptB, a_root, wh, pA, pB, mk, a_twin, wk, pr, a_now, a_todo, a_types, a_firm, a_bound, a_boundType)) :
    wpY_functionEnd post (f_count, f_accepted, f_place, f_kept, nI n, f_tt, f_pos, f_bad, ty, ub, cl, nI (stk.length + 1), nI (bs.length + m + 1), f_doneName, f_doneType, a_kind, a_value, a_keptKind, a_keptA, a_keptB, a_root, a_what, a_partA, a_partB, a_mark, a_twin, a_walk, a_pairs, a_now, a_todo, a_types, a_firm, a_bound, a_boundType) (nI (p + m + 2)) (nI b) := by
  subst hb
  have lel : (e1 ++ e2).length = bs.length + m + 1 := by rw [List.length_append, le1, le2]; omega
  have hpl : ∀ i, i < m + 1 → ∃ x, e1[i]? = some x ∧ (e1 ++ e2)[i]? = some x ∧ a_boundType (bs.length + m - i) = nI x ∧ x < 2000 := by
    intro i hi
    have li : i < e1.length := by omega
    have q : (e1 ++ e2)[i]? = some e1[i] := by rw [List.getElem?_append_left li, List.getElem?_eq_getElem li]
    have r := st_1g (e1 ++ e2) i e1[i] hB2 q
    rw [lel, show bs.length + m + 1 - 1 - i = bs.length + m - i by omega] at r
    exact ⟨e1[i], List.getElem?_eq_getElem li, q, r, hE _ (List.mem_of_getElem? q)⟩
  have st1d : ∀ (A B : List Nat) (a : Nat → Int32), st_1 a (A ++ B) → st_1 a B := by
    intro A B a
    induction A with
    | nil => intro z; exact z
    | cons y A ih => intro z; exact ih z.2
  have hBe2 := st1d e1 e2 _ hB2
  have hBb2 : st_1 a_bound (bs.map (fun b => N b.1)) := by
    rw [List.map_append] at hB1
    exact st1d _ _ _ hB1
  have selfn : a_bound bs.length = nI (N (p + 1)) := by
    have key : ∀ k, ∃ A, (pd_ns p (k + 1) ++ bs).map (fun b => N b.1) = A ++ N (p + 1) :: bs.map (fun b => N b.1) := by
      intro k
      induction k with
      | zero => exact ⟨[], rfl⟩
      | succ k ih =>
        obtain ⟨A, e⟩ := ih
        refine ⟨N (p + 1 + (k + 1)) :: A, ?_⟩
        show N (p + 1 + (k + 1)) :: (pd_ns p (k + 1) ++ bs).map (fun b => N b.1) = _
        rw [e]; rfl
    obtain ⟨A, e⟩ := key m
    rw [e] at hB1
    have := (st1d A _ _ hB1).1
    rw [List.length_map] at this
    exact this
  refine nm_r (nI_pred stk.length) ?_
  rw [nI_pred stk.length]
  refine ⟨vp_in_nI (by omega) (by decide), ?_⟩
  rw [nI_clamp (by omega), h1.1]
  refine nm_e (nm_r (e' := nI (bs.length + m)) (nI_pred _) ⟨m + 1, ?_⟩)
  have loop : ∀ d i w wh pA pB, i + d = m → ya_W H ty ub cl (ya_G kc kk ka kb rt g nl (n + i) (w :: stk) (e1 ++ e2) (pd_ns p (m + 1) ++ bs) (dv_arrs i V) wh pA pB) → w < 2000 → wY_functionEnd_25 post (nI (p + m + 2)) (nI bs.length) (d + 1) (nI w) (nI (bs.length + m - i)) f_count f_accepted f_place f_kept (nI (n + i)) f_tt f_pos f_bad ty ub cl (nI stk.length) (nI (bs.length + m + 1)) f_doneName f_doneType a_kind a_value a_keptKind a_keptA a_keptB a_root wh pA pB a_mark a_twin a_walk a_pairs a_now a_todo a_types a_firm a_bound a_boundType := by
    intro d
    induction d with
    | zero =>
      intro i w wh pA pB hi It hw
      have e : i = m := by omega
      subst e
      obtain ⟨f, hf1, fg, hf2, f2⟩ := hpl i (by omega)
      have fe : f ∈ e1 := List.mem_of_getElem? hf1
      have e5 : bs.length + i - i = bs.length := by omega
      rw [e5] at hf2 ⊢
      have vp : vp_in (nI bs.length) 40 := vp_in_nI (by omega) (by decide)
      have cb : (nI bs.length).toNatClampNeg = bs.length := nI_clamp (by omega)
      refine br_t (nI_le (by omega) (by omega)) ⟨vp, ?_⟩
      rw [cb, hf2]
      refine yw_dem HK (by omega) It (Or.inr (mo_ns (i + 1) e1 e2 le1 f fe)) (Or.inl List.mem_cons_self) (fun _ st E => ls_g i E = ls_g 0 st) (fun ρ => by rw [ls_g_map fg]; exact Iff.rfl) (fun t1 no => hbad t1 (fun ν st E ⟨τ, E0, _, v⟩ => ?_)) (fun ty' cl' wh1 pA1 mk wk pr ht I1 => ⟨vp, ?_⟩)
      · obtain ⟨xs, _, s, v1, _⟩ := (xe_fun hl ν _ _).mpr v
        exact no ν s (xs ++ E0) v1
      · rw [selfn, hf2]
        refine nm_e ⟨vp, nm_e ?_⟩
        have I2 := ya_m I1 (fun G => by
          have J3 := ya_unbinds (A := pd_ns p (i + 1)) (B := bs) (by rw [le1, pd_ns_len]) (ya_sel G (stk' := f :: stk) (fun _ st E => ls_g i E :: st.drop 1) (fun y hy => by
            rcases List.mem_cons.mp hy with z | z
            · rw [z]; exact Or.inr (mo_ns (i + 1) e1 e2 le1 f fe)
            · exact Or.inl (List.mem_cons_of_mem _ z)) (fun ρ => by rw [ls_g_map fg]; rfl))
          rw [le1] at J3
          exact ya_cg J3 (xe_fun hl))
        rcases I2 with ⟨q1, q2, q3, G⟩ | ⟨q1, hh⟩
        · subst q1 q2 q3
          have ci := dv_CI_top (dv_len_fun hl) (dv_CI_fun hl (Nat.le_refl _) hC)
          refine br_f (by decide) ?_
          rw [← le2]
          refine yw_gen (nm := p + 1) HK (by omega) G ci hBe2 (by omega) hR (fun wh mk wk G' => ?_)
          rw [le2]
          exact h (n + i) (n + i) 1 (-1) f wh _ _ mk wk pr (Nat.le_refl _) ht (Or.inl rfl) (Or.inl ⟨rfl, rfl, rfl, G'⟩) f2 hBe2 hBb2
        · exact br_t q1 (h (n + i) nl ty' cl' f _ _ _ mk wk pr (Nat.le_refl _) ht (Or.inr rfl) (Or.inr ⟨q1, hh⟩) f2 hBe2 hBb2)
    | succ d ih =>
      intro i w wh pA pB hi It hw
      obtain ⟨x, hx1, xg, hx2, x2⟩ := hpl i (by omega)
      have xe : x ∈ e1 := List.mem_of_getElem? hx1
      refine br_f (nI_ge (by omega) (by omega)) ⟨vp_in_nI (by omega) (by decide), ?_⟩
      rw [nI_clamp (by omega), hx2]
      refine yw_mkc (k := 6) rfl (by omega) (by omega) (by omega) ?_
      refine nm_r (e' := nI (bs.length + m - (i + 1))) ?_ ?_
      · rw [show bs.length + m - i = (bs.length + m - (i + 1)) + 1 by omega, pk_m1]
      refine ih (i + 1) (n + i) _ _ _ (by omega) (ya_m It (fun G => ya_cg (ya_sel (ya_con G (k := 6) (a := x) (b := w) (y := (nI w).toInt16.toInt32) (by omega) (Or.inr (mo_ns (m + 1) e1 e2 le1 x xe)) (Or.inl List.mem_cons_self) (fun z => by omega) (fun _ => ys_n (by omega)) (fun _ _ E => ls_g i E) (fun _ st _ => ls_g 0 st) (fun ρ => ls_g_map xg) (fun ρ => rfl)) (stk' := (n + i) :: stk) (fun _ st _ => ls_g 0 st :: st.drop 2) (fun y hy => ?_) (fun ρ => rfl)) (dv_arrs_s hl (by omega)))) (by omega)
      rcases List.mem_cons.mp hy with z | z
      · rw [z]; exact Or.inl List.mem_cons_self
      · exact Or.inl (List.mem_cons_of_mem _ (List.mem_cons_of_mem _ z))
  exact loop m 0 ct a_what a_partA a_partB (by omega) (ya_m I (fun G => ya_cg G (dv_arrs_0 hl))) hc
theorem yw_letend {post : SY → Prop} {c a x : Nat} {b : Nat × Bool} {bf : Bool} {K N : Nat → Nat} {w : Int32} (hT : tk_T a_kind a_value c K N) (ha : a ≤ c) (hk : K a = 11) (I : ya_W H ty ub cl (ya_G kc kk ka kb rt g nl n stk (x :: env) (b :: bs) V a_what a_partA a_partB)) (h2 : st_b a_firm (bf :: fl)) (hs : fl.length + 1 < 64)
    (h : ∀ fr, ya_W H ty ub cl (ya_G kc kk ka kb rt g nl n stk env bs (dv_let V) a_what a_partA a_partB) → st_b fr (false :: fl) → post (nI c, f_accepted, f_place, f_kept, nI n, f_tt, nI (a + 1), 0, ty, ub, cl, nI (fl.length + 1), nI env.length, f_doneName, f_doneType, a_kind, a_value, a_keptKind, a_keptA, a_keptB, a_root, a_what, a_partA, a_partB, a_mark, a_twin, a_walk, a_pairs, a_now, a_todo, a_types, fr, a_bound, a_boundType)) :
    wpY_finish post (nI c, f_accepted, f_place, f_kept, nI n, f_tt, nI a, 0, ty, ub, cl, nI (fl.length + 1), nI (env.length + 1), f_doneName, f_doneType, a_kind, a_value, a_keptKind, a_keptA, a_keptB, a_root, a_what, a_partA, a_partB, a_mark, a_twin, a_walk, a_pairs, a_now, a_todo, a_types, a_firm, a_bound, a_boundType) 17 w := by
  refine br_f (by decide) (br_f (by decide) (br_f (by decide) (br_f (by decide) (br_f (by decide) (br_t (by decide) ?_)))))
  refine yw_take (k := 11) hT ha (by omega) (fun _ => ?_) (fun z => (z hk).elim)
  refine nm_r (nI_pred env.length) ?_
  rw [nI_pred]
  refine ⟨vp_in_nI (by omega) (by decide), ?_⟩
  rw [nI_clamp (by omega)]
  refine nm_e (h _ (ya_m I ya_unbind) ?_)
  exact st_bp (b := false) h2.2
end
