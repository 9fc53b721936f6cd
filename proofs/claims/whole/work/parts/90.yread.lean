/-! atoms, and the loop -/
section
variable {f_count f_accepted f_place f_kept f_nodes f_tt f_pos f_bad f_typing f_unbound f_clash f_top f_scope f_doneName f_doneType : Int32} {a_kind a_value a_keptKind a_keptA a_keptB a_root a_what a_partA a_partB a_mark a_twin a_walk a_pairs a_now a_todo a_types a_firm a_bound a_boundType : Nat → Int32}
variable {post : Int32 → SY → Prop} {kc : Nat} {kk ka kb rt lo hi : Nat → Nat} {g : Nat → tr_T} {c : Nat} {K N mq : Nat → Nat} {Fin : List (Nat × Bool) → List Bool → Prop} {gnT gcT : Option Nat → Prop} {E0 : List (Nat × Bool) × List Bool × dv_W} {a' : Nat} {b : Bool} {f a p F nl n : Nat} {ss sp sp1 : pm_L} {stk env : List Nat} {bs : List (Nat × Bool)} {fl : List Bool} {V : dv_W} {x : Nat × Nat × Nat}
/-- what an atom's turn leads to -/
def ya_T (K mq : Nat → Nat) (c a f a' : Nat) (b : Bool) (R sp sp1 : pm_L) (bsl : Nat) : Prop :=
  ∀ a1 l w fll' td', pm_atom K a = (a1, some (l, w)) → (∀ x, x ∈ l → yr_k x.1 ∧ ((x.1 = 88 ∨ x.1 = 89) → x.2 + 1 < a1)) → fll' ≤ sp.length + w.length → yr_H (l ++ R) fll' → st_1 td' (yk_S K mq (l ++ R) bsl) → (yr_S K mq c (l ++ R) a1 (sp ++ w) fll' bsl td' ∧ pm_pd (l ++ R) = false ∧ a ≤ a1) ∧ ∃ sp2, sp1 = w ++ sp2 ∧ pm_go K f (l ++ R) a1 (sp ++ w) = some (a', sp ++ w ++ sp2, b)
theorem yu_80 {R : pm_L} {s q a1 n' t1 : Nat} {ty' ub' cl' : Int32} {wh pA pB mk tw wk pr tys fr : Nat → Int32} (ih : yr_P kc kk ka kb rt g c K N mq Fin gnT gcT E0 a' b post f_accepted f_place f_kept a_kind a_value a_keptKind a_keptA a_keptB a_root a_now f) (hT : tk_T a_kind a_value c K N) (A : ya_T K mq c a f a' b R sp sp1 bs.length) (hat : pm_atom K a = (a1, some ([], [(s, q)]))) (hbs : dd_bs mq bs fl s q = bs) (hfl : dd_fl K fl s q = true :: fl) (hHR : yr_H R (fl.length + 1)) (hfs : fl.length ≤ sp.length) (st : st_1 a_todo (yk_S K mq R bs.length)) (I : yt_I kc kk ka kb rt g c K N mq Fin gnT gcT E0 false a sp1 bs fl V x nl n stk env f_typing f_unbound f_clash f_scope f_doneName f_doneType a_what a_partA a_partB a_types a_firm a_bound a_boundType)
    (hn : n' ≤ kc + (cr_1 K mq x s q).1) (hty : ty' = 1 → f_typing = 1) (W : ya_W (yh_H gnT gcT) ty' ub' cl' (ya_G kc kk ka kb rt g nl n' (t1 :: stk) env bs (dd_V K N mq (Dc_U (ky_d kk rt g)) bs V s q) wh pA pB)) (hub : ub' = -1 ∨ 0 ≤ ub') (hu : ub' = -1 → f_unbound = -1 ∧ ¬ (s = 80 ∧ K q = 3 ∧ bx_ix N bs (N q) = none ∧ ky_d kk rt g (N q) = [])) (s1 : st_1 tys (t1 :: stk)) (s2 : st_b fr (true :: fl)) (t2 : t1 < 2000) (hF : 8 * f ≤ F) :
    wY_read_46 post (F + 1) (nI c) f_accepted f_place f_kept (nI n') (nI R.length) (nI a1) 0 ty' ub' cl' (nI (stk.length + 1)) f_scope f_doneName f_doneType a_kind a_value a_keptKind a_keptA a_keptB a_root wh pA pB mk tw wk pr a_now a_todo tys fr a_bound a_boundType := by
  obtain ⟨⟨S2, pd, le⟩, sp2, e0, hgo2⟩ := A a1 [] [(s, q)] (fl.length + 1) a_todo hat (fun y hy => by cases hy) (by simp; omega) hHR st
  subst e0
  have b3 := I.2.2.1.2.2.1
  have b4 := I.2.2.1.2.2.2.1
  have I2 := yt_push (a1 := a1) I hbs hfl W s1 s2 (by rw [List.length_cons, b3]) t2 b4 hn hty hub hu le
  have pd2 : pm_pd R = false := pd
  rw [← pd2] at I2
  have H2 : yr_S K mq c R a1 (sp ++ [(s, q)]) (dd_fl K fl s q).length (dd_bs mq bs fl s q).length a_todo := by rw [hfl, hbs]; exact S2
  exact ih R a1 _ sp2 _ _ _ _ nl n' (t1 :: stk) env F _ _ _ _ _ _ _ _ _ _ _ _ _ _ _ _ _ _ hgo2 H2 I2 hF
theorem yu_at {R : pm_L} (HK : ky_K kc kk ka kb rt lo hi g) (hT : tk_T a_kind a_value c K N) (hR : y_R a_now rt) (ih : yr_P kc kk ka kb rt g c K N mq Fin gnT gcT E0 a' b post f_accepted f_place f_kept a_kind a_value a_keptKind a_keptA a_keptB a_root a_now f) (A : ya_T K mq c a f a' b R sp sp1 bs.length) (hbad : pm_bg (K a) = false → yr_Z c a post f_accepted f_place f_kept a_kind a_value a_keptKind a_keptA a_keptB a_root a_now) (hHR : yr_H R (fl.length + 1)) (hf48 : fl.length ≤ 48) (hfs : fl.length ≤ sp.length) (hl : R.length ≤ 250) (ha : a ≤ c) (st : st_1 a_todo (yk_S K mq R bs.length)) (I : yt_I kc kk ka kb rt g c K N mq Fin gnT gcT E0 false a sp1 bs fl V x nl n stk env f_typing f_unbound f_clash f_scope f_doneName f_doneType a_what a_partA a_partB a_types a_firm a_bound a_boundType) (hF : 8 * f ≤ F) :
    wpY_expression (fun u => match u with | (f_count, f_accepted, f_place, f_kept, f_nodes, f_tt, f_pos, f_bad, f_typing, f_unbound, f_clash, f_top, f_scope, f_doneName, f_doneType, a_kind, a_value, a_keptKind, a_keptA, a_keptB, a_root, a_what, a_partA, a_partB, a_mark, a_twin, a_walk, a_pairs, a_now, a_todo, a_types, a_firm, a_bound, a_boundType) => wY_read_46 post (F + 1) f_count f_accepted f_place f_kept f_nodes f_tt f_pos f_bad f_typing f_unbound f_clash f_top f_scope f_doneName f_doneType a_kind a_value a_keptKind a_keptA a_keptB a_root a_what a_partA a_partB a_mark a_twin a_walk a_pairs a_now a_todo a_types a_firm a_bound a_boundType) (nI c, f_accepted, f_place, f_kept, nI n, nI R.length, nI a, 0, f_typing, f_unbound, f_clash, nI stk.length, f_scope, f_doneName, f_doneType, a_kind, a_value, a_keptKind, a_keptA, a_keptB, a_root, a_what, a_partA, a_partB, a_mark, a_twin, a_walk, a_pairs, a_now, a_todo, a_types, a_firm, a_bound, a_boundType) 13 (nI 0) := by
  have c24 := hT.1
  have I0 := I
  obtain ⟨g1, g2, ⟨b1, b2, b3, b4, b5, b6, b7, b8, b9, b10, b11⟩, g4, g5, g6, g7⟩ := I
  have k144 := HK.2.2.2.2.2.2.1
  have bl := bs_len bs a b7 (fun z hz => (b8 z hz).1)
  have eL := yk_len (K := K) (mq := mq) R bs.length
  have alone : pm_alone (K a) = true → pm_atom K a = (a + 1, some ([], [(80, a)])) := fun h => by
    unfold pm_atom
    rw [if_pos h]
  have gd : ∀ a1 s q, pm_atom K a = (a1, some ([], [(s, q)])) → (cr_1 K mq x s q).1 ≤ 1503 ∧ (∀ r, (∀ sp2, gn_N K N mq (ky_d kk rt g) ((s, q) :: sp2) bs fl r) → f_unbound = -1 → gnT r) := fun a1 s q hat => by
    obtain ⟨_, sp2, e0, _⟩ := A a1 [] [(s, q)] (fl.length + 1) a_todo hat (fun y hy => by cases hy) (by simp; omega) hHR st
    rw [e0] at g1 g5
    exact ⟨g1.2.1, fun r h e => g5 e r (h sp2)⟩
  have leaf : ∀ (z : Int32) (k s q a1 : Nat) (V' : dv_W), z = nI k → k < 3 → pm_atom K a = (a1, some ([], [(s, q)])) → dd_V K N mq (Dc_U (ky_d kk rt g)) bs V s q = V' → dd_bs mq bs fl s q = bs → dd_fl K fl s q = true :: fl → x.1 + 1 ≤ (cr_1 K mq x s q).1 → ¬ (s = 80 ∧ K q = 3) → (∀ ν st E, (∃ st0, st = tr_at k :: st0 ∧ V ν st0 E) ↔ V' ν st E) → wpY_leaf (fun u => match u with | (f_count, f_accepted, f_place, f_kept, f_nodes, f_tt, f_pos, f_bad, f_typing, f_unbound, f_clash, f_top, f_scope, f_doneName, f_doneType, a_kind, a_value, a_keptKind, a_keptA, a_keptB, a_root, a_what, a_partA, a_partB, a_mark, a_twin, a_walk, a_pairs, a_now, a_todo, a_types, a_firm, a_bound, a_boundType) => wY_read_46 post (F + 1) f_count f_accepted f_place f_kept f_nodes f_tt f_pos f_bad f_typing f_unbound f_clash f_top f_scope f_doneName f_doneType a_kind a_value a_keptKind a_keptA a_keptB a_root a_what a_partA a_partB a_mark a_twin a_walk a_pairs a_now a_todo a_types a_firm a_bound a_boundType) (nI c, f_accepted, f_place, f_kept, nI n, nI R.length, nI a1, 0, f_typing, f_unbound, f_clash, nI stk.length, f_scope, f_doneName, f_doneType, a_kind, a_value, a_keptKind, a_keptA, a_keptB, a_root, a_what, a_partA, a_partB, a_mark, a_twin, a_walk, a_pairs, a_now, a_todo, a_types, a_firm, a_bound, a_boundType) z := by
    intro z k s q a1 V' hz hk hat hV hbs hfl hx n80 hVV
    have g15 := (gd a1 s q hat).1
    refine yw_leaf hz hk hVV (by omega) g2 b1 b2 b3 (by omega) (fun n' ty' cl' t1 wh pA pB mk tw wk pr tys fr hn' hty W s1 s2 t2 => ?_)
    rw [← hV] at W
    exact yu_80 ih hT A hat hbs hfl hHR hfs st I0 (by omega) hty W g4 (fun e => ⟨e, fun w => n80 ⟨w.1, w.2.1⟩⟩) s1 s2 t2 hF
  have d80 : K a ≠ 3 → dd_V K N mq (Dc_U (ky_d kk rt g)) bs V 80 a = dv_psh (fun _ _ τ => cs_T (K a) τ) V := fun h => by
    show (if K a = 3 then _ else _) = _
    rw [if_neg h]
  have c80 : K a ≠ 3 → (cr_1 K mq x 80 a).1 = x.1 + 5 := fun h => by
    show x.1 + (if K a = 3 then _ else 5) = _
    rw [if_neg h]
  rw [← eL]
  refine ye_13 hT ha (by omega) st (fun hb => ?_) (fun k => ?_) (fun k => ?_) (fun k => ?_) (fun al k => ?_) (fun k td std => ?_) (fun k k' => ?_) (fun k k' td std => ?_)
  · exact yw_bad (hbad hb _ _ _ _ _ _ _ _ _ _ _ _ _ _ _ _ _ _ _ _ _ _)
  · rw [eL]
    have d := d80 (by omega)
    rw [k] at d
    exact leaf 0 0 80 a (a + 1) _ rfl (by omega) (alone (by rw [k]; rfl)) d rfl rfl (by rw [c80 (by omega)]; omega) (fun w => by omega) (xe_lf cs_0)
  · rw [eL]
    have d := d80 (by omega)
    rcases k with k | k
    · rw [k] at d
      exact leaf 1 1 80 a (a + 1) _ rfl (by omega) (alone (by rw [k]; rfl)) d rfl rfl (by rw [c80 (by omega)]; omega) (fun w => by omega) (xe_lf cs_1)
    · rw [k] at d
      exact leaf 1 1 80 a (a + 1) _ rfl (by omega) (alone (by rw [k]; rfl)) d rfl rfl (by rw [c80 (by omega)]; omega) (fun w => by omega) (xe_lf cs_2)
  · rw [eL]
    have hat := alone (by rw [k]; rfl)
    obtain ⟨g15, gnn⟩ := gd _ _ _ hat
    have ac : a < c := pm_lt hT.2.1 k (by decide)
    have e15 : (cr_1 K mq x 80 a).1 = x.1 + (Nat.max x.2.1 x.2.2 + 12) := by
      show x.1 + (if K a = 3 then _ else _) = _
      rw [if_pos k]
    rw [e15] at g15
    have v12 := ((hT.2.2 a ac).2.2.1 k).2
    have dV : dd_V K N mq (Dc_U (ky_d kk rt g)) bs V 80 a = dv_psh (dd_name N (Dc_U (ky_d kk rt g)) bs V (N a)) V := by
      show (if K a = 3 then _ else _) = _
      rw [if_pos k]
    rcases g7 with ⟨_, sc, hb1, hb2⟩ | ⟨z, _⟩
    · subst sc
      refine yw_name (c := 0) (p := a) (N := N) HK v12 hR (by omega) g2 (by omega) (by omega) g4 (by omega) b5 hb1 hb2 (fun z hz => ?_) b6 b1 b2 b3 (by omega) (fun no dn eu => ?_) (fun n' ty' ub' t1 wh pA pB mk tw wk tys fr hn' hty W hc s1 s2 t2 => ?_)
      · have q := b8 z hz
        exact ((hT.2.2 z.1 (by omega)).2.2.1 q.2).2
      · refine Or.inr ⟨a, by omega, rfl, gnn (some a) (fun sp2 => ?_) eu⟩
        unfold gn_N
        rw [if_pos ⟨rfl, k, no, dn⟩]
      · rw [← dV] at W
        refine yu_80 ih hT A hat rfl rfl hHR hfs st I0 (by rw [e15]; omega) hty W ?_ (fun e => ?_) s1 s2 t2 hF
        · rcases hc with q | q
          · rw [q.1]; exact g4
          · exact Or.inr q.1
        · rcases hc with q | q
          · exact ⟨by rw [← q.1]; exact e, fun w => q.2 ⟨w.2.2.1, w.2.2.2⟩⟩
          · rw [e] at q; exact absurd q.1 (by decide)
    · cases z
  · rw [eL]
    have hat := alone al
    have g15 := (gd _ _ _ hat).1
    rw [c80 (by omega)] at g15
    refine yw_word al k (by omega) g2 b1 b2 b3 (by omega) (fun n' ty' cl' t1 wh pA pB mk tw wk pr tys fr hn' hty W s1 s2 t2 => ?_)
    rw [← d80 (by omega)] at W
    exact yu_80 ih hT A hat rfl rfl hHR hfs st I0 (by rw [c80 (by omega)]; omega) hty W g4 (fun e => ⟨e, fun w => by omega⟩) s1 s2 t2 hF
  · have hat : pm_atom K a = (a + 1, some ([(40, 0), (46, a)], [])) := by
      unfold pm_atom
      rw [k]; rfl
    obtain ⟨⟨S2, pd, le⟩, sp2, e0, hgo2⟩ := A (a + 1) [(40, 0), (46, a)] [] fl.length td hat (fun y hy => by simp at hy; rcases hy with q | q <;> simp [q, yr_k]) (by omega) ⟨fun z => by omega, fun z => by omega, hHR⟩ std
    have e1 : sp1 = sp2 := e0
    have I2 := yt_mono I0 le
    rw [← pd, e1] at I2
    rw [eL]
    have H1 : pm_go K f ((40, 0) :: (46, a) :: R) (a + 1) (sp ++ []) = some (a', sp ++ [] ++ sp2, b) := hgo2
    have H2 : yr_S K mq c ((40, 0) :: (46, a) :: R) (a + 1) (sp ++ []) fl.length bs.length td := S2
    rw [show R.length + 2 = ((40, 0) :: (46, a) :: R).length from rfl]
    exact ih ((40, 0) :: (46, a) :: R) (a + 1) _ sp2 bs fl V x nl n stk env F _ _ _ _ _ _ _ _ _ _ _ _ _ _ _ _ _ _ H1 H2 I2 hF
  · rw [eL]
    have hat : pm_atom K a = (a + 2, some ([], [(81, a + 1)])) := by
      unfold pm_atom
      rw [k, if_neg (by decide), if_pos rfl, if_pos k']
    exact leaf 2 2 81 (a + 1) (a + 2) _ rfl (by omega) hat rfl rfl rfl (Nat.le_refl _) (fun w => by omega) xe_unit
  · have hat : pm_atom K a = (a + 1, some ([(42, 0), (44, 0)], [])) := by
      unfold pm_atom
      rw [k, if_neg (by decide), if_pos rfl, if_neg k']
    obtain ⟨⟨S2, pd, le⟩, sp2, e0, hgo2⟩ := A (a + 1) [(42, 0), (44, 0)] [] fl.length td hat (fun y hy => by simp at hy; rcases hy with q | q <;> simp [q, yr_k]) (by omega) ⟨fun z => by omega, fun z => by omega, hHR⟩ std
    have e1 : sp1 = sp2 := e0
    have I2 := yt_mono I0 le
    rw [← pd, e1] at I2
    rw [eL]
    have H1 : pm_go K f ((42, 0) :: (44, 0) :: R) (a + 1) (sp ++ []) = some (a', sp ++ [] ++ sp2, b) := hgo2
    have H2 : yr_S K mq c ((42, 0) :: (44, 0) :: R) (a + 1) (sp ++ []) fl.length bs.length td := S2
    rw [show R.length + 2 = ((42, 0) :: (44, 0) :: R).length from rfl]
    exact ih ((42, 0) :: (44, 0) :: R) (a + 1) _ sp2 bs fl V x nl n stk env F _ _ _ _ _ _ _ _ _ _ _ _ _ _ _ _ _ _ H1 H2 I2 hF
theorem yu_55 (HK : ky_K kc kk ka kb rt lo hi g) (hT : tk_T a_kind a_value c K N) (hm : ∀ q, mq q = pm_nq K 24 (q + 3) - (q + 1)) (hR : y_R a_now rt) (hZ : b = false → yr_Z c a' post f_accepted f_place f_kept a_kind a_value a_keptKind a_keptA a_keptB a_root a_now) (ih : yr_P kc kk ka kb rt g c K N mq Fin gnT gcT E0 a' b post f_accepted f_place f_kept a_kind a_value a_keptKind a_keptA a_keptB a_root a_now f) (hgo : pm_go K (f + 1) ((55, p) :: ss) a sp = some (a', sp ++ sp1, b)) (S : yr_S K mq c ((55, p) :: ss) a sp fl.length bs.length a_todo) (I : yt_I kc kk ka kb rt g c K N mq Fin gnT gcT E0 (pm_pd ((55, p) :: ss)) a sp1 bs fl V x nl n stk env f_typing f_unbound f_clash f_scope f_doneName f_doneType a_what a_partA a_partB a_types a_firm a_bound a_boundType) (hF : 8 * f ≤ F) : wY_read_46 post (F + 9) (nI c) f_accepted f_place f_kept (nI n) (nI (ss.length + 1)) (nI a) 0 f_typing f_unbound f_clash (nI stk.length) f_scope f_doneName f_doneType a_kind a_value a_keptKind a_keptA a_keptB a_root a_what a_partA a_partB a_mark a_twin a_walk a_pairs a_now a_todo a_types a_firm a_bound a_boundType := by
  have c24 := hT.1
  have hl := (yr_len c24 S).1
  have hf48 := (yr_len c24 S).2
  have st : st_1 a_todo (13 :: yk_S K mq ss (bs.length)) := S.2.2.2.2.2.2.1
  have hH := S.2.2.2.2.2.2.2.2
  have eL := yk_len (K := K) (mq := mq) ss (bs.length)
  have ha := S.1
  have hfs := S.2.2.2.2.2.1
  rw [List.length_cons] at hl
  rw [← eL]
  refine yw_te (r := 13) (w := 0) (by omega) (by omega) (by omega) st ?_
  rw [eL]
  refine yu_at (F := F + 7) (R := ss) HK hT hR ih (fun a1 l w fll' td' hat hl' hf hH' std => ?_) (fun hb => ?_) hH hf48 hfs (by omega) ha st.2 I (by omega)
  · have t : pm_turn K 55 p a = (a1, some (l, w)) := hat
    obtain ⟨sp2, e0, hgo2⟩ := pm_go_s hgo t
    obtain ⟨S2, pd, le⟩ := yr_turn hT.2.1 c24 S t hl' hf std hH'
    exact ⟨⟨S2, pd, le⟩, sp2, e0, hgo2⟩
  · have t : pm_turn K 55 p a = (a, none) := by
      show pm_atom K a = _
      unfold pm_atom
      unfold pm_bg at hb
      simp at hb
      have q1 : ¬ pm_alone (K a) = true := by simp [hb.1.1]
      rw [if_neg q1, if_neg hb.1.2, if_neg hb.2]
    obtain ⟨e1, e2⟩ := pm_go_n hgo t
    have z := hZ e2
    rw [e1] at z
    exact z
theorem yu_54 (HK : ky_K kc kk ka kb rt lo hi g) (hT : tk_T a_kind a_value c K N) (hm : ∀ q, mq q = pm_nq K 24 (q + 3) - (q + 1)) (hR : y_R a_now rt) (hZ : b = false → yr_Z c a' post f_accepted f_place f_kept a_kind a_value a_keptKind a_keptA a_keptB a_root a_now) (ih : yr_P kc kk ka kb rt g c K N mq Fin gnT gcT E0 a' b post f_accepted f_place f_kept a_kind a_value a_keptKind a_keptA a_keptB a_root a_now f) (hgo : pm_go K (f + 1) ((54, p) :: ss) a sp = some (a', sp ++ sp1, b)) (S : yr_S K mq c ((54, p) :: ss) a sp fl.length bs.length a_todo) (I : yt_I kc kk ka kb rt g c K N mq Fin gnT gcT E0 (pm_pd ((54, p) :: ss)) a sp1 bs fl V x nl n stk env f_typing f_unbound f_clash f_scope f_doneName f_doneType a_what a_partA a_partB a_types a_firm a_bound a_boundType) (hF : 8 * f ≤ F) : wY_read_46 post (F + 9) (nI c) f_accepted f_place f_kept (nI n) (nI (ss.length + 1)) (nI a) 0 f_typing f_unbound f_clash (nI stk.length) f_scope f_doneName f_doneType a_kind a_value a_keptKind a_keptA a_keptB a_root a_what a_partA a_partB a_mark a_twin a_walk a_pairs a_now a_todo a_types a_firm a_bound a_boundType := by
  have c24 := hT.1
  have hl := (yr_len c24 S).1
  have hf48 := (yr_len c24 S).2
  have st : st_1 a_todo (12 :: yk_S K mq ss (bs.length)) := S.2.2.2.2.2.2.1
  have hH := S.2.2.2.2.2.2.2.2
  have eL := yk_len (K := K) (mq := mq) ss (bs.length)
  have ha := S.1
  have hfs := S.2.2.2.2.2.1
  rw [List.length_cons] at hl
  rw [← eL]
  refine yw_te (r := 12) (w := 0) (by omega) (by omega) (by omega) st (ye_12 hT ha (by omega) st.2 (fun hb => ?_) (fun hb td std => ?_))
  · have t : pm_turn K 54 p a = (a, some ([], [])) := by
      show pm_apl K a = _
      have q : (pm_atom K a).2 = none := by
        unfold pm_atom
        unfold pm_bg at hb
        simp at hb
        have q1 : ¬ pm_alone (K a) = true := by simp [hb.1.1]
        rw [if_neg q1, if_neg hb.1.2, if_neg hb.2]
      unfold pm_apl
      rw [q]
    obtain ⟨sp2, e, hgo2⟩ := pm_go_s hgo t
    obtain ⟨S2, pd, le⟩ := yr_turn (td' := a_todo) (fll' := fl.length) (bsl' := bs.length) hT.2.1 c24 S t (fun y hy => by cases hy) (by omega) st.2 hH
    rw [e] at I
    have pd0 : pm_pd ((54, p) :: ss) = pm_pd ([] ++ ss) := by rw [pd]; rfl
    rw [pd0] at I
    rw [eL]
    exact ih ss a _ sp2 bs fl V x nl n stk env (F + 7) _ _ _ _ _ _ _ _ _ _ _ _ _ _ _ _ _ _ hgo2 S2 (yt_mono I le) (by omega)
  · have lst : (yk_S K mq ss bs.length).length + 3 = ((26 + 64 * a) :: 12 :: yk_S K mq ss bs.length).length + 1 := rfl
    refine yw_te (F := F + 7) (r := 13) (w := 0) (L := (26 + 64 * a) :: 12 :: yk_S K mq ss bs.length) (by omega) (by omega) (by simp; omega) std ?_
    rw [show ((26 + 64 * a) :: 12 :: yk_S K mq ss bs.length).length = ((82, a) :: (54, 0) :: ss).length by simp [eL]]
    refine yu_at (F := F + 6) (R := (82, a) :: (54, 0) :: ss) HK hT hR ih (fun a1 l w fll' td' hat hl' hf hH' std' => ?_) (fun hb' => by rw [hb] at hb'; cases hb') ⟨fun z => by omega, fun z => by omega, hH⟩ hf48 hfs (by simp; omega) ha std.2 I (by omega)
    have t : pm_turn K 54 p a = (a1, some (l ++ [(82, a), (54, 0)], w)) := by
      show pm_apl K a = _
      unfold pm_apl
      rw [hat]
    have ap : l ++ (82, a) :: (54, 0) :: ss = (l ++ [(82, a), (54, 0)]) ++ ss := by simp
    rw [ap] at hH' std' ⊢
    obtain ⟨sp2, e0, hgo2⟩ := pm_go_s hgo t
    obtain ⟨S2, pd, le⟩ := yr_turn hT.2.1 c24 S t (fun y hy => by
      rcases List.mem_append.mp hy with q | q
      · exact hl' y q
      · simp at q
        rcases q with q | q <;> simp [q, yr_k]) hf std' hH'
    exact ⟨⟨S2, pd, le⟩, sp2, e0, hgo2⟩
theorem yw_loop (HK : ky_K kc kk ka kb rt lo hi g) (hT : tk_T a_kind a_value c K N) (hm : ∀ q, mq q = pm_nq K 24 (q + 3) - (q + 1)) (hR : y_R a_now rt) (hZ : (b = false ∨ a' ≠ c) → yr_Z c a' post f_accepted f_place f_kept a_kind a_value a_keptKind a_keptA a_keptB a_root a_now)
    (hE : b = true → a' = c → ∀ (bs : List (Nat × Bool)) (fl : List Bool) (V : dv_W) (x : Nat × Nat × Nat) (nl n : Nat) (stk env : List Nat) (f_tt : Int32) (f_typing f_unbound f_clash f_scope f_doneName f_doneType : Int32) (a_what a_partA a_partB a_mark a_twin a_walk a_pairs a_todo a_types a_firm a_bound a_boundType : Nat → Int32), yt_I kc kk ka kb rt g c K N mq Fin gnT gcT E0 true c [] bs fl V x nl n stk env f_typing f_unbound f_clash f_scope f_doneName f_doneType a_what a_partA a_partB a_types a_firm a_bound a_boundType → post 1 (nI c, f_accepted, f_place, f_kept, nI n, f_tt, nI c, 0, f_typing, f_unbound, f_clash, nI stk.length, f_scope, f_doneName, f_doneType, a_kind, a_value, a_keptKind, a_keptA, a_keptB, a_root, a_what, a_partA, a_partB, a_mark, a_twin, a_walk, a_pairs, a_now, a_todo, a_types, a_firm, a_bound, a_boundType)) : ∀ f, yr_P kc kk ka kb rt g c K N mq Fin gnT gcT E0 a' b post f_accepted f_place f_kept a_kind a_value a_keptKind a_keptA a_keptB a_root a_now f := by
  intro f
  induction f with
  | zero =>
    intro ss a sp sp1 bs fl V x nl n stk env F _ _ _ _ _ _ _ _ _ _ _ _ _ _ _ _ _ _ hgo
    cases hgo
  | succ f ih =>
    intro ss a sp sp1 bs fl V x nl n stk env F f_typing f_unbound f_clash f_scope f_doneName f_doneType a_what a_partA a_partB a_mark a_twin a_walk a_pairs a_todo a_types a_firm a_bound a_boundType hgo S I hF
    cases ss with
    | nil =>
      obtain ⟨e1, e2, e3⟩ := pm_go_0 hgo
      subst e1 e2
      refine br_t (by decide) (br_t rfl ?_)
      by_cases q : a' = c
      · subst q
        exact br_t rfl (hE e3 rfl bs fl V x nl n stk env _ _ _ _ _ _ _ _ _ _ _ _ _ _ _ _ _ _ _ I)
      · have ac := S.1
        have c24 := hT.1
        exact br_f (fun z => q ((nI_eq (by omega) (by omega)).mp z)) (hZ (Or.inr q) _ _ _ _ _ _ _ _ _ _ _ _ _ _ _ _ _ _ _ _ _ _)
    | cons y ss =>
      obtain ⟨s, p⟩ := y
      obtain ⟨F2, eF⟩ : ∃ F2, F = F2 + 8 := ⟨F - 8, by omega⟩
      subst eF
      have hF2 : 8 * f ≤ F2 := by omega
      have hZ2 : b = false → yr_Z c a' post f_accepted f_place f_kept a_kind a_value a_keptKind a_keptA a_keptB a_root a_now := fun e => hZ (Or.inl e)
      have hs := S.2.2.1 (s, p) List.mem_cons_self
      have h1 := hs.1
      by_cases h38 : s < 38
      · exact yu_e h38 HK hT hm hR hZ2 ih hgo S I hF2
      · have h2 : s = 40 ∨ s = 42 ∨ s = 44 ∨ s = 46 ∨ s = 47 ∨ s = 50 ∨ s = 51 ∨ s = 52 ∨ s = 53 ∨ s = 54 ∨ s = 55 ∨ s = 82 ∨ s = 83 ∨ s = 84 ∨ s = 86 ∨ s = 88 ∨ s = 89 := by
          rcases h1 with z | z
          · exact (h38 z).elim
          · exact z
        rcases h2 with z | z | z | z | z | z | z | z | z | z | z | z | z | z | z | z | z
        · subst z; exact yu_40 HK hT hm hR hZ2 ih hgo S I hF2
        · subst z; exact yu_42 HK hT hm hR hZ2 ih hgo S I hF2
        · subst z; exact yu_44 HK hT hm hR hZ2 ih hgo S I hF2
        · subst z; exact yu_46 HK hT hm hR hZ2 ih hgo S I hF2
        · subst z; exact yu_47 HK hT hm hR hZ2 ih hgo S I hF2
        · subst z; exact yu_50 HK hT hm hR hZ2 ih hgo S I hF2
        · subst z; exact yu_51 HK hT hm hR hZ2 ih hgo S I hF2
        · subst z; exact yu_52 HK hT hm hR hZ2 ih hgo S I hF2
        · subst z; exact yu_53 HK hT hm hR hZ2 ih hgo S I hF2
        · subst z; exact yu_54 HK hT hm hR hZ2 ih hgo S I hF2
        · subst z; exact yu_55 HK hT hm hR hZ2 ih hgo S I hF2
        · subst z; exact yu_82 HK hT hm hR hZ2 ih hgo S I hF2
        · subst z
          have t : pm_turn K 83 p a = (a, some ([], [(83, p)])) := rfl
          obtain ⟨sp2, e0, hgo2⟩ := pm_go_s hgo t
          have g1 := I.1
          rw [e0] at g1
          have kp := (g1.1.2.2.2.2.2.2.1 rfl).2
          by_cases k17 : K p = 17
          · exact yu_83p k17 HK hT hm hR hZ2 ih hgo S I hF2
          · by_cases k18 : K p = 18
            · exact yu_83c k18 HK hT hm hR hZ2 ih hgo S I hF2
            · by_cases k25 : K p = 25
              · exact yu_83a k25 HK hT hm hR hZ2 ih hgo S I hF2
              · exact yu_83n (by omega) HK hT hm hR hZ2 ih hgo S I hF2
        · subst z; exact yu_84 HK hT hm hR hZ2 ih hgo S I hF2
        · subst z; exact yu_86 HK hT hm hR hZ2 ih hgo S I hF2
        · subst z; exact yu_88 (hs.2 (Or.inl rfl)) HK hT hm hR hZ2 ih hgo S I hF2
        · subst z; exact yu_89 (hs.2 (Or.inr rfl)) HK hT hm hR hZ2 ih hgo S I hF2
end
