/-! the steps -/
section
variable {f_count f_accepted f_place f_kept f_nodes f_tt f_pos f_bad f_typing f_unbound f_clash f_top f_scope f_doneName f_doneType : Int32} {a_kind a_value a_keptKind a_keptA a_keptB a_root a_what a_partA a_partB a_mark a_twin a_walk a_pairs a_now a_todo a_types a_firm a_bound a_boundType : Nat → Int32}
variable {post : Int32 → SY → Prop} {kc : Nat} {kk ka kb rt lo hi : Nat → Nat} {g : Nat → tr_T} {c : Nat} {K N mq : Nat → Nat} {Fin : List (Nat × Bool) → List Bool → Prop} {gnT gcT : Option Nat → Prop} {E0 : List (Nat × Bool) × List Bool × dv_W} {a' : Nat} {b : Bool} {f a p F nl n : Nat} {ss sp sp1 : pm_L} {stk env : List Nat} {bs : List (Nat × Bool)} {fl : List Bool} {V : dv_W} {x : Nat × Nat × Nat}
theorem yu_82 (HK : ky_K kc kk ka kb rt lo hi g) (hT : tk_T a_kind a_value c K N) (hm : ∀ q, mq q = pm_nq K 24 (q + 3) - (q + 1)) (hR : y_R a_now rt) (hZ : b = false → yr_Z c a' post f_accepted f_place f_kept a_kind a_value a_keptKind a_keptA a_keptB a_root a_now) (ih : yr_P kc kk ka kb rt g c K N mq Fin gnT gcT E0 a' b post f_accepted f_place f_kept a_kind a_value a_keptKind a_keptA a_keptB a_root a_now f) (hgo : pm_go K (f + 1) ((82, p) :: ss) a sp = some (a', sp ++ sp1, b)) (S : yr_S K mq c ((82, p) :: ss) a sp fl.length bs.length a_todo) (I : yt_I kc kk ka kb rt g c K N mq Fin gnT gcT E0 (pm_pd ((82, p) :: ss)) a sp1 bs fl V x nl n stk env f_typing f_unbound f_clash f_scope f_doneName f_doneType a_what a_partA a_partB a_types a_firm a_bound a_boundType) (hF : 8 * f ≤ F) : wY_read_46 post (F + 9) (nI c) f_accepted f_place f_kept (nI n) (nI (ss.length + 1)) (nI a) 0 f_typing f_unbound f_clash (nI stk.length) f_scope f_doneName f_doneType a_kind a_value a_keptKind a_keptA a_keptB a_root a_what a_partA a_partB a_mark a_twin a_walk a_pairs a_now a_todo a_types a_firm a_bound a_boundType := by
  have c24 := hT.1
  have hl := (yr_len c24 S).1
  have hf48 := (yr_len c24 S).2
  have st : st_1 a_todo ((26 + 64 * p) :: yk_S K mq ss (bs.length)) := S.2.2.2.2.2.2.1
  have hH := S.2.2.2.2.2.2.2.2
  have eL := yk_len (K := K) (mq := mq) ss (bs.length)
  have ha := S.1
  have hfs := S.2.2.2.2.2.1
  rw [List.length_cons] at hl
  rw [← eL]
  have t : pm_turn K 82 p a = (a, some ([], [(82, p)])) := rfl
  obtain ⟨sp2, e0, hgo2⟩ := pm_go_s hgo t
  have k144 := HK.2.2.2.2.2.2.1
  subst e0
  have I0 := I
  obtain ⟨g1, g2, ⟨b1, b2, b3, b4, b5, b6, b7, b8, b9, b10, b11⟩, g4, g5, g6, g7⟩ := I
  have pc := g1.1.1
  have dl := g1.1.2.1
  have x15 : x.1 + 3 ≤ 1503 := g1.2.1
  have fl2 : 2 ≤ fl.length := g1.1.2.2.2.2.2.1 rfl
  obtain ⟨y1, x1, stk', es⟩ := ls_2 (l := stk) (by omega)
  obtain ⟨by', bx, fl', ef⟩ := ls_2 (l := fl) fl2
  subst es ef
  have lf : fl'.length = stk'.length := by simpa using b3
  have hV : dd_V K N mq (Dc_U (ky_d kk rt g)) bs V 82 p = dv_app V := rfl
  have hB := yt_hb (gnT := gnT) (gcT := gcT) g6 (show (if 82 = 88 then p + mq p + 1 else p) < 24 by rw [if_neg (by decide)]; omega)
  rw [if_neg (show ¬ 82 = 88 by decide), hV] at hB
  rw [List.length_cons, List.length_cons, lf] at dl
  have l64 : stk'.length + 2 < 64 := by
    simp at hf48
    omega
  refine yw_tf (r := 26) (w := p) (by omega) (by omega) (by omega) (by omega) st ?_
  refine br_f (by decide) (br_t (by decide) ?_)
  unfold wY_finish_284
  refine yw_app HK (by omega) g2 dl b1 b2 lf l64 (b4 y1 (by simp)) hB (fun n' ty' cl' t1 wh pA pB mk tw wk pr tys fr hn' hty W s1 s2 t2 => ?_)
  rw [← hV] at W
  have I2 := yt_push (a1 := a) I0 rfl (show dd_fl K (by' :: bx :: fl') 82 p = false :: fl' from rfl) W s1 s2 (by rw [List.length_cons, lf]) t2 (fun z hz => b4 z (by simp [hz])) (show n' ≤ kc + (x.1 + 3) by omega) hty g4 (fun e => ⟨e, fun z => by omega⟩) (Nat.le_refl _)
  have hH2 : yr_H ss (dd_fl K (by' :: bx :: fl') 82 p).length := hH
  obtain ⟨S2, pd, le⟩ := yr_turn (td' := a_todo) (fll' := (dd_fl K (by' :: bx :: fl') 82 p).length) (bsl' := bs.length) hT.2.1 c24 S t (fun y hy => by cases hy) (show fl'.length + 1 ≤ sp.length + 1 by simp at hfs; omega) st.2 hH2
  have H1 : pm_go K f ss a (sp ++ [(82, p)]) = some (a', sp ++ [(82, p)] ++ sp2, b) := hgo2
  have H2 : yr_S K mq c ss a (sp ++ [(82, p)]) (dd_fl K (by' :: bx :: fl') 82 p).length bs.length a_todo := S2
  have pd2 : pm_pd ss = false := pd
  rw [eL]
  rw [← pd2] at I2
  exact ih ss a _ sp2 _ _ _ _ nl n' (t1 :: stk') env (F + 7) _ _ _ _ _ _ _ _ _ _ _ _ _ _ _ _ _ _ H1 H2 I2 (by omega)
theorem yu_83p (k : K p = 17) (HK : ky_K kc kk ka kb rt lo hi g) (hT : tk_T a_kind a_value c K N) (hm : ∀ q, mq q = pm_nq K 24 (q + 3) - (q + 1)) (hR : y_R a_now rt) (hZ : b = false → yr_Z c a' post f_accepted f_place f_kept a_kind a_value a_keptKind a_keptA a_keptB a_root a_now) (ih : yr_P kc kk ka kb rt g c K N mq Fin gnT gcT E0 a' b post f_accepted f_place f_kept a_kind a_value a_keptKind a_keptA a_keptB a_root a_now f) (hgo : pm_go K (f + 1) ((83, p) :: ss) a sp = some (a', sp ++ sp1, b)) (S : yr_S K mq c ((83, p) :: ss) a sp fl.length bs.length a_todo) (I : yt_I kc kk ka kb rt g c K N mq Fin gnT gcT E0 (pm_pd ((83, p) :: ss)) a sp1 bs fl V x nl n stk env f_typing f_unbound f_clash f_scope f_doneName f_doneType a_what a_partA a_partB a_types a_firm a_bound a_boundType) (hF : 8 * f ≤ F) : wY_read_46 post (F + 9) (nI c) f_accepted f_place f_kept (nI n) (nI (ss.length + 1)) (nI a) 0 f_typing f_unbound f_clash (nI stk.length) f_scope f_doneName f_doneType a_kind a_value a_keptKind a_keptA a_keptB a_root a_what a_partA a_partB a_mark a_twin a_walk a_pairs a_now a_todo a_types a_firm a_bound a_boundType := by
  have c24 := hT.1
  have hl := (yr_len c24 S).1
  have hf48 := (yr_len c24 S).2
  have st : st_1 a_todo (yk_v K mq 83 p bs.length :: yk_S K mq ss (bs.length)) := S.2.2.2.2.2.2.1
  have hH := S.2.2.2.2.2.2.2.2
  have eL := yk_len (K := K) (mq := mq) ss (bs.length)
  have ha := S.1
  have hfs := S.2.2.2.2.2.1
  rw [List.length_cons] at hl
  rw [← eL]
  have t : pm_turn K 83 p a = (a, some ([], [(83, p)])) := rfl
  obtain ⟨sp2, e0, hgo2⟩ := pm_go_s hgo t
  have k144 := HK.2.2.2.2.2.2.1
  subst e0
  have e83 : yk_v K mq 83 p bs.length = 15 := by
    show (if K p = 17 then 15 else if K p = 18 then 24 + 64 * p else if K p = 25 then 23 + 64 * p else 25 + 64 * p) = _
    rw [if_pos k]
  rw [e83] at st
  have I0 := I
  obtain ⟨g1, g2, ⟨b1, b2, b3, b4, b5, b6, b7, b8, b9, b10, b11⟩, g4, g5, g6, g7⟩ := I
  have pc := g1.1.1
  have dl := g1.1.2.1
  have x15 : x.1 + 3 ≤ 1503 := g1.2.1
  have fl2 : 2 ≤ fl.length := (g1.1.2.2.2.2.2.2.1 rfl).1
  obtain ⟨y1, x1, stk', es⟩ := ls_2 (l := stk) (by omega)
  obtain ⟨by', bx, fl', ef⟩ := ls_2 (l := fl) fl2
  subst es ef
  have lf : fl'.length = stk'.length := by simpa using b3
  have hV : dd_V K N mq (Dc_U (ky_d kk rt g)) bs V 83 p = dv_pair V := by
    show (if K p = 17 then dv_pair V else if K p = 18 then dv_cons V else if K p = 25 then dv_asg V else if K p = 21 then dv_num 1 V else dv_num 0 V) = _
    rw [if_pos k]
  have hB := yt_hb (gnT := gnT) (gcT := gcT) g6 (show (if 83 = 88 then p + mq p + 1 else p) < 24 by rw [if_neg (by decide)]; omega)
  rw [if_neg (show ¬ 83 = 88 by decide), hV] at hB
  rw [List.length_cons, List.length_cons, lf] at dl
  have l64 : stk'.length + 2 < 64 := by
    simp at hf48
    omega
  refine yw_tf (r := 15) (w := 0) (by omega) (by omega) (by omega) (by omega) st ?_
  refine br_f (by decide) (br_f (by decide) (br_f (by decide) (br_t (by decide) ?_)))
  unfold wY_finish_284
  refine yw_pair (by omega) g2 dl b1 b2 lf l64 (b4 x1 (by simp)) (b4 y1 (by simp)) (fun n' ty' cl' t1 wh pA pB mk tw wk pr tys fr hn' hty W s1 s2 t2 => ?_)
  rw [← hV] at W
  have I2 := yt_push (a1 := a) I0 rfl (by simp [dd_fl, k, Bool.and_comm]) W s1 s2 (by rw [List.length_cons, lf]) t2 (fun z hz => b4 z (by simp [hz])) (show n' ≤ kc + (x.1 + 3) by omega) hty g4 (fun e => ⟨e, fun z => by omega⟩) (Nat.le_refl _)
  have hH2 : yr_H ss (dd_fl K (by' :: bx :: fl') 83 p).length := hH
  obtain ⟨S2, pd, le⟩ := yr_turn (td' := a_todo) (fll' := (dd_fl K (by' :: bx :: fl') 83 p).length) (bsl' := bs.length) hT.2.1 c24 S t (fun y hy => by cases hy) (show fl'.length + 1 ≤ sp.length + 1 by simp at hfs; omega) st.2 hH2
  have H1 : pm_go K f ss a (sp ++ [(83, p)]) = some (a', sp ++ [(83, p)] ++ sp2, b) := hgo2
  have H2 : yr_S K mq c ss a (sp ++ [(83, p)]) (dd_fl K (by' :: bx :: fl') 83 p).length bs.length a_todo := S2
  have pd2 : pm_pd ss = false := pd
  rw [eL]
  rw [← pd2] at I2
  exact ih ss a _ sp2 _ _ _ _ nl n' (t1 :: stk') env (F + 7) _ _ _ _ _ _ _ _ _ _ _ _ _ _ _ _ _ _ H1 H2 I2 (by omega)
theorem yu_83c (k : K p = 18) (HK : ky_K kc kk ka kb rt lo hi g) (hT : tk_T a_kind a_value c K N) (hm : ∀ q, mq q = pm_nq K 24 (q + 3) - (q + 1)) (hR : y_R a_now rt) (hZ : b = false → yr_Z c a' post f_accepted f_place f_kept a_kind a_value a_keptKind a_keptA a_keptB a_root a_now) (ih : yr_P kc kk ka kb rt g c K N mq Fin gnT gcT E0 a' b post f_accepted f_place f_kept a_kind a_value a_keptKind a_keptA a_keptB a_root a_now f) (hgo : pm_go K (f + 1) ((83, p) :: ss) a sp = some (a', sp ++ sp1, b)) (S : yr_S K mq c ((83, p) :: ss) a sp fl.length bs.length a_todo) (I : yt_I kc kk ka kb rt g c K N mq Fin gnT gcT E0 (pm_pd ((83, p) :: ss)) a sp1 bs fl V x nl n stk env f_typing f_unbound f_clash f_scope f_doneName f_doneType a_what a_partA a_partB a_types a_firm a_bound a_boundType) (hF : 8 * f ≤ F) : wY_read_46 post (F + 9) (nI c) f_accepted f_place f_kept (nI n) (nI (ss.length + 1)) (nI a) 0 f_typing f_unbound f_clash (nI stk.length) f_scope f_doneName f_doneType a_kind a_value a_keptKind a_keptA a_keptB a_root a_what a_partA a_partB a_mark a_twin a_walk a_pairs a_now a_todo a_types a_firm a_bound a_boundType := by
  have c24 := hT.1
  have hl := (yr_len c24 S).1
  have hf48 := (yr_len c24 S).2
  have st : st_1 a_todo (yk_v K mq 83 p bs.length :: yk_S K mq ss (bs.length)) := S.2.2.2.2.2.2.1
  have hH := S.2.2.2.2.2.2.2.2
  have eL := yk_len (K := K) (mq := mq) ss (bs.length)
  have ha := S.1
  have hfs := S.2.2.2.2.2.1
  rw [List.length_cons] at hl
  rw [← eL]
  have t : pm_turn K 83 p a = (a, some ([], [(83, p)])) := rfl
  obtain ⟨sp2, e0, hgo2⟩ := pm_go_s hgo t
  have k144 := HK.2.2.2.2.2.2.1
  subst e0
  have e83 : yk_v K mq 83 p bs.length = 24 + 64 * p := by
    show (if K p = 17 then 15 else if K p = 18 then 24 + 64 * p else if K p = 25 then 23 + 64 * p else 25 + 64 * p) = _
    rw [if_neg (by omega), if_pos k]
  rw [e83] at st
  have I0 := I
  obtain ⟨g1, g2, ⟨b1, b2, b3, b4, b5, b6, b7, b8, b9, b10, b11⟩, g4, g5, g6, g7⟩ := I
  have pc := g1.1.1
  have dl := g1.1.2.1
  have x15 : x.1 + 3 ≤ 1503 := g1.2.1
  have fl2 : 2 ≤ fl.length := (g1.1.2.2.2.2.2.2.1 rfl).1
  obtain ⟨y1, x1, stk', es⟩ := ls_2 (l := stk) (by omega)
  obtain ⟨by', bx, fl', ef⟩ := ls_2 (l := fl) fl2
  subst es ef
  have lf : fl'.length = stk'.length := by simpa using b3
  have hV : dd_V K N mq (Dc_U (ky_d kk rt g)) bs V 83 p = dv_cons V := by
    show (if K p = 17 then dv_pair V else if K p = 18 then dv_cons V else if K p = 25 then dv_asg V else if K p = 21 then dv_num 1 V else dv_num 0 V) = _
    rw [if_neg (by omega), if_pos k]
  have hB := yt_hb (gnT := gnT) (gcT := gcT) g6 (show (if 83 = 88 then p + mq p + 1 else p) < 24 by rw [if_neg (by decide)]; omega)
  rw [if_neg (show ¬ 83 = 88 by decide), hV] at hB
  rw [List.length_cons, List.length_cons, lf] at dl
  have l64 : stk'.length + 2 < 64 := by
    simp at hf48
    omega
  refine yw_tf (r := 24) (w := p) (by omega) (by omega) (by omega) (by omega) st ?_
  refine br_f (by decide) (br_t (by decide) ?_)
  unfold wY_finish_284
  refine yw_cons HK (by omega) g2 dl b1 b2 lf l64 (b4 x1 (by simp)) (b4 y1 (by simp)) hB (fun n' ty' cl' t1 wh pA pB mk tw wk pr tys fr hn' hty W s1 s2 t2 => ?_)
  rw [← hV] at W
  have I2 := yt_push (a1 := a) I0 rfl (by simp [dd_fl, k, Bool.and_comm]) W s1 s2 (by rw [List.length_cons, lf]) t2 (fun z hz => b4 z (by simp [hz])) (show n' ≤ kc + (x.1 + 3) by omega) hty g4 (fun e => ⟨e, fun z => by omega⟩) (Nat.le_refl _)
  have hH2 : yr_H ss (dd_fl K (by' :: bx :: fl') 83 p).length := hH
  obtain ⟨S2, pd, le⟩ := yr_turn (td' := a_todo) (fll' := (dd_fl K (by' :: bx :: fl') 83 p).length) (bsl' := bs.length) hT.2.1 c24 S t (fun y hy => by cases hy) (show fl'.length + 1 ≤ sp.length + 1 by simp at hfs; omega) st.2 hH2
  have H1 : pm_go K f ss a (sp ++ [(83, p)]) = some (a', sp ++ [(83, p)] ++ sp2, b) := hgo2
  have H2 : yr_S K mq c ss a (sp ++ [(83, p)]) (dd_fl K (by' :: bx :: fl') 83 p).length bs.length a_todo := S2
  have pd2 : pm_pd ss = false := pd
  rw [eL]
  rw [← pd2] at I2
  exact ih ss a _ sp2 _ _ _ _ nl n' (t1 :: stk') env (F + 7) _ _ _ _ _ _ _ _ _ _ _ _ _ _ _ _ _ _ H1 H2 I2 (by omega)
theorem yu_83a (k : K p = 25) (HK : ky_K kc kk ka kb rt lo hi g) (hT : tk_T a_kind a_value c K N) (hm : ∀ q, mq q = pm_nq K 24 (q + 3) - (q + 1)) (hR : y_R a_now rt) (hZ : b = false → yr_Z c a' post f_accepted f_place f_kept a_kind a_value a_keptKind a_keptA a_keptB a_root a_now) (ih : yr_P kc kk ka kb rt g c K N mq Fin gnT gcT E0 a' b post f_accepted f_place f_kept a_kind a_value a_keptKind a_keptA a_keptB a_root a_now f) (hgo : pm_go K (f + 1) ((83, p) :: ss) a sp = some (a', sp ++ sp1, b)) (S : yr_S K mq c ((83, p) :: ss) a sp fl.length bs.length a_todo) (I : yt_I kc kk ka kb rt g c K N mq Fin gnT gcT E0 (pm_pd ((83, p) :: ss)) a sp1 bs fl V x nl n stk env f_typing f_unbound f_clash f_scope f_doneName f_doneType a_what a_partA a_partB a_types a_firm a_bound a_boundType) (hF : 8 * f ≤ F) : wY_read_46 post (F + 9) (nI c) f_accepted f_place f_kept (nI n) (nI (ss.length + 1)) (nI a) 0 f_typing f_unbound f_clash (nI stk.length) f_scope f_doneName f_doneType a_kind a_value a_keptKind a_keptA a_keptB a_root a_what a_partA a_partB a_mark a_twin a_walk a_pairs a_now a_todo a_types a_firm a_bound a_boundType := by
  have c24 := hT.1
  have hl := (yr_len c24 S).1
  have hf48 := (yr_len c24 S).2
  have st : st_1 a_todo (yk_v K mq 83 p bs.length :: yk_S K mq ss (bs.length)) := S.2.2.2.2.2.2.1
  have hH := S.2.2.2.2.2.2.2.2
  have eL := yk_len (K := K) (mq := mq) ss (bs.length)
  have ha := S.1
  have hfs := S.2.2.2.2.2.1
  rw [List.length_cons] at hl
  rw [← eL]
  have t : pm_turn K 83 p a = (a, some ([], [(83, p)])) := rfl
  obtain ⟨sp2, e0, hgo2⟩ := pm_go_s hgo t
  have k144 := HK.2.2.2.2.2.2.1
  subst e0
  have e83 : yk_v K mq 83 p bs.length = 23 + 64 * p := by
    show (if K p = 17 then 15 else if K p = 18 then 24 + 64 * p else if K p = 25 then 23 + 64 * p else 25 + 64 * p) = _
    rw [if_neg (by omega), if_neg (by omega), if_pos k]
  rw [e83] at st
  have I0 := I
  obtain ⟨g1, g2, ⟨b1, b2, b3, b4, b5, b6, b7, b8, b9, b10, b11⟩, g4, g5, g6, g7⟩ := I
  have pc := g1.1.1
  have dl := g1.1.2.1
  have x15 : x.1 + 3 ≤ 1503 := g1.2.1
  have fl2 : 2 ≤ fl.length := (g1.1.2.2.2.2.2.2.1 rfl).1
  obtain ⟨y1, x1, stk', es⟩ := ls_2 (l := stk) (by omega)
  obtain ⟨by', bx, fl', ef⟩ := ls_2 (l := fl) fl2
  subst es ef
  have lf : fl'.length = stk'.length := by simpa using b3
  have hV : dd_V K N mq (Dc_U (ky_d kk rt g)) bs V 83 p = dv_asg V := by
    show (if K p = 17 then dv_pair V else if K p = 18 then dv_cons V else if K p = 25 then dv_asg V else if K p = 21 then dv_num 1 V else dv_num 0 V) = _
    rw [if_neg (by omega), if_neg (by omega), if_pos k]
  have hB := yt_hb (gnT := gnT) (gcT := gcT) g6 (show (if 83 = 88 then p + mq p + 1 else p) < 24 by rw [if_neg (by decide)]; omega)
  rw [if_neg (show ¬ 83 = 88 by decide), hV] at hB
  rw [List.length_cons, List.length_cons, lf] at dl
  have l64 : stk'.length + 2 < 64 := by
    simp at hf48
    omega
  refine yw_tf (r := 23) (w := p) (by omega) (by omega) (by omega) (by omega) st ?_
  refine br_f (by decide) (br_t (by decide) ?_)
  unfold wY_finish_284
  refine yw_asg HK (by omega) g2 dl b1 b2 lf l64 (b4 x1 (by simp)) (b4 y1 (by simp)) hB (fun n' ty' cl' t1 wh pA pB mk tw wk pr tys fr hn' hty W s1 s2 t2 => ?_)
  rw [← hV] at W
  have I2 := yt_push (a1 := a) I0 rfl (by simp [dd_fl, k]) W s1 s2 (by rw [List.length_cons, lf]) t2 (fun z hz => b4 z (by simp [hz])) (show n' ≤ kc + (x.1 + 3) by omega) hty g4 (fun e => ⟨e, fun z => by omega⟩) (Nat.le_refl _)
  have hH2 : yr_H ss (dd_fl K (by' :: bx :: fl') 83 p).length := hH
  obtain ⟨S2, pd, le⟩ := yr_turn (td' := a_todo) (fll' := (dd_fl K (by' :: bx :: fl') 83 p).length) (bsl' := bs.length) hT.2.1 c24 S t (fun y hy => by cases hy) (show fl'.length + 1 ≤ sp.length + 1 by simp at hfs; omega) st.2 hH2
  have H1 : pm_go K f ss a (sp ++ [(83, p)]) = some (a', sp ++ [(83, p)] ++ sp2, b) := hgo2
  have H2 : yr_S K mq c ss a (sp ++ [(83, p)]) (dd_fl K (by' :: bx :: fl') 83 p).length bs.length a_todo := S2
  have pd2 : pm_pd ss = false := pd
  rw [eL]
  rw [← pd2] at I2
  exact ih ss a _ sp2 _ _ _ _ nl n' (t1 :: stk') env (F + 7) _ _ _ _ _ _ _ _ _ _ _ _ _ _ _ _ _ _ H1 H2 I2 (by omega)
theorem yu_83n (k : K p = 19 ∨ K p = 20 ∨ K p = 21) (HK : ky_K kc kk ka kb rt lo hi g) (hT : tk_T a_kind a_value c K N) (hm : ∀ q, mq q = pm_nq K 24 (q + 3) - (q + 1)) (hR : y_R a_now rt) (hZ : b = false → yr_Z c a' post f_accepted f_place f_kept a_kind a_value a_keptKind a_keptA a_keptB a_root a_now) (ih : yr_P kc kk ka kb rt g c K N mq Fin gnT gcT E0 a' b post f_accepted f_place f_kept a_kind a_value a_keptKind a_keptA a_keptB a_root a_now f) (hgo : pm_go K (f + 1) ((83, p) :: ss) a sp = some (a', sp ++ sp1, b)) (S : yr_S K mq c ((83, p) :: ss) a sp fl.length bs.length a_todo) (I : yt_I kc kk ka kb rt g c K N mq Fin gnT gcT E0 (pm_pd ((83, p) :: ss)) a sp1 bs fl V x nl n stk env f_typing f_unbound f_clash f_scope f_doneName f_doneType a_what a_partA a_partB a_types a_firm a_bound a_boundType) (hF : 8 * f ≤ F) : wY_read_46 post (F + 9) (nI c) f_accepted f_place f_kept (nI n) (nI (ss.length + 1)) (nI a) 0 f_typing f_unbound f_clash (nI stk.length) f_scope f_doneName f_doneType a_kind a_value a_keptKind a_keptA a_keptB a_root a_what a_partA a_partB a_mark a_twin a_walk a_pairs a_now a_todo a_types a_firm a_bound a_boundType := by
  have c24 := hT.1
  have hl := (yr_len c24 S).1
  have hf48 := (yr_len c24 S).2
  have st : st_1 a_todo (yk_v K mq 83 p bs.length :: yk_S K mq ss (bs.length)) := S.2.2.2.2.2.2.1
  have hH := S.2.2.2.2.2.2.2.2
  have eL := yk_len (K := K) (mq := mq) ss (bs.length)
  have ha := S.1
  have hfs := S.2.2.2.2.2.1
  rw [List.length_cons] at hl
  rw [← eL]
  have t : pm_turn K 83 p a = (a, some ([], [(83, p)])) := rfl
  obtain ⟨sp2, e0, hgo2⟩ := pm_go_s hgo t
  have k144 := HK.2.2.2.2.2.2.1
  subst e0
  have e83 : yk_v K mq 83 p bs.length = 25 + 64 * p := by
    show (if K p = 17 then 15 else if K p = 18 then 24 + 64 * p else if K p = 25 then 23 + 64 * p else 25 + 64 * p) = _
    rw [if_neg (by omega), if_neg (by omega), if_neg (by omega)]
  rw [e83] at st
  have I0 := I
  obtain ⟨g1, g2, ⟨b1, b2, b3, b4, b5, b6, b7, b8, b9, b10, b11⟩, g4, g5, g6, g7⟩ := I
  have pc := g1.1.1
  have dl := g1.1.2.1
  have x15 : x.1 + 3 ≤ 1503 := g1.2.1
  have fl2 : 2 ≤ fl.length := (g1.1.2.2.2.2.2.2.1 rfl).1
  obtain ⟨y1, x1, stk', es⟩ := ls_2 (l := stk) (by omega)
  obtain ⟨by', bx, fl', ef⟩ := ls_2 (l := fl) fl2
  subst es ef
  have lf : fl'.length = stk'.length := by simpa using b3
  have hV : dd_V K N mq (Dc_U (ky_d kk rt g)) bs V 83 p = dv_num (if K p = 21 then 1 else 0) V := by
    show (if K p = 17 then dv_pair V else if K p = 18 then dv_cons V else if K p = 25 then dv_asg V else if K p = 21 then dv_num 1 V else dv_num 0 V) = _
    rw [if_neg (by omega), if_neg (by omega), if_neg (by omega)]
    by_cases q : K p = 21
    · rw [if_pos q, if_pos q]
    · rw [if_neg q, if_neg q]
  have hB := yt_hb (gnT := gnT) (gcT := gcT) g6 (show (if 83 = 88 then p + mq p + 1 else p) < 24 by rw [if_neg (by decide)]; omega)
  rw [if_neg (show ¬ 83 = 88 by decide), hV] at hB
  rw [List.length_cons, List.length_cons, lf] at dl
  have l64 : stk'.length + 2 < 64 := by
    simp at hf48
    omega
  refine yw_tf (r := 25) (w := p) (by omega) (by omega) (by omega) (by omega) st ?_
  refine br_f (by decide) (br_t (by decide) ?_)
  unfold wY_finish_284
  refine yw_num hT pc rfl HK (by omega) g2 dl b1 b2 lf l64 (b4 x1 (by simp)) (b4 y1 (by simp)) hB (fun n' ty' cl' t1 wh pA pB mk tw wk pr tys fr hn' hty W s1 s2 t2 => ?_)
  rw [← hV] at W
  have I2 := yt_push (a1 := a) I0 rfl (by
    have q1 : ¬ K p = 17 := by omega
    have q2 : ¬ K p = 18 := by omega
    simp [dd_fl, q1, q2]) W s1 s2 (by rw [List.length_cons, lf]) t2 (fun z hz => b4 z (by simp [hz])) (show n' ≤ kc + (x.1 + 3) by omega) hty g4 (fun e => ⟨e, fun z => by omega⟩) (Nat.le_refl _)
  have hH2 : yr_H ss (dd_fl K (by' :: bx :: fl') 83 p).length := hH
  obtain ⟨S2, pd, le⟩ := yr_turn (td' := a_todo) (fll' := (dd_fl K (by' :: bx :: fl') 83 p).length) (bsl' := bs.length) hT.2.1 c24 S t (fun y hy => by cases hy) (show fl'.length + 1 ≤ sp.length + 1 by simp at hfs; omega) st.2 hH2
  have H1 : pm_go K f ss a (sp ++ [(83, p)]) = some (a', sp ++ [(83, p)] ++ sp2, b) := hgo2
  have H2 : yr_S K mq c ss a (sp ++ [(83, p)]) (dd_fl K (by' :: bx :: fl') 83 p).length bs.length a_todo := S2
  have pd2 : pm_pd ss = false := pd
  rw [eL]
  rw [← pd2] at I2
  exact ih ss a _ sp2 _ _ _ _ nl n' (t1 :: stk') env (F + 7) _ _ _ _ _ _ _ _ _ _ _ _ _ _ _ _ _ _ H1 H2 I2 (by omega)
theorem yu_84 (HK : ky_K kc kk ka kb rt lo hi g) (hT : tk_T a_kind a_value c K N) (hm : ∀ q, mq q = pm_nq K 24 (q + 3) - (q + 1)) (hR : y_R a_now rt) (hZ : b = false → yr_Z c a' post f_accepted f_place f_kept a_kind a_value a_keptKind a_keptA a_keptB a_root a_now) (ih : yr_P kc kk ka kb rt g c K N mq Fin gnT gcT E0 a' b post f_accepted f_place f_kept a_kind a_value a_keptKind a_keptA a_keptB a_root a_now f) (hgo : pm_go K (f + 1) ((84, p) :: ss) a sp = some (a', sp ++ sp1, b)) (S : yr_S K mq c ((84, p) :: ss) a sp fl.length bs.length a_todo) (I : yt_I kc kk ka kb rt g c K N mq Fin gnT gcT E0 (pm_pd ((84, p) :: ss)) a sp1 bs fl V x nl n stk env f_typing f_unbound f_clash f_scope f_doneName f_doneType a_what a_partA a_partB a_types a_firm a_bound a_boundType) (hF : 8 * f ≤ F) : wY_read_46 post (F + 9) (nI c) f_accepted f_place f_kept (nI n) (nI (ss.length + 1)) (nI a) 0 f_typing f_unbound f_clash (nI stk.length) f_scope f_doneName f_doneType a_kind a_value a_keptKind a_keptA a_keptB a_root a_what a_partA a_partB a_mark a_twin a_walk a_pairs a_now a_todo a_types a_firm a_bound a_boundType := by
  have c24 := hT.1
  have hl := (yr_len c24 S).1
  have hf48 := (yr_len c24 S).2
  have st : st_1 a_todo ((22 + 64 * p) :: yk_S K mq ss (bs.length)) := S.2.2.2.2.2.2.1
  have hH := S.2.2.2.2.2.2.2.2
  have eL := yk_len (K := K) (mq := mq) ss (bs.length)
  have ha := S.1
  have hfs := S.2.2.2.2.2.1
  rw [List.length_cons] at hl
  rw [← eL]
  have t : pm_turn K 84 p a = (a, some ([], [(84, p)])) := rfl
  obtain ⟨sp2, e0, hgo2⟩ := pm_go_s hgo t
  have k144 := HK.2.2.2.2.2.2.1
  subst e0
  have I0 := I
  obtain ⟨g1, g2, ⟨b1, b2, b3, b4, b5, b6, b7, b8, b9, b10, b11⟩, g4, g5, g6, g7⟩ := I
  have pc := g1.1.1
  have dl := g1.1.2.1
  have x15 : x.1 + 2 ≤ 1503 := g1.2.1
  have fl3 : 3 ≤ fl.length := g1.1.2.2.2.2.2.2.2.1 rfl
  obtain ⟨y1, x1, c1, stk', es⟩ := ls_3 (l := stk) (by omega)
  obtain ⟨by', bx, bc, fl', ef⟩ := ls_3 (l := fl) fl3
  subst es ef
  have lf : fl'.length = stk'.length := by simpa using b3
  have hB := yt_hb (gnT := gnT) (gcT := gcT) g6 (show (if 84 = 88 then p + mq p + 1 else p) < 24 by rw [if_neg (by decide)]; omega)
  rw [if_neg (show ¬ 84 = 88 by decide)] at hB
  rw [List.length_cons, List.length_cons, List.length_cons, lf] at dl
  have l64 : stk'.length + 3 < 64 := by
    simp at hf48
    omega
  refine yw_tf (r := 22) (w := p) (by omega) (by omega) (by omega) (by omega) st ?_
  refine br_f (by decide) (br_t (by decide) ?_)
  unfold wY_finish_284
  refine yw_if HK (by omega) g2 dl b1 b2 lf l64 (b4 x1 (by simp)) hB (fun n' ty' cl' t1 wh pA pB mk tw wk pr tys fr hn' hty W s1 s2 t2 => ?_)
  have I2 := yt_push (a1 := a) I0 rfl (show dd_fl K (by' :: bx :: bc :: fl') 84 p = false :: fl' from rfl) W s1 s2 (by rw [List.length_cons, lf]) t2 (fun z hz => b4 z (by simp [hz])) (show n' ≤ kc + (x.1 + 2) by omega) hty g4 (fun e => ⟨e, fun z => by omega⟩) (Nat.le_refl _)
  obtain ⟨S2, pd, le⟩ := yr_turn (td' := a_todo) (fll' := (false :: fl').length) (bsl' := bs.length) hT.2.1 c24 S t (fun y hy => by cases hy) (show fl'.length + 1 ≤ sp.length + 1 by simp at hfs; omega) st.2 hH
  have H1 : pm_go K f ss a (sp ++ [(84, p)]) = some (a', sp ++ [(84, p)] ++ sp2, b) := hgo2
  have H2 : yr_S K mq c ss a (sp ++ [(84, p)]) (false :: fl').length bs.length a_todo := S2
  have pd2 : pm_pd ss = false := pd
  rw [eL]
  rw [← pd2] at I2
  exact ih ss a _ sp2 _ _ _ _ nl n' (t1 :: stk') env (F + 7) _ _ _ _ _ _ _ _ _ _ _ _ _ _ _ _ _ _ H1 H2 I2 (by omega)
end
