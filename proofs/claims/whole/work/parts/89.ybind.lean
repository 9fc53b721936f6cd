/-! the steps that bind, and the loop -/
section
variable {f_count f_accepted f_place f_kept f_nodes f_tt f_pos f_bad f_typing f_unbound f_clash f_top f_scope f_doneName f_doneType : Int32} {a_kind a_value a_keptKind a_keptA a_keptB a_root a_what a_partA a_partB a_mark a_twin a_walk a_pairs a_now a_todo a_types a_firm a_bound a_boundType : Nat → Int32}
variable {post : Int32 → SY → Prop} {kc : Nat} {kk ka kb rt lo hi : Nat → Nat} {g : Nat → tr_T} {c : Nat} {K N mq : Nat → Nat} {Fin : List (Nat × Bool) → List Bool → Prop} {gnT gcT : Option Nat → Prop} {E0 : List (Nat × Bool) × List Bool × dv_W} {a' : Nat} {b : Bool} {f a p F nl n : Nat} {ss sp sp1 : pm_L} {stk env : List Nat} {bs : List (Nat × Bool)} {fl : List Bool} {V : dv_W} {x : Nat × Nat × Nat}
theorem yu_86 (HK : ky_K kc kk ka kb rt lo hi g) (hT : tk_T a_kind a_value c K N) (hm : ∀ q, mq q = pm_nq K 24 (q + 3) - (q + 1)) (hR : y_R a_now rt) (hZ : b = false → yr_Z c a' post f_accepted f_place f_kept a_kind a_value a_keptKind a_keptA a_keptB a_root a_now) (ih : yr_P kc kk ka kb rt g c K N mq Fin gnT gcT E0 a' b post f_accepted f_place f_kept a_kind a_value a_keptKind a_keptA a_keptB a_root a_now f) (hgo : pm_go K (f + 1) ((86, p) :: ss) a sp = some (a', sp ++ sp1, b)) (S : yr_S K mq c ((86, p) :: ss) a sp fl.length bs.length a_todo) (I : yt_I kc kk ka kb rt g c K N mq Fin gnT gcT E0 (pm_pd ((86, p) :: ss)) a sp1 bs fl V x nl n stk env f_typing f_unbound f_clash f_scope f_doneName f_doneType a_what a_partA a_partB a_types a_firm a_bound a_boundType) (hF : 8 * f ≤ F) : wY_read_46 post (F + 9) (nI c) f_accepted f_place f_kept (nI n) (nI (ss.length + 1)) (nI a) 0 f_typing f_unbound f_clash (nI stk.length) f_scope f_doneName f_doneType a_kind a_value a_keptKind a_keptA a_keptB a_root a_what a_partA a_partB a_mark a_twin a_walk a_pairs a_now a_todo a_types a_firm a_bound a_boundType := by
  have c24 := hT.1
  have hl := (yr_len c24 S).1
  have hf48 := (yr_len c24 S).2
  have st : st_1 a_todo (21 :: yk_S K mq ss (bs.length - 1)) := S.2.2.2.2.2.2.1
  have hH := S.2.2.2.2.2.2.2.2
  have eL := yk_len (K := K) (mq := mq) ss (bs.length - 1)
  have ha := S.1
  have hfs := S.2.2.2.2.2.1
  rw [List.length_cons] at hl
  rw [← eL]
  have t : pm_turn K 86 p a = (a, some ([], [(86, p)])) := rfl
  obtain ⟨sp2, e0, hgo2⟩ := pm_go_s hgo t
  have k144 := HK.2.2.2.2.2.2.1
  subst e0
  obtain ⟨g1, g2, ⟨b1, b2, b3, b4, b5, b6, b7, b8, b9, b10, b11⟩, g4, g5, g6, g7⟩ := I
  rcases g7 with ⟨_, sc, hb1, hb2⟩ | ⟨z, _⟩
  · subst sc
    have dl := g1.1.2.1
    have x15 : x.1 + 1 ≤ 1503 := g1.2.1
    obtain ⟨fl1, pc, bs0, eb⟩ := g1.1.2.2.2.2.2.2.2.2.2.1 rfl
    subst eb
    have bl := bs_len _ a b7 (fun z hz => (b8 z hz).1)
    rw [List.length_cons] at bl
    obtain ⟨x1, env', ee⟩ := ls_1 (l := env) (by rw [← b5, List.length_cons]; omega)
    obtain ⟨y1, stk', es⟩ := ls_1 (l := stk) (by omega)
    obtain ⟨bf, fl', ef⟩ := ls_1 (l := fl) fl1
    subst es ef ee
    have lf : fl'.length = stk'.length := by simpa using b3
    have l5 : bs0.length = env'.length := by simpa using b5
    rw [List.length_cons, lf] at dl
    have l64 : stk'.length + 1 < 64 := by
      simp at hf48
      omega
    have esc : nI ((p + 1, false) :: bs0).length = nI (env'.length + 1) := by rw [List.length_cons, l5]
    rw [esc]
    refine yw_tf (r := 21) (w := 0) (by omega) (by omega) (by omega) (by omega) st (yw_fnend (by omega) g2 dl b1 b2 lf l64 hb2 (by omega) (b6 x1 List.mem_cons_self) (b4 y1 List.mem_cons_self) (fun n' ty' cl' t1 wh pA pB mk tw wk pr tys fr hn' hty W s1 s2 t2 => ?_))
    have I2 : yt_I kc kk ka kb rt g c K N mq Fin gnT gcT E0 (pm_pd ss) a sp2 bs0 (true :: fl') (dv_fn V) (cr_1 K mq x 86 p) nl n' (t1 :: stk') env' ty' f_unbound cl' (nI env'.length) f_doneName f_doneType wh pA pB tys fr a_bound a_boundType := by
      refine ⟨g1.2.2, W, ⟨s1, s2, by rw [List.length_cons, List.length_cons, lf], fun z hz => ?_, l5, fun z hz => b6 z (List.mem_cons_of_mem _ hz), b7.2, fun z hz => b8 z (List.mem_cons_of_mem _ hz), show n' ≤ kc + (x.1 + 1) by omega, cr_nl b10, g1.2.1⟩, g4, yt_hn g5 (fun z => by omega), yt_hc g6 hty W, Or.inl ⟨?_, by rw [l5], hb1.2, hb2.2⟩⟩
      · rcases List.mem_cons.mp hz with q | q
        · rw [q]; exact t2
        · exact b4 z (List.mem_cons_of_mem _ q)
      · exact (yr_turn (td' := a_todo) (fll' := fl'.length + 1) (bsl' := bs0.length) hT.2.1 c24 S t (fun y hy => by cases hy) (show fl'.length + 1 ≤ sp.length + 1 by simp at hfs; omega) st.2 hH).2.1
    obtain ⟨S2, pd, le⟩ := yr_turn (td' := a_todo) (fll' := (true :: fl').length) (bsl' := bs0.length) hT.2.1 c24 S t (fun y hy => by cases hy) (show fl'.length + 1 ≤ sp.length + 1 by simp at hfs; omega) st.2 hH
    have H1 : pm_go K f ss a (sp ++ [(86, p)]) = some (a', sp ++ [(86, p)] ++ sp2, b) := hgo2
    have H2 : yr_S K mq c ss a (sp ++ [(86, p)]) (true :: fl').length bs0.length a_todo := S2
    rw [eL]
    exact ih ss a _ sp2 bs0 (true :: fl') _ _ nl n' (t1 :: stk') env' (F + 7) _ _ _ _ _ _ _ _ _ _ _ _ _ _ _ _ _ _ H1 H2 I2 (by omega)
  · cases z
theorem yu_89 (hpa : p + 1 < a) (HK : ky_K kc kk ka kb rt lo hi g) (hT : tk_T a_kind a_value c K N) (hm : ∀ q, mq q = pm_nq K 24 (q + 3) - (q + 1)) (hR : y_R a_now rt) (hZ : b = false → yr_Z c a' post f_accepted f_place f_kept a_kind a_value a_keptKind a_keptA a_keptB a_root a_now) (ih : yr_P kc kk ka kb rt g c K N mq Fin gnT gcT E0 a' b post f_accepted f_place f_kept a_kind a_value a_keptKind a_keptA a_keptB a_root a_now f) (hgo : pm_go K (f + 1) ((89, p) :: ss) a sp = some (a', sp ++ sp1, b)) (S : yr_S K mq c ((89, p) :: ss) a sp fl.length bs.length a_todo) (I : yt_I kc kk ka kb rt g c K N mq Fin gnT gcT E0 (pm_pd ((89, p) :: ss)) a sp1 bs fl V x nl n stk env f_typing f_unbound f_clash f_scope f_doneName f_doneType a_what a_partA a_partB a_types a_firm a_bound a_boundType) (hF : 8 * f ≤ F) : wY_read_46 post (F + 9) (nI c) f_accepted f_place f_kept (nI n) (nI (ss.length + 1)) (nI a) 0 f_typing f_unbound f_clash (nI stk.length) f_scope f_doneName f_doneType a_kind a_value a_keptKind a_keptA a_keptB a_root a_what a_partA a_partB a_mark a_twin a_walk a_pairs a_now a_todo a_types a_firm a_bound a_boundType := by
  have c24 := hT.1
  have hl := (yr_len c24 S).1
  have hf48 := (yr_len c24 S).2
  have st : st_1 a_todo ((19 + 64 * (p + 1)) :: yk_S K mq ss (bs.length + 1)) := S.2.2.2.2.2.2.1
  have hH := S.2.2.2.2.2.2.2.2
  have eL := yk_len (K := K) (mq := mq) ss (bs.length + 1)
  have ha := S.1
  have hfs := S.2.2.2.2.2.1
  rw [List.length_cons] at hl
  rw [← eL]
  have t : pm_turn K 89 p a = (a, some ([], [(89, p)])) := rfl
  obtain ⟨sp2, e0, hgo2⟩ := pm_go_s hgo t
  have k144 := HK.2.2.2.2.2.2.1
  subst e0
  generalize hLq : yk_S K mq ss (bs.length + 1) = L at st eL ⊢
  obtain ⟨g1, g2, ⟨b1, b2, b3, b4, b5, b6, b7, b8, b9, b10, b11⟩, g4, g5, g6, g7⟩ := I
  rcases g7 with ⟨_, sc, hb1, hb2⟩ | ⟨z, _⟩
  · subst sc
    have dl := g1.1.2.1
    have x15 : x.1 + 0 ≤ 1503 := g1.2.1
    obtain ⟨pc, k3, fl1, dci, dx⟩ := g1.1.2.2.2.2.2.2.2.2.2.2.2.2.1 rfl
    have bl := bs_len _ a b7 (fun z hz => (b8 z hz).1)
    obtain ⟨y1, stk', es⟩ := ls_1 (l := stk) (by omega)
    obtain ⟨bf, fl', ef⟩ := ls_1 (l := fl) fl1
    subst es ef
    have lf : fl'.length = stk'.length := by simpa using b3
    rw [List.length_cons] at dl
    have ci := dv_CI_top dl dci
    have l64 : stk'.length + 1 < 64 := by
      simp at hf48
      omega
    rw [b5]
    refine yw_tf (r := 19) (w := p + 1) (by omega) (by omega) (by omega) (by omega) st (yw_valend HK hT pc k3 (by omega) g2 ci b1 b2 lf l64 hb2 (by omega) hR (fun nl' wh mk wk hnl W => ?_))
    obtain ⟨S2, pd, le⟩ := yr_turn (td' := a_todo) (fll' := fl'.length) (bsl' := bs.length + 1) hT.2.1 c24 S t (fun y hy => by cases hy) (show fl'.length ≤ sp.length + 1 by simp at hfs; omega) (by rw [← hLq] at st; exact st.2) hH
    have pa1 : p + 1 < a := hpa
    have I2 : yt_I kc kk ka kb rt g c K N mq Fin gnT gcT E0 (pm_pd ss) a sp2 ((p + 1, bf) :: bs) fl' (dv_bind V) (cr_1 K mq x 89 p) nl' n stk' (y1 :: env) f_typing f_unbound f_clash (nI env.length) (nI (N (p + 1))) (nI y1) wh a_partA a_partB a_types a_firm a_bound a_boundType := by
      refine ⟨g1.2.2, W, ⟨b1.2, b2.2, lf, fun z hz => b4 z (List.mem_cons_of_mem _ hz), by rw [List.length_cons, List.length_cons, b5], fun z hz => ?_, ⟨fun z hz => ?_, b7⟩, fun z hz => ?_, show n ≤ kc + (x.1 + 0) by omega, ?_, g1.2.1⟩, g4, yt_hn g5 (fun z => by omega), yt_hc g6 id W, Or.inr ⟨pd, (p + 1, bf), bs, y1, env, rfl, rfl, by rw [b5], rfl, rfl, hb1, hb2⟩⟩
      · rcases List.mem_cons.mp hz with q | q
        · rw [q]; exact b4 y1 List.mem_cons_self
        · exact b6 z q
      · have := dx z hz
        show z.1 < p + 1
        omega
      · rcases List.mem_cons.mp hz with q | q
        · rw [q]; exact ⟨pa1, k3⟩
        · exact b8 z q
      · rcases hnl with q | q
        · rw [q]
          show n ≤ kc + Nat.max (Nat.max x.2.1 x.2.2) (x.1 + 0)
          exact Nat.le_trans b9 (Nat.add_le_add_left (Nat.le_max_right _ _) _)
        · rw [q]; exact cr_nl b10
    have H1 : pm_go K f ss a (sp ++ [(89, p)]) = some (a', sp ++ [(89, p)] ++ sp2, b) := hgo2
    have H2 : yr_S K mq c ss a (sp ++ [(89, p)]) fl'.length ((p + 1, bf) :: bs).length a_todo := S2
    rw [eL]
    exact ih ss a _ sp2 ((p + 1, bf) :: bs) fl' _ _ nl' n stk' (y1 :: env) (F + 7) _ _ _ _ _ _ _ _ _ _ _ _ _ _ _ _ _ _ H1 H2 I2 (by omega)
  · cases z
theorem yd_31 {q w : Nat} (hq : q < 32) (hw : w < 1048576) : nI (q + 32 * w) &&& 31 = nI q := by
  rw [pk_andN (by omega) 5 (by decide)]
  congr 1
  omega
theorem yd_5 {q w : Nat} (hq : q < 32) (hw : w < 1048576) : nI (q + 32 * w) >>> ((5 : Int32) &&& 31) = nI w := by
  rw [pk_shrN (by omega) _ 5 (by decide)]
  congr 1
  omega
theorem yu_88 (hpa : p + 1 < a) (HK : ky_K kc kk ka kb rt lo hi g) (hT : tk_T a_kind a_value c K N) (hm : ∀ q, mq q = pm_nq K 24 (q + 3) - (q + 1)) (hR : y_R a_now rt) (hZ : b = false → yr_Z c a' post f_accepted f_place f_kept a_kind a_value a_keptKind a_keptA a_keptB a_root a_now) (ih : yr_P kc kk ka kb rt g c K N mq Fin gnT gcT E0 a' b post f_accepted f_place f_kept a_kind a_value a_keptKind a_keptA a_keptB a_root a_now f) (hgo : pm_go K (f + 1) ((88, p) :: ss) a sp = some (a', sp ++ sp1, b)) (S : yr_S K mq c ((88, p) :: ss) a sp fl.length bs.length a_todo) (I : yt_I kc kk ka kb rt g c K N mq Fin gnT gcT E0 (pm_pd ((88, p) :: ss)) a sp1 bs fl V x nl n stk env f_typing f_unbound f_clash f_scope f_doneName f_doneType a_what a_partA a_partB a_types a_firm a_bound a_boundType) (hF : 8 * f ≤ F) : wY_read_46 post (F + 9) (nI c) f_accepted f_place f_kept (nI n) (nI (ss.length + 1)) (nI a) 0 f_typing f_unbound f_clash (nI stk.length) f_scope f_doneName f_doneType a_kind a_value a_keptKind a_keptA a_keptB a_root a_what a_partA a_partB a_mark a_twin a_walk a_pairs a_now a_todo a_types a_firm a_bound a_boundType := by
  have c24 := hT.1
  have hl := (yr_len c24 S).1
  have hf48 := (yr_len c24 S).2
  have st : st_1 a_todo ((20 + 64 * (p + mq p + 1 + 32 * (bs.length - mq p))) :: yk_S K mq ss (bs.length - mq p + 1)) := S.2.2.2.2.2.2.1
  have hH := S.2.2.2.2.2.2.2.2
  have eL := yk_len (K := K) (mq := mq) ss (bs.length - mq p + 1)
  have ha := S.1
  have hfs := S.2.2.2.2.2.1
  rw [List.length_cons] at hl
  rw [← eL]
  have t : pm_turn K 88 p a = (a, some ([], [(88, p)])) := rfl
  obtain ⟨sp2, e0, hgo2⟩ := pm_go_s hgo t
  have k144 := HK.2.2.2.2.2.2.1
  subst e0
  generalize hLq : yk_S K mq ss (bs.length - mq p + 1) = L at st eL ⊢
  obtain ⟨g1, g2, ⟨b1, b2, b3, b4, b5, b6, b7, b8, b9, b10, b11⟩, g4, g5, g6, g7⟩ := I
  rcases g7 with ⟨_, sc, hb1, hb2⟩ | ⟨z, _⟩
  · subst sc
    have dl := g1.1.2.1
    have x15 : x.1 + mq p ≤ 1503 := g1.2.1
    obtain ⟨pf, pc, fl1, bs0, eb, dci, dx⟩ := g1.1.2.2.2.2.2.2.2.2.2.2.2.1 rfl
    obtain ⟨pf1, pf2, pf3, pf4⟩ := pf
    subst eb
    have k3 : K (p + 1) = 3 := pf3 (p + 1) (by omega) (by omega)
    have bl := bs_len _ a b7 (fun z hz => (b8 z hz).1)
    rw [List.length_append, pd_ns_len] at bl
    obtain ⟨y1, stk', es⟩ := ls_1 (l := stk) (by omega)
    obtain ⟨bf, fl', ef⟩ := ls_1 (l := fl) fl1
    subst es ef
    have lf : fl'.length = stk'.length := by simpa using b3
    obtain ⟨m, em⟩ : ∃ m, mq p = m + 1 := ⟨mq p - 1, by omega⟩
    obtain ⟨e1, e2, ee, le1, le2⟩ : ∃ e1 e2, env = e1 ++ e2 ∧ e1.length = m + 1 ∧ e2.length = bs0.length := by
      rw [List.length_append, pd_ns_len] at b5
      exact ⟨env.take (m + 1), env.drop (m + 1), (List.take_append_drop _ _).symm, by rw [List.length_take]; omega, by rw [List.length_drop]; omega⟩
    subst ee
    have bsl : (pd_ns p (mq p) ++ bs0).length = bs0.length + m + 1 := by rw [List.length_append, pd_ns_len, em]; omega
    have ebs : (pd_ns p (mq p) ++ bs0).length - mq p = bs0.length := by rw [bsl, em]; omega
    have hV : dd_V K N mq (Dc_U (ky_d kk rt g)) (pd_ns p (mq p) ++ bs0) V 88 p = dv_bind (dv_fun m V) := by
      show dv_bind (dv_fun (mq p - 1) V) = _
      rw [em]; rfl
    have hB := yt_hb (gnT := gnT) (gcT := gcT) g6 (show (if 88 = 88 then p + mq p + 1 else p) < 24 by rw [if_pos rfl]; omega)
    rw [if_pos rfl, hV, show p + mq p + 1 = p + m + 2 by omega] at hB
    rw [List.length_cons, bsl, lf] at dl
    rw [List.length_cons, lf, Nat.add_sub_cancel] at dci
    have l64 : stk'.length + 1 < 64 := by
      simp at hf48
      omega
    have st2 : st_1 a_todo ((20 + 64 * (p + m + 2 + 32 * bs0.length)) :: L) := by
      have q := st
      rw [ebs, show p + mq p + 1 = p + m + 2 by omega] at q
      exact q
    have g2' := g2
    rw [em] at g2'
    rw [em] at hb1
    refine yw_tf (r := 20) (w := p + m + 2 + 32 * bs0.length) (by omega) (by omega) (by omega) (by omega) st2 ?_
    refine br_f (by decide) (br_f (by decide) (br_f (by decide) (br_f (by decide) (br_f (by decide) (br_f (by decide) (br_f (by decide) (br_f (by decide) (br_t (by decide) ?_))))))))
    rw [yd_31 (by omega) (by omega), yd_5 (by omega) (by omega), bsl]
    refine yw_funend (N := N) HK (by omega) g2' le1 le2 rfl dl dci b1 (by omega) l64 (by omega) hb1 hb2 b6 (b4 y1 List.mem_cons_self) hR hB (fun n' nl' ty' cl' t1 wh pA pB mk wk pr hn' hty hnl W t2 hbt hbd => ?_)
    obtain ⟨S2, pd, le⟩ := yr_turn (td' := a_todo) (fll' := fl'.length) (bsl' := bs0.length + 1) hT.2.1 c24 S t (fun y hy => by cases hy) (show fl'.length ≤ sp.length + 1 by simp at hfs; omega) (by rw [ebs] at hLq; rw [← hLq] at st2; exact st2.2) hH
    rw [← hV] at W
    have dbs : dd_bs mq (pd_ns p (mq p) ++ bs0) (bf :: fl') 88 p = (p + 1, true) :: bs0 := by
      show (p + 1, true) :: (pd_ns p (mq p) ++ bs0).drop (mq p) = _
      rw [List.drop_append_of_le_length (by rw [pd_ns_len]; omega), List.drop_eq_nil_of_le (by rw [pd_ns_len]; omega)]; rfl
    have gd2 := g1.2.2
    have hn2 := yt_hn g5 (fun z => by omega)
    have hc2 := yt_hc g6 hty W
    rw [dbs] at gd2 hn2 hc2
    have b7' := bs_app _ _ b7
    have I2 : yt_I kc kk ka kb rt g c K N mq Fin gnT gcT E0 (pm_pd ss) a sp2 ((p + 1, true) :: bs0) fl' (dd_V K N mq (Dc_U (ky_d kk rt g)) (pd_ns p (mq p) ++ bs0) V 88 p) (cr_1 K mq x 88 p) nl' n' stk' (t1 :: e2) ty' f_unbound cl' (nI bs0.length) (nI (N (p + 1))) (nI t1) wh pA pB a_types a_firm a_bound a_boundType := by
      refine ⟨gd2, W, ⟨b1.2, b2.2, lf, fun z hz => b4 z (List.mem_cons_of_mem _ hz), by rw [List.length_cons, List.length_cons, le2], fun z hz => ?_, ⟨fun z hz => ?_, b7'⟩, fun z hz => ?_, show n' ≤ kc + (x.1 + mq p) by omega, ?_, g1.2.1⟩, g4, hn2, hc2, Or.inr ⟨pd, (p + 1, true), bs0, t1, e2, rfl, rfl, rfl, rfl, rfl, hbd, hbt⟩⟩
      · rcases List.mem_cons.mp hz with q | q
        · rw [q]; exact t2
        · exact b6 z (List.mem_append_right _ q)
      · have := dx z hz
        show z.1 < p + 1
        omega
      · rcases List.mem_cons.mp hz with q | q
        · rw [q]; exact ⟨hpa, k3⟩
        · exact b8 z (List.mem_append_right _ q)
      · rcases hnl with q | q
        · rw [q]
          show n' ≤ kc + Nat.max (Nat.max x.2.1 x.2.2) (x.1 + mq p)
          exact Nat.le_trans (show n' ≤ kc + (x.1 + mq p) by omega) (Nat.add_le_add_left (Nat.le_max_right _ _) _)
        · rw [q]; exact cr_nl b10
    have H1 : pm_go K f ss a (sp ++ [(88, p)]) = some (a', sp ++ [(88, p)] ++ sp2, b) := hgo2
    have H2 : yr_S K mq c ss a (sp ++ [(88, p)]) fl'.length ((p + 1, true) :: bs0).length a_todo := S2
    rw [eL]
    exact ih ss a _ sp2 ((p + 1, true) :: bs0) fl' _ _ nl' n' stk' (t1 :: e2) (F + 7) _ _ _ _ _ _ _ _ _ _ _ _ _ _ _ _ _ _ H1 H2 I2 (by omega)
  · cases z
theorem yw_letbad {post : SY → Prop} {h : Nat} {w sc : Int32} (hT : tk_T a_kind a_value c K N) (ha : a ≤ c) (hk : K a ≠ 11) (hh : h < 64) (z : yb_Z a c post f_accepted f_place f_kept a_kind a_value a_keptKind a_keptA a_keptB a_root a_now) : wpY_finish post (nI c, f_accepted, f_place, f_kept, f_nodes, f_tt, nI a, 0, f_typing, f_unbound, f_clash, nI (h + 1), sc, f_doneName, f_doneType, a_kind, a_value, a_keptKind, a_keptA, a_keptB, a_root, a_what, a_partA, a_partB, a_mark, a_twin, a_walk, a_pairs, a_now, a_todo, a_types, a_firm, a_bound, a_boundType) 17 w := by
  refine br_f (by decide) (br_f (by decide) (br_f (by decide) (br_f (by decide) (br_f (by decide) (br_t (by decide) ?_)))))
  refine yw_take (k := 11) hT ha (by omega) (fun k => (hk k).elim) (fun _ => ?_)
  refine nm_e ?_
  rw [nI_pred]
  refine ⟨vp_in_nI hh (by decide), ?_⟩
  exact nm_e (z _ _ _ _ _ _ _ _ _ _ _ _ _ _ _ _ _ _ _ _ _)
theorem yu_47 (HK : ky_K kc kk ka kb rt lo hi g) (hT : tk_T a_kind a_value c K N) (hm : ∀ q, mq q = pm_nq K 24 (q + 3) - (q + 1)) (hR : y_R a_now rt) (hZ : b = false → yr_Z c a' post f_accepted f_place f_kept a_kind a_value a_keptKind a_keptA a_keptB a_root a_now) (ih : yr_P kc kk ka kb rt g c K N mq Fin gnT gcT E0 a' b post f_accepted f_place f_kept a_kind a_value a_keptKind a_keptA a_keptB a_root a_now f) (hgo : pm_go K (f + 1) ((47, p) :: ss) a sp = some (a', sp ++ sp1, b)) (S : yr_S K mq c ((47, p) :: ss) a sp fl.length bs.length a_todo) (I : yt_I kc kk ka kb rt g c K N mq Fin gnT gcT E0 (pm_pd ((47, p) :: ss)) a sp1 bs fl V x nl n stk env f_typing f_unbound f_clash f_scope f_doneName f_doneType a_what a_partA a_partB a_types a_firm a_bound a_boundType) (hF : 8 * f ≤ F) : wY_read_46 post (F + 9) (nI c) f_accepted f_place f_kept (nI n) (nI (ss.length + 1)) (nI a) 0 f_typing f_unbound f_clash (nI stk.length) f_scope f_doneName f_doneType a_kind a_value a_keptKind a_keptA a_keptB a_root a_what a_partA a_partB a_mark a_twin a_walk a_pairs a_now a_todo a_types a_firm a_bound a_boundType := by
  have c24 := hT.1
  have hl := (yr_len c24 S).1
  have hf48 := (yr_len c24 S).2
  have st : st_1 a_todo (17 :: yk_S K mq ss (bs.length - 1)) := S.2.2.2.2.2.2.1
  have hH := S.2.2.2.2.2.2.2.2
  have eL := yk_len (K := K) (mq := mq) ss (bs.length - 1)
  have ha := S.1
  have hfs := S.2.2.2.2.2.1
  rw [List.length_cons] at hl
  rw [← eL]
  have tt : pm_turn K 47 p a = (if K a = 11 then (a + 1, some ([], [(90, p)])) else (a, none)) := rfl
  have h1 : 1 ≤ fl.length := S.2.2.2.2.2.2.2.1 rfl
  obtain ⟨g1, g2, ⟨b1, b2, b3, b4, b5, b6, b7, b8, b9, b10, b11⟩, g4, g5, g6, g7⟩ := I
  obtain ⟨y1, stk', es⟩ := ls_1 (l := stk) (by omega)
  obtain ⟨bf, fl', ef⟩ := ls_1 (l := fl) h1
  subst es ef
  have lf : fl'.length = stk'.length := by simpa using b3
  have l64 : fl'.length + 1 < 64 := by
    simp at hf48
    omega
  have etop : nI (y1 :: stk').length = nI (fl'.length + 1) := by rw [List.length_cons, lf]
  rw [etop]
  by_cases k : K a = 11
  · rcases g7 with ⟨_, sc, hb1, hb2⟩ | ⟨z, _⟩
    · subst sc
      have t : pm_turn K 47 p a = (a + 1, some ([], [(90, p)])) := by rw [tt, if_pos k]
      obtain ⟨sp2, e0, hgo2⟩ := pm_go_s hgo t
      subst e0
      have x15 : x.1 + 0 ≤ 1503 := g1.2.1
      obtain ⟨_, bne⟩ := g1.1.2.2.2.2.2.2.2.2.2.2.2.2.2 rfl
      obtain ⟨bb, bs0, eb⟩ := ls_1 (l := bs) (by cases bs with
        | nil => exact (bne rfl).elim
        | cons q r => simp)
      subst eb
      have bl := bs_len _ a b7 (fun z hz => (b8 z hz).1)
      rw [List.length_cons] at bl
      obtain ⟨x1, env', ee⟩ := ls_1 (l := env) (by rw [← b5, List.length_cons]; omega)
      subst ee
      have l5 : bs0.length = env'.length := by simpa using b5
      have esc : nI (bb :: bs0).length = nI (env'.length + 1) := by rw [List.length_cons, l5]
      have eL0 : (yk_S K mq ss (bb :: bs0).length.pred).length = ss.length := eL
      obtain ⟨S2, pd, le⟩ := yr_turn (td' := a_todo) (fll' := (false :: fl').length) (bsl' := bs0.length) hT.2.1 c24 S t (fun y hy => by cases hy) (show fl'.length + 1 ≤ sp.length + 1 by simp at hfs; omega) st.2 hH
      rw [esc]
      refine yw_tf (r := 17) (w := 0) (by omega) (by omega) (by omega) (by omega) st (yw_letend hT ha k g2 b2 l64 (fun fr W s2 => ?_))
      have I2 : yt_I kc kk ka kb rt g c K N mq Fin gnT gcT E0 (pm_pd ss) (a + 1) sp2 bs0 (false :: fl') (dv_let V) (cr_1 K mq x 90 p) nl n (y1 :: stk') env' f_typing f_unbound f_clash (nI env'.length) f_doneName f_doneType a_what a_partA a_partB a_types fr a_bound a_boundType := by
        refine ⟨g1.2.2, W, ⟨b1, s2, by rw [List.length_cons, List.length_cons, lf], b4, l5, fun z hz => b6 z (List.mem_cons_of_mem _ hz), b7.2, fun z hz => ?_, show n ≤ kc + (x.1 + 0) by omega, cr_nl b10, g1.2.1⟩, g4, yt_hn g5 (fun z => by omega), yt_hc g6 id W, Or.inl ⟨pd, by rw [l5], hb1.2, hb2.2⟩⟩
        have q := b8 z (List.mem_cons_of_mem _ hz)
        exact ⟨by omega, q.2⟩
      have H1 : pm_go K f ss (a + 1) (sp ++ [(90, p)]) = some (a', sp ++ [(90, p)] ++ sp2, b) := hgo2
      have H2 : yr_S K mq c ss (a + 1) (sp ++ [(90, p)]) (false :: fl').length bs0.length a_todo := S2
      rw [eL, ← etop]
      exact ih ss (a + 1) _ sp2 bs0 (false :: fl') _ _ nl n (y1 :: stk') env' (F + 7) _ _ _ _ _ _ _ _ _ _ _ _ _ _ _ _ _ _ H1 H2 I2 (by omega)
    · cases z
  · have t : pm_turn K 47 p a = (a, none) := by rw [tt, if_neg k]
    obtain ⟨e1, e2⟩ := pm_go_n hgo t
    have z := hZ e2
    rw [e1] at z
    exact yw_tf (r := 17) (w := 0) (by omega) (by omega) (by omega) (by omega) st (yw_letbad hT ha k (by omega) (yb_of z))
theorem yu_40 (HK : ky_K kc kk ka kb rt lo hi g) (hT : tk_T a_kind a_value c K N) (hm : ∀ q, mq q = pm_nq K 24 (q + 3) - (q + 1)) (hR : y_R a_now rt) (hZ : b = false → yr_Z c a' post f_accepted f_place f_kept a_kind a_value a_keptKind a_keptA a_keptB a_root a_now) (ih : yr_P kc kk ka kb rt g c K N mq Fin gnT gcT E0 a' b post f_accepted f_place f_kept a_kind a_value a_keptKind a_keptA a_keptB a_root a_now f) (hgo : pm_go K (f + 1) ((40, p) :: ss) a sp = some (a', sp ++ sp1, b)) (S : yr_S K mq c ((40, p) :: ss) a sp fl.length bs.length a_todo) (I : yt_I kc kk ka kb rt g c K N mq Fin gnT gcT E0 (pm_pd ((40, p) :: ss)) a sp1 bs fl V x nl n stk env f_typing f_unbound f_clash f_scope f_doneName f_doneType a_what a_partA a_partB a_types a_firm a_bound a_boundType) (hF : 8 * f ≤ F) : wY_read_46 post (F + 9) (nI c) f_accepted f_place f_kept (nI n) (nI (ss.length + 1)) (nI a) 0 f_typing f_unbound f_clash (nI stk.length) f_scope f_doneName f_doneType a_kind a_value a_keptKind a_keptA a_keptB a_root a_what a_partA a_partB a_mark a_twin a_walk a_pairs a_now a_todo a_types a_firm a_bound a_boundType := by
  have c24 := hT.1
  have hl := (yr_len c24 S).1
  have hf48 := (yr_len c24 S).2
  have st : st_1 a_todo (18 :: yk_S K mq ss (bs.length + 1)) := S.2.2.2.2.2.2.1
  have hH := S.2.2.2.2.2.2.2.2
  have eL := yk_len (K := K) (mq := mq) ss (bs.length + 1)
  have ha := S.1
  have hfs := S.2.2.2.2.2.1
  rw [List.length_cons] at hl
  rw [← eL]
  obtain ⟨g1, g2, ⟨b1, b2, b3, b4, b5, b6, b7, b8, b9, b10, b11⟩, g4, g5, g6, g7⟩ := I
  have k144 := HK.2.2.2.2.2.2.1
  have bl := bs_len _ a b7 (fun z hz => (b8 z hz).1)
  rcases g7 with ⟨_, sc, hb1, hb2⟩ | ⟨z, _⟩
  · subst sc
    have td : pm_turn K 40 p a = pm_decl K a := rfl
    have bad : ∀ q, pm_turn K 40 p a = (q, none) → yb_Z q c (fun u => match u with | (f_count, f_accepted, f_place, f_kept, f_nodes, f_tt, f_pos, f_bad, f_typing, f_unbound, f_clash, f_top, f_scope, f_doneName, f_doneType, a_kind, a_value, a_keptKind, a_keptA, a_keptB, a_root, a_what, a_partA, a_partB, a_mark, a_twin, a_walk, a_pairs, a_now, a_todo, a_types, a_firm, a_bound, a_boundType) => wY_read_46 post (F + 7 + 1) f_count f_accepted f_place f_kept f_nodes f_tt f_pos f_bad f_typing f_unbound f_clash f_top f_scope f_doneName f_doneType a_kind a_value a_keptKind a_keptA a_keptB a_root a_what a_partA a_partB a_mark a_twin a_walk a_pairs a_now a_todo a_types a_firm a_bound a_boundType) f_accepted f_place f_kept a_kind a_value a_keptKind a_keptA a_keptB a_root a_now := fun q t => by
      obtain ⟨e1, e2⟩ := pm_go_n hgo t
      have z := hZ e2
      rw [e1] at z
      exact yb_of z
    refine yw_tf (r := 18) (w := 0) (by omega) (by omega) (by omega) (by omega) st (yf_18 (mq := mq) (q := pm_nq K 24 (a + 3)) hT ha rfl (hm a) g2 hb1 hb2 b6 b5 bl (fun k8 k3 k3' k9 => by
      have := (hm a)
      have q1 := pm_nq_ge (K := K) 24 (a + 3)
      have q2 := pm_lt hT.2.1 k9 (by decide)
      omega) (by omega) (by omega) st.2 (fun k7 k8 => bad a ?_) (fun kk k3 => bad (a + 1) ?_) (fun k7 k3 k9 => bad (a + 2) ?_) (fun k7 k3 k9 td2 std => ?_) (fun k8 k3 k3' => bad (a + 2) ?_) (fun k8 k3 k3' k9 => bad _ ?_) (fun k8 k3 k3' k9 td2 wh pA pB e1 bd bt std le1 W hbd hbt hE => ?_))
    · rw [td]; unfold pm_decl; rw [if_neg k7, if_neg k8]
    · rw [td]; unfold pm_decl
      rcases kk with kk | kk
      · rw [if_pos kk, if_neg k3]
      · rw [if_neg (by omega), if_pos kk, if_neg k3]
    · rw [td]; unfold pm_decl; rw [if_pos k7, if_pos k3, if_neg k9]
    · have t : pm_turn K 40 p a = (a + 3, some ([(42, 0), (89, a)], [])) := by
        rw [td]; unfold pm_decl; rw [if_pos k7, if_pos k3, if_pos k9]
      obtain ⟨sp2, e0, hgo2⟩ := pm_go_s hgo t
      obtain ⟨S2, pd, le⟩ := yr_turn (td' := td2) (fll' := fl.length) (bsl' := bs.length) hT.2.1 c24 S t (fun y hy => by simp at hy; rcases hy with q | q <;> simp [q, yr_k]) (by omega) std ⟨fun z => by omega, fun z => by omega, hH⟩
      rw [e0] at g1 g5 g6
      have I2 : yt_I kc kk ka kb rt g c K N mq Fin gnT gcT E0 (pm_pd ((42, 0) :: (89, a) :: ss)) (a + 3) sp2 bs fl V x nl n stk env f_typing f_unbound f_clash (nI bs.length) f_doneName f_doneType a_what a_partA a_partB a_types a_firm a_bound a_boundType := by
        refine ⟨g1, g2, ⟨b1, b2, b3, b4, b5, b6, b7, fun z hz => ?_, b9, b10, b11⟩, g4, g5, g6, Or.inl ⟨rfl, rfl, hb1, hb2⟩⟩
        exact ⟨by have := (b8 z hz).1; omega, (b8 z hz).2⟩
      have H1 : pm_go K f ((42, 0) :: (89, a) :: ss) (a + 3) (sp ++ []) = some (a', sp ++ [] ++ sp2, b) := hgo2
      have H2 : yr_S K mq c ((42, 0) :: (89, a) :: ss) (a + 3) (sp ++ []) (fl.length) (bs.length) td2 := S2
      rw [eL]
      rw [show ss.length + 2 = ((42, 0) :: (89, a) :: ss).length from rfl]
      exact ih ((42, 0) :: (89, a) :: ss) (a + 3) _ sp2 bs fl V x nl n stk env (F + 7) _ _ _ _ _ _ _ _ _ _ _ _ _ _ _ _ _ _ H1 H2 (I2) (by omega)
    · rw [td]; unfold pm_decl; rw [if_neg (by omega), if_pos k8, if_pos k3, if_neg k3']
    · rw [td]; unfold pm_decl; rw [if_neg (by omega), if_pos k8, if_pos k3, if_pos k3', if_neg k9]
    · have t : pm_turn K 40 p a = (pm_nq K 24 (a + 3) + 1, some ([(42, 0), (88, a)], [(87, a)])) := by
        rw [td]; unfold pm_decl; rw [if_neg (by omega), if_pos k8, if_pos k3, if_pos k3', if_pos k9]
      obtain ⟨sp2, e0, hgo2⟩ := pm_go_s hgo t
      have nq := pm_nq_ge (K := K) 24 (a + 3)
      have hma := hm a
      have ni := pm_nq_in (K := K) 24 (a + 3)
      generalize pm_nq K 24 (a + 3) = q at *
      have lb2 : bs.length + mq a - mq a = bs.length := by omega
      have std2 : st_1 td2 (2 :: yk_v K mq 88 a (bs.length + mq a) :: yk_S K mq ss (bs.length + mq a - mq a + 1)) := by
        have e88 : yk_v K mq 88 a (bs.length + mq a) = 20 + 64 * (q + 32 * bs.length) := by
          show 20 + 64 * (a + mq a + 1 + 32 * (bs.length + mq a - mq a)) = _
          rw [lb2, show a + mq a + 1 = q by omega]
        rw [e88, lb2]; exact std
      obtain ⟨S2, pd, le⟩ := yr_turn (td' := td2) (fll' := fl.length) (bsl' := bs.length + mq a) hT.2.1 c24 S t (fun y hy => by
        simp at hy
        rcases hy with w | w
        · simp [w, yr_k]
        · rw [w]; exact ⟨by simp [yr_k], fun _ => by show a + 1 < q + 1; omega⟩) (by simp; omega) std2 ⟨fun z => by omega, fun z => by omega, hH⟩
      rw [e0] at g1 g5 g6
      have x15 : x.1 + mq a ≤ 1503 := g1.2.1
      have nsl : (pd_ns a (mq a) ++ bs).length = bs.length + mq a := by rw [List.length_append, pd_ns_len]; omega
      have nsS := bs_ns (p := a) b7 (fun z hz => by have := (b8 z hz).1; omega) (mq a)
      have I2 : yt_I kc kk ka kb rt g c K N mq Fin gnT gcT E0 (pm_pd ((42, 0) :: (88, a) :: ss)) (q + 1) sp2 (pd_ns a (mq a) ++ bs) fl (dv_lams (mq a) V) (cr_1 K mq x 87 a) nl (n + mq a) stk (e1 ++ env) f_typing f_unbound f_clash (nI (bs.length + mq a)) f_doneName f_doneType wh pA pB a_types a_firm bd bt := by
        refine ⟨g1.2.2, W, ⟨b1, b2, b3, b4, by rw [nsl, List.length_append, le1]; omega, hE, nsS.1, fun z hz => ⟨by have := nsS.2 z hz; omega, ?_⟩, show n + mq a ≤ kc + (x.1 + mq a) by omega, cr_nl b10, g1.2.1⟩, g4, yt_hn g5 (fun z => by omega), yt_hc g6 id W, Or.inl ⟨rfl, by rw [nsl], hbd, hbt⟩⟩
        rcases List.mem_append.mp hz with w | w
        · have key : ∀ m y, y ∈ pd_ns a m → a + 1 ≤ y.1 ∧ y.1 < a + 1 + m := by
            intro m
            induction m with
            | zero => intro y hy; cases hy
            | succ m ihm =>
              intro y hy
              rcases List.mem_cons.mp hy with v | v
              · rw [v]; exact ⟨by show a + 1 ≤ a + 1 + m; omega, by show a + 1 + m < a + 1 + (m + 1); omega⟩
              · have := ihm y v; omega
          have kz := key (mq a) z w
          by_cases z1 : z.1 = a + 1
          · rw [z1]; exact k3
          · by_cases z2 : z.1 = a + 2
            · rw [z2]; exact k3'
            · exact ni z.1 (by omega) (by omega)
        · exact (b8 z w).2
      have H1 : pm_go K f ((42, 0) :: (88, a) :: ss) (q + 1) (sp ++ [(87, a)]) = some (a', sp ++ [(87, a)] ++ sp2, b) := hgo2
      have H2 : yr_S K mq c ((42, 0) :: (88, a) :: ss) (q + 1) (sp ++ [(87, a)]) fl.length (pd_ns a (mq a) ++ bs).length td2 := by rw [nsl]; exact S2
      rw [eL]
      rw [show ss.length + 2 = ((42, 0) :: (88, a) :: ss).length from rfl]
      exact ih ((42, 0) :: (88, a) :: ss) (q + 1) _ sp2 (pd_ns a (mq a) ++ bs) fl (dv_lams (mq a) V) (cr_1 K mq x 87 a) nl (n + mq a) stk (e1 ++ env) (F + 7) _ _ _ _ _ _ _ _ _ _ _ _ _ _ _ _ _ _ H1 H2 I2 (by omega)
  · cases z
end
