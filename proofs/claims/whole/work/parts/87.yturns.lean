/-! the turns -/
section
variable {f_count f_accepted f_place f_kept f_nodes f_tt f_pos f_bad f_typing f_unbound f_clash f_top f_scope f_doneName f_doneType : Int32} {a_kind a_value a_keptKind a_keptA a_keptB a_root a_what a_partA a_partB a_mark a_twin a_walk a_pairs a_now a_todo a_types a_firm a_bound a_boundType : Nat → Int32}
variable {post : Int32 → SY → Prop} {kc : Nat} {kk ka kb rt lo hi : Nat → Nat} {g : Nat → tr_T} {c : Nat} {K N mq : Nat → Nat} {Fin : List (Nat × Bool) → List Bool → Prop} {gnT gcT : Option Nat → Prop} {E0 : List (Nat × Bool) × List Bool × dv_W} {a' : Nat} {b : Bool} {f a p F nl n : Nat} {ss sp sp1 : pm_L} {stk env : List Nat} {bs : List (Nat × Bool)} {fl : List Bool} {V : dv_W} {x : Nat × Nat × Nat}
theorem yb_of {q : Nat} (z : yr_Z c q post f_accepted f_place f_kept a_kind a_value a_keptKind a_keptA a_keptB a_root a_now) : yb_Z q c (fun u => match u with | (f_count, f_accepted, f_place, f_kept, f_nodes, f_tt, f_pos, f_bad, f_typing, f_unbound, f_clash, f_top, f_scope, f_doneName, f_doneType, a_kind, a_value, a_keptKind, a_keptA, a_keptB, a_root, a_what, a_partA, a_partB, a_mark, a_twin, a_walk, a_pairs, a_now, a_todo, a_types, a_firm, a_bound, a_boundType) => wY_read_46 post (F + 1) f_count f_accepted f_place f_kept f_nodes f_tt f_pos f_bad f_typing f_unbound f_clash f_top f_scope f_doneName f_doneType a_kind a_value a_keptKind a_keptA a_keptB a_root a_what a_partA a_partB a_mark a_twin a_walk a_pairs a_now a_todo a_types a_firm a_bound a_boundType) f_accepted f_place f_kept a_kind a_value a_keptKind a_keptA a_keptB a_root a_now := fun _ _ _ _ _ _ _ _ _ _ _ _ _ _ _ _ _ _ _ _ _ => yw_bad (z _ _ _ _ _ _ _ _ _ _ _ _ _ _ _ _ _ _ _ _ _ _)
theorem cr_nl {s : Nat} (h : nl ≤ kc + Nat.max x.2.1 x.2.2) : nl ≤ kc + Nat.max (cr_1 K mq x s p).2.1 (cr_1 K mq x s p).2.2 := Nat.le_trans h (Nat.add_le_add_left (Nat.le_max_left _ _) _)
theorem yt_mono {d : Bool} {a1 : Nat} (I : yt_I kc kk ka kb rt g c K N mq Fin gnT gcT E0 d a sp1 bs fl V x nl n stk env f_typing f_unbound f_clash f_scope f_doneName f_doneType a_what a_partA a_partB a_types a_firm a_bound a_boundType) (h : a ≤ a1) : yt_I kc kk ka kb rt g c K N mq Fin gnT gcT E0 d a1 sp1 bs fl V x nl n stk env f_typing f_unbound f_clash f_scope f_doneName f_doneType a_what a_partA a_partB a_types a_firm a_bound a_boundType := by
  obtain ⟨g1, g2, ⟨b1, b2, b3, b4, b5, b6, b7, b8, b9⟩, g3⟩ := I
  exact ⟨g1, g2, ⟨b1, b2, b3, b4, b5, b6, b7, fun z hz => ⟨by have := (b8 z hz).1; omega, (b8 z hz).2⟩, b9⟩, g3⟩
theorem yt_push {s t a1 n' : Nat} {sp2 : pm_L} {stk' : List Nat} {fl' : List Bool} {ty' ub' cl' : Int32} {wh pA pB tys fr : Nat → Int32} (I : yt_I kc kk ka kb rt g c K N mq Fin gnT gcT E0 false a ((s, p) :: sp2) bs fl V x nl n stk env f_typing f_unbound f_clash f_scope f_doneName f_doneType a_what a_partA a_partB a_types a_firm a_bound a_boundType) (hbs : dd_bs mq bs fl s p = bs) (hfl : dd_fl K fl s p = fl')
    (W : ya_W (yh_H gnT gcT) ty' ub' cl' (ya_G kc kk ka kb rt g nl n' (t :: stk') env bs (dd_V K N mq (Dc_U (ky_d kk rt g)) bs V s p) wh pA pB)) (h1 : st_1 tys (t :: stk')) (h2 : st_b fr fl') (h3 : fl'.length = stk'.length + 1) (ht : t < 2000) (hs : ∀ z, z ∈ stk' → z < 2000) (hn : n' ≤ kc + (cr_1 K mq x s p).1) (hty : ty' = 1 → f_typing = 1) (hub : ub' = -1 ∨ 0 ≤ ub') (hu : ub' = -1 → f_unbound = -1 ∧ ¬ (s = 80 ∧ K p = 3 ∧ bx_ix N bs (N p) = none ∧ ky_d kk rt g (N p) = [])) (ha : a ≤ a1) :
    yt_I kc kk ka kb rt g c K N mq Fin gnT gcT E0 false a1 sp2 (dd_bs mq bs fl s p) (dd_fl K fl s p) (dd_V K N mq (Dc_U (ky_d kk rt g)) bs V s p) (cr_1 K mq x s p) nl n' (t :: stk') env ty' ub' cl' f_scope f_doneName f_doneType wh pA pB tys fr a_bound a_boundType := by
  obtain ⟨g1, g2, ⟨b1, b2, b3, b4, b5, b6, b7, b8, b9, b10, b11⟩, g4, g5, g6, g7⟩ := I
  have hc := yt_hc g6 hty W
  have hn1 : ub' = -1 → ∀ r, gn_N K N mq (ky_d kk rt g) sp2 (dd_bs mq bs fl s p) (dd_fl K fl s p) r → gnT r := fun e => yt_hn g5 (hu e).2 (hu e).1
  refine ⟨g1.2.2, ?_, ?_, hub, hn1, hc, ?_⟩
  · rw [hbs]; exact W
  · rw [hbs, hfl]
    refine ⟨h1, h2, h3, fun z hz => ?_, b5, b6, b7, fun z hz => ⟨by have := (b8 z hz).1; omega, (b8 z hz).2⟩, hn, cr_nl b10, g1.2.1⟩
    rcases List.mem_cons.mp hz with e | e
    · rw [e]; exact ht
    · exact hs z e
  · rw [hbs]; exact g7
theorem yu_e {s : Nat} (h38 : s < 38) (HK : ky_K kc kk ka kb rt lo hi g) (hT : tk_T a_kind a_value c K N) (hm : ∀ q, mq q = pm_nq K 24 (q + 3) - (q + 1)) (hR : y_R a_now rt) (hZ : b = false → yr_Z c a' post f_accepted f_place f_kept a_kind a_value a_keptKind a_keptA a_keptB a_root a_now) (ih : yr_P kc kk ka kb rt g c K N mq Fin gnT gcT E0 a' b post f_accepted f_place f_kept a_kind a_value a_keptKind a_keptA a_keptB a_root a_now f) (hgo : pm_go K (f + 1) ((s, p) :: ss) a sp = some (a', sp ++ sp1, b)) (S : yr_S K mq c ((s, p) :: ss) a sp fl.length bs.length a_todo) (I : yt_I kc kk ka kb rt g c K N mq Fin gnT gcT E0 (pm_pd ((s, p) :: ss)) a sp1 bs fl V x nl n stk env f_typing f_unbound f_clash f_scope f_doneName f_doneType a_what a_partA a_partB a_types a_firm a_bound a_boundType) (hF : 8 * f ≤ F) : wY_read_46 post (F + 9) (nI c) f_accepted f_place f_kept (nI n) (nI (ss.length + 1)) (nI a) 0 f_typing f_unbound f_clash (nI stk.length) f_scope f_doneName f_doneType a_kind a_value a_keptKind a_keptA a_keptB a_root a_what a_partA a_partB a_mark a_twin a_walk a_pairs a_now a_todo a_types a_firm a_bound a_boundType := by
  have c24 := hT.1
  have hl := (yr_len c24 S).1
  have ev : yk_v K mq s p bs.length = 1 + 64 * s := if_pos h38
  have ee : yk_e mq s p bs.length = bs.length := by
    unfold yk_e
    rw [if_neg (by omega), if_neg (by omega), if_neg (by omega)]
  have st : st_1 a_todo (yk_v K mq s p bs.length :: yk_S K mq ss (yk_e mq s p bs.length)) := S.2.2.2.2.2.2.1
  have hH : yr_H ss fl.length := by
    have z : yr_H ss (yh_n s fl.length) := S.2.2.2.2.2.2.2.2
    unfold yh_n at z
    rw [if_neg (by omega), if_neg (by omega), if_neg (by omega)] at z
    exact z
  rw [ev, ee] at st
  have eL := yk_len (K := K) (mq := mq) ss bs.length
  have ha := S.1
  rw [List.length_cons] at hl
  rw [← eL]
  refine yw_te (r := 1) (w := s) (by omega) (by omega) (by omega) st (ye_1 hT ha h38 (fun k => ?_) (fun k => ?_))
  · have t : pm_turn K s p a = (a + 1, some ([], [])) := by
      unfold pm_turn
      rw [if_neg (by omega), if_pos h38, if_pos k]
    obtain ⟨sp2, e, hgo2⟩ := pm_go_s hgo t
    obtain ⟨S2, pd, le⟩ := yr_turn (td' := a_todo) (fll' := fl.length) (bsl' := bs.length) hT.2.1 c24 S t (fun x hx => by cases hx) (by have := S.2.2.2.2.2.1; omega) st.2 hH
    have pd0 : pm_pd ((s, p) :: ss) = pm_pd ([] ++ ss) := by
      rw [pd]
      show decide (s = 46) = _
      have q1 : ¬ s = 46 := by omega
      have q2 : ¬ s = 88 := by omega
      have q3 : ¬ s = 89 := by omega
      simp [q1, q2, q3]
    rw [pd0] at I
    rw [e] at I
    rw [eL]
    exact ih ss (a + 1) _ sp2 bs fl V x nl n stk env (F + 7) _ _ _ _ _ _ _ _ _ _ _ _ _ _ _ _ _ _ hgo2 S2 (yt_mono I le) (by omega)
  · have t : pm_turn K s p a = (a, none) := by
      unfold pm_turn
      rw [if_neg (by omega), if_pos h38, if_neg k]
    obtain ⟨e1, e2⟩ := pm_go_n hgo t
    have z := hZ e2
    rw [e1] at z
    exact yw_bad (z _ _ _ _ _ _ _ _ _ _ _ _ _ _ _ _ _ _ _ _ _ _)
theorem yu_42 (HK : ky_K kc kk ka kb rt lo hi g) (hT : tk_T a_kind a_value c K N) (hm : ∀ q, mq q = pm_nq K 24 (q + 3) - (q + 1)) (hR : y_R a_now rt) (hZ : b = false → yr_Z c a' post f_accepted f_place f_kept a_kind a_value a_keptKind a_keptA a_keptB a_root a_now) (ih : yr_P kc kk ka kb rt g c K N mq Fin gnT gcT E0 a' b post f_accepted f_place f_kept a_kind a_value a_keptKind a_keptA a_keptB a_root a_now f) (hgo : pm_go K (f + 1) ((42, p) :: ss) a sp = some (a', sp ++ sp1, b)) (S : yr_S K mq c ((42, p) :: ss) a sp fl.length bs.length a_todo) (I : yt_I kc kk ka kb rt g c K N mq Fin gnT gcT E0 (pm_pd ((42, p) :: ss)) a sp1 bs fl V x nl n stk env f_typing f_unbound f_clash f_scope f_doneName f_doneType a_what a_partA a_partB a_types a_firm a_bound a_boundType) (hF : 8 * f ≤ F) : wY_read_46 post (F + 9) (nI c) f_accepted f_place f_kept (nI n) (nI (ss.length + 1)) (nI a) 0 f_typing f_unbound f_clash (nI stk.length) f_scope f_doneName f_doneType a_kind a_value a_keptKind a_keptA a_keptB a_root a_what a_partA a_partB a_mark a_twin a_walk a_pairs a_now a_todo a_types a_firm a_bound a_boundType := by
  have c24 := hT.1
  have hl := (yr_len c24 S).1
  have hf48 := (yr_len c24 S).2
  have st : st_1 a_todo (2 :: yk_S K mq ss (bs.length)) := S.2.2.2.2.2.2.1
  have hH := S.2.2.2.2.2.2.2.2
  have eL := yk_len (K := K) (mq := mq) ss (bs.length)
  have ha := S.1
  have hfs := S.2.2.2.2.2.1
  rw [List.length_cons] at hl
  rw [← eL]
  by_cases k4 : K a = 4
  · obtain ⟨g1, g2, ⟨b1, b2, b3, b4, b5, b6, b7, b8, b9, b10, b11⟩, g4, g5, g6, g7⟩ := I
    rcases g7 with ⟨_, sc, hb1, hb2⟩ | ⟨z, _⟩
    · subst sc
      have k144 := HK.2.2.2.2.2.2.1
      have bl := bs_len bs a b7 (fun z hz => (b8 z hz).1)
      refine yw_te (r := 2) (w := 0) (by omega) (by omega) (by omega) st (ye_fn hT k4 (by omega) (by omega) (by omega) st.2 (fun k3 => ?_) (fun k3 k5 => ?_) (fun k3 k5 td std => ?_))
      · have t : pm_turn K 42 p a = (a + 1, none) := by
          show pm_expr K a = _
          unfold pm_expr
          rw [if_pos k4, if_neg k3]
        obtain ⟨e1, e2⟩ := pm_go_n hgo t
        have z := hZ e2
        rw [e1] at z
        exact yb_of z
      · have t : pm_turn K 42 p a = (a + 2, none) := by
          show pm_expr K a = _
          unfold pm_expr
          rw [if_pos k4, if_pos k3, if_neg k5]
        obtain ⟨e1, e2⟩ := pm_go_n hgo t
        have z := hZ e2
        rw [e1] at z
        exact yb_of z
      · have t : pm_turn K 42 p a = (a + 3, some ([(42, 0), (86, a)], [(85, a)])) := by
          show pm_expr K a = _
          unfold pm_expr
          rw [if_pos k4, if_pos k3, if_pos k5]
        obtain ⟨sp2, e, hgo2⟩ := pm_go_s hgo t
        obtain ⟨S2, pd, le⟩ := yr_turn (td' := td) (fll' := fl.length) (bsl' := bs.length + 1) hT.2.1 c24 S t (fun y hy => by simp at hy; rcases hy with q | q <;> simp [q, yr_k]) (by simp; omega) std ⟨fun z => by omega, fun z => by omega, hH⟩
        rw [e] at g1 g5 g6
        have W := ya_m g2 (fun G => ya_lam (a + 1) (ya_cg G dv_lams_0))
        have I2 : yt_I kc kk ka kb rt g c K N mq Fin gnT gcT E0 (pm_pd ([(42, 0), (86, a)] ++ ss)) (a + 3) sp2 ((a + 1, false) :: bs) fl (dv_lams 1 V) (cr_1 K mq x 85 a) nl (n + 1) stk (n :: env) f_typing f_unbound f_clash (nI (bs.length + 1)) f_doneName f_doneType (upd a_what n 7) (upd a_partA n (-1)) (upd a_partB n (-1)) a_types a_firm (upd a_bound bs.length (nI (N (a + 1)))) (upd a_boundType bs.length (nI n)) := by
          refine ⟨g1.2.2, W, ⟨b1, b2, b3, b4, by simp [b5], fun z hz => ?_, ⟨fun z hz => ?_, b7⟩, fun z hz => ?_, ?_, cr_nl b10, g1.2.1⟩, g4, yt_hn g5 (fun z => by omega), yt_hc g6 id W, Or.inl ⟨rfl, rfl, ?_, ?_⟩⟩
          · rcases List.mem_cons.mp hz with q | q
            · omega
            · exact b6 z q
          · have := (b8 z hz).1
            show z.1 < a + 1
            omega
          · rcases List.mem_cons.mp hz with q | q
            · rw [q]; exact ⟨by show a + 1 < a + 3; omega, k3⟩
            · exact ⟨by have := (b8 z q).1; omega, (b8 z q).2⟩
          · show n + 1 ≤ kc + (x.1 + 1)
            omega
          · have q := st_1p (x := N (a + 1)) hb1
            rw [List.length_map] at q
            exact q
          · rw [b5]; exact st_1p hb2
        have H1 : pm_go K f ((42, 0) :: (86, a) :: ss) (a + 3) (sp ++ [(85, a)]) = some (a', sp ++ [(85, a)] ++ sp2, b) := hgo2
        have H2 : yr_S K mq c ((42, 0) :: (86, a) :: ss) (a + 3) (sp ++ [(85, a)]) (fl.length) (bs.length + 1) td := S2
        rw [eL]
        rw [show ss.length + 2 = ((42, 0) :: (86, a) :: ss).length from rfl]
        exact ih ((42, 0) :: (86, a) :: ss) (a + 3) _ sp2 ((a + 1, false) :: bs) fl (dv_lams 1 V) (cr_1 K mq x 85 a) nl (n + 1) stk (n :: env) (F + 7) _ _ _ _ _ _ _ _ _ _ _ _ _ _ _ _ _ _ H1 H2 (I2) (by omega)
    · cases z
  · by_cases k12 : K a = 12
    · have lc : a < c := pm_lt hT.2.1 k12 (by decide)
      refine yw_te (r := 2) (w := 0) (by omega) (by omega) (by omega) st (ye_if hT lc k12 (by omega) st.2 (fun td std => ?_))
      have t : pm_turn K 42 p a = (a + 1, some ([(42, 0), (13, 0), (42, 0), (14, 0), (42, 0), (84, a)], [])) := by
        show pm_expr K a = _
        unfold pm_expr
        rw [if_neg k4, if_pos k12]
      obtain ⟨sp2, e, hgo2⟩ := pm_go_s hgo t
      obtain ⟨S2, pd, le⟩ := yr_turn (td' := td) (fll' := fl.length) (bsl' := bs.length) hT.2.1 c24 S t (fun y hy => by simp at hy; rcases hy with q | q | q | q | q | q <;> simp [q, yr_k]) (by omega) std ⟨fun z => by omega, fun z => by omega, fun z => by omega, fun z => by omega, fun z => by omega, fun z => by omega, hH⟩
      rw [e] at I
      have H1 : pm_go K f ((42, 0) :: (13, 0) :: (42, 0) :: (14, 0) :: (42, 0) :: (84, a) :: ss) (a + 1) (sp ++ []) = some (a', sp ++ [] ++ sp2, b) := hgo2
      have H2 : yr_S K mq c ((42, 0) :: (13, 0) :: (42, 0) :: (14, 0) :: (42, 0) :: (84, a) :: ss) (a + 1) (sp ++ []) (fl.length) (bs.length) td := S2
      rw [eL]
      rw [show ss.length + 6 = ((42, 0) :: (13, 0) :: (42, 0) :: (14, 0) :: (42, 0) :: (84, a) :: ss).length from rfl]
      exact ih ((42, 0) :: (13, 0) :: (42, 0) :: (14, 0) :: (42, 0) :: (84, a) :: ss) (a + 1) _ sp2 bs fl V x nl n stk env (F + 7) _ _ _ _ _ _ _ _ _ _ _ _ _ _ _ _ _ _ H1 H2 (yt_mono I le) (by omega)
    · refine yw_te (r := 2) (w := 0) (by omega) (by omega) (by omega) st (ye_2 hT ha k4 k12 (by omega) st.2 (fun td1 std1 => ?_))
      refine yl_3 (F := F + 3) hT ha (by omega) std1 (fun td std => ?_)
      have t : pm_turn K 42 p a = (a, some ([(55, 0), (54, 0), (53, 0), (52, 0), (51, 0), (50, 0)], [])) := by
        show pm_expr K a = _
        unfold pm_expr
        rw [if_neg k4, if_neg k12]
      obtain ⟨sp2, e, hgo2⟩ := pm_go_s hgo t
      obtain ⟨S2, pd, le⟩ := yr_turn (td' := td) (fll' := fl.length) (bsl' := bs.length) hT.2.1 c24 S t (fun y hy => by simp at hy; rcases hy with q | q | q | q | q | q <;> simp [q, yr_k]) (by omega) std ⟨fun z => by omega, fun z => by omega, fun z => by omega, fun z => by omega, fun z => by omega, fun z => by omega, hH⟩
      rw [e] at I
      have H1 : pm_go K f ((55, 0) :: (54, 0) :: (53, 0) :: (52, 0) :: (51, 0) :: (50, 0) :: ss) (a) (sp ++ []) = some (a', sp ++ [] ++ sp2, b) := hgo2
      have H2 : yr_S K mq c ((55, 0) :: (54, 0) :: (53, 0) :: (52, 0) :: (51, 0) :: (50, 0) :: ss) (a) (sp ++ []) (fl.length) (bs.length) td := S2
      rw [eL]
      rw [show ss.length + 6 = ((55, 0) :: (54, 0) :: (53, 0) :: (52, 0) :: (51, 0) :: (50, 0) :: ss).length from rfl]
      exact ih ((55, 0) :: (54, 0) :: (53, 0) :: (52, 0) :: (51, 0) :: (50, 0) :: ss) (a) _ sp2 bs fl V x nl n stk env (F + 2) _ _ _ _ _ _ _ _ _ _ _ _ _ _ _ _ _ _ H1 H2 (yt_mono I le) (by omega)
theorem yu_44 (HK : ky_K kc kk ka kb rt lo hi g) (hT : tk_T a_kind a_value c K N) (hm : ∀ q, mq q = pm_nq K 24 (q + 3) - (q + 1)) (hR : y_R a_now rt) (hZ : b = false → yr_Z c a' post f_accepted f_place f_kept a_kind a_value a_keptKind a_keptA a_keptB a_root a_now) (ih : yr_P kc kk ka kb rt g c K N mq Fin gnT gcT E0 a' b post f_accepted f_place f_kept a_kind a_value a_keptKind a_keptA a_keptB a_root a_now f) (hgo : pm_go K (f + 1) ((44, p) :: ss) a sp = some (a', sp ++ sp1, b)) (S : yr_S K mq c ((44, p) :: ss) a sp fl.length bs.length a_todo) (I : yt_I kc kk ka kb rt g c K N mq Fin gnT gcT E0 (pm_pd ((44, p) :: ss)) a sp1 bs fl V x nl n stk env f_typing f_unbound f_clash f_scope f_doneName f_doneType a_what a_partA a_partB a_types a_firm a_bound a_boundType) (hF : 8 * f ≤ F) : wY_read_46 post (F + 9) (nI c) f_accepted f_place f_kept (nI n) (nI (ss.length + 1)) (nI a) 0 f_typing f_unbound f_clash (nI stk.length) f_scope f_doneName f_doneType a_kind a_value a_keptKind a_keptA a_keptB a_root a_what a_partA a_partB a_mark a_twin a_walk a_pairs a_now a_todo a_types a_firm a_bound a_boundType := by
  have c24 := hT.1
  have hl := (yr_len c24 S).1
  have hf48 := (yr_len c24 S).2
  have st : st_1 a_todo (14 :: yk_S K mq ss (bs.length)) := S.2.2.2.2.2.2.1
  have hH := S.2.2.2.2.2.2.2.2
  have eL := yk_len (K := K) (mq := mq) ss (bs.length)
  have ha := S.1
  have hfs := S.2.2.2.2.2.1
  rw [List.length_cons] at hl
  rw [← eL]
  refine yw_tf (r := 14) (w := 0) (by omega) (by omega) (by omega) (by omega) st (yf_14 hT ha (by omega) st.2 (fun k td std => ?_) (fun k => ?_) (fun k k' => ?_))
  · have t : pm_turn K 44 p a = (a + 1, some ([(42, 0), (16, 0), (83, a)], [])) := by
      show (if K a = 17 then (a + 1, some ([(42, 0), (16, 0), (83, a)], [])) else if K a = 16 then (a + 1, some ([], [])) else (a, none)) = _
      rw [if_pos k]
    obtain ⟨sp2, e, hgo2⟩ := pm_go_s hgo t
    have e83 : yk_v K mq 83 a bs.length = 15 := by
      show (if K a = 17 then 15 else _) = 15
      rw [if_pos k]
    have std2 : st_1 td (2 :: (1 + 64 * 16) :: yk_v K mq 83 a bs.length :: yk_S K mq ss bs.length) := by rw [e83]; exact std
    obtain ⟨S2, pd, le⟩ := yr_turn (td' := td) (fll' := fl.length) (bsl' := bs.length) hT.2.1 c24 S t (fun y hy => by simp at hy; rcases hy with q | q | q <;> simp [q, yr_k]) (by omega) std2 ⟨fun z => by omega, fun z => by omega, fun z => by omega, hH⟩
    rw [e] at I
    have H1 : pm_go K f ((42, 0) :: (16, 0) :: (83, a) :: ss) (a + 1) (sp ++ []) = some (a', sp ++ [] ++ sp2, b) := hgo2
    have H2 : yr_S K mq c ((42, 0) :: (16, 0) :: (83, a) :: ss) (a + 1) (sp ++ []) (fl.length) (bs.length) td := S2
    rw [eL]
    rw [show ss.length + 3 = ((42, 0) :: (16, 0) :: (83, a) :: ss).length from rfl]
    exact ih ((42, 0) :: (16, 0) :: (83, a) :: ss) (a + 1) _ sp2 bs fl V x nl n stk env (F + 7) _ _ _ _ _ _ _ _ _ _ _ _ _ _ _ _ _ _ H1 H2 (yt_mono I le) (by omega)
  · have t : pm_turn K 44 p a = (a + 1, some ([], [])) := by
      show (if K a = 17 then (a + 1, some ([(42, 0), (16, 0), (83, a)], [])) else if K a = 16 then (a + 1, some ([], [])) else (a, none)) = _
      rw [if_neg (by omega), if_pos k]
    obtain ⟨sp2, e, hgo2⟩ := pm_go_s hgo t
    obtain ⟨S2, pd, le⟩ := yr_turn (td' := a_todo) (fll' := fl.length) (bsl' := bs.length) hT.2.1 c24 S t (fun y hy => by cases hy) (by omega) st.2 hH
    rw [e] at I
    have pd0 : pm_pd ((44, p) :: ss) = pm_pd ([] ++ ss) := by rw [pd]; rfl
    rw [pd0] at I
    rw [eL]
    exact ih ss (a + 1) _ sp2 bs fl V x nl n stk env (F + 7) _ _ _ _ _ _ _ _ _ _ _ _ _ _ _ _ _ _ hgo2 S2 (yt_mono I le) (by omega)
  · have t : pm_turn K 44 p a = (a, none) := by
      show (if K a = 17 then (a + 1, some ([(42, 0), (16, 0), (83, a)], [])) else if K a = 16 then (a + 1, some ([], [])) else (a, none)) = _
      rw [if_neg k, if_neg k']
    obtain ⟨e1, e2⟩ := pm_go_n hgo t
    have z := hZ e2
    rw [e1] at z
    exact yw_bad (z _ _ _ _ _ _ _ _ _ _ _ _ _ _ _ _ _ _ _ _ _ _)
theorem yu_46 (HK : ky_K kc kk ka kb rt lo hi g) (hT : tk_T a_kind a_value c K N) (hm : ∀ q, mq q = pm_nq K 24 (q + 3) - (q + 1)) (hR : y_R a_now rt) (hZ : b = false → yr_Z c a' post f_accepted f_place f_kept a_kind a_value a_keptKind a_keptA a_keptB a_root a_now) (ih : yr_P kc kk ka kb rt g c K N mq Fin gnT gcT E0 a' b post f_accepted f_place f_kept a_kind a_value a_keptKind a_keptA a_keptB a_root a_now f) (hgo : pm_go K (f + 1) ((46, p) :: ss) a sp = some (a', sp ++ sp1, b)) (S : yr_S K mq c ((46, p) :: ss) a sp fl.length bs.length a_todo) (I : yt_I kc kk ka kb rt g c K N mq Fin gnT gcT E0 (pm_pd ((46, p) :: ss)) a sp1 bs fl V x nl n stk env f_typing f_unbound f_clash f_scope f_doneName f_doneType a_what a_partA a_partB a_types a_firm a_bound a_boundType) (hF : 8 * f ≤ F) : wY_read_46 post (F + 9) (nI c) f_accepted f_place f_kept (nI n) (nI (ss.length + 1)) (nI a) 0 f_typing f_unbound f_clash (nI stk.length) f_scope f_doneName f_doneType a_kind a_value a_keptKind a_keptA a_keptB a_root a_what a_partA a_partB a_mark a_twin a_walk a_pairs a_now a_todo a_types a_firm a_bound a_boundType := by
  have c24 := hT.1
  have hl := (yr_len c24 S).1
  have hf48 := (yr_len c24 S).2
  have st : st_1 a_todo (16 :: yk_S K mq ss (bs.length - 1)) := S.2.2.2.2.2.2.1
  have hH := S.2.2.2.2.2.2.2.2
  have eL := yk_len (K := K) (mq := mq) ss (bs.length - 1)
  have ha := S.1
  have hfs := S.2.2.2.2.2.1
  rw [List.length_cons] at hl
  rw [← eL]
  obtain ⟨g1, g2, ⟨b1, b2, b3, b4, b5, b6, b7, b8, b9, b10, b11⟩, g4, g5, g6, g7⟩ := I
  rcases g7 with ⟨z, _⟩ | ⟨_, bb, bs', e, env', eb, ee, sc, dn, dt, hb1, hb2⟩
  · cases z
  · subst eb ee sc dn dt
    have bl := bs_len (bb :: bs') a b7 (fun z hz => (b8 z hz).1)
    rw [List.length_cons] at bl
    have b8b := b8 bb List.mem_cons_self
    have v12 := ((hT.2.2 bb.1 (by omega)).2.2.1 b8b.2).2
    have l5 : bs'.length = env'.length := by simpa using b5
    refine yw_tf (r := 16) (w := 0) (by omega) (by omega) (by omega) (by omega) st (yf_16 hT ha (by omega) v12 (b6 e List.mem_cons_self) (by omega) st.2 (fun k td std => ?_) (fun k => ?_))
    · have t : pm_turn K 46 p a = (a + 1, some ([(42, 0), (47, p)], [])) := by
        show (if K a = 10 then (a + 1, some ([(42, 0), (47, p)], [])) else (a, none)) = _
        rw [if_pos k]
      obtain ⟨sp2, e0, hgo2⟩ := pm_go_s hgo t
      obtain ⟨S2, pd, le⟩ := yr_turn (td' := td) (fll' := fl.length) (bsl' := (bb :: bs').length) hT.2.1 c24 S t (fun y hy => by simp at hy; rcases hy with q | q <;> simp [q, yr_k]) (by omega) std ⟨fun z => by omega, fun z => Nat.succ_le_succ (Nat.zero_le _), hH⟩
      rw [e0] at g1 g5 g6
      have I2 : yt_I kc kk ka kb rt g c K N mq Fin gnT gcT E0 (pm_pd ([(42, 0), (47, p)] ++ ss)) (a + 1) sp2 (bb :: bs') fl V x nl n stk (e :: env') f_typing f_unbound f_clash (nI (bs'.length + 1)) (nI (N bb.1)) (nI e) a_what a_partA a_partB a_types a_firm (upd a_bound bs'.length (nI (N bb.1))) (upd a_boundType bs'.length (nI e)) := by
        refine ⟨g1, g2, ⟨b1, b2, b3, b4, b5, b6, b7, fun z hz => ⟨by have := (b8 z hz).1; omega, (b8 z hz).2⟩, b9, b10, b11⟩, g4, g5, g6, Or.inl ⟨rfl, rfl, ?_, ?_⟩⟩
        · have q := st_1p (x := N bb.1) hb1
          rw [List.length_map] at q
          exact q
        · rw [l5]; exact st_1p hb2
      have H1 : pm_go K f ((42, 0) :: (47, p) :: ss) (a + 1) (sp ++ []) = some (a', sp ++ [] ++ sp2, b) := hgo2
      have H2 : yr_S K mq c ((42, 0) :: (47, p) :: ss) (a + 1) (sp ++ []) (fl.length) ((bb :: bs').length) td := S2
      rw [eL]
      rw [show ss.length + 2 = ((42, 0) :: (47, p) :: ss).length from rfl]
      exact ih ((42, 0) :: (47, p) :: ss) (a + 1) _ sp2 (bb :: bs') fl V x nl n stk (e :: env') (F + 7) _ _ _ _ _ _ _ _ _ _ _ _ _ _ _ _ _ _ H1 H2 (I2) (by omega)
    · have t : pm_turn K 46 p a = (a, none) := by
        show (if K a = 10 then (a + 1, some ([(42, 0), (47, p)], [])) else (a, none)) = _
        rw [if_neg k]
      obtain ⟨e1, e2⟩ := pm_go_n hgo t
      have z := hZ e2
      rw [e1] at z
      exact yw_bad (z _ _ _ _ _ _ _ _ _ _ _ _ _ _ _ _ _ _ _ _ _ _)
theorem yu_50 (HK : ky_K kc kk ka kb rt lo hi g) (hT : tk_T a_kind a_value c K N) (hm : ∀ q, mq q = pm_nq K 24 (q + 3) - (q + 1)) (hR : y_R a_now rt) (hZ : b = false → yr_Z c a' post f_accepted f_place f_kept a_kind a_value a_keptKind a_keptA a_keptB a_root a_now) (ih : yr_P kc kk ka kb rt g c K N mq Fin gnT gcT E0 a' b post f_accepted f_place f_kept a_kind a_value a_keptKind a_keptA a_keptB a_root a_now f) (hgo : pm_go K (f + 1) ((50, p) :: ss) a sp = some (a', sp ++ sp1, b)) (S : yr_S K mq c ((50, p) :: ss) a sp fl.length bs.length a_todo) (I : yt_I kc kk ka kb rt g c K N mq Fin gnT gcT E0 (pm_pd ((50, p) :: ss)) a sp1 bs fl V x nl n stk env f_typing f_unbound f_clash f_scope f_doneName f_doneType a_what a_partA a_partB a_types a_firm a_bound a_boundType) (hF : 8 * f ≤ F) : wY_read_46 post (F + 9) (nI c) f_accepted f_place f_kept (nI n) (nI (ss.length + 1)) (nI a) 0 f_typing f_unbound f_clash (nI stk.length) f_scope f_doneName f_doneType a_kind a_value a_keptKind a_keptA a_keptB a_root a_what a_partA a_partB a_mark a_twin a_walk a_pairs a_now a_todo a_types a_firm a_bound a_boundType := by
  have c24 := hT.1
  have hl := (yr_len c24 S).1
  have hf48 := (yr_len c24 S).2
  have st : st_1 a_todo (4 :: yk_S K mq ss (bs.length)) := S.2.2.2.2.2.2.1
  have hH := S.2.2.2.2.2.2.2.2
  have eL := yk_len (K := K) (mq := mq) ss (bs.length)
  have ha := S.1
  have hfs := S.2.2.2.2.2.1
  rw [List.length_cons] at hl
  rw [← eL]
  have tt : pm_turn K 50 p a = (if K a = 25 then (a + 1, some ([(55, 0), (54, 0), (53, 0), (52, 0), (51, 0), (50, 0), (83, a)], [])) else (a, some ([], []))) := rfl
  refine yw_te (r := 4) (w := 0) (by omega) (by omega) (by omega) st (ye_4 hT ha (by omega) st.2 (fun k => ?_) (fun k td1 std1 => ?_))
  · have t : pm_turn K 50 p a = (a, some ([], [])) := by rw [tt, if_neg k]
    obtain ⟨sp2, e, hgo2⟩ := pm_go_s hgo t
    obtain ⟨S2, pd, le⟩ := yr_turn (td' := a_todo) (fll' := fl.length) (bsl' := bs.length) hT.2.1 c24 S t (fun y hy => by cases hy) (by omega) st.2 hH
    rw [e] at I
    have pd0 : pm_pd ((50, p) :: ss) = pm_pd ([] ++ ss) := by rw [pd]; rfl
    rw [pd0] at I
    rw [eL]
    exact ih ss a _ sp2 bs fl V x nl n stk env (F + 7) _ _ _ _ _ _ _ _ _ _ _ _ _ _ _ _ _ _ hgo2 S2 (yt_mono I le) (by omega)
  · have t : pm_turn K 50 p a = (a + 1, some ([(55, 0), (54, 0), (53, 0), (52, 0), (51, 0), (50, 0), (83, a)], [])) := by rw [tt, if_pos k]
    obtain ⟨sp2, e, hgo2⟩ := pm_go_s hgo t
    refine yl_3 (L := (23 + 64 * a) :: yk_S K mq ss bs.length) (F := F + 3) hT (pm_lt hT.2.1 k (by decide)) (by simp; omega) std1 (fun td std => ?_)
    have e83 : yk_v K mq 83 a bs.length = 23 + 64 * a := by
      show (if K a = 17 then 15 else if K a = 18 then 24 + 64 * a else if K a = 25 then 23 + 64 * a else 25 + 64 * a) = _
      rw [if_neg (by omega), if_neg (by omega), if_pos (by omega)]
    have std2 : st_1 td (13 :: 12 :: 10 :: 8 :: 6 :: 4 :: yk_v K mq 83 a bs.length :: yk_S K mq ss bs.length) := by rw [e83]; exact std
    obtain ⟨S2, pd, le⟩ := yr_turn (td' := td) (fll' := fl.length) (bsl' := bs.length) hT.2.1 c24 S t (fun y hy => by simp at hy; rcases hy with q | q | q | q | q | q | q <;> simp [q, yr_k]) (by omega) std2 ⟨fun z => by omega, fun z => by omega, fun z => by omega, fun z => by omega, fun z => by omega, fun z => by omega, fun z => by omega, hH⟩
    rw [e] at I
    simp only [List.length_cons]
    have H1 : pm_go K f ((55, 0) :: (54, 0) :: (53, 0) :: (52, 0) :: (51, 0) :: (50, 0) :: (83, a) :: ss) (a + 1) (sp ++ []) = some (a', sp ++ [] ++ sp2, b) := hgo2
    have H2 : yr_S K mq c ((55, 0) :: (54, 0) :: (53, 0) :: (52, 0) :: (51, 0) :: (50, 0) :: (83, a) :: ss) (a + 1) (sp ++ []) (fl.length) (bs.length) td := S2
    rw [eL]
    rw [show ss.length + 7 = ((55, 0) :: (54, 0) :: (53, 0) :: (52, 0) :: (51, 0) :: (50, 0) :: (83, a) :: ss).length from rfl]
    exact ih ((55, 0) :: (54, 0) :: (53, 0) :: (52, 0) :: (51, 0) :: (50, 0) :: (83, a) :: ss) (a + 1) _ sp2 bs fl V x nl n stk env (F + 2) _ _ _ _ _ _ _ _ _ _ _ _ _ _ _ _ _ _ H1 H2 (yt_mono I le) (by omega)
theorem yu_51 (HK : ky_K kc kk ka kb rt lo hi g) (hT : tk_T a_kind a_value c K N) (hm : ∀ q, mq q = pm_nq K 24 (q + 3) - (q + 1)) (hR : y_R a_now rt) (hZ : b = false → yr_Z c a' post f_accepted f_place f_kept a_kind a_value a_keptKind a_keptA a_keptB a_root a_now) (ih : yr_P kc kk ka kb rt g c K N mq Fin gnT gcT E0 a' b post f_accepted f_place f_kept a_kind a_value a_keptKind a_keptA a_keptB a_root a_now f) (hgo : pm_go K (f + 1) ((51, p) :: ss) a sp = some (a', sp ++ sp1, b)) (S : yr_S K mq c ((51, p) :: ss) a sp fl.length bs.length a_todo) (I : yt_I kc kk ka kb rt g c K N mq Fin gnT gcT E0 (pm_pd ((51, p) :: ss)) a sp1 bs fl V x nl n stk env f_typing f_unbound f_clash f_scope f_doneName f_doneType a_what a_partA a_partB a_types a_firm a_bound a_boundType) (hF : 8 * f ≤ F) : wY_read_46 post (F + 9) (nI c) f_accepted f_place f_kept (nI n) (nI (ss.length + 1)) (nI a) 0 f_typing f_unbound f_clash (nI stk.length) f_scope f_doneName f_doneType a_kind a_value a_keptKind a_keptA a_keptB a_root a_what a_partA a_partB a_mark a_twin a_walk a_pairs a_now a_todo a_types a_firm a_bound a_boundType := by
  have c24 := hT.1
  have hl := (yr_len c24 S).1
  have hf48 := (yr_len c24 S).2
  have st : st_1 a_todo (6 :: yk_S K mq ss (bs.length)) := S.2.2.2.2.2.2.1
  have hH := S.2.2.2.2.2.2.2.2
  have eL := yk_len (K := K) (mq := mq) ss (bs.length)
  have ha := S.1
  have hfs := S.2.2.2.2.2.1
  rw [List.length_cons] at hl
  rw [← eL]
  have tt : pm_turn K 51 p a = (if K a = 18 then (a + 1, some ([(55, 0), (54, 0), (53, 0), (52, 0), (51, 0), (83, a)], [])) else (a, some ([], []))) := rfl
  refine yw_te (r := 6) (w := 0) (by omega) (by omega) (by omega) st (ye_6 hT ha (by omega) st.2 (fun k => ?_) (fun k td1 std1 => ?_))
  · have t : pm_turn K 51 p a = (a, some ([], [])) := by rw [tt, if_neg k]
    obtain ⟨sp2, e, hgo2⟩ := pm_go_s hgo t
    obtain ⟨S2, pd, le⟩ := yr_turn (td' := a_todo) (fll' := fl.length) (bsl' := bs.length) hT.2.1 c24 S t (fun y hy => by cases hy) (by omega) st.2 hH
    rw [e] at I
    have pd0 : pm_pd ((51, p) :: ss) = pm_pd ([] ++ ss) := by rw [pd]; rfl
    rw [pd0] at I
    rw [eL]
    exact ih ss a _ sp2 bs fl V x nl n stk env (F + 7) _ _ _ _ _ _ _ _ _ _ _ _ _ _ _ _ _ _ hgo2 S2 (yt_mono I le) (by omega)
  · have t : pm_turn K 51 p a = (a + 1, some ([(55, 0), (54, 0), (53, 0), (52, 0), (51, 0), (83, a)], [])) := by rw [tt, if_pos k]
    obtain ⟨sp2, e, hgo2⟩ := pm_go_s hgo t
    refine yl_5 (L := (24 + 64 * a) :: yk_S K mq ss bs.length) (F := F + 4) hT (pm_lt hT.2.1 k (by decide)) (by simp; omega) std1 (fun td std => ?_)
    have e83 : yk_v K mq 83 a bs.length = 24 + 64 * a := by
      show (if K a = 17 then 15 else if K a = 18 then 24 + 64 * a else if K a = 25 then 23 + 64 * a else 25 + 64 * a) = _
      rw [if_neg (by omega), if_pos (by omega)]
    have std2 : st_1 td (13 :: 12 :: 10 :: 8 :: 6 :: yk_v K mq 83 a bs.length :: yk_S K mq ss bs.length) := by rw [e83]; exact std
    obtain ⟨S2, pd, le⟩ := yr_turn (td' := td) (fll' := fl.length) (bsl' := bs.length) hT.2.1 c24 S t (fun y hy => by simp at hy; rcases hy with q | q | q | q | q | q <;> simp [q, yr_k]) (by omega) std2 ⟨fun z => by omega, fun z => by omega, fun z => by omega, fun z => by omega, fun z => by omega, fun z => by omega, hH⟩
    rw [e] at I
    simp only [List.length_cons]
    have H1 : pm_go K f ((55, 0) :: (54, 0) :: (53, 0) :: (52, 0) :: (51, 0) :: (83, a) :: ss) (a + 1) (sp ++ []) = some (a', sp ++ [] ++ sp2, b) := hgo2
    have H2 : yr_S K mq c ((55, 0) :: (54, 0) :: (53, 0) :: (52, 0) :: (51, 0) :: (83, a) :: ss) (a + 1) (sp ++ []) (fl.length) (bs.length) td := S2
    rw [eL]
    rw [show ss.length + 6 = ((55, 0) :: (54, 0) :: (53, 0) :: (52, 0) :: (51, 0) :: (83, a) :: ss).length from rfl]
    exact ih ((55, 0) :: (54, 0) :: (53, 0) :: (52, 0) :: (51, 0) :: (83, a) :: ss) (a + 1) _ sp2 bs fl V x nl n stk env (F + 3) _ _ _ _ _ _ _ _ _ _ _ _ _ _ _ _ _ _ H1 H2 (yt_mono I le) (by omega)
theorem yu_52 (HK : ky_K kc kk ka kb rt lo hi g) (hT : tk_T a_kind a_value c K N) (hm : ∀ q, mq q = pm_nq K 24 (q + 3) - (q + 1)) (hR : y_R a_now rt) (hZ : b = false → yr_Z c a' post f_accepted f_place f_kept a_kind a_value a_keptKind a_keptA a_keptB a_root a_now) (ih : yr_P kc kk ka kb rt g c K N mq Fin gnT gcT E0 a' b post f_accepted f_place f_kept a_kind a_value a_keptKind a_keptA a_keptB a_root a_now f) (hgo : pm_go K (f + 1) ((52, p) :: ss) a sp = some (a', sp ++ sp1, b)) (S : yr_S K mq c ((52, p) :: ss) a sp fl.length bs.length a_todo) (I : yt_I kc kk ka kb rt g c K N mq Fin gnT gcT E0 (pm_pd ((52, p) :: ss)) a sp1 bs fl V x nl n stk env f_typing f_unbound f_clash f_scope f_doneName f_doneType a_what a_partA a_partB a_types a_firm a_bound a_boundType) (hF : 8 * f ≤ F) : wY_read_46 post (F + 9) (nI c) f_accepted f_place f_kept (nI n) (nI (ss.length + 1)) (nI a) 0 f_typing f_unbound f_clash (nI stk.length) f_scope f_doneName f_doneType a_kind a_value a_keptKind a_keptA a_keptB a_root a_what a_partA a_partB a_mark a_twin a_walk a_pairs a_now a_todo a_types a_firm a_bound a_boundType := by
  have c24 := hT.1
  have hl := (yr_len c24 S).1
  have hf48 := (yr_len c24 S).2
  have st : st_1 a_todo (8 :: yk_S K mq ss (bs.length)) := S.2.2.2.2.2.2.1
  have hH := S.2.2.2.2.2.2.2.2
  have eL := yk_len (K := K) (mq := mq) ss (bs.length)
  have ha := S.1
  have hfs := S.2.2.2.2.2.1
  rw [List.length_cons] at hl
  rw [← eL]
  have tt : pm_turn K 52 p a = (if K a = 21 then (a + 1, some ([(55, 0), (54, 0), (53, 0), (83, a), (52, 0)], [])) else (a, some ([], []))) := rfl
  refine yw_te (r := 8) (w := 0) (by omega) (by omega) (by omega) st (ye_8 hT ha (by omega) st.2 (fun k => ?_) (fun k td1 std1 => ?_))
  · have t : pm_turn K 52 p a = (a, some ([], [])) := by rw [tt, if_neg k]
    obtain ⟨sp2, e, hgo2⟩ := pm_go_s hgo t
    obtain ⟨S2, pd, le⟩ := yr_turn (td' := a_todo) (fll' := fl.length) (bsl' := bs.length) hT.2.1 c24 S t (fun y hy => by cases hy) (by omega) st.2 hH
    rw [e] at I
    have pd0 : pm_pd ((52, p) :: ss) = pm_pd ([] ++ ss) := by rw [pd]; rfl
    rw [pd0] at I
    rw [eL]
    exact ih ss a _ sp2 bs fl V x nl n stk env (F + 7) _ _ _ _ _ _ _ _ _ _ _ _ _ _ _ _ _ _ hgo2 S2 (yt_mono I le) (by omega)
  · have t : pm_turn K 52 p a = (a + 1, some ([(55, 0), (54, 0), (53, 0), (83, a), (52, 0)], [])) := by rw [tt, if_pos k]
    obtain ⟨sp2, e, hgo2⟩ := pm_go_s hgo t
    refine yl_9 (L := (25 + 64 * a) :: 8 :: yk_S K mq ss bs.length) (F := F + 6) hT (pm_lt hT.2.1 k (by decide)) (by simp; omega) std1 (fun td std => ?_)
    have e83 : yk_v K mq 83 a bs.length = 25 + 64 * a := by
      show (if K a = 17 then 15 else if K a = 18 then 24 + 64 * a else if K a = 25 then 23 + 64 * a else 25 + 64 * a) = _
      rw [if_neg (by omega), if_neg (by omega), if_neg (by omega)]
    have std2 : st_1 td (13 :: 12 :: 10 :: yk_v K mq 83 a bs.length :: 8 :: yk_S K mq ss bs.length) := by rw [e83]; exact std
    obtain ⟨S2, pd, le⟩ := yr_turn (td' := td) (fll' := fl.length) (bsl' := bs.length) hT.2.1 c24 S t (fun y hy => by simp at hy; rcases hy with q | q | q | q | q <;> simp [q, yr_k]) (by omega) std2 ⟨fun z => by omega, fun z => by omega, fun z => by omega, fun z => by omega, fun z => by omega, hH⟩
    rw [e] at I
    simp only [List.length_cons]
    have H1 : pm_go K f ((55, 0) :: (54, 0) :: (53, 0) :: (83, a) :: (52, 0) :: ss) (a + 1) (sp ++ []) = some (a', sp ++ [] ++ sp2, b) := hgo2
    have H2 : yr_S K mq c ((55, 0) :: (54, 0) :: (53, 0) :: (83, a) :: (52, 0) :: ss) (a + 1) (sp ++ []) (fl.length) (bs.length) td := S2
    rw [eL]
    rw [show ss.length + 5 = ((55, 0) :: (54, 0) :: (53, 0) :: (83, a) :: (52, 0) :: ss).length from rfl]
    exact ih ((55, 0) :: (54, 0) :: (53, 0) :: (83, a) :: (52, 0) :: ss) (a + 1) _ sp2 bs fl V x nl n stk env (F + 5) _ _ _ _ _ _ _ _ _ _ _ _ _ _ _ _ _ _ H1 H2 (yt_mono I le) (by omega)
theorem yu_53 (HK : ky_K kc kk ka kb rt lo hi g) (hT : tk_T a_kind a_value c K N) (hm : ∀ q, mq q = pm_nq K 24 (q + 3) - (q + 1)) (hR : y_R a_now rt) (hZ : b = false → yr_Z c a' post f_accepted f_place f_kept a_kind a_value a_keptKind a_keptA a_keptB a_root a_now) (ih : yr_P kc kk ka kb rt g c K N mq Fin gnT gcT E0 a' b post f_accepted f_place f_kept a_kind a_value a_keptKind a_keptA a_keptB a_root a_now f) (hgo : pm_go K (f + 1) ((53, p) :: ss) a sp = some (a', sp ++ sp1, b)) (S : yr_S K mq c ((53, p) :: ss) a sp fl.length bs.length a_todo) (I : yt_I kc kk ka kb rt g c K N mq Fin gnT gcT E0 (pm_pd ((53, p) :: ss)) a sp1 bs fl V x nl n stk env f_typing f_unbound f_clash f_scope f_doneName f_doneType a_what a_partA a_partB a_types a_firm a_bound a_boundType) (hF : 8 * f ≤ F) : wY_read_46 post (F + 9) (nI c) f_accepted f_place f_kept (nI n) (nI (ss.length + 1)) (nI a) 0 f_typing f_unbound f_clash (nI stk.length) f_scope f_doneName f_doneType a_kind a_value a_keptKind a_keptA a_keptB a_root a_what a_partA a_partB a_mark a_twin a_walk a_pairs a_now a_todo a_types a_firm a_bound a_boundType := by
  have c24 := hT.1
  have hl := (yr_len c24 S).1
  have hf48 := (yr_len c24 S).2
  have st : st_1 a_todo (10 :: yk_S K mq ss (bs.length)) := S.2.2.2.2.2.2.1
  have hH := S.2.2.2.2.2.2.2.2
  have eL := yk_len (K := K) (mq := mq) ss (bs.length)
  have ha := S.1
  have hfs := S.2.2.2.2.2.1
  rw [List.length_cons] at hl
  rw [← eL]
  have tt : pm_turn K 53 p a = (if K a = 19 ∨ K a = 20 then (a + 1, some ([(55, 0), (54, 0), (83, a), (53, 0)], [])) else (a, some ([], []))) := rfl
  refine yw_te (r := 10) (w := 0) (by omega) (by omega) (by omega) st (ye_10 hT ha (by omega) st.2 (fun k => ?_) (fun k td1 std1 => ?_))
  · have t : pm_turn K 53 p a = (a, some ([], [])) := by rw [tt, if_neg k]
    obtain ⟨sp2, e, hgo2⟩ := pm_go_s hgo t
    obtain ⟨S2, pd, le⟩ := yr_turn (td' := a_todo) (fll' := fl.length) (bsl' := bs.length) hT.2.1 c24 S t (fun y hy => by cases hy) (by omega) st.2 hH
    rw [e] at I
    have pd0 : pm_pd ((53, p) :: ss) = pm_pd ([] ++ ss) := by rw [pd]; rfl
    rw [pd0] at I
    rw [eL]
    exact ih ss a _ sp2 bs fl V x nl n stk env (F + 7) _ _ _ _ _ _ _ _ _ _ _ _ _ _ _ _ _ _ hgo2 S2 (yt_mono I le) (by omega)
  · have t : pm_turn K 53 p a = (a + 1, some ([(55, 0), (54, 0), (83, a), (53, 0)], [])) := by rw [tt, if_pos k]
    obtain ⟨sp2, e, hgo2⟩ := pm_go_s hgo t
    refine yl_11 (L := (25 + 64 * a) :: 10 :: yk_S K mq ss bs.length) (F := F + 7) hT (pm_lt2 hT.2.1 k (by decide) (by decide)) (by simp; omega) std1 (fun td std => ?_)
    have e83 : yk_v K mq 83 a bs.length = 25 + 64 * a := by
      show (if K a = 17 then 15 else if K a = 18 then 24 + 64 * a else if K a = 25 then 23 + 64 * a else 25 + 64 * a) = _
      rw [if_neg (by omega), if_neg (by omega), if_neg (by omega)]
    have std2 : st_1 td (13 :: 12 :: yk_v K mq 83 a bs.length :: 10 :: yk_S K mq ss bs.length) := by rw [e83]; exact std
    obtain ⟨S2, pd, le⟩ := yr_turn (td' := td) (fll' := fl.length) (bsl' := bs.length) hT.2.1 c24 S t (fun y hy => by simp at hy; rcases hy with q | q | q | q <;> simp [q, yr_k]) (by omega) std2 ⟨fun z => by omega, fun z => by omega, fun z => by omega, fun z => by omega, hH⟩
    rw [e] at I
    simp only [List.length_cons]
    have H1 : pm_go K f ((55, 0) :: (54, 0) :: (83, a) :: (53, 0) :: ss) (a + 1) (sp ++ []) = some (a', sp ++ [] ++ sp2, b) := hgo2
    have H2 : yr_S K mq c ((55, 0) :: (54, 0) :: (83, a) :: (53, 0) :: ss) (a + 1) (sp ++ []) (fl.length) (bs.length) td := S2
    rw [eL]
    rw [show ss.length + 4 = ((55, 0) :: (54, 0) :: (83, a) :: (53, 0) :: ss).length from rfl]
    exact ih ((55, 0) :: (54, 0) :: (83, a) :: (53, 0) :: ss) (a + 1) _ sp2 bs fl V x nl n stk env (F + 6) _ _ _ _ _ _ _ _ _ _ _ _ _ _ _ _ _ _ H1 H2 (yt_mono I le) (by omega)
end
