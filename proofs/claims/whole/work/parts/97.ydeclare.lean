/-! the reference's declare -/
def yd_Z (r : Int32) (c ac kc : Nat) (q : Int32) (post : Int32 → SY → Prop) (a_kind a_value a_keptKind a_keptA a_keptB a_root : Nat → Int32) : Prop := ∀ (f_nodes f_tt f_pos f_bad f_typing f_unbound f_clash f_top f_scope f_doneName f_doneType : Int32) (a_what a_partA a_partB a_mark a_twin a_walk a_pairs a_now a_todo a_types a_firm a_bound a_boundType : Nat → Int32), post r (nI c, nI ac, q, nI kc, f_nodes, f_tt, f_pos, f_bad, f_typing, f_unbound, f_clash, f_top, f_scope, f_doneName, f_doneType, a_kind, a_value, a_keptKind, a_keptA, a_keptB, a_root, a_what, a_partA, a_partB, a_mark, a_twin, a_walk, a_pairs, a_now, a_todo, a_types, a_firm, a_bound, a_boundType)
def yd_rt (rt : Nat → Nat) (nm t : Nat) : Nat → Nat := gr_u rt nm (t + 1)
section
variable {f_count f_accepted f_place f_kept f_nodes f_tt f_pos f_bad f_typing f_unbound f_clash f_top f_scope f_doneName f_doneType : Int32} {a_kind a_value a_keptKind a_keptA a_keptB a_root a_what a_partA a_partB a_mark a_twin a_walk a_pairs a_now a_todo a_types a_firm a_bound a_boundType : Nat → Int32}
variable {kc : Nat} {kk ka kb rt lo hi : Nat → Nat} {g : Nat → tr_T}
theorem yw_declare {post : Int32 → SY → Prop} {c ac f a' : Nat} {b : Bool} {K N mq : Nat → Nat} {sp' : pm_L} (HK : ky_K kc kk ka kb rt lo hi g) (HX : ky_X kk rt g) (G : yk_G kc a_keptKind a_keptA a_keptB kk ka kb) (hR : y_R a_root rt) (hT : tk_T a_kind a_value c K N) (hm : ∀ q, mq q = pm_nq K 24 (q + 3) - (q + 1)) (hac : ac ≤ 20) (hgo : pm_go K f [(40, 0)] 0 [] = some (a', sp', b))
    (h5 : ac = 20 → post 5 (nI c, nI ac, (-1), nI kc, f_nodes, f_tt, f_pos, f_bad, f_typing, f_unbound, f_clash, f_top, f_scope, f_doneName, f_doneType, a_kind, a_value, a_keptKind, a_keptA, a_keptB, a_root, a_what, a_partA, a_partB, a_mark, a_twin, a_walk, a_pairs, a_now, a_todo, a_types, a_firm, a_bound, a_boundType))
    (h1 : ac < 20 → (b = false ∨ a' ≠ c) → yd_Z 1 c ac kc (nI a') post a_kind a_value a_keptKind a_keptA a_keptB a_root)
    (h2 : ac < 20 → b = true → a' = c → ∀ q, q < 24 → gn_N K N mq (ky_d kk rt g) sp' [] [] (some q) → yd_Z 2 c ac kc (nI q) post a_kind a_value a_keptKind a_keptA a_keptB a_root)
    (h3 : ac < 20 → b = true → a' = c → gn_N K N mq (ky_d kk rt g) sp' [] [] none → ∀ q, q < 24 → gc_C K N mq (Dc_U (ky_d kk rt g)) sp' [] [] (fun ν st E => ν.length = (ky_o kk rt g).length ∧ st = [] ∧ E = []) (some q) → yd_Z 3 c ac kc (nI q) post a_kind a_value a_keptKind a_keptA a_keptB a_root)
    (hA : ac < 20 → b = true → a' = c → gn_N K N mq (ky_d kk rt g) sp' [] [] none → gc_C K N mq (Dc_U (ky_d kk rt g)) sp' [] [] (fun ν st E => ν.length = (ky_o kk rt g).length ∧ st = [] ∧ E = []) none → ∀ nl n kd pa pb t fl gY V, K 1 = 3 → N 1 < 12 → gd_E K N mq (Dc_U (ky_d kk rt g)) sp' [] [] (fun ν st E => ν.length = (ky_o kk rt g).length ∧ st = [] ∧ E = []) = ([(1, fl)], [], V) → rp_I kc nl n kd pa pb (ky_o kk rt g) [] [t] [(1, fl)] V → yl_L kc kk ka kb (ky_o kk rt g) n kd pa pb → gr_V n kd pa pb gY → gr_gen n kd gY →
      ((∃ v, v < 12 ∧ 12 < (kl_L (yd_rt rt (N 1) t) gY v).length) → yd_Z 4 c ac kc (nI c) post a_kind a_value a_keptKind a_keptA a_keptB a_root) ∧
      ((∀ v, v < 12 → (kl_L (yd_rt rt (N 1) t) gY v).length ≤ 12) → ∀ m kk' ka' kb' rt' lo' hi' gK qk qa qb rta, ky_K m kk' ka' kb' rt' lo' hi' gK → (∀ v, v < 12 → ky_d kk' rt' gK v = nm_d (kp_c kd) (kl_L (yd_rt rt (N 1) t) gY) v) → (ky_o kk' rt' gK).length = (nm_S (kp_c kd) (kl_L (yd_rt rt (N 1) t) gY) 12).length → ky_X kk' rt' gK → yk_G m qk qa qb kk' ka' kb' → y_R rta rt' → yd_Z 0 0 (ac + 1) m (-1) post a_kind a_value qk qa qb rta)) :
    wpY_declare post (nI c, nI ac, f_place, nI kc, f_nodes, f_tt, f_pos, f_bad, f_typing, f_unbound, f_clash, f_top, f_scope, f_doneName, f_doneType, a_kind, a_value, a_keptKind, a_keptA, a_keptB, a_root, a_what, a_partA, a_partB, a_mark, a_twin, a_walk, a_pairs, a_now, a_todo, a_types, a_firm, a_bound, a_boundType) := by
  have c24 := hT.1
  have k144 := HK.2.2.2.2.2.2.1
  by_cases c20 : ac = 20
  · exact br_t (by rw [c20]; rfl) (h5 c20)
  have a20 : ac < 20 := by omega
  refine br_f (fun z => c20 ((nI_eq (b := 20) (by omega) (by omega)).mp z)) ?_
  refine yw_load HK G hR (fun wh pA pB nw hG hN => ?_)
  refine yw_readD HK hT hm hN hG hgo (fun hb => ?_) (fun e1 e2 bs fl V x nl n stk env f_tt f_typing f_unbound f_clash f_scope f_doneName f_doneType a_what a_partA a_partB a_mark a_twin a_walk a_pairs a_todo a_types a_firm a_bound a_boundType I => ?_)
  · intro f_nodes f_tt f_bad f_top f_typing f_unbound f_clash f_scope f_doneName f_doneType a_what a_partA a_partB a_mark a_twin a_walk a_pairs a_todo a_types a_firm a_bound a_boundType
    exact br_t rfl (br_t rfl (h1 a20 hb _ _ _ _ _ _ _ _ _ _ _ _ _ _ _ _ _ _ _ _ _ _ _ _))
  · obtain ⟨g1, g2, ⟨b1, b2, b3, b4, b5, b6, b7, b8, b9, b10, b11⟩, g4, g5, g6, g7⟩ := I
    refine br_f (by decide) ?_
    rcases g2 with ⟨t1, u1, l1, Kg, kd, pa, pb, J, hGg, hLg, hl⟩ | ⟨t0, hh⟩
    · subst t1 u1 l1
      have gn0 := g5 rfl none rfl
      have gc0 := (g6 rfl).1 none rfl
      have E0 := (g6 rfl).2
      obtain ⟨⟨ff, eb⟩, efl⟩ := g1 e1
      subst eb efl
      have es : stk = [] := List.eq_nil_of_length_eq_zero b3.symm
      subst es
      obtain ⟨t, r, ee⟩ := ls_1 (l := env) (by rw [← b5]; exact Nat.le_refl _)
      have er : r = [] := by
        rw [ee] at b5
        simpa using b5
      subst er ee
      rcases g7 with ⟨z, _⟩ | ⟨_, bb, bs', e', env', q1, q2, q3, q4, q5, q6, q7⟩
      · cases z
      · cases q1
        cases q2
        subst q4 q5
        have bq := b8 (1, ff) List.mem_cons_self
        have k3 : K 1 = 3 := bq.2
        have n12 : N 1 < 12 := ((hT.2.2 1 bq.1).2.2.1 k3).2
        have W := J.1
        have A := J.2.1
        have tn : t < n := J.2.2.2.1 t List.mem_cons_self
        have kn := hl.1
        have n2000 : n ≤ 2000 := by omega
        have h9 := hl.2.2.1
        obtain ⟨gY, vY, gYg⟩ := gr_ex A (fun i => tr_at (1001 + i))
        obtain ⟨hA1, hA2⟩ := hA a20 e1 e2 gn0 gc0 nl n kd pa pb t ff gY V k3 n12 E0.symm J hl vY gYg
        refine br_t (by decide) (br_f (by decide) (br_t (by decide) ⟨vp_in_nI n12 (by decide), ?_⟩))
        have cN : (nI (N (1, ff).1)).toNatClampNeg = N 1 := nI_clamp (show N 1 < 2 ^ 31 by omega)
        rw [cN, ys_nn (by omega)]
        refine nm_e ⟨13, ?_⟩
        have rtv : ∀ v, v < 12 → rt v ≤ kc := fun v hv => (HK.2.2.2.2.2.2.2.1 v hv).1
        have eo : ∀ v, v ≠ N 1 → yd_rt rt (N 1) t v = rt v := fun v hv => gr_un hv
        have en : yd_rt rt (N 1) t (N 1) = t + 1 := gr_us
        obtain ⟨M, Es, ⟨hM, gM, oM, sM, eM⟩, cE, mE, eE, bE⟩ := J.2.2.1
        have hk : ∀ i, i < n → kd i ≤ 1000 := fun i hi => by have := h9 i hi; omega
        have d1 : ∀ w j, w < 12 → yd_rt rt (N 1) t w ≠ 0 → w ≠ N 1 → 1001 + j ∈ tr_pre (gY t) → 1001 + j ∈ tr_pre (gY (yd_rt rt (N 1) t w - 1)) → kd j = 8 → False := by
          intro w j hw zw ne m1 m2 c8
          rw [eo w ne] at zw m2
          obtain ⟨p1, p2, p3⟩ := yl_lab8 HK hl W A hM gM oM hk vY gYg hw zw m2 c8
          obtain ⟨f1, hf1⟩ := A t tn
          rcases fl_in hk vY gYg cE f1 t (eE t List.mem_cons_self) hf1 _ (tr_pre_fl (fl_gok W vY gYg f1 t tn hf1) m1) with z | ⟨j', e, mj, _⟩
          · omega
          · have ej : j' = j := by omega
            rw [ej] at mj
            have := bE j mj (fun z => gM j z c8)
            omega
        refine yw_110 (nrt := yd_rt rt (N 1) t) (by omega) n2000 W A hGg hLg vY gYg h9 (fun v hv => ?_) (fun v hv z => ?_) (fun v w j hv hw zv zw ne m1 m2 c8 => ?_) (fun hl wk => ?_) (fun hl m kk' ka' kb' rt' lo' hi' gK qk qa qb rta mk pr wk p1 p2 p3 p4 p5 p6 => ?_) 12 0 _ (by omega) (fun w hw => by omega)
        · by_cases c : v = N 1
          · rw [c, pk_us, en]; unfold mk_v'; rw [if_neg (by omega), Nat.add_sub_cancel]
          · rw [pk_un c, eo v c]; exact hN v hv
        · by_cases c : v = N 1
          · rw [c, en]; omega
          · rw [eo v c] at z ⊢
            have := rtv v hv
            omega
        · by_cases cv : v = N 1
          · rw [cv, en, Nat.add_sub_cancel] at m1
            exact d1 w j hw zw (fun z => ne (by rw [cv, z])) m1 m2 c8
          · by_cases cw : w = N 1
            · rw [cw, en, Nat.add_sub_cancel] at m2
              exact d1 v j hv zv cv m2 m1 c8
            · rw [eo v cv] at zv m1
              rw [eo w cw] at zw m2
              obtain ⟨p1, p2, p3⟩ := yl_lab8 HK hl W A hM gM oM hk vY gYg hv zv m1 c8
              obtain ⟨r1, r2, r3⟩ := yl_lab8 HK hl W A hM gM oM hk vY gYg hw zw m2 c8
              exact HX v w j hv hw ne p3 r3 p2
        · exact hA1 hl _ _ _ _ _ _ _ _ _ _ _ _ _ _ _ _ _ _ _ _ _ _ _ _
        · exact hA2 hl m kk' ka' kb' rt' lo' hi' gK qk qa qb rta p1 p2 p3 p4 p5 p6 _ _ _ _ _ _ _ _ _ _ _ _ _ _ _ _ _ _ _ _ _ _ _ _
    · rcases hh with ⟨u1, q, q24, ecl, gcq⟩ | ⟨q, q24, eub, gnq⟩
      · subst u1 ecl
        have gn0 := g5 rfl none rfl
        refine br_t (by decide) (br_f (by decide) (br_f (nI_pos (by omega)) (br_t (by decide) ?_)))
        exact h3 a20 e1 e2 gn0 q q24 gcq _ _ _ _ _ _ _ _ _ _ _ _ _ _ _ _ _ _ _ _ _ _ _ _
      · subst eub
        refine br_f (nI_pos (by omega)) (br_f (by decide) (br_f (nI_pos (by omega)) (br_f (nI_pos (by omega)) ?_)))
        exact h2 a20 e1 e2 q q24 gnq _ _ _ _ _ _ _ _ _ _ _ _ _ _ _ _ _ _ _ _ _ _ _ _
end
