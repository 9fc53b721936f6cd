section
variable {f_count f_accepted f_place f_kept f_nodes f_tt f_pos f_bad f_typing f_unbound f_clash f_top f_scope f_doneName f_doneType : Int32} {a_kind a_value a_keptKind a_keptA a_keptB a_root a_what a_partA a_partB a_mark a_twin a_walk a_pairs a_now a_todo a_types a_firm a_bound a_boundType : Nat → Int32}
variable {kc : Nat} {kk ka kb rt lo hi : Nat → Nat} {g : Nat → tr_T}
theorem yw_fits {post : Int32 → SY → Prop} {c ac f a' : Nat} {b : Bool} {K N : Nat → Nat} {sp' : pm_L} {x : Int32} (HK : ky_K kc kk ka kb rt lo hi g) (G : yk_G kc a_keptKind a_keptA a_keptB kk ka kb) (hR : y_R a_root rt) (hT : tk_T a_kind a_value c K N) (hgo : pm_go K f [(45, 0)] 0 [] = some (a', sp', b))
    (h1 : (b = false ∨ a' ≠ c) → yd_Z 1 c ac kc (nI a') post a_kind a_value a_keptKind a_keptA a_keptB a_root)
    (h2 : b = true → a' = c → (x < 0 ∨ 12 ≤ x ∨ ∃ m : Nat, m < 12 ∧ x = nI m ∧ rt m = 0) → yd_Z 2 c ac kc (-1) post a_kind a_value a_keptKind a_keptA a_keptB a_root)
    (h6 : b = true → a' = c → ∀ m T, m < 12 → x = nI m → rt m ≠ 0 → ts_E K N sp' [] = [T] → (¬ ∃ γ : Nat → tr_T, cd_ev (fun o => tr_at (14 + (ky_o kk rt g).getD o 0)) γ (ky_d kk rt g m) = [T]) → yd_Z 6 c ac kc (-1) post a_kind a_value a_keptKind a_keptA a_keptB a_root)
    (h0 : b = true → a' = c → ∀ m T, m < 12 → x = nI m → rt m ≠ 0 → ts_E K N sp' [] = [T] → (∃ γ : Nat → tr_T, cd_ev (fun o => tr_at (14 + (ky_o kk rt g).getD o 0)) γ (ky_d kk rt g m) = [T]) → yd_Z 0 c ac kc (-1) post a_kind a_value a_keptKind a_keptA a_keptB a_root) :
    wpY_fits post (nI c, nI ac, f_place, nI kc, f_nodes, f_tt, f_pos, f_bad, f_typing, f_unbound, f_clash, f_top, f_scope, f_doneName, f_doneType, a_kind, a_value, a_keptKind, a_keptA, a_keptB, a_root, a_what, a_partA, a_partB, a_mark, a_twin, a_walk, a_pairs, a_now, a_todo, a_types, a_firm, a_bound, a_boundType) x := by
  have c24 := hT.1
  obtain ⟨KW, KA, k9, kp, hg, gg, k144, hr, reach⟩ := id HK
  refine yw_load (f_nodes := f_nodes) HK G hR (fun wh pA pB nw hG hN => ?_)
  unfold wpY_read
  refine yw_then (t := 0) (s := 27) (w := 0) (by omega) (by omega) (by omega) ?_
  refine ⟨2 * f + 1, ?_⟩
  refine yw_rtl (kc := kc) (kk := kk) (ka := ka) (kb := kb) (a' := a') (b := b) (E0 := ts_E K N sp' []) hT k144 (fun hb nn tt bad top wh pA pB td tys fr => ?_) (fun eb ea n t T wh pA pB tt bad top td tys fr I eT hn => ?_) f [(27, 0)] 0 kc [] wh pA pB _ _ _ [] sp' (2 * f + 1) hgo ⟨⟨1, Or.inr (Or.inl ⟨Or.inl rfl, rfl⟩), rfl⟩, ⟨Or.inl rfl, trivial⟩, Nat.zero_le _, Nat.le_refl _, Nat.le_refl _, Nat.le_refl _, st_1p (L := []) trivial, [], ⟨kk, ka, kb, ⟨Nat.le_refl _, KW, KA, fun i h1 h2 => by omega, fun x hx => (by cases hx), fun _ _ => rfl⟩, fun i _ => ⟨rfl, rfl, rfl⟩, hG, trivial⟩, rfl⟩ (Nat.le_refl _)
  · exact br_t rfl (h1 hb _ _ _ _ _ _ _ _ _ _ _ _ _ _ _ _ _ _ _ _ _ _ _ _)
  · refine br_f (by decide) ?_
    by_cases n0 : x < 0
    · exact br_t n0 (h2 eb ea (Or.inl n0) _ _ _ _ _ _ _ _ _ _ _ _ _ _ _ _ _ _ _ _ _ _ _ _)
    obtain ⟨m, hm, rfl⟩ := nI_of n0
    refine br_f n0 ?_
    by_cases m12 : m < 12
    · have vi : vp_in (nI m) 12 := vp_in_nI m12 (by decide)
      have rm := (hr m m12).1
      refine br_f (nI_nlt (a := 11) (by omega) (by decide)) ⟨vi, ?_⟩
      rw [nI_clamp (by omega), hR m m12]
      by_cases z : rt m = 0
      · exact br_f (by rw [z]; decide) (h2 eb ea (Or.inr (Or.inr ⟨m, m12, rfl, z⟩)) _ _ _ _ _ _ _ _ _ _ _ _ _ _ _ _ _ _ _ _ _ _ _ _)
      · rw [show mk_v' (rt m) = nI (rt m - 1) from if_neg z]
        refine br_t (nI_pos' (by omega)) ⟨kc + 1, ?_⟩
        obtain ⟨kd, pa, pb, I, s, G', st'⟩ := I
        refine yw_f51 (kd := kd) (pa := pa) (pb := pb) HK I s hR m12 z hn st'.1 (fun no nn wh pA pB mk tw wk pr => ?_) (fun yes nn wh pA pB mk tw wk pr => ?_) kc 0 _ _ (by omega) (by rw [rg_z]; exact G')
        · exact h6 eb ea m T m12 rfl z eT (fun q => no (yf_2 HK (yl_rp HK) I s m12 z q)) _ _ _ _ _ _ _ _ _ _ _ _ _ _ _ _ _ _ _ _ _ _ _ _
        · obtain ⟨ρ, v, e⟩ := yes
          exact h0 eb ea m T m12 rfl z eT (yf_1 HK I s m12 z v e) _ _ _ _ _ _ _ _ _ _ _ _ _ _ _ _ _ _ _ _ _ _ _ _
    · exact br_t (nI_lt (a := 11) (by omega) hm) (h2 eb ea (Or.inr (Or.inl (nI_le (a := 12) (by omega) hm))) _ _ _ _ _ _ _ _ _ _ _ _ _ _ _ _ _ _ _ _ _ _ _ _)
end
theorem i_vc_fits {k : Nat} {u : SX} {v : SY} (I : i_Rel k u v) (hk : k + 3 ≤ 1536) (v1 : Int32) : wpX_fits (fun r u' => wpY_fits (fun r' v' => r' = r ∧ i_Rel (k + 3) u' v') v v1) u v1 := by
  obtain ⟨f_tokenCount, f_accepted, f_lastPlace, f_openCount, f_draftOpen, f_symbolCount, f_stepCount, f_bindingCount, f_waitingCount, f_clashPlace, f_nodeCount, f_todoCount, a_kinds, a_values, a_declaredSize, a_declaredNodes, a_draftSize, a_draftNodes, a_symbols, a_symbolPlaces, a_steps, a_stepPlaces, a_bindings, a_boundType, a_waitingTypes, a_waitingFirm, a_shape, a_left, a_right, a_link, a_note, a_todo, a_todoOther, a_generalNode⟩ := u
  obtain ⟨f_count2, f_accepted2, f_place2, f_kept2, f_nodes2, f_tt2, f_pos2, f_bad2, f_typing2, f_unbound2, f_clash2, f_top2, f_scope2, f_doneName2, f_doneType2, a_kind2, a_value2, a_keptKind2, a_keptA2, a_keptB2, a_root2, a_what2, a_partA2, a_partB2, a_mark2, a_twin2, a_walk2, a_pairs2, a_now2, a_todo2, a_types2, a_firm2, a_bound2, a_boundType2⟩ := v
  obtain ⟨c, ac, K, N, kc, kk, ka, kb, rt, lo, hi, g, e1, e2, e3, e4, hac, e5, T1, T2, e6, e7, D, H, HX, G, R⟩ := I
  have oc144 := ky_oc H
  have c24 := T1.1
  subst e1 e2 e3 e4 e5 e6 e7
  obtain ⟨⟨a', sp', b⟩, hgo⟩ := pm_ex T1.2.1 c24 1000 [(45, 0)] 0 [] (Nat.zero_le _) (by show 5 + 0 + 28 * (c - 0) < 1000; omega)
  have ha := syn_a T1.2.1 c24 (Or.inr rfl) hgo
  have nm : ∀ m : Nat, m < 12 → (ky_d kk rt g m = [] ↔ rt m = 0) := fun m hm => ky_nil H hm
  have bad : ∀ m : Nat, m < 12 → rt m ≠ 0 → ¬ (nI m < 0 ∨ 12 ≤ nI m ∨ ∃ m' : Nat, m' < 12 ∧ nI m = nI m' ∧ rt m' = 0) := by
    intro m hm h z
    rcases z with z | z | ⟨m', h', e, z⟩
    · exact nI_pos (by omega) z
    · exact nI_ge (b := 12) hm (by decide) z
    · have := (nI_eq (by omega) (by omega)).mp e
      subst this
      exact h z
  have f1 : ∀ m T, m < 12 → rt m ≠ 0 → ts_lab T → (∃ γ : Nat → tr_T, cd_ev (fun _ => tr_at 9) γ (ky_d kk rt g m) = [T]) → ∃ γ : Nat → tr_T, cd_ev (fun o => tr_at (14 + (ky_o kk rt g).getD o 0)) γ (ky_d kk rt g m) = [T] := by
    intro m T hm h0 lT q
    have wf := (ky_wf H hm (fun z => h0 ((nm m hm).mp z))).1
    refine (cd_fit wf (fun o ho => ⟨9, by rw [tr_pre_at]; exact List.mem_cons_self, fun z => ?_⟩) q).2
    have := lT 9 z
    omega
  have f2 : ∀ m T, m < 12 → rt m ≠ 0 → ts_lab T → (∃ γ : Nat → tr_T, cd_ev (fun o => tr_at (14 + (ky_o kk rt g).getD o 0)) γ (ky_d kk rt g m) = [T]) → ∃ γ : Nat → tr_T, cd_ev (fun _ => tr_at 9) γ (ky_d kk rt g m) = [T] := by
    intro m T hm h0 lT q
    have wf := (ky_wf H hm (fun z => h0 ((nm m hm).mp z))).1
    refine (cd_fit wf (fun o ho => ⟨14 + (ky_o kk rt g).getD o 0, by rw [tr_pre_at]; exact List.mem_cons_self, fun z => ?_⟩) q).2
    have := lT _ z
    omega
  refine xw_fits (f := 1000) D oc144 T1 hgo (Nat.le_refl _) ha (fun hb => ?_) (fun eb ea hx => ?_) (fun eb ea m T hm ex d0 eT lT no => ?_) (fun eb ea m T hm ex d0 eT lT yes => ?_)
  · intro _ _ _ _ _ _ _ _ _ _ _ _ _ _ _ _ _ _ _ _ _ _ _ _ _ _
    refine yw_fits H G R T2 hgo (fun _ => ?_) (fun z1 z2 => ?_) (fun z1 z2 => ?_) (fun z1 z2 => ?_)
    · intro _ _ _ _ _ _ _ _ _ _ _ _ _ _ _ _ _ _ _ _ _ _ _ _
      exact ⟨rfl, c, ac, K, N, kc, kk, ka, kb, rt, lo, hi, g, rfl, rfl, rfl, rfl, hac, rfl, T1, T2, rfl, rfl, D, H, HX, G, R⟩
    · rcases hb with y | y
      · rw [z1] at y; cases y
      · exact (y z2).elim
    · rcases hb with y | y
      · rw [z1] at y; cases y
      · exact (y z2).elim
    · rcases hb with y | y
      · rw [z1] at y; cases y
      · exact (y z2).elim
  · have hx' : v1 < 0 ∨ 12 ≤ v1 ∨ ∃ m : Nat, m < 12 ∧ v1 = nI m ∧ rt m = 0 := by
      rcases hx with z | z | ⟨m, h1, h2, h3⟩
      · exact Or.inl z
      · exact Or.inr (Or.inl z)
      · exact Or.inr (Or.inr ⟨m, h1, h2, (nm m h1).mp h3⟩)
    intro _ _ _ _ _ _ _ _ _ _ _ _ _ _ _ _ _ _ _ _ _ _ _ _ _ _
    refine yw_fits H G R T2 hgo (fun hb => ?_) (fun _ _ _ => ?_) (fun _ _ m T hm ex h0 => ?_) (fun _ _ m T hm ex h0 => ?_)
    · rcases hb with y | y
      · rw [eb] at y; cases y
      · exact (y ea).elim
    · intro _ _ _ _ _ _ _ _ _ _ _ _ _ _ _ _ _ _ _ _ _ _ _ _
      exact ⟨rfl, c, ac, K, N, kc, kk, ka, kb, rt, lo, hi, g, rfl, rfl, rfl, rfl, hac, rfl, T1, T2, rfl, rfl, D, H, HX, G, R⟩
    · rw [ex] at hx'
      exact (bad m hm h0 hx').elim
    · rw [ex] at hx'
      exact (bad m hm h0 hx').elim
  · have r0 : rt m ≠ 0 := fun z => d0 ((nm m hm).mpr z)
    subst ex
    intro _ _ _ _ _ _ _ _ _ _ _ _ _ _ _ _ _ _ _ _ _ _ _ _ _ _
    refine yw_fits H G R T2 hgo (fun hb => ?_) (fun _ _ z => (bad m hm r0 z).elim) (fun _ _ m' T' hm' ex' h0' eT' no' => ?_) (fun _ _ m' T' hm' ex' h0' eT' yes' => ?_)
    · rcases hb with y | y
      · rw [eb] at y; cases y
      · exact (y ea).elim
    · intro _ _ _ _ _ _ _ _ _ _ _ _ _ _ _ _ _ _ _ _ _ _ _ _
      exact ⟨rfl, c, ac, K, N, kc, kk, ka, kb, rt, lo, hi, g, rfl, rfl, rfl, rfl, hac, rfl, T1, T2, rfl, rfl, D, H, HX, G, R⟩
    · have em := (nI_eq (by omega) (by omega)).mp ex'
      subst em
      rw [eT] at eT'
      cases eT'
      exact (no (f2 m T hm r0 lT yes')).elim
  · have r0 : rt m ≠ 0 := fun z => d0 ((nm m hm).mpr z)
    subst ex
    intro _ _ _ _ _ _ _ _ _ _ _ _ _ _ _ _ _ _ _ _ _ _ _ _ _ _
    refine yw_fits H G R T2 hgo (fun hb => ?_) (fun _ _ z => (bad m hm r0 z).elim) (fun _ _ m' T' hm' ex' h0' eT' no' => ?_) (fun _ _ m' T' hm' ex' h0' eT' yes' => ?_)
    · rcases hb with y | y
      · rw [eb] at y; cases y
      · exact (y ea).elim
    · have em := (nI_eq (by omega) (by omega)).mp ex'
      subst em
      rw [eT] at eT'
      cases eT'
      exact (no' (f1 m T hm r0 lT yes)).elim
    · intro _ _ _ _ _ _ _ _ _ _ _ _ _ _ _ _ _ _ _ _ _ _ _ _
      exact ⟨rfl, c, ac, K, N, kc, kk, ka, kb, rt, lo, hi, g, rfl, rfl, rfl, rfl, hac, rfl, T1, T2, rfl, rfl, D, H, HX, G, R⟩
