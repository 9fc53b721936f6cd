theorem ky_Sl {kc : Nat} {kk ka kb rt lo hi : Nat → Nat} {g : Nat → tr_T} {cl : Nat → Bool} (HK : ky_K kc kk ka kb rt lo hi g) : ∀ v, v ≤ 12 → (nm_S cl (ky_L rt g) v).length ≤ 12 * v := by
  intro v
  induction v with
  | zero => intro _; exact Nat.le_refl _
  | succ v ih =>
    intro hv
    have q := ih (by omega)
    have l := (HK.2.2.2.2.2.2.2.1 v (by omega)).2.2.2.1
    have s := nm_so_len (cl := cl) (ky_L rt g v) (nm_S cl (ky_L rt g) v)
    show (nm_so cl (nm_S cl (ky_L rt g) v) (ky_L rt g v)).length ≤ _
    omega
section
variable {f_count f_accepted f_place f_kept f_nodes f_tt f_pos f_bad f_typing f_unbound f_clash f_top f_scope f_doneName f_doneType : Int32} {a_kind a_value a_keptKind a_keptA a_keptB a_root a_what a_partA a_partB a_mark a_twin a_walk a_pairs a_now a_todo a_types a_firm a_bound a_boundType : Nat → Int32}
variable {kc : Nat} {kk ka kb rt lo hi : Nat → Nat} {g : Nat → tr_T}
theorem yw_n44 {post : Int32 → SY → Prop} {p0 p : Nat} (HK : ky_K kc kk ka kb rt lo hi g) (HX : ky_X kk rt g) (hG : yg_G kc a_what a_partA a_partB kk ka kb) (hR : y_R a_root rt) (hp0 : p0 < 12) (hp : p < 2 ^ 31) (hrt : rt p0 ≠ 0)
    (h : ∀ mk wk, post (nd_a (ky_d kk rt g p0) p0 p0 p (ky_d kk rt g p0).length) (f_count, f_accepted, f_place, f_kept, f_nodes, f_tt, f_pos, f_bad, f_typing, f_unbound, f_clash, f_top, f_scope, f_doneName, f_doneType, a_kind, a_value, a_keptKind, a_keptA, a_keptB, a_root, a_what, a_partA, a_partB, mk, a_twin, wk, a_pairs, a_now, a_todo, a_types, a_firm, a_bound, a_boundType)) :
    ∀ (d v : Nat) (nt : Nat → Nat) (mk wk : Nat → Int32), v + d = p0 + 1 → (∀ i, i < kc → mk i = mk_v' (nt i)) → (∀ i, i < kc → kk i = 7 → nt i = dn_x (1001 + i) (nm_S (kp_c kk) (ky_L rt g) v)) → (∀ i, i < kc → kk i = 8 → (∀ w, w < v → 1001 + i ∉ ky_L rt g w) → nt i = 0) →
    wY_node_44 post (nI p0) (nI p) f_count f_accepted f_place f_kept f_nodes f_tt f_pos f_bad f_typing f_unbound f_clash f_top f_scope f_doneName f_doneType (d + 1) (nI (nm_S (kp_c kk) (ky_L rt g) v).length) (if d = 0 then nd_a (ky_d kk rt g p0) p0 p0 p (ky_d kk rt g p0).length else -1) (nI v) a_kind a_value a_keptKind a_keptA a_keptB a_root a_what a_partA a_partB mk a_twin wk a_pairs a_now a_todo a_types a_firm a_bound a_boundType := by
  intro d
  induction d with
  | zero =>
    intro v nt mk wk hd hm h7 h8
    have e : v = p0 + 1 := by omega
    subst e
    exact br_t (nI_lt (by omega) (by omega)) (h mk wk)
  | succ d ih =>
    intro v nt mk wk hd hm h7 h8
    have hv : v < 12 := by omega
    have vi : vp_in (nI v) 12 := vp_in_nI hv (by decide)
    have cl : (nI v).toNatClampNeg = v := nI_clamp (by omega)
    rw [if_neg (Nat.succ_ne_zero d)]
    refine br_f (nI_nlt (by omega) (by omega)) ⟨vi, ?_⟩
    rw [cl, hR v hv]
    by_cases z : rt v = 0
    · have vp : v ≠ p0 := fun e => hrt (by rw [← e]; exact z)
      have eL : ky_L rt g v = [] := if_pos z
      have eS : nm_S (kp_c kk) (ky_L rt g) (v + 1) = nm_S (kp_c kk) (ky_L rt g) v := by
        show nm_so (kp_c kk) (nm_S (kp_c kk) (ky_L rt g) v) (ky_L rt g v) = _
        rw [eL]; rfl
      have q := ih (v + 1) nt mk wk (by omega) hm (by rw [eS]; exact h7) (fun i hi c n => h8 i hi c (fun w hw => n w (by omega)))
      rw [eS, if_neg (by omega)] at q
      exact br_f (by rw [z]; decide) (nm_r (nI_1 v) q)
    · have em : mk_v' (rt v) = nI (rt v - 1) := if_neg z
      have rv := (HK.2.2.2.2.2.2.2.1 v hv).1
      have k144 := HK.2.2.2.2.2.2.1
      have eL : ky_L rt g v = tr_pre (g (rt v - 1)) := if_neg z
      have l12 := (HK.2.2.2.2.2.2.2.1 v hv).2.2.2.1
      have hl := ky_Sl (cl := kp_c kk) HK v (by omega)
      have eF : (ky_d kk rt g v).length = (ky_L rt g v).length := ky_len
      rw [em]
      refine br_t (nI_pos' (by omega)) (nm_r (rfl : (0 : Int32) + 1 = nI 1) ⟨vi, ?_⟩)
      rw [ys_v (by omega)]
      refine nm_e ⟨(ky_L rt g v).length + 1, ?_⟩
      have e1 : nd_a (ky_d kk rt g v) v p0 p 0 = -1 := if_neg (fun q => by omega)
      rw [← e1]
      refine yw_n89 (F := ky_d kk rt g v) (soF := nm_S (kp_c kk) (ky_L rt g) (v + 1)) (Q := fun i => 1001 + i ∈ ky_L rt g v) (nt0 := nt) HK hG hv hp0 hp (by omega) (fun nt' mk' wk' m1 m2 m3 => ?_) (ky_L rt g v) 0 [rt v - 1] (nm_S (kp_c kk) (ky_L rt g) v) [] nt mk _ ?_ rfl rfl (fun i hi => ⟨h7 i hi, fun c q => ?_⟩) hm (fun _ _ _ _ => rfl) (fun i _ q => q) (st_1p (L := []) trivial) (fun x hx => by rw [List.mem_singleton.mp hx]; omega) (Nat.le_refl _) (by omega) (by omega) (Nat.le_refl _)
      · have q := ih (v + 1) nt' mk' wk' (by omega) m1 m2 (fun i hi c n => ?_)
        · have ex : nd_a (ky_d kk rt g v) v p0 p (ky_d kk rt g v).length = if d = 0 then nd_a (ky_d kk rt g p0) p0 p0 p (ky_d kk rt g p0).length else -1 := by
            by_cases d0 : d = 0
            · have : v = p0 := by omega
              subst this
              rw [if_pos d0]
            · rw [if_neg d0]
              exact if_neg (fun q => by omega)
          rw [ex]; exact q
        · rw [m3 i hi c (n v (by omega))]
          exact h8 i hi c (fun w hw => n w (by omega))
      · rw [wk_0, eL]
        exact List.append_nil _
      · rw [h8 i hi c (fun w hw q' => HX w v i (by omega) hv (by omega) q' q c), dn_x0 (by simp)]
end
theorem i_vc_node {k : Nat} {u : SX} {v : SY} (I : i_Rel k u v) (hk : k + 3 ≤ 1536) (v1 : Int32) (v2 : Int32) : wpX_node (fun r => wpY_node (fun r' v' => r' = r ∧ i_Rel (k + 3) u v') v v1 v2) u v1 v2 := by
  obtain ⟨f_tokenCount, f_accepted, f_lastPlace, f_openCount, f_draftOpen, f_symbolCount, f_stepCount, f_bindingCount, f_waitingCount, f_clashPlace, f_nodeCount, f_todoCount, a_kinds, a_values, a_declaredSize, a_declaredNodes, a_draftSize, a_draftNodes, a_symbols, a_symbolPlaces, a_steps, a_stepPlaces, a_bindings, a_boundType, a_waitingTypes, a_waitingFirm, a_shape, a_left, a_right, a_link, a_note, a_todo, a_todoOther, a_generalNode⟩ := u
  obtain ⟨f_count2, f_accepted2, f_place2, f_kept2, f_nodes2, f_tt2, f_pos2, f_bad2, f_typing2, f_unbound2, f_clash2, f_top2, f_scope2, f_doneName2, f_doneType2, a_kind2, a_value2, a_keptKind2, a_keptA2, a_keptB2, a_root2, a_what2, a_partA2, a_partB2, a_mark2, a_twin2, a_walk2, a_pairs2, a_now2, a_todo2, a_types2, a_firm2, a_bound2, a_boundType2⟩ := v
  have I0 := I
  obtain ⟨c, ac, K, N, kc, kk, ka, kb, rt, lo, hi, g, e1, e2, e3, e4, hac, e5, T1, T2, e6, e7, D, H, HX, G, R⟩ := I
  subst e6
  by_cases n0 : v1 < 0
  · exact br_t n0 (br_t rfl (br_t n0 ⟨rfl, I0⟩))
  obtain ⟨m, hm, rfl⟩ := nI_of n0
  refine br_f n0 ?_
  by_cases m12 : m < 12
  · have vi : vp_in (nI m) 12 := vp_in_nI m12 (by decide)
    have cl : (nI m).toNatClampNeg = m := nI_clamp (by omega)
    have k144 := H.2.2.2.2.2.2.1
    have rm := (H.2.2.2.2.2.2.2.1 m m12).1
    have l12 := (H.2.2.2.2.2.2.2.1 m m12).2.2.2.1
    have lF : (ky_d kk rt g m).length = (ky_L rt g m).length := ky_len
    have y0 : ∀ {P P' S : Prop}, S → ((nI m < 0 → P) ∧ (¬ nI m < 0 → ((11 < nI m → P') ∧ (¬ 11 < nI m → S)))) := fun s => br_f n0 (br_f (nI_nlt (a := 11) (by omega) (by decide)) s)
    refine br_f (nI_ge (b := 12) m12 (by decide)) (br_f (by decide) ?_)
    by_cases p0 : v2 < 0
    · refine br_t p0 (y0 ⟨vi, ?_⟩)
      rw [cl, R m m12]
      by_cases z : rt m = 0
      · exact br_t (by rw [z]; decide) ⟨rfl, I0⟩
      · rw [show mk_v' (rt m) = nI (rt m - 1) from if_neg z]
        exact br_f (nI_pos (by omega)) (br_f (Int32.not_le.mpr p0) ⟨rfl, I0⟩)
    · obtain ⟨p, hp, rfl⟩ := nI_of p0
      refine br_f p0 ⟨vi, ?_⟩
      rw [cl, (D m m12).1]
      have yrun : ∀ q, (if p < (ky_d kk rt g m).length then nI ((ky_d kk rt g m).getD p 0) else -1) = q → wpY_node (fun r' v' => r' = q ∧ i_Rel (k + 3) (f_tokenCount, f_accepted, f_lastPlace, f_openCount, f_draftOpen, f_symbolCount, f_stepCount, f_bindingCount, f_waitingCount, f_clashPlace, f_nodeCount, f_todoCount, a_kinds, a_values, a_declaredSize, a_declaredNodes, a_draftSize, a_draftNodes, a_symbols, a_symbolPlaces, a_steps, a_stepPlaces, a_bindings, a_boundType, a_waitingTypes, a_waitingFirm, a_shape, a_left, a_right, a_link, a_note, a_todo, a_todoOther, a_generalNode) v') (f_count2, f_accepted2, f_place2, nI kc, f_nodes2, f_tt2, f_pos2, f_bad2, f_typing2, f_unbound2, f_clash2, f_top2, f_scope2, f_doneName2, f_doneType2, a_kind2, a_value2, a_keptKind2, a_keptA2, a_keptB2, a_root2, a_what2, a_partA2, a_partB2, a_mark2, a_twin2, a_walk2, a_pairs2, a_now2, a_todo2, a_types2, a_firm2, a_bound2, a_boundType2) (nI m) (nI p) := by
        intro q hq
        refine y0 ⟨vi, ?_⟩
        rw [cl, R m m12]
        by_cases z : rt m = 0
        · refine br_t (by rw [z]; decide) ⟨?_, I0⟩
          rw [← hq, (ky_nil H m12).mpr z]; rfl
        · rw [show mk_v' (rt m) = nI (rt m - 1) from if_neg z]
          refine br_f (nI_pos (by omega)) (br_t (nI_pos' hp) ?_)
          refine yw_load H G R (fun wh pA pB nw hG hN => ?_)
          refine yw_unmark (by omega) (fun mk hmk => ⟨m + 1 + 1, ?_⟩)
          refine yw_n44 (p0 := m) H HX hG R m12 hp z (fun mk wk => ⟨?_, I0⟩) (m + 1) 0 (fun _ => 0) mk _ (by omega) (fun i hi => hmk i hi) (fun i hi _ => (dn_x0 (by simp [nm_S])).symm) (fun _ _ _ _ => rfl)
          rw [← hq]
          unfold nd_a
          by_cases c : p < (ky_d kk rt g m).length
          · rw [if_pos c, if_pos ⟨rfl, c⟩]
          · rw [if_neg c, if_neg (fun z => c z.2)]
      by_cases pl : p < (ky_d kk rt g m).length
      · refine br_t (nI_lt pl (by omega)) ?_
        have e12 : nI m * 12 + nI p = nI (m * 12 + p) := by
          rw [show (12 : Int32) = nI 12 from rfl, pk_mul, nI_add]
        rw [e12]
        refine ⟨vp_in_nI (by omega) (by decide), ?_⟩
        rw [nI_clamp (by omega)]
        refine yrun _ ?_
        rw [if_pos pl, List.getD_eq_getElem?_getD, List.getElem?_eq_getElem pl]
        exact ((D m m12).2.2.2 p _ (List.getElem?_eq_getElem pl)).symm
      · refine br_f (nI_nlt (by omega) hp) (yrun _ (if_neg pl))
  · exact br_t (nI_le (a := 12) (by omega) hm) (br_t rfl (br_f n0 (br_t (nI_lt (a := 11) (by omega) hm) ⟨rfl, I0⟩)))
