/-! the reference: the kept types brought to the nodes, and a whole reading -/
def yk_G (kc : Nat) (qk qa qb : Nat → Int32) (kk ka kb : Nat → Nat) : Prop :=
  ∀ i, i < kc → qk i = nI (kk i) ∧ (kk i = 7 → qa i = -1) ∧ (gr_cn (kk i) → qa i = nI (ka i) ∧ (5 ≤ kk i → qb i = nI (kb i)))
theorem ys_v' {rt : Nat} (h : rt ≤ 144) : vp_nar .short (mk_v' rt) = mk_v' rt := by
  unfold mk_v'
  by_cases z : rt = 0
  · rw [if_pos z]; rfl
  · rw [if_neg z]; exact ys_v (by omega)
section
variable {f_count f_accepted f_place f_kept f_nodes f_tt f_pos f_bad f_typing f_unbound f_clash f_top f_scope f_doneName f_doneType : Int32} {a_kind a_value a_keptKind a_keptA a_keptB a_root a_what a_partA a_partB a_mark a_twin a_walk a_pairs a_now a_todo a_types a_firm a_bound a_boundType : Nat → Int32}
variable {kc : Nat} {kk ka kb rt lo hi : Nat → Nat} {g : Nat → tr_T}
theorem yw_load {post : SY → Prop} (HK : ky_K kc kk ka kb rt lo hi g) (G : yk_G kc a_keptKind a_keptA a_keptB kk ka kb) (hR : y_R a_root rt) (h : ∀ wh pA pB nw, yg_G kc wh pA pB kk ka kb → y_R nw rt → post (f_count, f_accepted, f_place, nI kc, nI kc, f_tt, f_pos, f_bad, f_typing, f_unbound, f_clash, f_top, f_scope, f_doneName, f_doneType, a_kind, a_value, a_keptKind, a_keptA, a_keptB, a_root, wh, pA, pB, a_mark, a_twin, a_walk, a_pairs, nw, a_todo, a_types, a_firm, a_bound, a_boundType)) : wpY_load post (f_count, f_accepted, f_place, nI kc, f_nodes, f_tt, f_pos, f_bad, f_typing, f_unbound, f_clash, f_top, f_scope, f_doneName, f_doneType, a_kind, a_value, a_keptKind, a_keptA, a_keptB, a_root, a_what, a_partA, a_partB, a_mark, a_twin, a_walk, a_pairs, a_now, a_todo, a_types, a_firm, a_bound, a_boundType) := by
  obtain ⟨W, A, k9, kp, hg, gg, k144, hr, reach⟩ := HK
  have l46 : ∀ wh pA pB, yg_G kc wh pA pB kk ka kb → ∀ d j nw, j + d = 12 → (∀ v, v < j → nw v = mk_v' (rt v)) → wY_load_46 post f_count f_accepted f_place (nI kc) (nI kc) f_tt f_pos f_bad f_typing f_unbound f_clash f_top f_scope f_doneName f_doneType (d + 1) (nI j) a_kind a_value a_keptKind a_keptA a_keptB a_root wh pA pB a_mark a_twin a_walk a_pairs nw a_todo a_types a_firm a_bound a_boundType := by
    intro wh pA pB hG d
    induction d with
    | zero =>
      intro j nw hj hn
      exact br_t (nI_le (a := 12) (by omega) (by omega)) (h wh pA pB nw hG (fun v hv => hn v (by omega)))
    | succ d ih =>
      intro j nw hj hn
      have vj : vp_in (nI j) 12 := vp_in_nI (by omega) (by decide)
      refine br_f (nI_ge (b := 12) (by omega) (by decide)) ⟨vj, vj, ?_⟩
      rw [nI_clamp (by omega), hR j (by omega), ys_v' (by have := (hr j (by omega)).1; omega)]
      refine nm_e (nm_r (nI_1 j) (ih (j + 1) _ (by omega) (fun v hv => ?_)))
      by_cases c : v = j
      · rw [c, pk_us]
      · rw [pk_un c]; exact hn v (by omega)
  have l7 : ∀ d j wh pA pB, j + d = kc → yg_G j wh pA pB kk ka kb → wY_load_7 post (d + 1) (nI j) f_count f_accepted f_place (nI kc) (nI j) f_tt f_pos f_bad f_typing f_unbound f_clash f_top f_scope f_doneName f_doneType a_kind a_value a_keptKind a_keptA a_keptB a_root wh pA pB a_mark a_twin a_walk a_pairs a_now a_todo a_types a_firm a_bound a_boundType := by
    intro d
    induction d with
    | zero =>
      intro j wh pA pB hj hG
      have e : j = kc := by omega
      subst e
      exact br_t (nI_le (by omega) (by omega)) ⟨13, l46 wh pA pB hG 12 0 _ (by omega) (fun v hv => by omega)⟩
    | succ d ih =>
      intro j wh pA pB hj hG
      have vj : vp_in (nI j) 180 := vp_in_nI (by omega) (by decide)
      refine br_f (nI_ge (by omega) (by omega)) ⟨vj, vj, vj, ?_⟩
      rw [nI_clamp (by omega)]
      obtain ⟨q1, q2, q3⟩ := G j (by omega)
      have k9j := k9 j (by omega)
      rw [q1]
      refine yw_make (by omega) (nm_r (nI_1 j) (ih (j + 1) _ _ _ (by omega) (fun i hi => ?_)))
      by_cases c : i = j
      · subst c
        rw [pk_us, pk_us, pk_us, yb_n (by omega), yk_l k9j]
        refine Or.inr ⟨by omega, by omega, rfl, fun z => ?_, fun z => ?_, fun z => by omega⟩
        · rw [q2 z]; rfl
        · have w := (W i (by omega)).2 z
          rw [(q3 z).1, ys_n (by omega)]
          refine ⟨rfl, fun z5 => ?_, fun z4 => kp i (by omega) (by omega)⟩
          rw [(q3 z).2 z5, ys_n (by omega)]
      · rw [pk_un c, pk_un c, pk_un c]
        rcases hG i (by omega) with z | z
        · exact Or.inl ⟨z.1, by omega, z.2.2⟩
        · exact Or.inr z
  exact ⟨kc + 1, l7 kc 0 a_what a_partA a_partB (by omega) (fun i hi => by omega)⟩
theorem ya_G0 {wh pA pB : Nat → Int32} (HK : ky_K kc kk ka kb rt lo hi g) (hG : yg_G kc wh pA pB kk ka kb) : ya_G kc kk ka kb rt g 0 kc [] [] [] (fun ν st E => ν.length = (ky_o kk rt g).length ∧ st = [] ∧ E = []) wh pA pB :=
  ⟨0, kk, ka, kb, yl_rp HK, hG, fun i hi z => by
    have z : kk i = 1000 := z
    have := HK.2.2.1 i hi
    omega, yl_0 HK⟩
theorem yw_readD {post : Int32 → SY → Prop} {c f a' : Nat} {b : Bool} {K N mq : Nat → Nat} {sp' : pm_L} (HK : ky_K kc kk ka kb rt lo hi g) (hT : tk_T a_kind a_value c K N) (hm : ∀ q, mq q = pm_nq K 24 (q + 3) - (q + 1)) (hR : y_R a_now rt) (hG : yg_G kc a_what a_partA a_partB kk ka kb) (hgo : pm_go K f [(40, 0)] 0 [] = some (a', sp', b))
    (hZ : (b = false ∨ a' ≠ c) → yr_Z c a' post f_accepted f_place f_kept a_kind a_value a_keptKind a_keptA a_keptB a_root a_now)
    (hE : b = true → a' = c → ∀ (bs : List (Nat × Bool)) (fl : List Bool) (V : dv_W) (x : Nat × Nat × Nat) (nl n : Nat) (stk env : List Nat) (f_tt f_typing f_unbound f_clash f_scope f_doneName f_doneType : Int32) (a_what a_partA a_partB a_mark a_twin a_walk a_pairs a_todo a_types a_firm a_bound a_boundType : Nat → Int32), yt_I kc kk ka kb rt g c K N mq (fun bs fl => b = true → (∃ f, bs = [(1, f)]) ∧ fl = []) (fun r => gn_N K N mq (ky_d kk rt g) sp' [] [] r) (fun r => gc_C K N mq (Dc_U (ky_d kk rt g)) sp' [] [] (fun ν st E => ν.length = (ky_o kk rt g).length ∧ st = [] ∧ E = []) r) (gd_E K N mq (Dc_U (ky_d kk rt g)) sp' [] [] (fun ν st E => ν.length = (ky_o kk rt g).length ∧ st = [] ∧ E = [])) true c [] bs fl V x nl n stk env f_typing f_unbound f_clash f_scope f_doneName f_doneType a_what a_partA a_partB a_types a_firm a_bound a_boundType → post 1 (nI c, f_accepted, f_place, f_kept, nI n, f_tt, nI c, 0, f_typing, f_unbound, f_clash, nI stk.length, f_scope, f_doneName, f_doneType, a_kind, a_value, a_keptKind, a_keptA, a_keptB, a_root, a_what, a_partA, a_partB, a_mark, a_twin, a_walk, a_pairs, a_now, a_todo, a_types, a_firm, a_bound, a_boundType)) :
    wpY_read post (nI c, f_accepted, f_place, f_kept, nI kc, f_tt, f_pos, f_bad, f_typing, f_unbound, f_clash, f_top, f_scope, f_doneName, f_doneType, a_kind, a_value, a_keptKind, a_keptA, a_keptB, a_root, a_what, a_partA, a_partB, a_mark, a_twin, a_walk, a_pairs, a_now, a_todo, a_types, a_firm, a_bound, a_boundType) 18 := by
  have gd := pm_run0 (N := N) (Dc := Dc_U (ky_d kk rt g)) (oc := (ky_o kk rt g).length) hT.2.1 hT.1 hm hgo
  unfold wpY_read
  refine yw_then (t := 0) (s := 18) (w := 0) (by omega) (by omega) (by omega) ?_
  refine ⟨8 * f + 1, ?_⟩
  have st : st_1 (upd a_todo 0 (nI (18 + 64 * 0))) (yk_S K mq [(40, 0)] 0) := ⟨pk_us, trivial⟩
  refine yw_loop (a' := a') (b := b) (c := c) (K := K) (N := N) (mq := mq) HK hT hm hR hZ hE f [(40, 0)] 0 [] sp' [] [] (fun ν st E => ν.length = (ky_o kk rt g).length ∧ st = [] ∧ E = []) (0, 0, 0) 0 kc [] [] (8 * f) _ _ _ _ _ _ _ _ _ _ _ _ _ _ _ _ _ _ hgo ⟨Nat.zero_le _, ⟨rfl, trivial⟩, fun y hy => ?_, Nat.le_refl _, Nat.le_refl _, Nat.le_refl _, st, fun z => by omega, trivial⟩ ?_ (Nat.le_refl _)
  · rw [List.mem_singleton.mp hy]
    exact ⟨Or.inr (Or.inl rfl), fun z => by omega⟩
  · exact ⟨gd, Or.inl ⟨rfl, rfl, rfl, ya_G0 HK hG⟩, ⟨trivial, trivial, rfl, fun z hz => (by cases hz), rfl, fun z hz => (by cases hz), trivial, fun z hz => (by cases hz), Nat.le_refl _, Nat.zero_le _, Nat.zero_le _⟩, Or.inl rfl, fun _ r h => h, fun _ => ⟨fun r h => h, rfl⟩, Or.inl ⟨rfl, rfl, trivial, trivial⟩⟩
end
