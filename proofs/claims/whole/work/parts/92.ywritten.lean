/-! the reference: how long a type is -/
theorem wk_len {n : Nat} {kd pa pb : Nat → Nat} {g : Nat → tr_T} (W : gr_W n kd pa pb) (A : gr_A n kd pa pb) (hg : gr_V n kd pa pb g) (gg : gr_gen n kd g) {i : Nat} (hi : i < n) : 1 ≤ (tr_pre (g i)).length := by
  obtain ⟨f, hf⟩ := A i hi
  exact List.length_pos_iff.mpr (tr_pre_ne W hg (fun j hj c => by rw [gg j hj c, tr_pre_at]; exact List.cons_ne_nil _ _) f i hi hf)
section
variable {f_count f_accepted f_place f_kept f_nodes f_tt f_pos f_bad f_typing f_unbound f_clash f_top f_scope f_doneName f_doneType : Int32} {a_kind a_value a_keptKind a_keptA a_keptB a_root a_what a_partA a_partB a_mark a_twin a_walk a_pairs a_now a_todo a_types a_firm a_bound a_boundType : Nat → Int32}
variable {kd pa pb : Nat → Nat} {n K : Nat} {g : Nat → tr_T}
theorem yw_written {post : Int32 → SY → Prop} {t : Nat} (hn : n ≤ 2000) (W : gr_W n kd pa pb) (A : gr_A n kd pa pb) (hG : yg_G n a_what a_partA a_partB kd pa pb) (hL : gr_L n kd pa K) (hg : gr_V n kd pa pb g) (gg : gr_gen n kd g) (ht : t < n) (h : ∀ wk r, r ≤ 15 → (r < 15 → r = (tr_pre (g t)).length) → r ≤ (tr_pre (g t)).length → post (nI r) (f_count, f_accepted, f_place, f_kept, f_nodes, f_tt, f_pos, f_bad, f_typing, f_unbound, f_clash, f_top, f_scope, f_doneName, f_doneType, a_kind, a_value, a_keptKind, a_keptA, a_keptB, a_root, a_what, a_partA, a_partB, a_mark, a_twin, wk, a_pairs, a_now, a_todo, a_types, a_firm, a_bound, a_boundType)) : wpY_written post (f_count, f_accepted, f_place, f_kept, f_nodes, f_tt, f_pos, f_bad, f_typing, f_unbound, f_clash, f_top, f_scope, f_doneName, f_doneType, a_kind, a_value, a_keptKind, a_keptA, a_keptB, a_root, a_what, a_partA, a_partB, a_mark, a_twin, a_walk, a_pairs, a_now, a_todo, a_types, a_firm, a_bound, a_boundType) (nI t) := by
  have loop : ∀ d j S wk, j + d = 15 → st_1 wk S → (∀ i, i ∈ S → i < n) → S.length ≤ j + 1 → j + (wk_L g S).length = (tr_pre (g t)).length → wY_written_15 post f_count f_accepted f_place f_kept f_nodes f_tt f_pos f_bad f_typing f_unbound f_clash f_top f_scope f_doneName f_doneType (d + 1) (nI S.length) (nI j) a_kind a_value a_keptKind a_keptA a_keptB a_root a_what a_partA a_partB a_mark a_twin wk a_pairs a_now a_todo a_types a_firm a_bound a_boundType := by
    intro d
    induction d with
    | zero =>
      intro j S wk hj st hS hl he
      have e : j = 15 := by omega
      subst e
      exact br_c (fun _ => h wk 15 (Nat.le_refl _) (fun z => by omega) (by omega)) (fun _ => br_t (Int32.le_refl _) (h wk 15 (Nat.le_refl _) (fun z => by omega) (by omega)))
    | succ d ih =>
      intro j S wk hj st hS hl he
      cases S with
      | nil =>
        have e0 : (wk_L g []).length = 0 := rfl
        exact br_t (Int32.le_refl _) (h wk j (by omega) (fun _ => by omega) (by omega))
      | cons i S =>
        rw [List.length_cons] at hl ⊢
        have iN := hS i List.mem_cons_self
        have ir := gr_L_to hL iN
        generalize gr_f kd pa K i = r at ir
        have rn := gr_to_n W ir iN
        have hS' : ∀ z, z ∈ S → z < n := fun z hz => hS z (List.mem_cons_of_mem _ hz)
        have cr : (nI r).toNatClampNeg = r := nI_clamp (by omega)
        have cs : (nI S.length).toNatClampNeg = S.length := nI_clamp (by omega)
        have cs1 : (nI (S.length + 1)).toNatClampNeg = S.length + 1 := nI_clamp (by omega)
        obtain ⟨q1, q2, q3, q4⟩ := wk_1 (S := S) W hg gg iN ir
        refine br_f (nI_nle (by omega) (by omega)) (br_f (nI_ge (b := 15) (by omega) (by decide)) ?_)
        rw [pk_m1]
        refine nm_e ⟨vp_in_nI (by omega) (by decide), ?_⟩
        rw [cs, st.1]
        refine yw_real hG hn hL iN ir (nm_r (nI_1 j) ⟨vp_in_nI (by omega) (by decide), ?_⟩)
        rw [cr]
        refine yw_p hG rn ir.1 (fun c => ?_) (fun c c4 ea eb => ?_) (fun c c5 ea eb => ?_)
        · refine br_t (by decide) ?_
          unfold wY_written_73
          refine ⟨vp_in_nI (by omega) (by decide), ?_⟩
          rw [cr]
          refine yw_p hG rn ir.1 (fun c => br_t (by decide) ?_) (fun c' _ _ _ => (c c').elim) (fun c' _ _ _ => (c c').elim)
          refine ih (j + 1) S wk (by omega) st.2 hS' (by omega) ?_
          by_cases fr : gr_fr (kd r)
          · rw [q1 fr, List.length_cons] at he; omega
          · rw [q4 c fr, List.length_cons] at he; omega
        · refine br_t (by decide) ?_
          unfold wY_written_73
          refine ⟨vp_in_nI (by omega) (by decide), ?_⟩
          rw [cr]
          have w := (W r rn).2 c
          refine yw_p hG rn ir.1 (fun c' => (c' c).elim) (fun _ _ _ _ => br_f (by decide) (nm_r (nI_1 S.length) ⟨vp_in_nI (by omega) (by decide), vp_in_nI (by omega) (by decide), ?_⟩)) (fun _ c5' _ _ => by omega)
          rw [cs, ea, ys_v (by omega)]
          refine nm_e (ih (j + 1) (pa r :: S) _ (by omega) (st_1p st.2) (fun z hz => ?_) (by rw [List.length_cons]; omega) ?_)
          · rcases List.mem_cons.mp hz with e | e
            · rw [e]; exact w.1
            · exact hS' z e
          · rw [q2 (by omega), List.length_cons] at he; omega
        · have w := (W r rn).2 c
          refine br_f (by decide) (nm_r (nI_1 S.length) ⟨vp_in_nI (by omega) (by decide), vp_in_nI (by omega) (by decide), ?_⟩)
          rw [eb, ys_v (by omega)]
          refine nm_e ?_
          unfold wY_written_73
          refine ⟨vp_in_nI (by omega) (by decide), ?_⟩
          rw [cr]
          refine yw_p hG rn ir.1 (fun c' => (c' c).elim) (fun _ c4 _ _ => by omega) (fun _ _ _ _ => br_f (by decide) (nm_r (nI_1 (S.length + 1)) ⟨vp_in_nI (by omega) (by decide), vp_in_nI (by omega) (by decide), ?_⟩))
          rw [cs1, ea, ys_v (by omega)]
          refine nm_e (ih (j + 1) (pa r :: pb r :: S) _ (by omega) (st_1p (L := pb r :: S) (st_1p st.2)) (fun z hz => ?_) (by rw [List.length_cons, List.length_cons]; omega) ?_)
          · rcases List.mem_cons.mp hz with e | e
            · rw [e]; exact w.1
            · rcases List.mem_cons.mp e with e | e
              · rw [e]; exact w.2
              · exact hS' z e
          · rw [q3 (by omega), List.length_cons] at he; omega
  refine nm_e ?_
  rw [ys_nn (by omega)]
  refine nm_e ⟨16, ?_⟩
  refine loop 15 0 [t] _ (by omega) (st_1p (L := []) trivial) (fun i hi => by rw [List.mem_singleton.mp hi]; exact ht) (Nat.le_refl _) ?_
  rw [wk_0]
  show 0 + (tr_pre (g t) ++ wk_L g []).length = _
  rw [show wk_L g [] = [] from rfl, List.append_nil]; omega
end
