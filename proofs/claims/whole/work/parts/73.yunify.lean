/-! the reference makes two nodes equal -/
def st_q (a : Nat → Int32) : List (Nat × Nat) → Prop
  | [] => True
  | p :: L => a L.length = nI (p.1 * 4096 + p.2) ∧ st_q a L
theorem st_qu {a : Nat → Int32} {k : Nat} {x : Int32} : ∀ L : List (Nat × Nat), L.length ≤ k → st_q a L → st_q (upd a k x) L := by
  intro L
  induction L with
  | nil => intro _ _; trivial
  | cons y L ih =>
    intro h z
    rw [List.length_cons] at h
    refine ⟨?_, ih (by omega) z.2⟩
    rw [pk_un (by omega)]; exact z.1
theorem st_qp {a : Nat → Int32} {x y : Nat} {L : List (Nat × Nat)} (h : st_q a L) : st_q (upd a L.length (nI (x * 4096 + y))) ((x, y) :: L) := ⟨pk_us, st_qu L (Nat.le_refl _) h⟩
section
variable {f_count f_accepted f_place f_kept f_nodes f_tt f_pos f_bad f_typing f_unbound f_clash f_top f_scope f_doneName f_doneType : Int32} {a_kind a_value a_keptKind a_keptA a_keptB a_root a_what a_partA a_partB a_mark a_twin a_walk a_pairs a_now a_todo a_types a_firm a_bound a_boundType : Nat → Int32}
variable {kd pa pb : Nat → Nat} {n K : Nat}
theorem yg_link {wh pA pB : Nat → Int32} {a b : Nat} (hG : yg_G n wh pA pB kd pa pb) (hb : b < n) : yg_G n (upd wh a 7) (upd pA a (nI b)) pB (gr_u kd a 1000) (gr_u pa a b) pb := by
  intro i hi
  by_cases c : i = a
  · subst c
    rw [gr_us, gr_us, pk_us, pk_us]
    exact Or.inl ⟨rfl, hb, rfl, rfl⟩
  · rw [gr_un c, gr_un c, pk_un c, pk_un c]; exact hG i hi
theorem yg_link7 {wh pA pB : Nat → Int32} {a b : Nat} (hG : yg_G n wh pA pB kd pa pb) (ha : a < n) (hb : b < n) (h7 : kd a = 7) : yg_G n wh (upd pA a (nI b)) pB (gr_u kd a 1000) (gr_u pa a b) pb := by
  intro i hi
  by_cases c : i = a
  · subst c
    rw [gr_us, gr_us, pk_us]
    exact Or.inl ⟨rfl, hb, (yg_7 hG ha (by omega)).mpr h7, rfl⟩
  · rw [gr_un c, gr_un c, pk_un c]; exact hG i hi
/-- kinds as the reference compares them -/
theorem yg_same {wh pA pB : Nat → Int32} {a b : Nat} (hG : yg_G n wh pA pB kd pa pb) (ha : a < n) (hb : b < n) (ka : kd a ≠ 1000) (kb : kd b ≠ 1000) : (wh a = wh b ↔ yk (kd a) = yk (kd b)) ∧ (wh a = 9 ↔ 9 < kd a) ∧ (9 < kd a → 9 < kd b → (pA a = pA b ↔ kd a = kd b)) := by
  obtain ⟨a1, a2, a3, a4, a5, a6⟩ := yg_r hG ha ka
  obtain ⟨b1, b2, b3, b4, b5, b6⟩ := yg_r hG hb kb
  have la := yk_le (kd a)
  have lb := yk_le (kd b)
  refine ⟨?_, ?_, fun h h' => ?_⟩
  · rw [a3, b3]; exact nI_eq (by omega) (by omega)
  · rw [a3]
    constructor
    · intro z
      have e := (nI_eq (b := 9) (by omega) (by omega)).mp z
      by_cases c : kd a < 9
      · rw [yk_l c] at e; omega
      · omega
    · intro z
      rw [yk_9 (by omega)]; rfl
  · rw [a6 h, b6 h', nI_eq (by omega) (by omega)]
    omega
theorem yw_eq_l {post : Int32 → SY → Prop} {kd0 pa0 : Nat → Nat} {M : Nat → Prop} {s t : Nat} (hn : n ≤ 2000) (hs : s < n)
    (hfail : (∀ ρ, gr_V n kd0 pa0 pb ρ → ρ s ≠ ρ t) → ∀ wh pA mk wk pr, post 0 (f_count, f_accepted, f_place, f_kept, nI n, f_tt, f_pos, f_bad, f_typing, f_unbound, f_clash, f_top, f_scope, f_doneName, f_doneType, a_kind, a_value, a_keptKind, a_keptA, a_keptB, a_root, wh, pA, a_partB, mk, a_twin, wk, pr, a_now, a_todo, a_types, a_firm, a_bound, a_boundType))
    (hok : ∀ kd pa K S wh pA mk wk pr, un_I n kd0 pa0 pb M s t kd pa [] → yg_G n wh pA a_partB kd pa pb → gr_L n kd pa K → ck_R n kd pa pb S → (∀ x, gr_to kd pa s x → S x) → post 1 (f_count, f_accepted, f_place, f_kept, nI n, f_tt, f_pos, f_bad, f_typing, f_unbound, f_clash, f_top, f_scope, f_doneName, f_doneType, a_kind, a_value, a_keptKind, a_keptA, a_keptB, a_root, wh, pA, a_partB, mk, a_twin, wk, pr, a_now, a_todo, a_types, a_firm, a_bound, a_boundType)) :
    ∀ m kd pa K L wh pA pr, un_I n kd0 pa0 pb M s t kd pa L → yg_G n wh pA a_partB kd pa pb → gr_L n kd pa K → st_q pr L → L.length + 2 * gr_nr kd n ≤ m → L.length + gr_nr kd n ≤ 2001 → wY_unify_17 post (nI s) f_count f_accepted f_place f_kept (nI n) f_tt f_pos f_bad f_typing f_unbound f_clash f_top f_scope f_doneName f_doneType (m + 1) (nI L.length) a_kind a_value a_keptKind a_keptA a_keptB a_root wh pA a_partB a_mark a_twin a_walk pr a_now a_todo a_types a_firm a_bound a_boundType := by
  have nil : ∀ m kd pa K wh pA pr, un_I n kd0 pa0 pb M s t kd pa [] → yg_G n wh pA a_partB kd pa pb → gr_L n kd pa K → wY_unify_17 post (nI s) f_count f_accepted f_place f_kept (nI n) f_tt f_pos f_bad f_typing f_unbound f_clash f_top f_scope f_doneName f_doneType (m + 1) (nI 0) a_kind a_value a_keptKind a_keptA a_keptB a_root wh pA a_partB a_mark a_twin a_walk pr a_now a_todo a_types a_firm a_bound a_boundType := by
    intro m kd pa K wh pA pr U hG hL
    refine br_t (nI_le (a := 0) (b := 0) (by omega) (by omega)) ?_
    refine yw_endless hn U.1 hG hL hs (fun no mk wk => ?_) (fun S hS h0 mk wk => ?_)
    · refine br_f (by decide) (hfail (fun ρ h e => no ρ ((U.2.1 ρ).mp ⟨h, e⟩).1) _ _ _ _ _)
    · exact br_t rfl (hok kd pa K S _ _ _ _ _ U hG hL hS h0)
  intro m
  induction m with
  | zero =>
    intro kd pa K L wh pA pr U hG hL hst hm hl
    have e : L = [] := List.eq_nil_of_length_eq_zero (by omega)
    subst e
    exact nil 0 kd pa K wh pA pr U hG hL
  | succ m ih =>
    intro kd pa K L wh pA pr U hG hL hst hm hl
    cases L with
    | nil => exact nil (m + 1) kd pa K wh pA pr U hG hL
    | cons x L =>
      obtain ⟨p, q⟩ := x
      rw [List.length_cons] at hm hl
      have W := U.1
      have C := U.2.2.2.1
      have mp := U.2.2.1 (p, q) List.mem_cons_self
      have pn : p < n := (C p mp.1).1
      have qn : q < n := (C q mp.2).1
      have tp := gr_L_to hL pn
      have tq := gr_L_to hL qn
      generalize ea : gr_f kd pa K p = a at tp
      generalize eb : gr_f kd pa K q = b at tq
      have an := gr_to_n W tp pn
      have bn := gr_to_n W tq qn
      have va : vp_in (nI a) 2000 := vp_in_nI (by omega) (by decide)
      have vb : vp_in (nI b) 2000 := vp_in_nI (by omega) (by decide)
      have vl : vp_in (nI L.length) 2100 := vp_in_nI (by omega) (by decide)
      have ca : (nI a).toNatClampNeg = a := nI_clamp (by omega)
      have cb : (nI b).toNatClampNeg = b := nI_clamp (by omega)
      have nr1 := gr_nr_le (kd := kd) n
      obtain ⟨a1, a2, a3, a4, a5, a6⟩ := yg_r hG an tp.1
      obtain ⟨b1, b2, b3, b4, b5, b6⟩ := yg_r hG bn tq.1
      obtain ⟨s1, s2, s3⟩ := yg_same hG an bn tp.1 tq.1
      refine br_f (nI_nle (by rw [List.length_cons]; omega) (by rw [List.length_cons]; omega)) ?_
      rw [List.length_cons]
      refine nm_r (pk_m1 L.length) ⟨vl, ?_⟩
      rw [nI_clamp (by omega), hst.1]
      show wpY_real _ _ (nI (p * 4096 + q) >>> ((12 : Int32) &&& 31))
      rw [yp_s (by omega) (by omega)]
      refine yw_real hG hn hL pn tp ⟨vl, ?_⟩
      show wpY_real _ _ (nI (p * 4096 + q) &&& 4095)
      rw [yp_t (by omega) (by omega)]
      refine yw_real hG hn hL qn tq ?_
      refine pk_eq a b (fun e => ?_) (fun e => ⟨va, ?_⟩)
      · subst e
        exact ih kd pa K L wh pA pr (un_drop U tp tq) hG hL hst.2 (by omega) (by omega)
      · have K128 : ∀ z0 : Int32, (z0 = 0 → kd a ≠ kd b) → (z0 ≠ 0 → kd a = kd b) → wY_unify_128 post (wY_unify_17 post (nI s) f_count f_accepted f_place f_kept (nI n) f_tt f_pos f_bad f_typing f_unbound f_clash f_top f_scope f_doneName f_doneType (m + 1)) (nI s) (nI L.length) (nI a) (nI b) (nI (yp_n (yk (kd a)))) z0 f_count f_accepted f_place f_kept (nI n) f_tt f_pos f_bad f_typing f_unbound f_clash f_top f_scope f_doneName f_doneType a_kind a_value a_keptKind a_keptA a_keptB a_root wh pA a_partB a_mark a_twin a_walk pr a_now a_todo a_types a_firm a_bound a_boundType := by
          intro z0 hz hz'
          refine ⟨va, ?_⟩
          rw [ca]
          refine pk_p (yg_7 hG an tp.1) (fun k7 => ⟨va, ?_⟩) (fun k7 => ⟨vb, ?_⟩)
          · have nr2 := gr_nr_u n an tp.1
            rw [ys_nn (by omega)]
            exact nm_e (ih _ _ (K + 1) L _ _ _ (un_link U tp tq e (Or.inl k7)) (yg_link7 hG an bn k7) (gr_L_u hL tp.1 tq.1 e) hst.2 (by omega) (by omega))
          · rw [cb]
            refine pk_p (yg_7 hG bn tq.1) (fun j7 => ⟨vb, ?_⟩) (fun j7 => ?_)
            · have nr2 := gr_nr_u n bn tq.1
              have U' := un_L (L' := (q, p) :: L) U (fun x hx => by
                rcases List.mem_cons.mp hx with z | z
                · rw [z]; exact Or.inr List.mem_cons_self
                · exact Or.inl (List.mem_cons_of_mem _ z)) (fun x hx => by
                rcases List.mem_cons.mp hx with z | z
                · rw [z]; exact Or.inr List.mem_cons_self
                · exact Or.inl (List.mem_cons_of_mem _ z))
              rw [ys_nn (by omega)]
              exact nm_e (ih _ _ (K + 1) L _ _ _ (un_link U' tq tp (Ne.symm e) (Or.inl j7)) (yg_link7 hG bn an j7) (gr_L_u hL tq.1 tp.1 (Ne.symm e)) hst.2 (by omega) (by omega))
            · refine br_c (fun z => hfail (un_fail U tp tq (hz z) k7 j7) _ _ _ _ _) (fun z => ?_)
              have ke := hz' z
              have nr2 := gr_nr_u n an tp.1
              by_cases hc : gr_cn (kd a)
              · obtain ⟨q1, q2, q3⟩ := a5 hc
                have hcb : gr_cn (kd b) := ke ▸ hc
                obtain ⟨r1, r2, r3⟩ := b5 hcb
                have wa := (W a an).2 hc
                have wb := (W b bn).2 hcb
                by_cases k4 : kd a ≤ 4
                · rw [yp_1 hc k4]
                  refine br_f (by decide) (br_t (by decide) ?_)
                  refine nm_r (nI_1 _) ⟨va, vb, vl, ?_⟩
                  rw [nI_clamp (by omega), ca, cb, q1, r1, yp_pair (by omega) (by omega), ys_nn (by omega)]
                  refine nm_e ⟨va, nm_e ⟨va, nm_e ?_⟩⟩
                  have U' := un_L (L' := (pa a, pa b) :: L) (un_con U tp tq e ke hc) (fun x hx => by
                    rcases List.mem_cons.mp hx with z | hx
                    · rw [z]; exact Or.inl List.mem_cons_self
                    · exact Or.inl (List.mem_cons_of_mem _ (List.mem_cons_of_mem _ hx))) (fun x hx => by
                    rcases List.mem_cons.mp hx with z | hx
                    · rw [z]; exact Or.inl List.mem_cons_self
                    · rcases List.mem_cons.mp hx with z | hx
                      · rw [z, q3 k4, r3 (by omega)]; exact Or.inl List.mem_cons_self
                      · exact Or.inl (List.mem_cons_of_mem _ hx))
                  exact ih _ _ (K + 1) ((pa a, pa b) :: L) _ _ _ U' (yg_link hG bn) (gr_L_u hL tp.1 tq.1 e) (st_qp hst.2) (by rw [List.length_cons]; omega) (by rw [List.length_cons]; omega)
                · rw [yp_2 hc (by omega)]
                  refine br_f (by decide) (br_f (by decide) ?_)
                  refine nm_r (nI_1 _) ⟨va, vb, vl, ?_⟩
                  rw [nI_clamp (by omega), q2 (by omega), r2 (by omega), yp_pair (by omega) (by omega)]
                  refine nm_e ?_
                  refine nm_r (nI_1 _) ⟨va, vb, vp_in_nI (by omega) (by decide), ?_⟩
                  rw [nI_clamp (by omega), ca, cb, q1, r1, yp_pair (by omega) (by omega), ys_nn (by omega)]
                  refine nm_e ⟨va, nm_e ⟨va, nm_e ?_⟩⟩
                  exact ih _ _ (K + 1) ((pa a, pa b) :: (pb a, pb b) :: L) _ _ _ (un_con U tp tq e ke hc) (yg_link hG bn) (gr_L_u hL tp.1 tq.1 e) (st_qp (L := (pb a, pb b) :: L) (st_qp hst.2)) (by rw [List.length_cons, List.length_cons]; omega) (by rw [List.length_cons, List.length_cons]; omega)
              · rw [yp_0 hc]
                exact br_t (by decide) (ih kd pa K L wh pA pr (un_same U tp tq ke hc k7) hG hL hst.2 (by omega) (by omega))
        rw [ca, a3]
        refine yw_parts (by have := yk_le (kd a); omega) ⟨va, vb, ?_⟩
        rw [cb, ← a3]
        refine pk_p s1 (fun ey => ⟨va, ?_⟩) (fun ey => K128 0 (fun _ z => ey (by rw [z])) (fun z => (z rfl).elim))
        refine pk_p s2 (fun e9 => ⟨va, vb, ?_⟩) (fun e9 => K128 1 (fun z => by cases z) (fun _ => ?_))
        · have f9 : 9 < kd b := by
            by_cases c : kd b < 9
            · rw [yk_9 (by omega), yk_l c] at ey; omega
            · omega
          exact pk_p (s3 e9 f9) (fun z => K128 1 (fun z => by cases z) (fun _ => z)) (fun z => K128 0 (fun _ => z) (fun z => (z rfl).elim))
        · have l : kd a < 9 := by omega
          rw [yk_l l] at ey
          by_cases c : kd b < 9
          · rw [yk_l c] at ey; exact ey
          · rw [yk_9 (by omega)] at ey; omega
theorem yw_unify {post : Int32 → SY → Prop} {M : Nat → Prop} {s t : Nat} (hn : n ≤ 2000) (W : gr_W n kd pa pb) (C : gr_C n kd pa pb M) (G8 : ∀ i, M i → kd i ≠ 8) (hs : M s) (ht : M t) (hG : yg_G n a_what a_partA a_partB kd pa pb) (hL : gr_L n kd pa K)
    (hfail : (∀ ρ, gr_V n kd pa pb ρ → ρ s ≠ ρ t) → ∀ wh pA mk wk pr, post 0 (f_count, f_accepted, f_place, f_kept, nI n, f_tt, f_pos, f_bad, f_typing, f_unbound, f_clash, f_top, f_scope, f_doneName, f_doneType, a_kind, a_value, a_keptKind, a_keptA, a_keptB, a_root, wh, pA, a_partB, mk, a_twin, wk, pr, a_now, a_todo, a_types, a_firm, a_bound, a_boundType))
    (hok : ∀ kd' pa' K' S wh pA mk wk pr, un_I n kd pa pb M s t kd' pa' [] → yg_G n wh pA a_partB kd' pa' pb → gr_L n kd' pa' K' → ck_R n kd' pa' pb S → (∀ x, gr_to kd' pa' s x → S x) → post 1 (f_count, f_accepted, f_place, f_kept, nI n, f_tt, f_pos, f_bad, f_typing, f_unbound, f_clash, f_top, f_scope, f_doneName, f_doneType, a_kind, a_value, a_keptKind, a_keptA, a_keptB, a_root, wh, pA, a_partB, mk, a_twin, wk, pr, a_now, a_todo, a_types, a_firm, a_bound, a_boundType)) :
    wpY_unify post (f_count, f_accepted, f_place, f_kept, nI n, f_tt, f_pos, f_bad, f_typing, f_unbound, f_clash, f_top, f_scope, f_doneName, f_doneType, a_kind, a_value, a_keptKind, a_keptA, a_keptB, a_root, a_what, a_partA, a_partB, a_mark, a_twin, a_walk, a_pairs, a_now, a_todo, a_types, a_firm, a_bound, a_boundType) (nI s) (nI t) := by
  have nr1 := gr_nr_le (kd := kd) n
  have sn := (C s hs).1
  have tn := (C t ht).1
  refine nm_e ?_
  rw [yp_pair (by omega) (by omega)]
  refine nm_e ⟨2 * n + 3, ?_⟩
  exact yw_eq_l hn sn hfail hok (2 * n + 2) kd pa K [(s, t)] _ _ _ (un_0 W C G8 hs ht) hG hL (st_qp (L := []) trivial) (by rw [List.length_singleton]; omega) (by rw [List.length_singleton]; omega)
end
