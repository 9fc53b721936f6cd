/-! the reference marks what is reached from a node -/
/-- nt: what is marked; st: what waits; P holds of all of it -/
def yq_I (n : Nat) (kd pa pb nt : Nat → Nat) (P : Nat → Prop) (t : Nat) (st : List Nat) : Prop :=
  (∀ x, x ∈ st → x < n ∧ ∀ r, gr_to kd pa x r → P r) ∧
  (∀ r, r < n → nt r ≠ 0 → kd r ≠ 1000 ∧ P r ∧ (gr_cn (kd r) → (pa r ∈ st ∨ ∀ q, gr_to kd pa (pa r) q → nt q ≠ 0) ∧ (pb r ∈ st ∨ ∀ q, gr_to kd pa (pb r) q → nt q ≠ 0))) ∧
  (t ∈ st ∨ ∀ q, gr_to kd pa t q → nt q ≠ 0)
/-- what the marks say when nothing waits -/
def yq_F (n : Nat) (kd pa pb nt : Nat → Nat) (P : Nat → Prop) : Prop :=
  ∀ r, r < n → nt r ≠ 0 → kd r ≠ 1000 ∧ P r ∧ (gr_cn (kd r) → (∀ q, gr_to kd pa (pa r) q → nt q ≠ 0) ∧ ∀ q, gr_to kd pa (pb r) q → nt q ≠ 0)
section
variable {n K : Nat} {kd pa pb nt : Nat → Nat} {P : Nat → Prop} {t : Nat} {st : List Nat}
theorem yq_0 (F : yq_F n kd pa pb nt P) (ht : t < n) (hP : ∀ r, gr_to kd pa t r → P r) : yq_I n kd pa pb nt P t [t] := by
  refine ⟨fun x hx => ?_, fun r hr h => ?_, Or.inl List.mem_cons_self⟩
  · rw [List.mem_singleton] at hx
    rw [hx]; exact ⟨ht, hP⟩
  · obtain ⟨a, b, c⟩ := F r hr h
    exact ⟨a, b, fun k => ⟨Or.inr (c k).1, Or.inr (c k).2⟩⟩
theorem yq_1 (I : yq_I n kd pa pb nt P t []) : yq_F n kd pa pb nt P ∧ ∀ q, gr_to kd pa t q → nt q ≠ 0 := by
  have nil : ∀ {x : Nat} {A : Prop}, (x ∈ ([] : List Nat) ∨ A) → A := fun h => h.elim (fun z => by cases z) id
  refine ⟨fun r hr h => ?_, nil I.2.2⟩
  obtain ⟨a, b, c⟩ := I.2.1 r hr h
  exact ⟨a, b, fun k => ⟨nil (c k).1, nil (c k).2⟩⟩
theorem yq_drop {x r : Nat} (I : yq_I n kd pa pb nt P t (x :: st)) (hx : gr_to kd pa x r) (h : nt r ≠ 0) : yq_I n kd pa pb nt P t st := by
  obtain ⟨i1, i2, i3⟩ := I
  have pp : ∀ p, (p ∈ x :: st ∨ ∀ q, gr_to kd pa p q → nt q ≠ 0) → (p ∈ st ∨ ∀ q, gr_to kd pa p q → nt q ≠ 0) := by
    intro p h'
    rcases h' with h' | h'
    · rcases List.mem_cons.mp h' with z | z
      · rw [z]; exact Or.inr (fun q hq => by rw [gr_to_u hq hx]; exact h)
      · exact Or.inl z
    · exact Or.inr h'
  refine ⟨fun y hy => i1 y (List.mem_cons_of_mem _ hy), fun q hq h' => ?_, pp _ i3⟩
  obtain ⟨a, b, c⟩ := i2 q hq h'
  exact ⟨a, b, fun k => ⟨pp _ (c k).1, pp _ (c k).2⟩⟩
theorem yq_open {x r : Nat} {ps : List Nat} (W : gr_W n kd pa pb) (I : yq_I n kd pa pb nt P t (x :: st)) (hx : gr_to kd pa x r) (hP : ∀ r, r < n → P r → gr_cn (kd r) → (∀ x, gr_to kd pa (pa r) x → P x) ∧ ∀ x, gr_to kd pa (pb r) x → P x) (hps : ∀ y, y ∈ ps → gr_cn (kd r) ∧ (y = pa r ∨ y = pb r)) (hpc : gr_cn (kd r) → pa r ∈ ps ∧ pb r ∈ ps) : yq_I n kd pa pb (gr_u nt r 1) P t (ps ++ st) := by
  obtain ⟨i1, i2, i3⟩ := I
  obtain ⟨xn, xP⟩ := i1 x List.mem_cons_self
  have rn := gr_to_n W hx xn
  have up : ∀ y, nt y ≠ 0 → gr_u nt r 1 y ≠ 0 := fun y hy => by
    by_cases q : y = r
    · rw [q, gr_us]; omega
    · rw [gr_un q]; exact hy
  have pp : ∀ p, (p ∈ x :: st ∨ ∀ q, gr_to kd pa p q → nt q ≠ 0) → (p ∈ ps ++ st ∨ ∀ q, gr_to kd pa p q → gr_u nt r 1 q ≠ 0) := by
    intro p h'
    rcases h' with h' | h'
    · rcases List.mem_cons.mp h' with z | z
      · rw [z]; exact Or.inr (fun q hq => by rw [gr_to_u hq hx, gr_us]; omega)
      · exact Or.inl (List.mem_append_right _ z)
    · exact Or.inr (fun q hq => up q (h' q hq))
  refine ⟨fun y hy => ?_, fun q hq h' => ?_, pp _ i3⟩
  · rcases List.mem_append.mp hy with z | z
    · obtain ⟨c, e⟩ := hps y z
      have w := (W r rn).2 c
      have p := hP r rn (xP r hx) c
      rcases e with e | e
      · rw [e]; exact ⟨w.1, p.1⟩
      · rw [e]; exact ⟨w.2, p.2⟩
    · exact i1 y (List.mem_cons_of_mem _ z)
  · by_cases e : q = r
    · rw [e]
      exact ⟨hx.1, xP r hx, fun c => ⟨Or.inl (List.mem_append_left _ (hpc c).1), Or.inl (List.mem_append_left _ (hpc c).2)⟩⟩
    · rw [gr_un e] at h'
      obtain ⟨a, b, c⟩ := i2 q hq h'
      exact ⟨a, b, fun k => ⟨pp _ (c k).1, pp _ (c k).2⟩⟩
end
section
variable {f_count f_accepted f_place f_kept f_nodes f_tt f_pos f_bad f_typing f_unbound f_clash f_top f_scope f_doneName f_doneType : Int32} {a_kind a_value a_keptKind a_keptA a_keptB a_root a_what a_partA a_partB a_mark a_twin a_walk a_pairs a_now a_todo a_types a_firm a_bound a_boundType : Nat → Int32}
variable {kd pa pb : Nat → Nat} {n K : Nat}
theorem yw_spread_l {post : SY → Prop} {t : Nat} {P : Nat → Prop} {nt0 : Nat → Nat} (hn : n ≤ 2000) (W : gr_W n kd pa pb) (hG : yg_G n a_what a_partA a_partB kd pa pb) (hL : gr_L n kd pa K) (hP : ∀ r, r < n → P r → gr_cn (kd r) → (∀ x, gr_to kd pa (pa r) x → P x) ∧ ∀ x, gr_to kd pa (pb r) x → P x)
    (h : ∀ nt mk wk, yq_I n kd pa pb nt P t [] → (∀ i, nt0 i ≠ 0 → nt i ≠ 0) → ym_N n mk nt → post (f_count, f_accepted, f_place, f_kept, nI n, f_tt, f_pos, f_bad, f_typing, f_unbound, f_clash, f_top, f_scope, f_doneName, f_doneType, a_kind, a_value, a_keptKind, a_keptA, a_keptB, a_root, a_what, a_partA, a_partB, mk, a_twin, wk, a_pairs, a_now, a_todo, a_types, a_firm, a_bound, a_boundType)) :
    ∀ m st nt mk wk, yq_I n kd pa pb nt P t st → (∀ i, nt0 i ≠ 0 → nt i ≠ 0) → ym_N n mk nt → st_1 wk st → 2 * ct_n (fun i => decide (nt i = 0)) n + st.length ≤ m → st.length + ct_n (fun i => decide (nt i = 0)) n ≤ n + 1 → wY_spread_13 post f_count f_accepted f_place f_kept (nI n) f_tt f_pos f_bad f_typing f_unbound f_clash f_top f_scope f_doneName f_doneType (m + 1) (nI st.length) a_kind a_value a_keptKind a_keptA a_keptB a_root a_what a_partA a_partB mk a_twin wk a_pairs a_now a_todo a_types a_firm a_bound a_boundType := by
  intro m
  induction m with
  | zero =>
    intro st nt mk wk I h0 hN hst hm hl
    have e : st = [] := List.eq_nil_of_length_eq_zero (by omega)
    subst e
    exact br_t (nI_le (a := 0) (b := 0) (by omega) (by omega)) (h nt mk wk I h0 hN)
  | succ m ih =>
    intro st nt mk wk I h0 hN hst hm hl
    cases st with
    | nil => exact br_t (nI_le (a := 0) (b := 0) (by omega) (by omega)) (h nt mk wk I h0 hN)
    | cons x st =>
      rw [List.length_cons] at hm hl
      have ctl := ct_le (p := fun i => decide (nt i = 0)) n
      have vl : vp_in (nI st.length) 4100 := vp_in_nI (by omega) (by decide)
      refine br_f (nI_nle (by rw [List.length_cons]; omega) (by rw [List.length_cons]; omega)) ?_
      rw [List.length_cons]
      refine nm_r (pk_m1 st.length) ⟨vl, ?_⟩
      rw [nI_clamp (by omega), hst.1]
      have xn : x < n := (I.1 x List.mem_cons_self).1
      have tx := gr_L_to hL xn
      generalize er : gr_f kd pa K x = r at tx
      have rn := gr_to_n W tx xn
      have vr : vp_in (nI r) 2000 := vp_in_nI (by omega) (by decide)
      have cr : (nI r).toNatClampNeg = r := nI_clamp (by omega)
      refine yw_real hG hn hL xn tx ⟨vr, ?_⟩
      rw [cr, (hN r rn).1]
      refine pk_p (mk_lt (hN r rn).2) (fun r0 => ⟨vr, ?_⟩) (fun z => ih st nt mk wk (yq_drop I tx z) h0 hN hst.2 (by omega) (by omega))
      have hct := ct_u (p := fun i => decide (nt i = 0)) (q := fun i => decide (gr_u nt r 1 i = 0)) (a := r) (by rw [r0]; rfl) (by rw [gr_us]; rfl) (fun i hi => by rw [gr_un hi]) n rn
      have N2 : ym_N n (upd mk r (nI 1)) (gr_u nt r 1) := ym_u (k := 1) hN (by omega) (by omega)
      have h02 : ∀ i, nt0 i ≠ 0 → gr_u nt r 1 i ≠ 0 := fun i hi => by
        by_cases q : i = r
        · rw [q, gr_us]; omega
        · rw [gr_un q]; exact h0 i hi
      refine nm_e ⟨vr, ?_⟩
      refine yw_p hG rn tx.1 (fun c0 => ?_) (fun c1 k4 ea eb => ?_) (fun c1 k5 ea eb => ?_)
      · refine br_t (by decide) ⟨vr, ?_⟩
        rw [cr]
        refine yw_p hG rn tx.1 (fun _ => ?_) (fun c _ _ _ => (c0 c).elim) (fun c _ _ _ => (c0 c).elim)
        exact br_t (by decide) (ih st _ _ _ (yq_open (ps := []) W I tx hP (fun y hy => by cases hy) (fun c => (c0 c).elim)) h02 N2 hst.2 (by omega) (by omega))
      · refine br_f (by decide) (nm_r (nI_1 _) ⟨vr, vl, ?_⟩)
        have pn := ((W r rn).2 c1).1
        rw [ea, ys_v (by omega)]
        refine nm_e ⟨vr, ?_⟩
        rw [cr]
        refine yw_p hG rn tx.1 (fun c => (c c1).elim) (fun _ _ _ _ => ?_) (fun _ k5 _ _ => absurd k5 (by omega))
        exact br_t (by decide) (ih (pa r :: st) _ _ _ (yq_open (ps := [pa r]) W I tx hP (fun y hy => by rw [List.mem_singleton] at hy; exact ⟨c1, Or.inl hy⟩) (fun _ => ⟨List.mem_cons_self, by rw [eb]; exact List.mem_cons_self⟩)) h02 N2 (st_1p hst.2) (by rw [List.length_cons]; omega) (by rw [List.length_cons]; omega))
      · refine br_f (by decide) (nm_r (nI_1 _) ⟨vr, vl, ?_⟩)
        have pn := ((W r rn).2 c1).1
        have qn := ((W r rn).2 c1).2
        rw [ea, ys_v (by omega)]
        refine nm_e ⟨vr, ?_⟩
        rw [cr]
        refine yw_p hG rn tx.1 (fun c => (c c1).elim) (fun _ k4 _ _ => absurd k4 (by omega)) (fun _ _ _ _ => ?_)
        refine br_f (by decide) (nm_r (nI_1 _) ⟨vr, vp_in_nI (by omega) (by decide), ?_⟩)
        rw [nI_clamp (by omega), eb, ys_v (by omega)]
        exact nm_e (ih (pb r :: pa r :: st) _ _ _ (yq_open (ps := [pb r, pa r]) W I tx hP (fun y hy => by
          rcases List.mem_cons.mp hy with z | z
          · exact ⟨c1, Or.inr z⟩
          · rw [List.mem_singleton] at z; exact ⟨c1, Or.inl z⟩) (fun _ => ⟨List.mem_cons_of_mem _ List.mem_cons_self, List.mem_cons_self⟩)) h02 N2 (st_1p (L := pa r :: st) (st_1p hst.2)) (by rw [List.length_cons, List.length_cons]; omega) (by rw [List.length_cons, List.length_cons]; omega))
theorem yw_spread {post : SY → Prop} {t : Nat} {P : Nat → Prop} {nt : Nat → Nat} (hn : n ≤ 2000) (W : gr_W n kd pa pb) (hG : yg_G n a_what a_partA a_partB kd pa pb) (hL : gr_L n kd pa K) (hP : ∀ r, r < n → P r → gr_cn (kd r) → (∀ x, gr_to kd pa (pa r) x → P x) ∧ ∀ x, gr_to kd pa (pb r) x → P x)
    (F : yq_F n kd pa pb nt P) (ht : t < n) (htP : ∀ r, gr_to kd pa t r → P r) (hN : ym_N n a_mark nt)
    (h : ∀ nt' mk wk, yq_F n kd pa pb nt' P → (∀ i, nt i ≠ 0 → nt' i ≠ 0) → (∀ q, gr_to kd pa t q → nt' q ≠ 0) → ym_N n mk nt' → post (f_count, f_accepted, f_place, f_kept, nI n, f_tt, f_pos, f_bad, f_typing, f_unbound, f_clash, f_top, f_scope, f_doneName, f_doneType, a_kind, a_value, a_keptKind, a_keptA, a_keptB, a_root, a_what, a_partA, a_partB, mk, a_twin, wk, a_pairs, a_now, a_todo, a_types, a_firm, a_bound, a_boundType)) : wpY_spread post (f_count, f_accepted, f_place, f_kept, nI n, f_tt, f_pos, f_bad, f_typing, f_unbound, f_clash, f_top, f_scope, f_doneName, f_doneType, a_kind, a_value, a_keptKind, a_keptA, a_keptB, a_root, a_what, a_partA, a_partB, a_mark, a_twin, a_walk, a_pairs, a_now, a_todo, a_types, a_firm, a_bound, a_boundType) (nI t) := by
  have ctl := ct_le (p := fun i => decide (nt i = 0)) n
  refine nm_e ?_
  rw [ys_nn (by omega)]
  refine nm_e ⟨2 * n + 2, ?_⟩
  exact yw_spread_l (t := t) (nt0 := nt) hn W hG hL hP (fun nt' mk wk I h0 hN' => h nt' mk wk (yq_1 I).1 h0 (yq_1 I).2 hN') (2 * n + 1) [t] nt a_mark _ (yq_0 F ht htP) (fun i hi => hi) hN (st_1p (L := []) trivial) (by rw [List.length_singleton]; omega) (by rw [List.length_singleton]; omega)
theorem yg_78 {wh pA pB : Nat → Int32} {r : Nat} (hG : yg_G n wh pA pB kd pa pb) (h7 : kd r = 7) : yg_G n (upd wh r (nI 8)) pA pB (gr_u kd r 8) pa pb := by
  intro i hi
  by_cases c : i = r
  · subst c
    rw [gr_us, pk_us]
    exact Or.inr ⟨by omega, by omega, rfl, fun z => absurd z (by omega), fun z => absurd z (by omega), fun z => absurd z (by omega)⟩
  · rw [gr_un c, pk_un c]; exact hG i hi
/-- the last part of generalise: nt0 what was marked ahead of it -/
theorem yw_gen_l {post : SY → Prop} {t : Nat} {P : Nat → Prop} {nt0 kd0 : Nat → Nat} (hn : n ≤ 2000) (W : gr_W n kd0 pa pb) (hL : gr_L n kd0 pa K) (hP : ∀ r, r < n → P r → gr_cn (kd0 r) → (∀ x, gr_to kd0 pa (pa r) x → P x) ∧ ∀ x, gr_to kd0 pa (pb r) x → P x)
    (h : ∀ nt kd wh mk wk, yq_I n kd0 pa pb nt P t [] → (∀ i, nt0 i ≠ 0 → nt i ≠ 0) → (∀ i, (kd0 i = 7 ∧ i < n ∧ nt i ≠ 0 ∧ nt0 i = 0 ∧ kd i = 8) ∨ (¬ (kd0 i = 7 ∧ i < n ∧ nt i ≠ 0 ∧ nt0 i = 0) ∧ kd i = kd0 i)) → yg_G n wh a_partA a_partB kd pa pb → post (f_count, f_accepted, f_place, f_kept, nI n, f_tt, f_pos, f_bad, f_typing, f_unbound, f_clash, f_top, f_scope, f_doneName, f_doneType, a_kind, a_value, a_keptKind, a_keptA, a_keptB, a_root, wh, a_partA, a_partB, mk, a_twin, wk, a_pairs, a_now, a_todo, a_types, a_firm, a_bound, a_boundType)) :
    ∀ m st nt kd wh mk wk, yq_I n kd0 pa pb nt P t st → (∀ i, nt0 i ≠ 0 → nt i ≠ 0) → (∀ i, (kd0 i = 7 ∧ i < n ∧ nt i ≠ 0 ∧ nt0 i = 0 ∧ kd i = 8) ∨ (¬ (kd0 i = 7 ∧ i < n ∧ nt i ≠ 0 ∧ nt0 i = 0) ∧ kd i = kd0 i)) → yg_G n wh a_partA a_partB kd pa pb → ym_N n mk nt → st_1 wk st → 2 * ct_n (fun i => decide (nt i = 0)) n + st.length ≤ m → st.length + ct_n (fun i => decide (nt i = 0)) n ≤ n + 1 → wY_generalise_76 post f_count f_accepted f_place f_kept (nI n) f_tt f_pos f_bad f_typing f_unbound f_clash f_top f_scope f_doneName f_doneType (m + 1) (nI st.length) a_kind a_value a_keptKind a_keptA a_keptB a_root wh a_partA a_partB mk a_twin wk a_pairs a_now a_todo a_types a_firm a_bound a_boundType := by
  intro m
  induction m with
  | zero =>
    intro st nt kd wh mk wk I h0 hk hG hN hst hm hl
    have e : st = [] := List.eq_nil_of_length_eq_zero (by omega)
    subst e
    exact br_t (nI_le (a := 0) (b := 0) (by omega) (by omega)) (h nt kd wh mk wk I h0 hk hG)
  | succ m ih =>
    intro st nt kd wh mk wk I h0 hk hG hN hst hm hl
    cases st with
    | nil => exact br_t (nI_le (a := 0) (b := 0) (by omega) (by omega)) (h nt kd wh mk wk I h0 hk hG)
    | cons x st =>
      rw [List.length_cons] at hm hl
      have k1 : ∀ i, kd i = 1000 ↔ kd0 i = 1000 := fun i => by
        rcases hk i with z | z
        · omega
        · rw [z.2]
      have k2 : ∀ i, gr_cn (kd i) ↔ gr_cn (kd0 i) := fun i => by
        rcases hk i with z | z
        · omega
        · rw [z.2]
      have W' : gr_W n kd pa pb := fun i hi => by rw [k1, k2]; exact W i hi
      have hL' : gr_L n kd pa K := gr_L_78 k1 hL
      have to' : ∀ i r, gr_to kd pa i r → gr_to kd0 pa i r := fun i r ⟨a, f, e⟩ => ⟨fun z => a ((k1 r).mpr z), f, by rw [← gr_f_78 k1]; exact e⟩
      have ctl := ct_le (p := fun i => decide (nt i = 0)) n
      have vl : vp_in (nI st.length) 4100 := vp_in_nI (by omega) (by decide)
      refine br_f (nI_nle (by rw [List.length_cons]; omega) (by rw [List.length_cons]; omega)) ?_
      rw [List.length_cons]
      refine nm_r (pk_m1 st.length) ⟨vl, ?_⟩
      rw [nI_clamp (by omega), hst.1]
      have xn : x < n := (I.1 x List.mem_cons_self).1
      have tx := gr_L_to hL' xn
      generalize er : gr_f kd pa K x = r at tx
      have rn := gr_to_n W' tx xn
      have tx0 := to' x r tx
      have vr : vp_in (nI r) 2000 := vp_in_nI (by omega) (by decide)
      have cr : (nI r).toNatClampNeg = r := nI_clamp (by omega)
      refine yw_real hG hn hL' xn tx ⟨vr, ?_⟩
      rw [cr, (hN r rn).1]
      refine pk_p (mk_lt (hN r rn).2) (fun r0 => ⟨vr, ?_⟩) (fun z => ih st nt kd wh mk wk (yq_drop I tx0 z) h0 hk hG hN hst.2 (by omega) (by omega))
      have hct := ct_u (p := fun i => decide (nt i = 0)) (q := fun i => decide (gr_u nt r 1 i = 0)) (a := r) (by rw [r0]; rfl) (by rw [gr_us]; rfl) (fun i hi => by rw [gr_un hi]) n rn
      have N2 : ym_N n (upd mk r (nI 1)) (gr_u nt r 1) := ym_u (k := 1) hN (by omega) (by omega)
      have h02 : ∀ i, nt0 i ≠ 0 → gr_u nt r 1 i ≠ 0 := fun i hi => by
        by_cases q : i = r
        · rw [q, gr_us]; omega
        · rw [gr_un q]; exact h0 i hi
      have r00 : nt0 r = 0 := Classical.byContradiction fun z => h0 r z r0
      have ek : kd r = kd0 r := by
        rcases hk r with z | z
        · exact (z.2.2.1 r0).elim
        · exact z.2
      -- on with the parts
      have rest : ∀ kd2 wh2, (∀ i, (kd0 i = 7 ∧ i < n ∧ gr_u nt r 1 i ≠ 0 ∧ nt0 i = 0 ∧ kd2 i = 8) ∨ (¬ (kd0 i = 7 ∧ i < n ∧ gr_u nt r 1 i ≠ 0 ∧ nt0 i = 0) ∧ kd2 i = kd0 i)) → yg_G n wh2 a_partA a_partB kd2 pa pb → wY_generalise_132 post (wY_generalise_76 post f_count f_accepted f_place f_kept (nI n) f_tt f_pos f_bad f_typing f_unbound f_clash f_top f_scope f_doneName f_doneType (m + 1)) (nI st.length) (nI r) f_count f_accepted f_place f_kept (nI n) f_tt f_pos f_bad f_typing f_unbound f_clash f_top f_scope f_doneName f_doneType a_kind a_value a_keptKind a_keptA a_keptB a_root wh2 a_partA a_partB (upd mk r (nI 1)) a_twin wk a_pairs a_now a_todo a_types a_firm a_bound a_boundType := by
        intro kd2 wh2 hk2 hG2
        have c2 : gr_cn (kd2 r) ↔ gr_cn (kd0 r) := by
          rcases hk2 r with z | z
          · omega
          · rw [z.2]
        have c3 : gr_cn (kd0 r) → kd2 r = kd0 r := fun z => by
          rcases hk2 r with y | y
          · omega
          · exact y.2
        have c4 : kd2 r ≠ 1000 := by
          have := tx0.1
          rcases hk2 r with z | z
          · omega
          · rw [z.2]; exact this
        refine ⟨vr, ?_⟩
        rw [cr]
        refine yw_p hG2 rn c4 (fun c0 => ?_) (fun c1 k4 ea eb => ?_) (fun c1 k5 ea eb => ?_)
        · refine br_t (by decide) ⟨vr, ?_⟩
          rw [cr]
          refine yw_p hG2 rn c4 (fun _ => ?_) (fun c _ _ _ => (c0 c).elim) (fun c _ _ _ => (c0 c).elim)
          exact br_t (by decide) (ih st _ _ _ _ _ (yq_open (ps := []) W I tx0 hP (fun y hy => by cases hy) (fun c => (c0 (c2.mpr c)).elim)) h02 hk2 hG2 N2 hst.2 (by omega) (by omega))
        · refine br_f (by decide) (nm_r (nI_1 _) ⟨vr, vl, ?_⟩)
          have pn := ((W r rn).2 (c2.mp c1)).1
          rw [nI_clamp (by omega), ea, ys_v (by omega)]
          refine nm_e ⟨vr, ?_⟩
          rw [cr]
          refine yw_p hG2 rn c4 (fun c => (c c1).elim) (fun _ _ _ _ => ?_) (fun _ k5 _ _ => absurd k5 (by omega))
          exact br_t (by decide) (ih (pa r :: st) _ _ _ _ _ (yq_open (ps := [pa r]) W I tx0 hP (fun y hy => by rw [List.mem_singleton] at hy; exact ⟨c2.mp c1, Or.inl hy⟩) (fun _ => ⟨List.mem_cons_self, by rw [eb]; exact List.mem_cons_self⟩)) h02 hk2 hG2 N2 (st_1p hst.2) (by rw [List.length_cons]; omega) (by rw [List.length_cons]; omega))
        · refine br_f (by decide) (nm_r (nI_1 _) ⟨vr, vl, ?_⟩)
          have pn := ((W r rn).2 (c2.mp c1)).1
          have qn := ((W r rn).2 (c2.mp c1)).2
          rw [nI_clamp (by omega), ea, ys_v (by omega)]
          refine nm_e ⟨vr, ?_⟩
          rw [cr]
          refine yw_p hG2 rn c4 (fun c => (c c1).elim) (fun _ k4 _ _ => absurd k4 (by omega)) (fun _ _ _ _ => ?_)
          refine br_f (by decide) (nm_r (nI_1 _) ⟨vr, vp_in_nI (by omega) (by decide), ?_⟩)
          rw [nI_clamp (by omega), eb, ys_v (by omega)]
          exact nm_e (ih (pb r :: pa r :: st) _ _ _ _ _ (yq_open (ps := [pb r, pa r]) W I tx0 hP (fun y hy => by
            rcases List.mem_cons.mp hy with z | z
            · exact ⟨c2.mp c1, Or.inr z⟩
            · rw [List.mem_singleton] at z; exact ⟨c2.mp c1, Or.inl z⟩) (fun _ => ⟨List.mem_cons_of_mem _ List.mem_cons_self, List.mem_cons_self⟩)) h02 hk2 hG2 N2 (st_1p (L := pa r :: st) (st_1p hst.2)) (by rw [List.length_cons, List.length_cons]; omega) (by rw [List.length_cons, List.length_cons]; omega))
      have oth : ∀ (kd2 : Nat → Nat), (∀ i, i ≠ r → kd2 i = kd i) → ((kd0 r = 7 ∧ kd2 r = 8) ∨ (kd0 r ≠ 7 ∧ kd2 r = kd0 r)) → ∀ i, (kd0 i = 7 ∧ i < n ∧ gr_u nt r 1 i ≠ 0 ∧ nt0 i = 0 ∧ kd2 i = 8) ∨ (¬ (kd0 i = 7 ∧ i < n ∧ gr_u nt r 1 i ≠ 0 ∧ nt0 i = 0) ∧ kd2 i = kd0 i) := by
        intro kd2 e2 er2 i
        by_cases q : i = r
        · subst q
          rw [gr_us]
          rcases er2 with z | z
          · exact Or.inl ⟨z.1, rn, by omega, r00, z.2⟩
          · exact Or.inr ⟨fun y => z.1 y.1, z.2⟩
        · rw [gr_un q, e2 i q]; exact hk i
      refine nm_e ⟨vr, ?_⟩
      refine pk_p (yg_7 hG rn tx.1) (fun k7 => ⟨vr, nm_e ?_⟩) (fun k7 => rest kd wh (oth kd (fun _ _ => rfl) (Or.inr ⟨fun z => k7 (ek.trans z), ek⟩)) hG)
      exact rest (gr_u kd r 8) (upd wh r (nI 8)) (oth _ (fun i hi => gr_un hi) (Or.inl ⟨ek ▸ k7, gr_us⟩)) (yg_78 hG k7)
end
