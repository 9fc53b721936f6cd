/-! the reference's search for general variables -/
def ys_p (kd pa nt : Nat → Nat) (U : List (Nat × Bool)) (p : Nat) : Prop := (p, false) ∈ U ∨ ∀ r, gr_to kd pa p r → 2 ≤ nt r ∨ (r, true) ∈ U
/-- what a mark says: 3 a general variable is within -/
def ys_M (n : Nat) (kd pa pb nt : Nat → Nat) : Prop :=
  ∀ i, i < n → 2 ≤ nt i → (¬ gr_cn (kd i) → (nt i = 3 ↔ kd i = 8)) ∧ (gr_cn (kd i) → ∀ x y, gr_to kd pa (pa i) x → gr_to kd pa (pb i) y → 2 ≤ nt x ∧ 2 ≤ nt y ∧ (nt i = 3 ↔ nt x = 3 ∨ nt y = 3))
def ys_I (n : Nat) (kd pa pb nt : Nat → Nat) (E : Nat → Prop) (ρ : Nat → tr_T) (s : Nat) (st : List (Nat × Bool)) : Prop :=
  (∀ x, x ∈ st → x.1 < n ∧ E x.1 ∧ (x.2 = true → kd x.1 ≠ 1000 ∧ nt x.1 = 1 ∧ gr_cn (kd x.1))) ∧ (∀ i, i < n → nt i = 1 → (i, true) ∈ st) ∧
  (∀ i, i < n → nt i ≠ 0 → E i ∧ kd i ≠ 1000) ∧ ys_M n kd pa pb nt ∧
  (∀ U t D, st = U ++ (t, true) :: D → gr_cn (kd t) → ys_p kd pa nt U (pa t) ∧ ys_p kd pa nt U (pb t)) ∧
  ys_p kd pa nt st s ∧ ye_c ρ st ∧ ∀ i, i < n → nt i ≤ 3
section
variable {n K : Nat} {kd pa pb nt : Nat → Nat} {s : Nat} {st : List (Nat × Bool)} {E : Nat → Prop} {ρ : Nat → tr_T}
/-- a mark of 2 or 3 where none stood -/
theorem ys_Mu {r v : Nat} (W : gr_W n kd pa pb) (M : ys_M n kd pa pb nt) (h1 : nt r < 2) (hv : 2 ≤ v) (h0 : ¬ gr_cn (kd r) → (v = 3 ↔ kd r = 8)) (hc : gr_cn (kd r) → ∀ x y, gr_to kd pa (pa r) x → gr_to kd pa (pb r) y → 2 ≤ nt x ∧ 2 ≤ nt y ∧ (v = 3 ↔ nt x = 3 ∨ nt y = 3)) : ys_M n kd pa pb (gr_u nt r v) := by
  have ne : ∀ x, 2 ≤ nt x → x ≠ r := fun x h e => by rw [e] at h; omega
  intro i hi h2
  by_cases e : i = r
  · subst e
    rw [gr_us]
    refine ⟨h0, fun c x y hx hy => ?_⟩
    obtain ⟨q1, q2, q3⟩ := hc c x y hx hy
    rw [gr_un (ne x q1), gr_un (ne y q2)]; exact ⟨q1, q2, q3⟩
  · rw [gr_un e] at h2 ⊢
    obtain ⟨m1, m2⟩ := M i hi h2
    refine ⟨m1, fun c x y hx hy => ?_⟩
    obtain ⟨q1, q2, q3⟩ := m2 c x y hx hy
    rw [gr_un (ne x q1), gr_un (ne y q2)]; exact ⟨q1, q2, q3⟩
theorem ys_drop {x r : Nat} (I : ys_I n kd pa pb nt E ρ s ((x, false) :: st)) (hx : gr_to kd pa x r) (h2 : 2 ≤ nt r) : ys_I n kd pa pb nt E ρ s st := by
  obtain ⟨i1, i2, i3, i4, i5, i6, i7, i8⟩ := I
  have pp : ∀ U p, ys_p kd pa nt ((x, false) :: U) p → ys_p kd pa nt U p := by
    intro U p h
    rcases h with h | h
    · rcases List.mem_cons.mp h with z | z
      · injection z with z1 z2
        subst z1
        exact Or.inr (fun q hq => Or.inl (by rw [gr_to_u hq hx]; exact h2))
      · exact Or.inl z
    · refine Or.inr (fun q hq => (h q hq).imp id (fun z => ?_))
      rcases List.mem_cons.mp z with z | z
      · injection z with z1 z2; cases z2
      · exact z
  refine ⟨fun y hy => i1 y (List.mem_cons_of_mem _ hy), fun i hi h => ?_, i3, i4, fun U t D e c => ?_, pp _ _ i6, i7.2, i8⟩
  · rcases List.mem_cons.mp (i2 i hi h) with z | z
    · injection z with z1 z2; cases z2
    · exact z
  · have := i5 ((x, false) :: U) t D (by rw [e]; rfl) c
    exact ⟨pp _ _ this.1, pp _ _ this.2⟩
theorem ys_leaf {x r v : Nat} (W : gr_W n kd pa pb) (cE : gr_C n kd pa pb E) (I : ys_I n kd pa pb nt E ρ s ((x, false) :: st)) (hx : gr_to kd pa x r) (h0 : nt r = 0) (hc : ¬ gr_cn (kd r)) (hv : v = 2 ∨ v = 3) (hv' : v = 3 ↔ kd r = 8) : ys_I n kd pa pb (gr_u nt r v) E ρ s st := by
  obtain ⟨i1, i2, i3, i4, i5, i6, i7, i8⟩ := I
  obtain ⟨xn, xE, _⟩ := i1 (x, false) List.mem_cons_self
  have up : ∀ y, 2 ≤ nt y → 2 ≤ gr_u nt r v y := fun y hy => by
    by_cases q : y = r
    · rw [q, gr_us]; omega
    · rw [gr_un q]; exact hy
  have pp : ∀ U p, ys_p kd pa nt ((x, false) :: U) p → ys_p kd pa (gr_u nt r v) U p := by
    intro U p h
    rcases h with h | h
    · rcases List.mem_cons.mp h with z | z
      · injection z with z1 z2
        subst z1
        exact Or.inr (fun q hq => Or.inl (by rw [gr_to_u hq hx, gr_us]; omega))
      · exact Or.inl z
    · refine Or.inr (fun q hq => (h q hq).imp (up q) (fun z => ?_))
      rcases List.mem_cons.mp z with z | z
      · injection z with z1 z2; cases z2
      · exact z
  refine ⟨fun y hy => ?_, fun i hi h => ?_, fun i hi h => ?_, ys_Mu W i4 (by omega) (by omega) (fun _ => hv') (fun c => (hc c).elim), fun U t D e c => ?_, pp _ _ i6, i7.2, fun i hi => ?_⟩
  · obtain ⟨a, b, c⟩ := i1 y (List.mem_cons_of_mem _ hy)
    refine ⟨a, b, fun z => ⟨(c z).1, ?_, (c z).2.2⟩⟩
    have := (c z).2.1
    rw [gr_un (fun e => by rw [e] at this; omega)]; exact this
  · by_cases q : i = r
    · rw [q, gr_us] at h; omega
    · rw [gr_un q] at h
      rcases List.mem_cons.mp (i2 i hi h) with z | z
      · injection z with z1 z2; cases z2
      · exact z
  · by_cases q : i = r
    · rw [q]; exact ⟨gr_to_C cE hx xE, hx.1⟩
    · rw [gr_un q] at h; exact i3 i hi h
  · have := i5 ((x, false) :: U) t D (by rw [e]; rfl) c
    exact ⟨pp _ _ this.1, pp _ _ this.2⟩
  · by_cases q : i = r
    · rw [q, gr_us]; omega
    · rw [gr_un q]; exact i8 i hi
theorem ys_open {x r : Nat} {ps : List (Nat × Bool)} (W : gr_W n kd pa pb) (hρ : gr_V n kd pa pb ρ) (cE : gr_C n kd pa pb E) (I : ys_I n kd pa pb nt E ρ s ((x, false) :: st)) (hx : gr_to kd pa x r) (h0 : nt r = 0) (hc : gr_cn (kd r)) (hps : ∀ y, y ∈ ps → y.2 = false ∧ (y.1 = pa r ∨ y.1 = pb r)) (hpc : (pa r, false) ∈ ps ∧ (pb r, false) ∈ ps) : ys_I n kd pa pb (gr_u nt r 1) E ρ s (ps ++ (r, true) :: st) := by
  obtain ⟨i1, i2, i3, i4, i5, i6, i7, i8⟩ := I
  obtain ⟨xn, xE, _⟩ := i1 (x, false) List.mem_cons_self
  have rn := gr_to_n W hx xn
  have rE := gr_to_C cE hx xE
  have up : ∀ y, 2 ≤ nt y → 2 ≤ gr_u nt r 1 y := fun y hy => by
    by_cases q : y = r
    · rw [q] at hy; omega
    · rw [gr_un q]; exact hy
  have pp : ∀ U p, ys_p kd pa nt ((x, false) :: U) p → ys_p kd pa (gr_u nt r 1) (ps ++ (r, true) :: U) p := by
    intro U p h
    rcases h with h | h
    · rcases List.mem_cons.mp h with z | z
      · injection z with z1 z2
        subst z1
        exact Or.inr (fun q hq => Or.inr (by rw [gr_to_u hq hx]; exact List.mem_append_right _ List.mem_cons_self))
      · exact Or.inl (List.mem_append_right _ (List.mem_cons_of_mem _ z))
    · refine Or.inr (fun q hq => (h q hq).imp (up q) (fun z => ?_))
      rcases List.mem_cons.mp z with z | z
      · injection z with z1 z2; cases z2
      · exact List.mem_append_right _ (List.mem_cons_of_mem _ z)
  have psf : ∀ y, (y, true) ∉ ps := fun y h => by have := (hps _ h).1; cases this
  refine ⟨fun y hy => ?_, fun i hi h => ?_, fun i hi h => ?_, ?_, fun U t D e c => ?_, pp _ _ i6, ?_, fun i hi => ?_⟩
  · rcases List.mem_append.mp hy with z | z
    · obtain ⟨q1, q3⟩ := hps y z
      have w := (W r rn).2 hc
      have e := (cE r rE).2.2 hc
      rcases q3 with q3 | q3
      · rw [q3]; exact ⟨w.1, e.1, fun k => by rw [q1] at k; cases k⟩
      · rw [q3]; exact ⟨w.2, e.2, fun k => by rw [q1] at k; cases k⟩
    · rcases List.mem_cons.mp z with z | z
      · rw [z]; exact ⟨rn, rE, fun _ => ⟨hx.1, gr_us, hc⟩⟩
      · obtain ⟨a, b, c⟩ := i1 y (List.mem_cons_of_mem _ z)
        refine ⟨a, b, fun k => ⟨(c k).1, ?_, (c k).2.2⟩⟩
        by_cases e : y.1 = r
        · rw [e, gr_us]
        · rw [gr_un e]; exact (c k).2.1
  · by_cases q : i = r
    · rw [q]; exact List.mem_append_right _ List.mem_cons_self
    · rw [gr_un q] at h
      rcases List.mem_cons.mp (i2 i hi h) with z | z
      · injection z with z1 z2; cases z2
      · exact List.mem_append_right _ (List.mem_cons_of_mem _ z)
  · by_cases q : i = r
    · rw [q]; exact ⟨rE, hx.1⟩
    · rw [gr_un q] at h; exact i3 i hi h
  · intro i hi h2
    have ne : ∀ x, 2 ≤ nt x → x ≠ r := fun x h e => by rw [e] at h; omega
    by_cases e : i = r
    · rw [e, gr_us] at h2; omega
    · rw [gr_un e] at h2 ⊢
      obtain ⟨m1, m2⟩ := i4 i hi h2
      refine ⟨m1, fun c x y hx hy => ?_⟩
      obtain ⟨q1, q2, q3⟩ := m2 c x y hx hy
      rw [gr_un (ne x q1), gr_un (ne y q2)]; exact ⟨q1, q2, q3⟩
  · rcases List.append_eq_append_iff.mp e with ⟨A, e1, e2⟩ | ⟨A, e1, e2⟩
    · cases A with
      | nil =>
        rw [List.append_nil] at e1
        rw [List.nil_append] at e2
        injection e2 with e2 e3
        injection e2 with e2 _
        subst e2 e1
        exact ⟨Or.inl hpc.1, Or.inl hpc.2⟩
      | cons a A =>
        injection e2 with e2 e3
        subst e2
        have := i5 ((x, false) :: A) t D (by rw [e3]; rfl) c
        rw [e1]
        exact ⟨pp _ _ this.1, pp _ _ this.2⟩
    · cases A with
      | nil =>
        rw [List.append_nil] at e1
        rw [List.nil_append] at e2
        injection e2 with e2 e3
        injection e2 with e2 _
        subst e2 e1
        exact ⟨Or.inl hpc.1, Or.inl hpc.2⟩
      | cons a A =>
        injection e2 with e2 e3
        subst e2
        exact (psf t (by rw [e1]; exact List.mem_append_right _ List.mem_cons_self)).elim
  · have hx2 := gr_to_V W hρ hx xn
    have c2 : ye_c ρ ((r, true) :: st) := ⟨fun y hy => by rw [← hx2]; exact i7.1 y hy, i7.2⟩
    have add : ∀ ps, (∀ y, y ∈ ps → y.2 = false ∧ (y.1 = pa r ∨ y.1 = pb r)) → ye_c ρ (ps ++ (r, true) :: st) := by
      intro ps
      induction ps with
      | nil => intro _; exact c2
      | cons y ps ih =>
        intro hy
        refine ⟨fun z hz => ?_, ih (fun w hw => hy w (List.mem_cons_of_mem _ hw))⟩
        obtain ⟨q1, q3⟩ := hy y List.mem_cons_self
        have lt : tr_sz (ρ y.1) < tr_sz (ρ r) := by
          rw [gr_Vc hρ rn hc]
          rcases q3 with q3 | q3
          · rw [q3]; exact tr_sz_l _ _ _
          · rw [q3]; exact tr_sz_r _ _ _
        rcases List.mem_append.mp hz with w | w
        · have := (hy _ (List.mem_cons_of_mem _ w)).1; cases this
        · rcases List.mem_cons.mp w with w | w
          · injection w with w1 _; rw [w1]; exact lt
          · exact Nat.lt_trans lt (c2.1 z w)
    exact add ps hps
  · by_cases q : i = r
    · rw [q, gr_us]; omega
    · rw [gr_un q]; exact i8 i hi
/-- the parts of the node whose end is uppermost are done -/
theorem ys_done {t : Nat} (I : ys_I n kd pa pb nt E ρ s ((t, true) :: st)) : gr_cn (kd t) ∧ ∀ p, p = pa t ∨ p = pb t → ∀ r, gr_to kd pa p r → 2 ≤ nt r := by
  have c := ((I.1 (t, true) List.mem_cons_self).2.2 rfl).2.2
  have c5 := I.2.2.2.2.1 [] t st rfl c
  have nil : ∀ p, ys_p kd pa nt [] p → ∀ r, gr_to kd pa p r → 2 ≤ nt r := by
    intro p h r hr
    rcases h with h | h
    · cases h
    · rcases h r hr with z | z
      · exact z
      · cases z
  refine ⟨c, fun p hp => ?_⟩
  rcases hp with e | e
  · rw [e]; exact nil _ c5.1
  · rw [e]; exact nil _ c5.2
theorem ys_end {t v : Nat} (W : gr_W n kd pa pb) (I : ys_I n kd pa pb nt E ρ s ((t, true) :: st)) (hv : v = 2 ∨ v = 3) (hv' : ∀ x y, gr_to kd pa (pa t) x → gr_to kd pa (pb t) y → (v = 3 ↔ nt x = 3 ∨ nt y = 3)) : ys_I n kd pa pb (gr_u nt t v) E ρ s st := by
  obtain ⟨tc, td⟩ := ys_done I
  obtain ⟨i1, i2, i3, i4, i5, i6, i7, i8⟩ := I
  obtain ⟨tn, tE, t2⟩ := i1 (t, true) List.mem_cons_self
  obtain ⟨tk, t1, _⟩ := t2 rfl
  have t1 : nt t = 1 := t1
  have up : ∀ y, 2 ≤ nt y → 2 ≤ gr_u nt t v y := fun y hy => by
    by_cases q : y = t
    · rw [q, gr_us]; omega
    · rw [gr_un q]; exact hy
  have pp : ∀ U p, ys_p kd pa nt ((t, true) :: U) p → ys_p kd pa (gr_u nt t v) U p := by
    intro U p h
    rcases h with h | h
    · rcases List.mem_cons.mp h with z | z
      · injection z with z1 z2; cases z2
      · exact Or.inl z
    · refine Or.inr (fun q hq => ?_)
      rcases h q hq with z | z
      · exact Or.inl (up q z)
      · rcases List.mem_cons.mp z with z | z
        · injection z with z1 z2
          rw [z1, gr_us]
          exact Or.inl (by omega)
        · exact Or.inr z
  refine ⟨fun y hy => ?_, fun i hi h => ?_, fun i hi h => ?_, ys_Mu W i4 (by omega) (by omega) (fun c => (c tc).elim) (fun c x y hx hy => ⟨td _ (Or.inl rfl) x hx, td _ (Or.inr rfl) y hy, hv' x y hx hy⟩), fun U t' D e c => ?_, pp _ _ i6, i7.2, fun i hi => ?_⟩
  · obtain ⟨a, b, c⟩ := i1 y (List.mem_cons_of_mem _ hy)
    refine ⟨a, b, fun z => ⟨(c z).1, ?_, (c z).2.2⟩⟩
    have lt := i7.1 y.1 (by rw [← z]; exact hy)
    rw [gr_un (fun e => by rw [e] at lt; exact Nat.lt_irrefl _ lt)]; exact (c z).2.1
  · by_cases q : i = t
    · rw [q, gr_us] at h; omega
    · rw [gr_un q] at h
      rcases List.mem_cons.mp (i2 i hi h) with z | z
      · injection z with z1 z2; exact (q z1).elim
      · exact z
  · by_cases q : i = t
    · rw [q]; exact ⟨tE, tk⟩
    · rw [gr_un q] at h; exact i3 i hi h
  · have := i5 ((t, true) :: U) t' D (by rw [e]; rfl) c
    exact ⟨pp _ _ this.1, pp _ _ this.2⟩
  · by_cases q : i = t
    · rw [q, gr_us]; omega
    · rw [gr_un q]; exact i8 i hi
theorem ys_0 (hs : s < n) (hE : E s) : ys_I n kd pa pb (fun _ => 0) E ρ s [(s, false)] := by
  refine ⟨fun x hx => ?_, fun i _ h => (by cases h), fun i _ h => (h rfl).elim, fun i _ h => absurd h (fun z => by have : (2 : Nat) ≤ 0 := z; omega), fun U t D e => ?_, Or.inl List.mem_cons_self, ⟨fun y hy => (by cases hy), trivial⟩, fun i _ => Nat.zero_le _⟩
  · rw [List.mem_singleton] at hx
    rw [hx]; exact ⟨hs, hE, fun z => by cases z⟩
  · have m : (t, true) ∈ [(s, false)] := by rw [e]; exact List.mem_append_right _ List.mem_cons_self
    rw [List.mem_singleton] at m
    injection m with _ m
    cases m
end
section
variable {f_count f_accepted f_place f_kept f_nodes f_tt f_pos f_bad f_typing f_unbound f_clash f_top f_scope f_doneName f_doneType : Int32} {a_kind a_value a_keptKind a_keptA a_keptB a_root a_what a_partA a_partB a_mark a_twin a_walk a_pairs a_now a_todo a_types a_firm a_bound a_boundType : Nat → Int32}
variable {kd pa pb : Nat → Nat} {n K : Nat}
theorem yw_search_l {post : SY → Prop} {s : Nat} {E : Nat → Prop} {ρ : Nat → tr_T} (hn : n ≤ 2000) (W : gr_W n kd pa pb) (hρ : gr_V n kd pa pb ρ) (cE : gr_C n kd pa pb E) (hG : yg_G n a_what a_partA a_partB kd pa pb) (hL : gr_L n kd pa K)
    (h : ∀ nt mk wk, ys_I n kd pa pb nt E ρ s [] → ym_N n mk nt → post (f_count, f_accepted, f_place, f_kept, nI n, f_tt, f_pos, f_bad, f_typing, f_unbound, f_clash, f_top, f_scope, f_doneName, f_doneType, a_kind, a_value, a_keptKind, a_keptA, a_keptB, a_root, a_what, a_partA, a_partB, mk, a_twin, wk, a_pairs, a_now, a_todo, a_types, a_firm, a_bound, a_boundType)) :
    ∀ m st nt mk wk, ys_I n kd pa pb nt E ρ s st → ym_N n mk nt → st_y wk st → 3 * ct_n (fun i => decide (nt i = 0)) n + st.length ≤ m → st.length + 2 * ct_n (fun i => decide (nt i = 0)) n ≤ 2 * n + 1 → wY_search_17 post f_count f_accepted f_place f_kept (nI n) f_tt f_pos f_bad f_typing f_unbound f_clash f_top f_scope f_doneName f_doneType (m + 1) (nI st.length) a_kind a_value a_keptKind a_keptA a_keptB a_root a_what a_partA a_partB mk a_twin wk a_pairs a_now a_todo a_types a_firm a_bound a_boundType := by
  intro m
  induction m with
  | zero =>
    intro st nt mk wk I hN hst hm hl
    have e : st = [] := List.eq_nil_of_length_eq_zero (by omega)
    subst e
    exact br_t (nI_le (a := 0) (b := 0) (by omega) (by omega)) (h nt mk wk I hN)
  | succ m ih =>
    intro st nt mk wk I hN hst hm hl
    cases st with
    | nil => exact br_t (nI_le (a := 0) (b := 0) (by omega) (by omega)) (h nt mk wk I hN)
    | cons x st =>
      rw [List.length_cons] at hm hl
      have ctl := ct_le (p := fun i => decide (nt i = 0)) n
      have vl : vp_in (nI st.length) 4100 := vp_in_nI (by omega) (by decide)
      have cl : (nI st.length).toNatClampNeg = st.length := nI_clamp (by omega)
      refine br_f (nI_nle (by rw [List.length_cons]; omega) (by rw [List.length_cons]; omega)) ?_
      rw [List.length_cons]
      refine nm_r (pk_m1 st.length) ⟨vl, ?_⟩
      rw [cl, hst.1]
      refine nm_e ?_
      obtain ⟨x, e⟩ := x
      obtain ⟨xn, xE, xt⟩ := I.1 (x, e) List.mem_cons_self
      have vx : vp_in (nI x) 2000 := vp_in_nI (by omega) (by decide)
      have cx : (nI x).toNatClampNeg = x := nI_clamp (by omega)
      cases e with
      | true =>
        refine br_f (yn_lt (by omega)) ?_
        refine nm_r (yn_back (nI x)) ⟨vx, ?_⟩
        rw [cx]
        obtain ⟨xc, xd⟩ := ys_done I
        obtain ⟨xk, x1, _⟩ := xt rfl
        have fin : ∀ v, v = 2 ∨ v = 3 → (∀ a b, gr_to kd pa (pa x) a → gr_to kd pa (pb x) b → (v = 3 ↔ nt a = 3 ∨ nt b = 3)) → wY_search_17 post f_count f_accepted f_place f_kept (nI n) f_tt f_pos f_bad f_typing f_unbound f_clash f_top f_scope f_doneName f_doneType (m + 1) (nI st.length) a_kind a_value a_keptKind a_keptA a_keptB a_root a_what a_partA a_partB (upd mk x (nI v)) a_twin wk a_pairs a_now a_todo a_types a_firm a_bound a_boundType := by
          intro v hv hv'
          have ce := ct_c n (p := fun i => decide (gr_u nt x v i = 0)) (q := fun i => decide (nt i = 0)) (fun i hi => by
            by_cases q : i = x
            · rw [q, gr_us, x1]
              rcases hv with rfl | rfl <;> rfl
            · rw [gr_un q])
          exact ih st (gr_u nt x v) _ wk (ys_end W I hv hv') (ym_u (k := v) hN (by omega) (by omega)) hst.2 (by rw [ce]; omega) (by rw [ce]; omega)
        have f3 : (∀ a b, gr_to kd pa (pa x) a → gr_to kd pa (pb x) b → (nt a = 3 ∨ nt b = 3)) → wY_search_103 post (wY_search_17 post f_count f_accepted f_place f_kept (nI n) f_tt f_pos f_bad f_typing f_unbound f_clash f_top f_scope f_doneName f_doneType (m + 1)) (nI st.length) (nI x) f_count f_accepted f_place f_kept (nI n) f_tt f_pos f_bad f_typing f_unbound f_clash f_top f_scope f_doneName f_doneType a_kind a_value a_keptKind a_keptA a_keptB a_root a_what a_partA a_partB mk a_twin wk a_pairs a_now a_todo a_types a_firm a_bound a_boundType := by
          intro q
          refine br_f (by decide) ⟨vx, ?_⟩
          rw [cx]
          exact nm_e (fin 3 (Or.inr rfl) (fun a b ha hb => ⟨fun _ => q a b ha hb, fun _ => rfl⟩))
        have f2 : (∀ a b, gr_to kd pa (pa x) a → gr_to kd pa (pb x) b → ¬ (nt a = 3 ∨ nt b = 3)) → wY_search_107 post (wY_search_17 post f_count f_accepted f_place f_kept (nI n) f_tt f_pos f_bad f_typing f_unbound f_clash f_top f_scope f_doneName f_doneType (m + 1)) (nI st.length) (nI x) f_count f_accepted f_place f_kept (nI n) f_tt f_pos f_bad f_typing f_unbound f_clash f_top f_scope f_doneName f_doneType a_kind a_value a_keptKind a_keptA a_keptB a_root a_what a_partA a_partB mk a_twin wk a_pairs a_now a_todo a_types a_firm a_bound a_boundType := by
          intro q
          refine br_t rfl ⟨vx, ?_⟩
          rw [cx]
          exact nm_e (fin 2 (Or.inl rfl) (fun a b ha hb => ⟨fun z => by omega, fun z => (q a b ha hb z).elim⟩))
        have w := (W x xn).2 xc
        have t1 := gr_L_to hL w.1
        have t2 := gr_L_to hL w.2
        generalize e1 : gr_f kd pa K (pa x) = y1 at t1
        generalize e2 : gr_f kd pa K (pb x) = y2 at t2
        have n1 := gr_to_n W t1 w.1
        have n2 := gr_to_n W t2 w.2
        have v1 : vp_in (nI y1) 2000 := vp_in_nI (by omega) (by decide)
        have v2 : vp_in (nI y2) 2000 := vp_in_nI (by omega) (by decide)
        refine yw_p hG xn xk (fun c => (c xc).elim) (fun _ k4 ea eb => ?_) (fun _ k5 ea eb => ?_)
        · refine br_f (by decide) ⟨vx, ?_⟩
          rw [ea]
          refine yw_real hG hn hL w.1 t1 ⟨v1, ?_⟩
          rw [nI_clamp (by omega), (hN y1 n1).1]
          have ey : y2 = y1 := by rw [eb] at t2; exact gr_to_u t2 t1
          refine pk_p (mk_eq 3 (hN y1 n1).2 (by omega) (by omega)) (fun z => f3 (fun a b ha hb => Or.inl (by rw [gr_to_u ha t1]; exact z))) (fun z => br_t (by decide) (f2 (fun a b ha hb => by rw [gr_to_u ha t1, gr_to_u hb t2, ey]; exact fun q => z (q.elim id id))))
        · refine br_f (by decide) ⟨vx, ?_⟩
          rw [ea]
          refine yw_real hG hn hL w.1 t1 ⟨v1, ?_⟩
          rw [nI_clamp (by omega), (hN y1 n1).1]
          refine pk_p (mk_eq 3 (hN y1 n1).2 (by omega) (by omega)) (fun z => f3 (fun a b ha hb => Or.inl (by rw [gr_to_u ha t1]; exact z))) (fun z => br_f (by decide) ⟨vx, ?_⟩)
          rw [cx, eb]
          refine yw_real hG hn hL w.2 t2 ⟨v2, ?_⟩
          rw [nI_clamp (by omega), (hN y2 n2).1]
          exact pk_p (mk_eq 3 (hN y2 n2).2 (by omega) (by omega)) (fun z' => f3 (fun a b ha hb => Or.inr (by rw [gr_to_u hb t2]; exact z'))) (fun z' => f2 (fun a b ha hb => by rw [gr_to_u ha t1, gr_to_u hb t2]; exact fun q => q.elim z z'))
      | false =>
        refine br_t (nI_le (a := 0) (by omega) (by omega)) ?_
        have tx := gr_L_to hL xn
        generalize er : gr_f kd pa K x = r at tx
        have rn := gr_to_n W tx xn
        have vr : vp_in (nI r) 2000 := vp_in_nI (by omega) (by decide)
        have cr : (nI r).toNatClampNeg = r := nI_clamp (by omega)
        refine yw_real hG hn hL xn tx ⟨vr, ?_⟩
        rw [cr, (hN r rn).1]
        refine pk_p (mk_lt (hN r rn).2) (fun r0 => ⟨vr, ?_⟩) (fun z => ih st nt mk wk (ys_drop I tx ?_) hN hst.2 (by omega) (by omega))
        rotate_left
        · refine Classical.byContradiction fun q => ?_
          have r1 : nt r = 1 := by omega
          rcases List.mem_cons.mp (I.2.1 r rn r1) with y | y
          · injection y with _ y; cases y
          · have c := I.2.2.2.2.2.2.1.1 r y
            rw [gr_to_V W hρ tx xn] at c
            exact Nat.lt_irrefl _ c
        have hct : ∀ v, v ≠ 0 → ct_n (fun i => decide (gr_u nt r v i = 0)) n + 1 = ct_n (fun i => decide (nt i = 0)) n := fun v hv => ct_u (p := fun i => decide (nt i = 0)) (q := fun i => decide (gr_u nt r v i = 0)) (a := r) (by rw [r0]; rfl) (by rw [gr_us]; exact decide_eq_false hv) (fun i hi => by rw [gr_un hi]) n rn
        have c1 := hct 1 (by omega)
        have c2 := hct 2 (by omega)
        have c3 := hct 3 (by omega)
        refine yw_p hG rn tx.1 (fun c0 => ?_) (fun cc k4 ea eb => ?_) (fun cc k5 ea eb => ?_)
        · refine br_t (by decide) ⟨vr, ?_⟩
          have e8 : a_what r = 8 ↔ kd r = 8 := by
            obtain ⟨_, _, z, _⟩ := yg_r hG rn tx.1
            rw [z]
            have := yk_le (kd r)
            constructor
            · intro y
              have y := (nI_eq (b := 8) (by omega) (by omega)).mp y
              by_cases c : kd r < 9
              · rw [yk_l c] at y; exact y
              · rw [yk_9 (by omega)] at y; omega
            · intro y; rw [y]; rfl
          refine pk_p e8 (fun k8 => ⟨vr, ?_⟩) (fun k8 => ⟨vr, ?_⟩)
          · rw [cr]
            refine nm_e (br_t (by decide) (br_t (by decide) (br_t (by decide) ?_)))
            exact ih st _ _ wk (ys_leaf (v := 3) W cE I tx r0 c0 (Or.inr rfl) ⟨fun _ => k8, fun _ => rfl⟩) (ym_u (k := 3) hN (by omega) (by omega)) hst.2 (by omega) (by omega)
          · rw [cr]
            refine nm_e (br_t (by decide) (br_t (by decide) (br_t (by decide) ?_)))
            exact ih st _ _ wk (ys_leaf (v := 2) W cE I tx r0 c0 (Or.inl rfl) ⟨fun z => by omega, fun z => (k8 z).elim⟩) (ym_u (k := 2) hN (by omega) (by omega)) hst.2 (by omega) (by omega)
        · have pn := ((W r rn).2 cc).1
          have N2 : ym_N n (upd mk r (nI 1)) (gr_u nt r 1) := ym_u (k := 1) hN (by omega) (by omega)
          refine br_f (by decide) ⟨vr, ?_⟩
          rw [cr]
          refine nm_e (br_f (by decide) (nm_r (nI_1 _) ⟨vl, ?_⟩))
          rw [ys_mm (by omega), cl]
          have hs1 : st_y (upd wk st.length (-1 - nI r)) ((r, true) :: st) := st_yp (x := (r, true)) hst.2
          refine nm_e (br_f (by decide) (nm_r (nI_1 _) ⟨vr, vp_in_nI (by omega) (by decide), ?_⟩))
          rw [cr, ea, ys_v (by omega), nI_clamp (by omega)]
          refine nm_e (br_t (by decide) ?_)
          exact ih ((pa r, false) :: (r, true) :: st) _ _ _ (ys_open (ps := [(pa r, false)]) W hρ cE I tx r0 cc (fun y hy => by rw [List.mem_singleton] at hy; rw [hy]; exact ⟨rfl, Or.inl rfl⟩) ⟨List.mem_cons_self, by rw [eb]; exact List.mem_cons_self⟩) N2 (st_yp (x := (pa r, false)) hs1) (by rw [List.length_cons, List.length_cons]; omega) (by rw [List.length_cons, List.length_cons]; omega)
        · have pn := ((W r rn).2 cc).1
          have qn := ((W r rn).2 cc).2
          have N2 : ym_N n (upd mk r (nI 1)) (gr_u nt r 1) := ym_u (k := 1) hN (by omega) (by omega)
          refine br_f (by decide) ⟨vr, ?_⟩
          rw [cr]
          refine nm_e (br_f (by decide) (nm_r (nI_1 _) ⟨vl, ?_⟩))
          rw [ys_mm (by omega), cl]
          have hs1 : st_y (upd wk st.length (-1 - nI r)) ((r, true) :: st) := st_yp (x := (r, true)) hst.2
          refine nm_e (br_f (by decide) (nm_r (nI_1 _) ⟨vr, vp_in_nI (by omega) (by decide), ?_⟩))
          rw [cr, ea, ys_v (by omega), nI_clamp (by omega)]
          refine nm_e (br_f (by decide) (nm_r (nI_1 _) ⟨vr, vp_in_nI (by omega) (by decide), ?_⟩))
          rw [cr, eb, ys_v (by omega), nI_clamp (by omega)]
          refine nm_e ?_
          exact ih ((pb r, false) :: (pa r, false) :: (r, true) :: st) _ _ _ (ys_open (ps := [(pb r, false), (pa r, false)]) W hρ cE I tx r0 cc (fun y hy => by
            rcases List.mem_cons.mp hy with z | z
            · rw [z]; exact ⟨rfl, Or.inr rfl⟩
            · rw [List.mem_singleton] at z; rw [z]; exact ⟨rfl, Or.inl rfl⟩) ⟨List.mem_cons_of_mem _ List.mem_cons_self, List.mem_cons_self⟩) N2 (st_yp (x := (pb r, false)) (L := (pa r, false) :: (r, true) :: st) (st_yp (x := (pa r, false)) hs1)) (by rw [List.length_cons, List.length_cons, List.length_cons]; omega) (by rw [List.length_cons, List.length_cons, List.length_cons]; omega)
/-- nt: 2 holds no general variable, 3 holds one -/
def yz_I (n : Nat) (kd pa pb nt : Nat → Nat) (E : Nat → Prop) (t : Nat) : Prop :=
  ys_M n kd pa pb nt ∧ (∀ i, i < n → nt i ≠ 0 → 2 ≤ nt i ∧ nt i ≤ 3 ∧ E i ∧ kd i ≠ 1000) ∧ ∀ r, gr_to kd pa t r → 2 ≤ nt r
theorem yw_search {post : SY → Prop} {s : Nat} {E : Nat → Prop} (hn : n ≤ 2000) (W : gr_W n kd pa pb) (A : gr_A n kd pa pb) (cE : gr_C n kd pa pb E) (hs : E s) (hG : yg_G n a_what a_partA a_partB kd pa pb) (hL : gr_L n kd pa K)
    (h : ∀ nt mk wk, yz_I n kd pa pb nt E s → ym_N n mk nt → post (f_count, f_accepted, f_place, f_kept, nI n, f_tt, f_pos, f_bad, f_typing, f_unbound, f_clash, f_top, f_scope, f_doneName, f_doneType, a_kind, a_value, a_keptKind, a_keptA, a_keptB, a_root, a_what, a_partA, a_partB, mk, a_twin, wk, a_pairs, a_now, a_todo, a_types, a_firm, a_bound, a_boundType)) : wpY_search post (f_count, f_accepted, f_place, f_kept, nI n, f_tt, f_pos, f_bad, f_typing, f_unbound, f_clash, f_top, f_scope, f_doneName, f_doneType, a_kind, a_value, a_keptKind, a_keptA, a_keptB, a_root, a_what, a_partA, a_partB, a_mark, a_twin, a_walk, a_pairs, a_now, a_todo, a_types, a_firm, a_bound, a_boundType) (nI s) := by
  obtain ⟨ρ, hρ, _⟩ := gr_ex A (fun _ => tr_at 0)
  have sn := (cE s hs).1
  have ctl := ct_le (p := fun _ => decide (0 = 0)) n
  refine yw_unmark hn (fun mk hz => ?_)
  refine nm_e ?_
  rw [ys_nn (by omega)]
  refine nm_e ⟨3 * n + 2, ?_⟩
  refine yw_search_l (s := s) hn W hρ cE hG hL (fun nt mk wk I hN => h nt mk wk ⟨I.2.2.2.1, fun i hi h0 => ?_, fun r hr => ?_⟩ hN) (3 * n + 1) [(s, false)] (fun _ => 0) mk _ (ys_0 sn hs) (fun i hi => ⟨hz i hi, Nat.zero_le _⟩) (st_yp (x := (s, false)) (L := []) trivial) (by rw [List.length_singleton]; omega) (by rw [List.length_singleton]; omega)
  · have := I.2.1 i hi
    have n1 : nt i ≠ 1 := fun z => by cases this z
    have e := I.2.2.1 i hi h0
    exact ⟨by omega, I.2.2.2.2.2.2.2 i hi, e.1, e.2⟩
  · rcases I.2.2.2.2.2.1 with z | z
    · cases z
    · rcases z r hr with z | z
      · exact z
      · cases z
end
