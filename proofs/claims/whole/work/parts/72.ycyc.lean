/-! the reference's search for a node that contains itself, and unify -/
def mk_v (k : Nat) : Int32 := if k = 0 then -1 else nI k
def ym_N (n : Nat) (mark : Nat → Int32) (nt : Nat → Nat) : Prop := ∀ i, i < n → mark i = mk_v (nt i) ∧ nt i ≤ 3
theorem ym_u {n : Nat} {mark : Nat → Int32} {nt : Nat → Nat} {a k : Nat} (h : ym_N n mark nt) (hk : k ≤ 3) (hk0 : k ≠ 0) : ym_N n (upd mark a (nI k)) (gr_u nt a k) := by
  intro i hi
  by_cases c : i = a
  · subst c; rw [pk_us, gr_us]; exact ⟨(if_neg hk0).symm, hk⟩
  · rw [pk_un c, gr_un c]; exact h i hi
theorem mk_eq {k : Nat} (c : Nat) (hk : k ≤ 3) (hc : c ≤ 3) (hc0 : c ≠ 0) : mk_v k = nI c ↔ k = c := by
  unfold mk_v
  by_cases e : k = 0
  · rw [if_pos e]
    constructor
    · intro z
      have : (-1 : Int32) < 0 := by decide
      rw [z] at this
      exact absurd this (nI_nlt (b := 0) (by omega) (by omega))
    · intro z; omega
  · rw [if_neg e]; exact nI_eq (by omega) (by omega)
theorem mk_lt {k : Nat} (hk : k ≤ 3) : mk_v k < 0 ↔ k = 0 := by
  unfold mk_v
  by_cases e : k = 0
  · rw [if_pos e]; exact ⟨fun _ => e, fun _ => by decide⟩
  · rw [if_neg e]
    exact ⟨fun z => absurd z (nI_nlt (b := 0) (by omega) (by omega)), fun z => (e z).elim⟩
theorem pk_p {c P A B : Prop} (e : c ↔ P) (f : P → A) (g : ¬ P → B) : (c → A) ∧ (¬ c → B) := ⟨fun z => f (e.mp z), fun z => g (fun p => z (e.mpr p))⟩
/-- a stack of nodes and of ends -/
def ye_v (e : Nat × Bool) : Int32 := if e.2 = true then -1 - nI e.1 else nI e.1
def st_y (a : Nat → Int32) : List (Nat × Bool) → Prop
  | [] => True
  | x :: L => a L.length = ye_v x ∧ st_y a L
theorem st_yu {a : Nat → Int32} {k : Nat} {x : Int32} : ∀ L : List (Nat × Bool), L.length ≤ k → st_y a L → st_y (upd a k x) L := by
  intro L
  induction L with
  | nil => intro _ _; trivial
  | cons y L ih =>
    intro h z
    rw [List.length_cons] at h
    refine ⟨?_, ih (by omega) z.2⟩
    rw [pk_un (by omega)]; exact z.1
theorem st_yp {a : Nat → Int32} {x : Nat × Bool} {L : List (Nat × Bool)} (h : st_y a L) : st_y (upd a L.length (ye_v x)) (x :: L) := ⟨pk_us, st_yu L (Nat.le_refl _) h⟩
def ye_c (ρ : Nat → tr_T) : List (Nat × Bool) → Prop
  | [] => True
  | x :: L => (∀ y, (y, true) ∈ L → tr_sz (ρ x.1) < tr_sz (ρ y)) ∧ ye_c ρ L
/-- a part is done, or waits in U -/
def ye_p (kd pa nt : Nat → Nat) (U : List (Nat × Bool)) (p : Nat) : Prop := (p, false) ∈ U ∨ ∀ r, gr_to kd pa p r → nt r = 2 ∨ (r, true) ∈ U
def ye_I (n : Nat) (kd pa pb nt : Nat → Nat) (s : Nat) (st : List (Nat × Bool)) : Prop :=
  (∀ x, x ∈ st → x.1 < n ∧ (x.2 = true → kd x.1 ≠ 1000 ∧ nt x.1 ≠ 0)) ∧ (∀ i, i < n → nt i = 1 → (i, true) ∈ st) ∧
  (∀ i, i < n → nt i = 2 → kd i ≠ 1000 ∧ (∃ f, gr_H kd pa pb f i) ∧ (gr_cn (kd i) → (∀ x, gr_to kd pa (pa i) x → nt x = 2) ∧ ∀ x, gr_to kd pa (pb i) x → nt x = 2)) ∧
  (∀ U t D, st = U ++ (t, true) :: D → gr_cn (kd t) → ye_p kd pa nt U (pa t) ∧ ye_p kd pa nt U (pb t)) ∧
  ye_p kd pa nt st s ∧ (∀ ρ, gr_V n kd pa pb ρ → ye_c ρ st) ∧ ∀ i, i < n → nt i ≤ 2
section
variable {n K : Nat} {kd pa pb nt : Nat → Nat} {s : Nat} {st : List (Nat × Bool)}
/-- an entry whose node is done falls away -/
theorem ye_drop {x r : Nat} (I : ye_I n kd pa pb nt s ((x, false) :: st)) (hx : gr_to kd pa x r) (h2 : nt r = 2) : ye_I n kd pa pb nt s st := by
  obtain ⟨i1, i2, i3, i4, i5, i6, i7⟩ := I
  have pp : ∀ U p, ye_p kd pa nt ((x, false) :: U) p → ye_p kd pa nt U p := by
    intro U p h
    rcases h with h | h
    · rcases List.mem_cons.mp h with z | z
      · injection z with z1 z2
        subst z1
        exact Or.inr (fun q hq => Or.inl (by rw [gr_to_u hq hx]; exact h2))
      · exact Or.inl z
    · refine Or.inr (fun q hq => (h q hq).imp id (fun z => ?_))
      rcases List.mem_cons.mp z with z | z
      · injection z with z1 z2; cases z2
      · exact z
  refine ⟨fun y hy => i1 y (List.mem_cons_of_mem _ hy), fun i hi h => ?_, i3, fun U t D e c => ?_, pp _ _ i5, fun ρ h => (i6 ρ h).2, i7⟩
  · rcases List.mem_cons.mp (i2 i hi h) with z | z
    · injection z with z1 z2; cases z2
    · exact z
  · have := i4 ((x, false) :: U) t D (by rw [e]; rfl) c
    exact ⟨pp _ _ this.1, pp _ _ this.2⟩
/-- the end of a node: it is done -/
theorem ye_end {t : Nat} (W : gr_W n kd pa pb) (hL : gr_L n kd pa K) (I : ye_I n kd pa pb nt s ((t, true) :: st)) : ye_I n kd pa pb (gr_u nt t 2) s st := by
  obtain ⟨i1, i2, i3, i4, i5, i6, i7⟩ := I
  obtain ⟨tn, t2⟩ := i1 (t, true) List.mem_cons_self
  obtain ⟨tk, t0⟩ := t2 rfl
  have up : ∀ y, nt y = 2 → gr_u nt t 2 y = 2 := fun y hy => by
    by_cases q : y = t
    · rw [q, gr_us]
    · rw [gr_un q]; exact hy
  have pp : ∀ U p, ye_p kd pa nt ((t, true) :: U) p → ye_p kd pa (gr_u nt t 2) U p := by
    intro U p h
    rcases h with h | h
    · rcases List.mem_cons.mp h with z | z
      · injection z with z1 z2; cases z2
      · exact Or.inl z
    · refine Or.inr (fun q hq => ?_)
      rcases h q hq with z | z
      · exact Or.inl (up q z)
      · rcases List.mem_cons.mp z with z | z
        · injection z with z1 z2
          rw [z1]
          exact Or.inl gr_us
        · exact Or.inr z
  have nil : ∀ p, ye_p kd pa nt [] p → ∀ r, gr_to kd pa p r → nt r = 2 := by
    intro p h r hr
    rcases h with h | h
    · cases h
    · rcases h r hr with z | z
      · exact z
      · cases z
  refine ⟨fun y hy => ⟨(i1 y (List.mem_cons_of_mem _ hy)).1, fun z => ⟨((i1 y (List.mem_cons_of_mem _ hy)).2 z).1, ?_⟩⟩, fun i hi h => ?_, fun i hi h => ?_, fun U t' D e c => ?_, pp _ _ i5, fun ρ h => (i6 ρ h).2, fun i hi => ?_⟩
  · by_cases q : y.1 = t
    · rw [q, gr_us]; omega
    · rw [gr_un q]; exact ((i1 y (List.mem_cons_of_mem _ hy)).2 z).2
  · by_cases q : i = t
    · rw [q, gr_us] at h; omega
    · rw [gr_un q] at h
      rcases List.mem_cons.mp (i2 i hi h) with z | z
      · injection z with z1 z2; exact (q z1).elim
      · exact z
  · by_cases q : i = t
    · subst q
      have c4 := i4 [] i st rfl
      refine ⟨tk, gr_H_i (fun z => (tk z).elim) (fun z => ?_), fun z => ?_⟩
      · have w := (W i tn).2 z
        have t1 := gr_L_to hL w.1
        have t2 := gr_L_to hL w.2
        exact ⟨gr_to_H t1 (i3 _ (gr_to_n W t1 w.1) (nil _ (c4 z).1 _ t1)).2.1, gr_to_H t2 (i3 _ (gr_to_n W t2 w.2) (nil _ (c4 z).2 _ t2)).2.1⟩
      · exact ⟨fun x hx => up x (nil _ (c4 z).1 x hx), fun x hx => up x (nil _ (c4 z).2 x hx)⟩
    · rw [gr_un q] at h
      obtain ⟨z1, z2, z3⟩ := i3 i hi h
      exact ⟨z1, z2, fun k => ⟨fun y hy => up y ((z3 k).1 y hy), fun y hy => up y ((z3 k).2 y hy)⟩⟩
  · have := i4 ((t, true) :: U) t' D (by rw [e]; rfl) c
    exact ⟨pp _ _ this.1, pp _ _ this.2⟩
  · by_cases q : i = t
    · rw [q, gr_us]; omega
    · rw [gr_un q]; exact i7 i hi
/-- a node not seen so far: its end, and its parts above -/
theorem ye_open {x r : Nat} {ps : List (Nat × Bool)} (W : gr_W n kd pa pb) (I : ye_I n kd pa pb nt s ((x, false) :: st)) (hx : gr_to kd pa x r) (h0 : nt r = 0) (hps : ∀ y, y ∈ ps → y.2 = false ∧ gr_cn (kd r) ∧ (y.1 = pa r ∨ y.1 = pb r)) (hpc : gr_cn (kd r) → (pa r, false) ∈ ps ∧ (pb r, false) ∈ ps) : ye_I n kd pa pb (gr_u nt r 1) s (ps ++ (r, true) :: st) := by
  obtain ⟨i1, i2, i3, i4, i5, i6, i7⟩ := I
  have xn : x < n := (i1 (x, false) List.mem_cons_self).1
  have rn := gr_to_n W hx xn
  have up : ∀ y, nt y = 2 → gr_u nt r 1 y = 2 := fun y hy => by
    by_cases q : y = r
    · rw [q] at hy; omega
    · rw [gr_un q]; exact hy
  have pp : ∀ U p, ye_p kd pa nt ((x, false) :: U) p → ye_p kd pa (gr_u nt r 1) (ps ++ (r, true) :: U) p := by
    intro U p h
    rcases h with h | h
    · rcases List.mem_cons.mp h with z | z
      · injection z with z1 z2
        subst z1
        exact Or.inr (fun q hq => Or.inr (by rw [gr_to_u hq hx]; exact List.mem_append_right _ List.mem_cons_self))
      · exact Or.inl (List.mem_append_right _ (List.mem_cons_of_mem _ z))
    · refine Or.inr (fun q hq => (h q hq).imp (up q) (fun z => ?_))
      rcases List.mem_cons.mp z with z | z
      · injection z with z1 z2; cases z2
      · exact List.mem_append_right _ (List.mem_cons_of_mem _ z)
  have psf : ∀ y, (y, true) ∉ ps := fun y h => by have := (hps _ h).1; cases this
  refine ⟨fun y hy => ?_, fun i hi h => ?_, fun i hi h => ?_, fun U t D e c => ?_, pp _ _ i5, fun ρ h => ?_, fun i hi => ?_⟩
  · rcases List.mem_append.mp hy with z | z
    · obtain ⟨q1, q2, q3⟩ := hps y z
      have w := (W r rn).2 q2
      refine ⟨?_, fun k => by rw [q1] at k; cases k⟩
      rcases q3 with q3 | q3
      · rw [q3]; exact w.1
      · rw [q3]; exact w.2
    · rcases List.mem_cons.mp z with z | z
      · rw [z]; exact ⟨rn, fun _ => ⟨hx.1, by rw [gr_us]; omega⟩⟩
      · have q := i1 y (List.mem_cons_of_mem _ z)
        refine ⟨q.1, fun k => ⟨(q.2 k).1, ?_⟩⟩
        by_cases e : y.1 = r
        · rw [e, gr_us]; omega
        · rw [gr_un e]; exact (q.2 k).2
  · by_cases q : i = r
    · rw [q]; exact List.mem_append_right _ List.mem_cons_self
    · rw [gr_un q] at h
      rcases List.mem_cons.mp (i2 i hi h) with z | z
      · injection z with z1 z2; cases z2
      · exact List.mem_append_right _ (List.mem_cons_of_mem _ z)
  · by_cases q : i = r
    · rw [q, gr_us] at h; omega
    · rw [gr_un q] at h
      obtain ⟨z1, z2, z3⟩ := i3 i hi h
      exact ⟨z1, z2, fun k => ⟨fun y hy => up y ((z3 k).1 y hy), fun y hy => up y ((z3 k).2 y hy)⟩⟩
  · rcases List.append_eq_append_iff.mp e with ⟨A, e1, e2⟩ | ⟨A, e1, e2⟩
    · cases A with
      | nil =>
        rw [List.append_nil] at e1
        rw [List.nil_append] at e2
        injection e2 with e2 e3
        injection e2 with e2 _
        subst e2 e1
        exact ⟨Or.inl (hpc c).1, Or.inl (hpc c).2⟩
      | cons a A =>
        injection e2 with e2 e3
        subst e2
        have := i4 ((x, false) :: A) t D (by rw [e3]; rfl) c
        rw [e1]
        exact ⟨pp _ _ this.1, pp _ _ this.2⟩
    · cases A with
      | nil =>
        rw [List.append_nil] at e1
        rw [List.nil_append] at e2
        injection e2 with e2 e3
        injection e2 with e2 _
        subst e2 e1
        exact ⟨Or.inl (hpc c).1, Or.inl (hpc c).2⟩
      | cons a A =>
        injection e2 with e2 e3
        subst e2
        exact (psf t (by rw [e1]; exact List.mem_append_right _ List.mem_cons_self)).elim
  · have hx2 := gr_to_V W h hx xn
    have c1 := i6 ρ h
    have c2 : ye_c ρ ((r, true) :: st) := ⟨fun y hy => by rw [← hx2]; exact c1.1 y hy, c1.2⟩
    have add : ∀ ps, (∀ y, y ∈ ps → y.2 = false ∧ gr_cn (kd r) ∧ (y.1 = pa r ∨ y.1 = pb r)) → ye_c ρ (ps ++ (r, true) :: st) := by
      intro ps
      induction ps with
      | nil => intro _; exact c2
      | cons y ps ih =>
        intro hy
        refine ⟨fun z hz => ?_, ih (fun w hw => hy w (List.mem_cons_of_mem _ hw))⟩
        obtain ⟨q1, q2, q3⟩ := hy y List.mem_cons_self
        have lt : tr_sz (ρ y.1) < tr_sz (ρ r) := by
          rw [gr_Vc h rn q2]
          rcases q3 with q3 | q3
          · rw [q3]; exact tr_sz_l _ _ _
          · rw [q3]; exact tr_sz_r _ _ _
        rcases List.mem_append.mp hz with w | w
        · have := (hy _ (List.mem_cons_of_mem _ w)).1; cases this
        · rcases List.mem_cons.mp w with w | w
          · injection w with w1 _; rw [w1]; exact lt
          · exact Nat.lt_trans lt (c2.1 z w)
    exact add ps hps
  · by_cases q : i = r
    · rw [q, gr_us]; omega
    · rw [gr_un q]; exact i7 i hi
/-- a node met again on the way down -/
theorem ye_cyc {x r : Nat} (W : gr_W n kd pa pb) (I : ye_I n kd pa pb nt s ((x, false) :: st)) (hx : gr_to kd pa x r) (h1 : nt r = 1) : ∀ ρ, ¬ gr_V n kd pa pb ρ := by
  obtain ⟨i1, i2, i3, i4, i5, i6, i7⟩ := I
  intro ρ h
  have xn : x < n := (i1 (x, false) List.mem_cons_self).1
  rcases List.mem_cons.mp (i2 r (gr_to_n W hx xn) h1) with z | z
  · injection z with z1 z2; cases z2
  · have c := (i6 ρ h).1 r z
    have e := gr_to_V W h hx xn
    rw [e] at c
    omega
theorem ye_0 (hs : s < n) : ye_I n kd pa pb (fun _ => 0) s [(s, false)] := by
  refine ⟨fun x hx => ?_, fun i _ h => (by cases h), fun i _ h => (by cases h), fun U t D e => ?_, Or.inl List.mem_cons_self, fun ρ h => ⟨fun y hy => (by cases hy), trivial⟩, fun i _ => Nat.zero_le _⟩
  · rw [List.mem_singleton] at hx
    rw [hx]; exact ⟨hs, fun z => by cases z⟩
  · have m : (t, true) ∈ [(s, false)] := by rw [e]; exact List.mem_append_right _ List.mem_cons_self
    rw [List.mem_singleton] at m
    injection m with _ m
    cases m
theorem ye_fin (W : gr_W n kd pa pb) (I : ye_I n kd pa pb nt s []) (hs : s < n) : ck_R n kd pa pb (fun i => i < n ∧ nt i = 2) ∧ ∀ x, gr_to kd pa s x → x < n ∧ nt x = 2 := by
  obtain ⟨i1, i2, i3, i4, i5, i6, i7⟩ := I
  refine ⟨fun r hr => ?_, fun x hx => ⟨gr_to_n W hx hs, ?_⟩⟩
  · obtain ⟨z1, z2, z3⟩ := i3 r hr.1 hr.2
    refine ⟨hr.1, z1, z2, fun k => ?_⟩
    have w := (W r hr.1).2 k
    exact ⟨fun y hy => ⟨gr_to_n W hy w.1, (z3 k).1 y hy⟩, fun y hy => ⟨gr_to_n W hy w.2, (z3 k).2 y hy⟩⟩
  · rcases i5 with z | z
    · cases z
    · rcases z x hx with z | z
      · exact z
      · cases z
end
section
variable {f_count f_accepted f_place f_kept f_nodes f_tt f_pos f_bad f_typing f_unbound f_clash f_top f_scope f_doneName f_doneType : Int32} {a_kind a_value a_keptKind a_keptA a_keptB a_root a_what a_partA a_partB a_mark a_twin a_walk a_pairs a_now a_todo a_types a_firm a_bound a_boundType : Nat → Int32}
variable {kd pa pb : Nat → Nat} {n K : Nat}
theorem yw_end_l {post : Int32 → SY → Prop} {s : Nat} (hn : n ≤ 2000) (W : gr_W n kd pa pb) (hG : yg_G n a_what a_partA a_partB kd pa pb) (hL : gr_L n kd pa K)
    (h1 : (∀ ρ, ¬ gr_V n kd pa pb ρ) → ∀ mk wk, post 1 (f_count, f_accepted, f_place, f_kept, f_nodes, f_tt, f_pos, f_bad, f_typing, f_unbound, f_clash, f_top, f_scope, f_doneName, f_doneType, a_kind, a_value, a_keptKind, a_keptA, a_keptB, a_root, a_what, a_partA, a_partB, mk, a_twin, wk, a_pairs, a_now, a_todo, a_types, a_firm, a_bound, a_boundType))
    (h0 : ∀ nt, ye_I n kd pa pb nt s [] → ∀ mk wk, post 0 (f_count, f_accepted, f_place, f_kept, f_nodes, f_tt, f_pos, f_bad, f_typing, f_unbound, f_clash, f_top, f_scope, f_doneName, f_doneType, a_kind, a_value, a_keptKind, a_keptA, a_keptB, a_root, a_what, a_partA, a_partB, mk, a_twin, wk, a_pairs, a_now, a_todo, a_types, a_firm, a_bound, a_boundType)) :
    ∀ m st nt mk wk, ye_I n kd pa pb nt s st → ym_N n mk nt → st_y wk st → 3 * ct_n (fun i => decide (nt i = 0)) n + st.length ≤ m → st.length + 2 * ct_n (fun i => decide (nt i = 0)) n ≤ 2 * n + 1 → wY_isEndless_17 post f_count f_accepted f_place f_kept f_nodes f_tt f_pos f_bad f_typing f_unbound f_clash f_top f_scope f_doneName f_doneType (m + 1) (nI st.length) a_kind a_value a_keptKind a_keptA a_keptB a_root a_what a_partA a_partB mk a_twin wk a_pairs a_now a_todo a_types a_firm a_bound a_boundType := by
  intro m
  induction m with
  | zero =>
    intro st nt mk wk I hN hst hm hl
    have e : st = [] := List.eq_nil_of_length_eq_zero (by omega)
    subst e
    exact br_t (nI_le (a := 0) (b := 0) (by omega) (by omega)) (h0 nt I mk wk)
  | succ m ih =>
    intro st nt mk wk I hN hst hm hl
    cases st with
    | nil => exact br_t (nI_le (a := 0) (b := 0) (by omega) (by omega)) (h0 nt I mk wk)
    | cons x st =>
      rw [List.length_cons] at hm hl
      have ctl := ct_le (p := fun i => decide (nt i = 0)) n
      have vl : vp_in (nI st.length) 4100 := vp_in_nI (by omega) (by decide)
      refine br_f (nI_nle (by rw [List.length_cons]; omega) (by rw [List.length_cons]; omega)) ?_
      rw [List.length_cons]
      refine nm_r (pk_m1 st.length) ⟨vl, ?_⟩
      rw [nI_clamp (by omega), hst.1]
      refine nm_e ?_
      obtain ⟨x, e⟩ := x
      have xn : x < n := (I.1 (x, e) List.mem_cons_self).1
      cases e with
      | true =>
        refine br_f (yn_lt (by omega)) ?_
        show vp_in (-1 - (-1 - nI x)) 2000 ∧ _
        rw [show ye_v (x, true) = -1 - nI x from rfl, yn_back]
        refine ⟨vp_in_nI (by omega) (by decide), ?_⟩
        rw [nI_clamp (by omega)]
        have x0 := ((I.1 (x, true) List.mem_cons_self).2 rfl).2
        have ce := ct_c n (p := fun i => decide (gr_u nt x 2 i = 0)) (q := fun i => decide (nt i = 0)) (fun i hi => by
          by_cases q : i = x
          · rw [q, gr_us]; simp only [x0]; rfl
          · rw [gr_un q])
        exact nm_e (ih st (gr_u nt x 2) _ wk (ye_end W hL I) (ym_u (k := 2) hN (by omega) (by omega)) hst.2 (by rw [ce]; omega) (by rw [ce]; omega))
      | false =>
        refine br_t (nI_le (a := 0) (by omega) (by omega)) ?_
        have tx := gr_L_to hL xn
        generalize er : gr_f kd pa K x = r at tx
        have rn := gr_to_n W tx xn
        have vr : vp_in (nI r) 2000 := vp_in_nI (by omega) (by decide)
        have cr : (nI r).toNatClampNeg = r := nI_clamp (by omega)
        refine yw_real hG hn hL xn tx ⟨vr, ?_⟩
        rw [cr, (hN r rn).1]
        have n3 := (hN r rn).2
        refine pk_p (mk_eq 1 n3 (by omega) (by omega)) (fun z => h1 (ye_cyc W I tx z) _ _) (fun z1 => ⟨vr, ?_⟩)
        refine pk_p (mk_eq 2 n3 (by omega) (by omega)) (fun z => ih st nt mk wk (ye_drop I tx z) hN hst.2 (by omega) (by omega)) (fun z2 => ⟨vr, ?_⟩)
        have n2 := I.2.2.2.2.2.2 r rn
        have r0 : nt r = 0 := by omega
        have hct := ct_u (p := fun i => decide (nt i = 0)) (q := fun i => decide (gr_u nt r 1 i = 0)) (a := r) (by rw [r0]; rfl) (by rw [gr_us]; rfl) (fun i hi => by rw [gr_un hi]) n rn
        refine nm_e (nm_r (nI_1 _) ⟨vl, ?_⟩)
        rw [ys_mm (by omega)]
        have hs1 : st_y (upd wk st.length (-1 - nI r)) ((r, true) :: st) := st_yp (x := (r, true)) hst.2
        refine nm_e ⟨vr, ?_⟩
        have N2 : ym_N n (upd mk r (nI 1)) (gr_u nt r 1) := ym_u (k := 1) hN (by omega) (by omega)
        refine yw_p hG rn tx.1 (fun c0 => ?_) (fun c1 k4 ea eb => ?_) (fun c1 k5 ea eb => ?_)
        · refine br_t (by decide) ⟨vr, ?_⟩
          rw [cr]
          refine yw_p hG rn tx.1 (fun _ => ?_) (fun c _ _ _ => (c0 c).elim) (fun c _ _ _ => (c0 c).elim)
          exact br_t (by decide) (ih ((r, true) :: st) _ _ _ (ye_open (ps := []) W I tx r0 (fun y hy => by cases hy) (fun c => (c0 c).elim)) N2 hs1 (by rw [List.length_cons]; omega) (by rw [List.length_cons]; omega))
        · refine br_f (by decide) (nm_r (nI_1 _) ⟨vr, vp_in_nI (by omega) (by decide), ?_⟩)
          rw [nI_clamp (by omega), ea]
          have pn := ((W r rn).2 c1).1
          rw [ys_v (by omega)]
          refine nm_e ⟨vr, ?_⟩
          rw [cr]
          refine yw_p hG rn tx.1 (fun c => (c c1).elim) (fun _ _ _ _ => ?_) (fun _ k5 _ _ => absurd k5 (by omega))
          exact br_t (by decide) (ih ((pa r, false) :: (r, true) :: st) _ _ _ (ye_open (ps := [(pa r, false)]) W I tx r0 (fun y hy => by rw [List.mem_singleton] at hy; rw [hy]; exact ⟨rfl, c1, Or.inl rfl⟩) (fun _ => ⟨List.mem_cons_self, by rw [eb]; exact List.mem_cons_self⟩)) N2 (st_yp (x := (pa r, false)) hs1) (by rw [List.length_cons, List.length_cons]; omega) (by rw [List.length_cons, List.length_cons]; omega))
        · refine br_f (by decide) (nm_r (nI_1 _) ⟨vr, vp_in_nI (by omega) (by decide), ?_⟩)
          rw [nI_clamp (by omega), ea]
          have pn := ((W r rn).2 c1).1
          have qn := ((W r rn).2 c1).2
          rw [ys_v (by omega)]
          refine nm_e ⟨vr, ?_⟩
          rw [cr]
          refine yw_p hG rn tx.1 (fun c => (c c1).elim) (fun _ k4 _ _ => absurd k4 (by omega)) (fun _ _ _ _ => ?_)
          refine br_f (by decide) (nm_r (nI_1 _) ⟨vr, vp_in_nI (by omega) (by decide), ?_⟩)
          rw [nI_clamp (by omega), eb, ys_v (by omega)]
          exact nm_e (ih ((pb r, false) :: (pa r, false) :: (r, true) :: st) _ _ _ (ye_open (ps := [(pb r, false), (pa r, false)]) W I tx r0 (fun y hy => by
            rcases List.mem_cons.mp hy with z | z
            · rw [z]; exact ⟨rfl, c1, Or.inr rfl⟩
            · rw [List.mem_singleton] at z; rw [z]; exact ⟨rfl, c1, Or.inl rfl⟩) (fun _ => ⟨List.mem_cons_of_mem _ List.mem_cons_self, List.mem_cons_self⟩)) N2 (st_yp (x := (pb r, false)) (L := (pa r, false) :: (r, true) :: st) (st_yp (x := (pa r, false)) hs1)) (by rw [List.length_cons, List.length_cons, List.length_cons]; omega) (by rw [List.length_cons, List.length_cons, List.length_cons]; omega))
theorem yw_endless {post : Int32 → SY → Prop} {s : Nat} (hn : n ≤ 2000) (W : gr_W n kd pa pb) (hG : yg_G n a_what a_partA a_partB kd pa pb) (hL : gr_L n kd pa K) (hs : s < n)
    (h1 : (∀ ρ, ¬ gr_V n kd pa pb ρ) → ∀ mk wk, post 1 (f_count, f_accepted, f_place, f_kept, nI n, f_tt, f_pos, f_bad, f_typing, f_unbound, f_clash, f_top, f_scope, f_doneName, f_doneType, a_kind, a_value, a_keptKind, a_keptA, a_keptB, a_root, a_what, a_partA, a_partB, mk, a_twin, wk, a_pairs, a_now, a_todo, a_types, a_firm, a_bound, a_boundType))
    (h0 : ∀ S, ck_R n kd pa pb S → (∀ x, gr_to kd pa s x → S x) → ∀ mk wk, post 0 (f_count, f_accepted, f_place, f_kept, nI n, f_tt, f_pos, f_bad, f_typing, f_unbound, f_clash, f_top, f_scope, f_doneName, f_doneType, a_kind, a_value, a_keptKind, a_keptA, a_keptB, a_root, a_what, a_partA, a_partB, mk, a_twin, wk, a_pairs, a_now, a_todo, a_types, a_firm, a_bound, a_boundType)) : wpY_isEndless post (f_count, f_accepted, f_place, f_kept, nI n, f_tt, f_pos, f_bad, f_typing, f_unbound, f_clash, f_top, f_scope, f_doneName, f_doneType, a_kind, a_value, a_keptKind, a_keptA, a_keptB, a_root, a_what, a_partA, a_partB, a_mark, a_twin, a_walk, a_pairs, a_now, a_todo, a_types, a_firm, a_bound, a_boundType) (nI s) := by
  refine yw_unmark hn (fun mk hz => ?_)
  refine nm_e ?_
  rw [ys_nn (by omega)]
  refine nm_e ⟨3 * n + 2, ?_⟩
  have ctl := ct_le (p := fun _ => decide (0 = 0)) n
  exact yw_end_l (s := s) hn W hG hL h1 (fun nt I mk wk => h0 _ (ye_fin W I hs).1 (ye_fin W I hs).2 mk wk) (3 * n + 1) [(s, false)] (fun _ => 0) mk _ (ye_0 hs) (fun i hi => ⟨hz i hi, Nat.zero_le _⟩) (st_yp (x := (s, false)) (L := []) trivial) (by rw [List.length_singleton]; omega) (by rw [List.length_singleton]; omega)
end
