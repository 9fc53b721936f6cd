/-! the component's own turns follow M's -/
def xg_leg (s : Nat) : Prop := s < 38 ∨ (80 ≤ s ∧ s ≤ 90) ∨ s = 40 ∨ s = 41 ∨ s = 42 ∨ s = 43 ∨ s = 44 ∨ s = 45 ∨ s = 50 ∨ s = 51 ∨ s = 52 ∨ s = 53 ∨ s = 54 ∨ s = 55 ∨ s = 60 ∨ s = 61 ∨ s = 62 ∨ s = 63
/-- from (ss, a, sp) the component comes to (ss', a', sp') in n turns, never beyond its arrays -/
def xr_R (K : Nat → Nat) : Nat → pm_L → Nat → pm_L → pm_L → Nat → pm_L → Prop
  | 0, ss, a, sp, ss', a', sp' => ss = ss' ∧ a = a' ∧ sp = sp'
  | n + 1, ss, a, sp, ss', a', sp' => ∃ s p r, ss = (s, p) :: r ∧ ss.length ≤ 500 ∧ sp.length ≤ 60 ∧ a ≤ 60 ∧ xg_leg s ∧
    ((80 ≤ s ∧ xr_R K n r a (sp ++ [(s, p)]) ss' a' sp') ∨ (s < 38 ∧ K a = s ∧ xr_R K n r (a + 1) sp ss' a' sp') ∨ (38 ≤ s ∧ s < 80 ∧ ∃ l, xe_l K a s = some l ∧ xr_R K n (l ++ r) a sp ss' a' sp'))
/-- and there the tokens stop being a beginning -/
def xr_F (K : Nat → Nat) (ss : pm_L) (a : Nat) : Prop := ∃ s p r, ss = (s, p) :: r ∧ ss.length ≤ 500 ∧ a ≤ 60 ∧ xg_leg s ∧ ((s < 38 ∧ K a ≠ s) ∨ (38 ≤ s ∧ s < 80 ∧ xe_l K a s = none))
section
variable {K : Nat → Nat}
theorem xr_t : ∀ {n m : Nat} {ss a sp ss1 a1 sp1 ss2 a2 sp2}, xr_R K n ss a sp ss1 a1 sp1 → xr_R K m ss1 a1 sp1 ss2 a2 sp2 → xr_R K (n + m) ss a sp ss2 a2 sp2 := by
  intro n
  induction n with
  | zero =>
    intro m ss a sp ss1 a1 sp1 ss2 a2 sp2 h h'
    obtain ⟨rfl, rfl, rfl⟩ := h
    rw [Nat.zero_add]; exact h'
  | succ n ih =>
    intro m ss a sp ss1 a1 sp1 ss2 a2 sp2 h h'
    rw [Nat.succ_add]
    obtain ⟨s, p, r, e, b1, b2, b3, lg, q⟩ := h
    refine ⟨s, p, r, e, b1, b2, b3, lg, ?_⟩
    rcases q with ⟨q1, q2⟩ | ⟨q1, q2, q3⟩ | ⟨q1, q2, l, q3, q4⟩
    · exact Or.inl ⟨q1, ih q2 h'⟩
    · exact Or.inr (Or.inl ⟨q1, q2, ih q3 h'⟩)
    · exact Or.inr (Or.inr ⟨q1, q2, l, q3, ih q4 h'⟩)
theorem xr_tok {t a : Nat} {ss sp : pm_L} (ht : t < 38) (hk : K a = t) (h1 : ss.length < 500) (h2 : sp.length ≤ 60) (h3 : a ≤ 60) : xr_R K 1 ((t, 0) :: ss) a sp ss (a + 1) sp :=
  ⟨t, 0, ss, rfl, by rw [List.length_cons]; omega, h2, h3, Or.inl ht, Or.inr (Or.inl ⟨ht, hk, rfl, rfl, rfl⟩)⟩
theorem xr_em {s p a : Nat} {ss sp : pm_L} (hs : 80 ≤ s ∧ s ≤ 90) (h1 : ss.length < 500) (h2 : sp.length ≤ 60) (h3 : a ≤ 60) : xr_R K 1 ((s, p) :: ss) a sp ss a (sp ++ [(s, p)]) :=
  ⟨s, p, ss, rfl, by rw [List.length_cons]; omega, h2, h3, Or.inr (Or.inl hs), Or.inl ⟨hs.1, rfl, rfl, rfl⟩⟩
theorem xr_ex {s p a : Nat} {ss sp l : pm_L} (hl : xg_leg s) (hs : 38 ≤ s ∧ s < 80) (he : xe_l K a s = some l) (h1 : ss.length < 500) (h2 : sp.length ≤ 60) (h3 : a ≤ 60) : xr_R K 1 ((s, p) :: ss) a sp (l ++ ss) a sp :=
  ⟨s, p, ss, rfl, by rw [List.length_cons]; omega, h2, h3, hl, Or.inr (Or.inr ⟨hs.1, hs.2, l, he, rfl, rfl, rfl⟩)⟩
theorem xr_names {ss sp : pm_L} (h1 : ss.length + 5 < 500) (h2 : sp.length ≤ 60) : ∀ f q, q + f ≤ 58 → K (pm_nq K f q) ≠ 3 → ∃ n, n ≤ 2 * f + 1 ∧ xr_R K n ((41, 0) :: ss) q sp ss (pm_nq K f q) sp := by
  intro f
  have stop : ∀ q, q ≤ 60 → K q ≠ 3 → xr_R K 1 ((41, 0) :: ss) q sp ss q sp := by
    intro q hq k
    have z := xr_ex (K := K) (s := 41) (p := 0) (a := q) (ss := ss) (sp := sp) (l := []) (by unfold xg_leg; omega) (by omega) (by simp [xe_l, k]) (by omega) h2 hq
    exact z
  induction f with
  | zero =>
    intro q hq k
    exact ⟨1, by omega, stop q (by omega) k⟩
  | succ f ih =>
    intro q hq k
    unfold pm_nq at k ⊢
    by_cases c : K q = 3
    · rw [if_pos c] at k ⊢
      obtain ⟨n, hn, r⟩ := ih (q + 1) (by omega) k
      have z1 := xr_ex (K := K) (s := 41) (p := 0) (a := q) (ss := ss) (sp := sp) (l := [(3, 0), (41, 0)]) (by unfold xg_leg; omega) (by omega) (by simp [xe_l, c]) (by omega) h2 (by omega)
      have z2 := xr_tok (K := K) (t := 3) (a := q) (ss := (41, 0) :: ss) (sp := sp) (by omega) c (by rw [List.length_cons]; omega) h2 (by omega)
      exact ⟨1 + 1 + n, by omega, xr_t (xr_t z1 z2) r⟩
    · rw [if_neg c] at k ⊢
      exact ⟨1, by omega, stop q (by omega) c⟩
end
/-- the component's symbols for M's -/
def xm_1 (x : Nat × Nat) : pm_L := if x.1 = 46 then [(10, 0), (42, 0), (11, 0), (90, x.2)] else if x.1 = 47 then [(11, 0), (90, x.2)] else [x]
def xm_L : pm_L → pm_L
  | [] => []
  | x :: ss => xm_1 x ++ xm_L ss
theorem xm_app : ∀ l ss, xm_L (l ++ ss) = xm_L l ++ xm_L ss := by
  intro l
  induction l with
  | nil => intro ss; rfl
  | cons x l ih => intro ss; show xm_1 x ++ xm_L (l ++ ss) = _; rw [ih, ← List.append_assoc]; rfl
theorem xm_len : ∀ ss, (xm_L ss).length = pm_ys ss := by
  intro ss
  induction ss with
  | nil => rfl
  | cons x ss ih =>
    show (xm_1 x ++ xm_L ss).length = pm_y x.1 + pm_ys ss
    rw [List.length_append, ih]
    congr 1
    unfold xm_1 pm_y
    by_cases c1 : x.1 = 46
    · rw [if_pos c1, if_pos c1]; rfl
    · rw [if_neg c1, if_neg c1]
      by_cases c2 : x.1 = 47
      · rw [if_pos c2, if_pos c2]; rfl
      · rw [if_neg c2, if_neg c2]; rfl
theorem pm_alone_38 {t : Nat} (h : pm_alone t = true) : t < 38 := by
  unfold pm_alone at h
  simp at h
  omega
theorem pm_nq_ne {K : Nat → Nat} {c a : Nat} (hK : ∀ i, c ≤ i → K i = 99) (hc : c ≤ 24) : K (pm_nq K 24 (a + 3)) ≠ 3 := by
  have key : ∀ f q, c ≤ q + f → K (pm_nq K f q) ≠ 3 := by
    intro f
    induction f with
    | zero => intro q h; unfold pm_nq; rw [hK q (by omega)]; decide
    | succ f ih =>
      intro q h
      unfold pm_nq
      by_cases c : K q = 3
      · rw [if_pos c]; exact ih (q + 1) (by omega)
      · rw [if_neg c]; exact c
  exact key 24 (a + 3) (by omega)
