/-! each turn of M in the component's turns -/
def xm_T (B : Nat) (K : Nat → Nat) (s p a : Nat) (R sp : pm_L) : Prop :=
  (∀ a' l w, pm_turn K s p a = (a', some (l, w)) → ∃ n, n ≤ B ∧ xr_R K n (xm_1 (s, p) ++ R) a sp (xm_L l ++ R) a' (sp ++ w)) ∧
  (∀ a', pm_turn K s p a = (a', none) → ∃ n ss1, n ≤ B ∧ xr_R K n (xm_1 (s, p) ++ R) a sp ss1 a' sp ∧ xr_F K ss1 a')
section
variable {K : Nat → Nat} {c a p : Nat} {R sp : pm_L}
theorem xm_expr (hK : ∀ i, c ≤ i → K i = 99) (hc : c ≤ 24) (ha : a ≤ c) (h1 : R.length + 20 < 500) (h2 : sp.length ≤ 57) : xm_T 60 K 42 p a R sp := by
  refine ⟨fun a' l w h => ?_, fun a' h => ?_⟩
  · unfold pm_turn at h
    simp at h
    unfold pm_expr at h
    by_cases k1 : K a = 4
    · rw [if_pos k1] at h
      by_cases k2 : K (a + 1) = 3
      · rw [if_pos k2] at h
        by_cases k3 : K (a + 2) = 5
        · rw [if_pos k3] at h
          have qk3 := pm_lt hK k3 (by decide)
          simp at h
          obtain ⟨rfl, rfl, rfl⟩ := h
          have z1 : xr_R K 1 ((42, p) :: R) (a) sp ((4, 0) :: (3, 0) :: (5, 0) :: (85, a) :: (42, 0) :: (86, a) :: R) (a) sp := xr_ex (l := [(4, 0), (3, 0), (5, 0), (85, a), (42, 0), (86, a)]) (by unfold xg_leg; omega) (by omega) (by simp [xe_l, k1]) (by first | omega | (simp only [List.length_cons, List.length_append, List.length_nil]; omega)) (by first | omega | (simp only [List.length_cons, List.length_append, List.length_nil]; omega)) (by omega)
          have z2 : xr_R K 1 ((4, 0) :: (3, 0) :: (5, 0) :: (85, a) :: (42, 0) :: (86, a) :: R) (a) sp ((3, 0) :: (5, 0) :: (85, a) :: (42, 0) :: (86, a) :: R) (a + 1) sp := xr_tok (by first | omega | exact kl) k1 (by first | omega | (simp only [List.length_cons, List.length_append, List.length_nil]; omega)) (by first | omega | (simp only [List.length_cons, List.length_append, List.length_nil]; omega)) (by omega)
          have z3 : xr_R K 1 ((3, 0) :: (5, 0) :: (85, a) :: (42, 0) :: (86, a) :: R) (a + 1) sp ((5, 0) :: (85, a) :: (42, 0) :: (86, a) :: R) (a + 2) sp := xr_tok (by first | omega | exact kl) k2 (by first | omega | (simp only [List.length_cons, List.length_append, List.length_nil]; omega)) (by first | omega | (simp only [List.length_cons, List.length_append, List.length_nil]; omega)) (by omega)
          have z4 : xr_R K 1 ((5, 0) :: (85, a) :: (42, 0) :: (86, a) :: R) (a + 2) sp ((85, a) :: (42, 0) :: (86, a) :: R) (a + 3) sp := xr_tok (by first | omega | exact kl) k3 (by first | omega | (simp only [List.length_cons, List.length_append, List.length_nil]; omega)) (by first | omega | (simp only [List.length_cons, List.length_append, List.length_nil]; omega)) (by omega)
          have z5 : xr_R K 1 ((85, a) :: (42, 0) :: (86, a) :: R) (a + 3) sp ((42, 0) :: (86, a) :: R) (a + 3) (sp ++ [(85, a)]) := xr_em (by omega) (by first | omega | (simp only [List.length_cons, List.length_append, List.length_nil]; omega)) (by first | omega | (simp only [List.length_cons, List.length_append, List.length_nil]; omega)) (by omega)
          have z := (xr_t z1 (xr_t z2 (xr_t z3 (xr_t z4 z5))))
          exact ⟨5, by omega, by simpa [xm_L, xm_1] using z⟩
        · rw [if_neg k3] at h
          simp at h
      · rw [if_neg k2] at h
        simp at h
    · rw [if_neg k1] at h
      by_cases k4 : K a = 12
      · rw [if_pos k4] at h
        have qk4 := pm_lt hK k4 (by decide)
        simp at h
        obtain ⟨rfl, rfl, rfl⟩ := h
        have z1 : xr_R K 1 ((42, p) :: R) (a) sp ((12, 0) :: (42, 0) :: (13, 0) :: (42, 0) :: (14, 0) :: (42, 0) :: (84, a) :: R) (a) sp := xr_ex (l := [(12, 0), (42, 0), (13, 0), (42, 0), (14, 0), (42, 0), (84, a)]) (by unfold xg_leg; omega) (by omega) (by simp [xe_l, k4]) (by first | omega | (simp only [List.length_cons, List.length_append, List.length_nil]; omega)) (by first | omega | (simp only [List.length_cons, List.length_append, List.length_nil]; omega)) (by omega)
        have z2 : xr_R K 1 ((12, 0) :: (42, 0) :: (13, 0) :: (42, 0) :: (14, 0) :: (42, 0) :: (84, a) :: R) (a) sp ((42, 0) :: (13, 0) :: (42, 0) :: (14, 0) :: (42, 0) :: (84, a) :: R) (a + 1) sp := xr_tok (by first | omega | exact kl) k4 (by first | omega | (simp only [List.length_cons, List.length_append, List.length_nil]; omega)) (by first | omega | (simp only [List.length_cons, List.length_append, List.length_nil]; omega)) (by omega)
        have z := (xr_t z1 z2)
        exact ⟨2, by omega, by simpa [xm_L, xm_1] using z⟩
      · rw [if_neg k4] at h
        simp at h
        obtain ⟨rfl, rfl, rfl⟩ := h
        have z1 : xr_R K 1 ((42, p) :: R) (a) sp ((55, 0) :: (54, 0) :: (53, 0) :: (52, 0) :: (51, 0) :: (50, 0) :: R) (a) sp := xr_ex (l := [(55, 0), (54, 0), (53, 0), (52, 0), (51, 0), (50, 0)]) (by unfold xg_leg; omega) (by omega) (by simp [xe_l, k1, k4]) (by first | omega | (simp only [List.length_cons, List.length_append, List.length_nil]; omega)) (by first | omega | (simp only [List.length_cons, List.length_append, List.length_nil]; omega)) (by omega)
        have z := z1
        exact ⟨1, by omega, by simpa [xm_L, xm_1] using z⟩
  · unfold pm_turn at h
    simp at h
    unfold pm_expr at h
    by_cases k1 : K a = 4
    · rw [if_pos k1] at h
      by_cases k2 : K (a + 1) = 3
      · rw [if_pos k2] at h
        by_cases k3 : K (a + 2) = 5
        · rw [if_pos k3] at h
          simp at h
        · rw [if_neg k3] at h
          have qk2 := pm_lt hK k2 (by decide)
          simp at h
          subst h
          have z1 : xr_R K 1 ((42, p) :: R) (a) sp ((4, 0) :: (3, 0) :: (5, 0) :: (85, a) :: (42, 0) :: (86, a) :: R) (a) sp := xr_ex (l := [(4, 0), (3, 0), (5, 0), (85, a), (42, 0), (86, a)]) (by unfold xg_leg; omega) (by omega) (by simp [xe_l, k1]) (by first | omega | (simp only [List.length_cons, List.length_append, List.length_nil]; omega)) (by first | omega | (simp only [List.length_cons, List.length_append, List.length_nil]; omega)) (by omega)
          have z2 : xr_R K 1 ((4, 0) :: (3, 0) :: (5, 0) :: (85, a) :: (42, 0) :: (86, a) :: R) (a) sp ((3, 0) :: (5, 0) :: (85, a) :: (42, 0) :: (86, a) :: R) (a + 1) sp := xr_tok (by first | omega | exact kl) k1 (by first | omega | (simp only [List.length_cons, List.length_append, List.length_nil]; omega)) (by first | omega | (simp only [List.length_cons, List.length_append, List.length_nil]; omega)) (by omega)
          have z3 : xr_R K 1 ((3, 0) :: (5, 0) :: (85, a) :: (42, 0) :: (86, a) :: R) (a + 1) sp ((5, 0) :: (85, a) :: (42, 0) :: (86, a) :: R) (a + 2) sp := xr_tok (by first | omega | exact kl) k2 (by first | omega | (simp only [List.length_cons, List.length_append, List.length_nil]; omega)) (by first | omega | (simp only [List.length_cons, List.length_append, List.length_nil]; omega)) (by omega)
          have zf : xr_F K ((5, 0) :: (85, a) :: (42, 0) :: (86, a) :: R) (a + 2) := ⟨_, _, _, rfl, (by first | omega | (simp only [List.length_cons, List.length_append, List.length_nil]; omega)), by omega, by unfold xg_leg; omega, Or.inl ⟨by omega, k3⟩⟩
          have z := (xr_t z1 (xr_t z2 z3))
          exact ⟨3, _, by omega, by simpa [xm_1] using z, zf⟩
      · rw [if_neg k2] at h
        have qk1 := pm_lt hK k1 (by decide)
        simp at h
        subst h
        have z1 : xr_R K 1 ((42, p) :: R) (a) sp ((4, 0) :: (3, 0) :: (5, 0) :: (85, a) :: (42, 0) :: (86, a) :: R) (a) sp := xr_ex (l := [(4, 0), (3, 0), (5, 0), (85, a), (42, 0), (86, a)]) (by unfold xg_leg; omega) (by omega) (by simp [xe_l, k1]) (by first | omega | (simp only [List.length_cons, List.length_append, List.length_nil]; omega)) (by first | omega | (simp only [List.length_cons, List.length_append, List.length_nil]; omega)) (by omega)
        have z2 : xr_R K 1 ((4, 0) :: (3, 0) :: (5, 0) :: (85, a) :: (42, 0) :: (86, a) :: R) (a) sp ((3, 0) :: (5, 0) :: (85, a) :: (42, 0) :: (86, a) :: R) (a + 1) sp := xr_tok (by first | omega | exact kl) k1 (by first | omega | (simp only [List.length_cons, List.length_append, List.length_nil]; omega)) (by first | omega | (simp only [List.length_cons, List.length_append, List.length_nil]; omega)) (by omega)
        have zf : xr_F K ((3, 0) :: (5, 0) :: (85, a) :: (42, 0) :: (86, a) :: R) (a + 1) := ⟨_, _, _, rfl, (by first | omega | (simp only [List.length_cons, List.length_append, List.length_nil]; omega)), by omega, by unfold xg_leg; omega, Or.inl ⟨by omega, k2⟩⟩
        have z := (xr_t z1 z2)
        exact ⟨2, _, by omega, by simpa [xm_1] using z, zf⟩
    · rw [if_neg k1] at h
      by_cases k4 : K a = 12
      · rw [if_pos k4] at h
        simp at h
      · rw [if_neg k4] at h
        simp at h
theorem xm_decl (hK : ∀ i, c ≤ i → K i = 99) (hc : c ≤ 24) (ha : a ≤ c) (h1 : R.length + 20 < 500) (h2 : sp.length ≤ 57) : xm_T 60 K 40 p a R sp := by
  refine ⟨fun a' l w h => ?_, fun a' h => ?_⟩
  · unfold pm_turn at h
    simp at h
    unfold pm_decl at h
    by_cases k1 : K a = 7
    · rw [if_pos k1] at h
      by_cases k2 : K (a + 1) = 3
      · rw [if_pos k2] at h
        by_cases k3 : K (a + 2) = 9
        · rw [if_pos k3] at h
          have qk3 := pm_lt hK k3 (by decide)
          simp at h
          obtain ⟨rfl, rfl, rfl⟩ := h
          have z1 : xr_R K 1 ((40, p) :: R) (a) sp ((7, 0) :: (3, 0) :: (9, 0) :: (42, 0) :: (89, a) :: R) (a) sp := xr_ex (l := [(7, 0), (3, 0), (9, 0), (42, 0), (89, a)]) (by unfold xg_leg; omega) (by omega) (by simp [xe_l, k1]) (by first | omega | (simp only [List.length_cons, List.length_append, List.length_nil]; omega)) (by first | omega | (simp only [List.length_cons, List.length_append, List.length_nil]; omega)) (by omega)
          have z2 : xr_R K 1 ((7, 0) :: (3, 0) :: (9, 0) :: (42, 0) :: (89, a) :: R) (a) sp ((3, 0) :: (9, 0) :: (42, 0) :: (89, a) :: R) (a + 1) sp := xr_tok (by first | omega | exact kl) k1 (by first | omega | (simp only [List.length_cons, List.length_append, List.length_nil]; omega)) (by first | omega | (simp only [List.length_cons, List.length_append, List.length_nil]; omega)) (by omega)
          have z3 : xr_R K 1 ((3, 0) :: (9, 0) :: (42, 0) :: (89, a) :: R) (a + 1) sp ((9, 0) :: (42, 0) :: (89, a) :: R) (a + 2) sp := xr_tok (by first | omega | exact kl) k2 (by first | omega | (simp only [List.length_cons, List.length_append, List.length_nil]; omega)) (by first | omega | (simp only [List.length_cons, List.length_append, List.length_nil]; omega)) (by omega)
          have z4 : xr_R K 1 ((9, 0) :: (42, 0) :: (89, a) :: R) (a + 2) sp ((42, 0) :: (89, a) :: R) (a + 3) sp := xr_tok (by first | omega | exact kl) k3 (by first | omega | (simp only [List.length_cons, List.length_append, List.length_nil]; omega)) (by first | omega | (simp only [List.length_cons, List.length_append, List.length_nil]; omega)) (by omega)
          have z := (xr_t z1 (xr_t z2 (xr_t z3 z4)))
          exact ⟨4, by omega, by simpa [xm_L, xm_1] using z⟩
        · rw [if_neg k3] at h
          simp at h
      · rw [if_neg k2] at h
        simp at h
    · rw [if_neg k1] at h
      by_cases k4 : K a = 8
      · rw [if_pos k4] at h
        by_cases k5 : K (a + 1) = 3
        · rw [if_pos k5] at h
          by_cases k6 : K (a + 2) = 3
          · rw [if_pos k6] at h
            by_cases k7 : K (pm_nq K 24 (a + 3)) = 9
            · rw [if_pos k7] at h
              have qk7 := pm_lt hK k7 (by decide)
              have g := pm_nq_ge (K := K) 24 (a + 3)
              have nk : K (pm_nq K 24 (a + 3)) ≠ 3 := pm_nq_ne hK hc
              simp at h
              obtain ⟨rfl, rfl, rfl⟩ := h
              have z1 : xr_R K 1 ((40, p) :: R) (a) sp ((8, 0) :: (3, 0) :: (3, 0) :: (41, 0) :: (9, 0) :: (87, a) :: (42, 0) :: (88, a) :: R) (a) sp := xr_ex (l := [(8, 0), (3, 0), (3, 0), (41, 0), (9, 0), (87, a), (42, 0), (88, a)]) (by unfold xg_leg; omega) (by omega) (by simp [xe_l, k4]) (by first | omega | (simp only [List.length_cons, List.length_append, List.length_nil]; omega)) (by first | omega | (simp only [List.length_cons, List.length_append, List.length_nil]; omega)) (by omega)
              have z2 : xr_R K 1 ((8, 0) :: (3, 0) :: (3, 0) :: (41, 0) :: (9, 0) :: (87, a) :: (42, 0) :: (88, a) :: R) (a) sp ((3, 0) :: (3, 0) :: (41, 0) :: (9, 0) :: (87, a) :: (42, 0) :: (88, a) :: R) (a + 1) sp := xr_tok (by first | omega | exact kl) k4 (by first | omega | (simp only [List.length_cons, List.length_append, List.length_nil]; omega)) (by first | omega | (simp only [List.length_cons, List.length_append, List.length_nil]; omega)) (by omega)
              have z3 : xr_R K 1 ((3, 0) :: (3, 0) :: (41, 0) :: (9, 0) :: (87, a) :: (42, 0) :: (88, a) :: R) (a + 1) sp ((3, 0) :: (41, 0) :: (9, 0) :: (87, a) :: (42, 0) :: (88, a) :: R) (a + 2) sp := xr_tok (by first | omega | exact kl) k5 (by first | omega | (simp only [List.length_cons, List.length_append, List.length_nil]; omega)) (by first | omega | (simp only [List.length_cons, List.length_append, List.length_nil]; omega)) (by omega)
              have z4 : xr_R K 1 ((3, 0) :: (41, 0) :: (9, 0) :: (87, a) :: (42, 0) :: (88, a) :: R) (a + 2) sp ((41, 0) :: (9, 0) :: (87, a) :: (42, 0) :: (88, a) :: R) (a + 3) sp := xr_tok (by first | omega | exact kl) k6 (by first | omega | (simp only [List.length_cons, List.length_append, List.length_nil]; omega)) (by first | omega | (simp only [List.length_cons, List.length_append, List.length_nil]; omega)) (by omega)
              obtain ⟨m, hm, zn⟩ := xr_names (K := K) (ss := (9, 0) :: (87, a) :: (42, 0) :: (88, a) :: R) (sp := sp) (by simp only [List.length_cons]; omega) (by omega) 24 (a + 3) (by omega) nk
              have z5 : xr_R K 1 ((9, 0) :: (87, a) :: (42, 0) :: (88, a) :: R) (pm_nq K 24 (a + 3)) sp ((87, a) :: (42, 0) :: (88, a) :: R) (pm_nq K 24 (a + 3) + 1) sp := xr_tok (by first | omega | exact kl) k7 (by first | omega | (simp only [List.length_cons, List.length_append, List.length_nil]; omega)) (by first | omega | (simp only [List.length_cons, List.length_append, List.length_nil]; omega)) (by omega)
              have z6 : xr_R K 1 ((87, a) :: (42, 0) :: (88, a) :: R) (pm_nq K 24 (a + 3) + 1) sp ((42, 0) :: (88, a) :: R) (pm_nq K 24 (a + 3) + 1) (sp ++ [(87, a)]) := xr_em (by omega) (by first | omega | (simp only [List.length_cons, List.length_append, List.length_nil]; omega)) (by first | omega | (simp only [List.length_cons, List.length_append, List.length_nil]; omega)) (by omega)
              have z := (xr_t z1 (xr_t z2 (xr_t z3 (xr_t z4 (xr_t zn (xr_t z5 z6))))))
              exact ⟨1 + (1 + (1 + (1 + (m + (1 + 1))))), by omega, by simpa [xm_L, xm_1] using z⟩
            · rw [if_neg k7] at h
              simp at h
          · rw [if_neg k6] at h
            simp at h
        · rw [if_neg k5] at h
          simp at h
      · rw [if_neg k4] at h
        simp at h
  · unfold pm_turn at h
    simp at h
    unfold pm_decl at h
    by_cases k1 : K a = 7
    · rw [if_pos k1] at h
      by_cases k2 : K (a + 1) = 3
      · rw [if_pos k2] at h
        by_cases k3 : K (a + 2) = 9
        · rw [if_pos k3] at h
          simp at h
        · rw [if_neg k3] at h
          have qk2 := pm_lt hK k2 (by decide)
          simp at h
          subst h
          have z1 : xr_R K 1 ((40, p) :: R) (a) sp ((7, 0) :: (3, 0) :: (9, 0) :: (42, 0) :: (89, a) :: R) (a) sp := xr_ex (l := [(7, 0), (3, 0), (9, 0), (42, 0), (89, a)]) (by unfold xg_leg; omega) (by omega) (by simp [xe_l, k1]) (by first | omega | (simp only [List.length_cons, List.length_append, List.length_nil]; omega)) (by first | omega | (simp only [List.length_cons, List.length_append, List.length_nil]; omega)) (by omega)
          have z2 : xr_R K 1 ((7, 0) :: (3, 0) :: (9, 0) :: (42, 0) :: (89, a) :: R) (a) sp ((3, 0) :: (9, 0) :: (42, 0) :: (89, a) :: R) (a + 1) sp := xr_tok (by first | omega | exact kl) k1 (by first | omega | (simp only [List.length_cons, List.length_append, List.length_nil]; omega)) (by first | omega | (simp only [List.length_cons, List.length_append, List.length_nil]; omega)) (by omega)
          have z3 : xr_R K 1 ((3, 0) :: (9, 0) :: (42, 0) :: (89, a) :: R) (a + 1) sp ((9, 0) :: (42, 0) :: (89, a) :: R) (a + 2) sp := xr_tok (by first | omega | exact kl) k2 (by first | omega | (simp only [List.length_cons, List.length_append, List.length_nil]; omega)) (by first | omega | (simp only [List.length_cons, List.length_append, List.length_nil]; omega)) (by omega)
          have zf : xr_F K ((9, 0) :: (42, 0) :: (89, a) :: R) (a + 2) := ⟨_, _, _, rfl, (by first | omega | (simp only [List.length_cons, List.length_append, List.length_nil]; omega)), by omega, by unfold xg_leg; omega, Or.inl ⟨by omega, k3⟩⟩
          have z := (xr_t z1 (xr_t z2 z3))
          exact ⟨3, _, by omega, by simpa [xm_1] using z, zf⟩
      · rw [if_neg k2] at h
        have qk1 := pm_lt hK k1 (by decide)
        simp at h
        subst h
        have z1 : xr_R K 1 ((40, p) :: R) (a) sp ((7, 0) :: (3, 0) :: (9, 0) :: (42, 0) :: (89, a) :: R) (a) sp := xr_ex (l := [(7, 0), (3, 0), (9, 0), (42, 0), (89, a)]) (by unfold xg_leg; omega) (by omega) (by simp [xe_l, k1]) (by first | omega | (simp only [List.length_cons, List.length_append, List.length_nil]; omega)) (by first | omega | (simp only [List.length_cons, List.length_append, List.length_nil]; omega)) (by omega)
        have z2 : xr_R K 1 ((7, 0) :: (3, 0) :: (9, 0) :: (42, 0) :: (89, a) :: R) (a) sp ((3, 0) :: (9, 0) :: (42, 0) :: (89, a) :: R) (a + 1) sp := xr_tok (by first | omega | exact kl) k1 (by first | omega | (simp only [List.length_cons, List.length_append, List.length_nil]; omega)) (by first | omega | (simp only [List.length_cons, List.length_append, List.length_nil]; omega)) (by omega)
        have zf : xr_F K ((3, 0) :: (9, 0) :: (42, 0) :: (89, a) :: R) (a + 1) := ⟨_, _, _, rfl, (by first | omega | (simp only [List.length_cons, List.length_append, List.length_nil]; omega)), by omega, by unfold xg_leg; omega, Or.inl ⟨by omega, k2⟩⟩
        have z := (xr_t z1 z2)
        exact ⟨2, _, by omega, by simpa [xm_1] using z, zf⟩
    · rw [if_neg k1] at h
      by_cases k4 : K a = 8
      · rw [if_pos k4] at h
        by_cases k5 : K (a + 1) = 3
        · rw [if_pos k5] at h
          by_cases k6 : K (a + 2) = 3
          · rw [if_pos k6] at h
            by_cases k7 : K (pm_nq K 24 (a + 3)) = 9
            · rw [if_pos k7] at h
              simp at h
            · rw [if_neg k7] at h
              have qk6 := pm_lt hK k6 (by decide)
              have g := pm_nq_ge (K := K) 24 (a + 3)
              have nk : K (pm_nq K 24 (a + 3)) ≠ 3 := pm_nq_ne hK hc
              simp at h
              subst h
              have z1 : xr_R K 1 ((40, p) :: R) (a) sp ((8, 0) :: (3, 0) :: (3, 0) :: (41, 0) :: (9, 0) :: (87, a) :: (42, 0) :: (88, a) :: R) (a) sp := xr_ex (l := [(8, 0), (3, 0), (3, 0), (41, 0), (9, 0), (87, a), (42, 0), (88, a)]) (by unfold xg_leg; omega) (by omega) (by simp [xe_l, k4]) (by first | omega | (simp only [List.length_cons, List.length_append, List.length_nil]; omega)) (by first | omega | (simp only [List.length_cons, List.length_append, List.length_nil]; omega)) (by omega)
              have z2 : xr_R K 1 ((8, 0) :: (3, 0) :: (3, 0) :: (41, 0) :: (9, 0) :: (87, a) :: (42, 0) :: (88, a) :: R) (a) sp ((3, 0) :: (3, 0) :: (41, 0) :: (9, 0) :: (87, a) :: (42, 0) :: (88, a) :: R) (a + 1) sp := xr_tok (by first | omega | exact kl) k4 (by first | omega | (simp only [List.length_cons, List.length_append, List.length_nil]; omega)) (by first | omega | (simp only [List.length_cons, List.length_append, List.length_nil]; omega)) (by omega)
              have z3 : xr_R K 1 ((3, 0) :: (3, 0) :: (41, 0) :: (9, 0) :: (87, a) :: (42, 0) :: (88, a) :: R) (a + 1) sp ((3, 0) :: (41, 0) :: (9, 0) :: (87, a) :: (42, 0) :: (88, a) :: R) (a + 2) sp := xr_tok (by first | omega | exact kl) k5 (by first | omega | (simp only [List.length_cons, List.length_append, List.length_nil]; omega)) (by first | omega | (simp only [List.length_cons, List.length_append, List.length_nil]; omega)) (by omega)
              have z4 : xr_R K 1 ((3, 0) :: (41, 0) :: (9, 0) :: (87, a) :: (42, 0) :: (88, a) :: R) (a + 2) sp ((41, 0) :: (9, 0) :: (87, a) :: (42, 0) :: (88, a) :: R) (a + 3) sp := xr_tok (by first | omega | exact kl) k6 (by first | omega | (simp only [List.length_cons, List.length_append, List.length_nil]; omega)) (by first | omega | (simp only [List.length_cons, List.length_append, List.length_nil]; omega)) (by omega)
              obtain ⟨m, hm, zn⟩ := xr_names (K := K) (ss := (9, 0) :: (87, a) :: (42, 0) :: (88, a) :: R) (sp := sp) (by simp only [List.length_cons]; omega) (by omega) 24 (a + 3) (by omega) nk
              have zf : xr_F K ((9, 0) :: (87, a) :: (42, 0) :: (88, a) :: R) (pm_nq K 24 (a + 3)) := ⟨_, _, _, rfl, (by first | omega | (simp only [List.length_cons, List.length_append, List.length_nil]; omega)), by omega, by unfold xg_leg; omega, Or.inl ⟨by omega, k7⟩⟩
              have z := (xr_t z1 (xr_t z2 (xr_t z3 (xr_t z4 zn))))
              exact ⟨1 + (1 + (1 + (1 + m))), _, by omega, by simpa [xm_1] using z, zf⟩
          · rw [if_neg k6] at h
            have qk5 := pm_lt hK k5 (by decide)
            simp at h
            subst h
            have z1 : xr_R K 1 ((40, p) :: R) (a) sp ((8, 0) :: (3, 0) :: (3, 0) :: (41, 0) :: (9, 0) :: (87, a) :: (42, 0) :: (88, a) :: R) (a) sp := xr_ex (l := [(8, 0), (3, 0), (3, 0), (41, 0), (9, 0), (87, a), (42, 0), (88, a)]) (by unfold xg_leg; omega) (by omega) (by simp [xe_l, k4]) (by first | omega | (simp only [List.length_cons, List.length_append, List.length_nil]; omega)) (by first | omega | (simp only [List.length_cons, List.length_append, List.length_nil]; omega)) (by omega)
            have z2 : xr_R K 1 ((8, 0) :: (3, 0) :: (3, 0) :: (41, 0) :: (9, 0) :: (87, a) :: (42, 0) :: (88, a) :: R) (a) sp ((3, 0) :: (3, 0) :: (41, 0) :: (9, 0) :: (87, a) :: (42, 0) :: (88, a) :: R) (a + 1) sp := xr_tok (by first | omega | exact kl) k4 (by first | omega | (simp only [List.length_cons, List.length_append, List.length_nil]; omega)) (by first | omega | (simp only [List.length_cons, List.length_append, List.length_nil]; omega)) (by omega)
            have z3 : xr_R K 1 ((3, 0) :: (3, 0) :: (41, 0) :: (9, 0) :: (87, a) :: (42, 0) :: (88, a) :: R) (a + 1) sp ((3, 0) :: (41, 0) :: (9, 0) :: (87, a) :: (42, 0) :: (88, a) :: R) (a + 2) sp := xr_tok (by first | omega | exact kl) k5 (by first | omega | (simp only [List.length_cons, List.length_append, List.length_nil]; omega)) (by first | omega | (simp only [List.length_cons, List.length_append, List.length_nil]; omega)) (by omega)
            have zf : xr_F K ((3, 0) :: (41, 0) :: (9, 0) :: (87, a) :: (42, 0) :: (88, a) :: R) (a + 2) := ⟨_, _, _, rfl, (by first | omega | (simp only [List.length_cons, List.length_append, List.length_nil]; omega)), by omega, by unfold xg_leg; omega, Or.inl ⟨by omega, k6⟩⟩
            have z := (xr_t z1 (xr_t z2 z3))
            exact ⟨3, _, by omega, by simpa [xm_1] using z, zf⟩
        · rw [if_neg k5] at h
          have qk4 := pm_lt hK k4 (by decide)
          simp at h
          subst h
          have z1 : xr_R K 1 ((40, p) :: R) (a) sp ((8, 0) :: (3, 0) :: (3, 0) :: (41, 0) :: (9, 0) :: (87, a) :: (42, 0) :: (88, a) :: R) (a) sp := xr_ex (l := [(8, 0), (3, 0), (3, 0), (41, 0), (9, 0), (87, a), (42, 0), (88, a)]) (by unfold xg_leg; omega) (by omega) (by simp [xe_l, k4]) (by first | omega | (simp only [List.length_cons, List.length_append, List.length_nil]; omega)) (by first | omega | (simp only [List.length_cons, List.length_append, List.length_nil]; omega)) (by omega)
          have z2 : xr_R K 1 ((8, 0) :: (3, 0) :: (3, 0) :: (41, 0) :: (9, 0) :: (87, a) :: (42, 0) :: (88, a) :: R) (a) sp ((3, 0) :: (3, 0) :: (41, 0) :: (9, 0) :: (87, a) :: (42, 0) :: (88, a) :: R) (a + 1) sp := xr_tok (by first | omega | exact kl) k4 (by first | omega | (simp only [List.length_cons, List.length_append, List.length_nil]; omega)) (by first | omega | (simp only [List.length_cons, List.length_append, List.length_nil]; omega)) (by omega)
          have zf : xr_F K ((3, 0) :: (3, 0) :: (41, 0) :: (9, 0) :: (87, a) :: (42, 0) :: (88, a) :: R) (a + 1) := ⟨_, _, _, rfl, (by first | omega | (simp only [List.length_cons, List.length_append, List.length_nil]; omega)), by omega, by unfold xg_leg; omega, Or.inl ⟨by omega, k5⟩⟩
          have z := (xr_t z1 z2)
          exact ⟨2, _, by omega, by simpa [xm_1] using z, zf⟩
      · rw [if_neg k4] at h
        simp at h
        subst h
        have zf : xr_F K ((40, p) :: R) (a) := ⟨_, _, _, rfl, (by first | omega | (simp only [List.length_cons, List.length_append, List.length_nil]; omega)), by omega, by unfold xg_leg; omega, Or.inr ⟨by omega, by omega, by simp [xe_l, k1, k4]⟩⟩
        exact ⟨0, _, by omega, ⟨by simp [xm_1], rfl, rfl⟩, zf⟩
theorem xm_atom (hK : ∀ i, c ≤ i → K i = 99) (hc : c ≤ 24) (ha : a ≤ c) (h1 : R.length + 20 < 500) (h2 : sp.length ≤ 57) : xm_T 10 K 55 p a R sp := by
  refine ⟨fun a' l w h => ?_, fun a' h => ?_⟩
  · unfold pm_turn at h
    simp at h
    unfold pm_atom at h
    by_cases k1 : pm_alone (K a) = true
    · rw [if_pos k1] at h
      have qk1 := pm_alone_lt hK k1
      have kl : K a < 38 := pm_alone_38 k1
      simp at h
      obtain ⟨rfl, rfl, rfl⟩ := h
      have z1 : xr_R K 1 ((55, p) :: R) (a) sp ((K a, 0) :: (80, a) :: R) (a) sp := xr_ex (l := [(K a, 0), (80, a)]) (by unfold xg_leg; omega) (by omega) (by simp [xe_l, k1]) (by first | omega | (simp only [List.length_cons, List.length_append, List.length_nil]; omega)) (by first | omega | (simp only [List.length_cons, List.length_append, List.length_nil]; omega)) (by omega)
      have z2 : xr_R K 1 ((K a, 0) :: (80, a) :: R) (a) sp ((80, a) :: R) (a + 1) sp := xr_tok (by first | omega | exact kl) rfl (by first | omega | (simp only [List.length_cons, List.length_append, List.length_nil]; omega)) (by first | omega | (simp only [List.length_cons, List.length_append, List.length_nil]; omega)) (by omega)
      have z3 : xr_R K 1 ((80, a) :: R) (a + 1) sp (R) (a + 1) (sp ++ [(80, a)]) := xr_em (by omega) (by first | omega | (simp only [List.length_cons, List.length_append, List.length_nil]; omega)) (by first | omega | (simp only [List.length_cons, List.length_append, List.length_nil]; omega)) (by omega)
      have z := (xr_t z1 (xr_t z2 z3))
      exact ⟨3, by omega, by simpa [xm_L, xm_1] using z⟩
    · rw [if_neg k1] at h
      by_cases k2 : K a = 15
      · rw [if_pos k2] at h
        by_cases k3 : K (a + 1) = 16
        · rw [if_pos k3] at h
          have qk3 := pm_lt hK k3 (by decide)
          simp at h
          obtain ⟨rfl, rfl, rfl⟩ := h
          have z1 : xr_R K 1 ((55, p) :: R) (a) sp ((15, 0) :: (43, 0) :: R) (a) sp := xr_ex (l := [(15, 0), (43, 0)]) (by unfold xg_leg; omega) (by omega) (by simp [xe_l, k2, pm_alone]) (by first | omega | (simp only [List.length_cons, List.length_append, List.length_nil]; omega)) (by first | omega | (simp only [List.length_cons, List.length_append, List.length_nil]; omega)) (by omega)
          have z2 : xr_R K 1 ((15, 0) :: (43, 0) :: R) (a) sp ((43, 0) :: R) (a + 1) sp := xr_tok (by first | omega | exact kl) k2 (by first | omega | (simp only [List.length_cons, List.length_append, List.length_nil]; omega)) (by first | omega | (simp only [List.length_cons, List.length_append, List.length_nil]; omega)) (by omega)
          have z3 : xr_R K 1 ((43, 0) :: R) (a + 1) sp ((16, 0) :: (81, a + 1) :: R) (a + 1) sp := xr_ex (l := [(16, 0), (81, a + 1)]) (by unfold xg_leg; omega) (by omega) (by simp [xe_l, k3]) (by first | omega | (simp only [List.length_cons, List.length_append, List.length_nil]; omega)) (by first | omega | (simp only [List.length_cons, List.length_append, List.length_nil]; omega)) (by omega)
          have z4 : xr_R K 1 ((16, 0) :: (81, a + 1) :: R) (a + 1) sp ((81, a + 1) :: R) (a + 2) sp := xr_tok (by first | omega | exact kl) k3 (by first | omega | (simp only [List.length_cons, List.length_append, List.length_nil]; omega)) (by first | omega | (simp only [List.length_cons, List.length_append, List.length_nil]; omega)) (by omega)
          have z5 : xr_R K 1 ((81, a + 1) :: R) (a + 2) sp (R) (a + 2) (sp ++ [(81, a + 1)]) := xr_em (by omega) (by first | omega | (simp only [List.length_cons, List.length_append, List.length_nil]; omega)) (by first | omega | (simp only [List.length_cons, List.length_append, List.length_nil]; omega)) (by omega)
          have z := (xr_t z1 (xr_t z2 (xr_t z3 (xr_t z4 z5))))
          exact ⟨5, by omega, by simpa [xm_L, xm_1] using z⟩
        · rw [if_neg k3] at h
          have qk2 := pm_lt hK k2 (by decide)
          simp at h
          obtain ⟨rfl, rfl, rfl⟩ := h
          have z1 : xr_R K 1 ((55, p) :: R) (a) sp ((15, 0) :: (43, 0) :: R) (a) sp := xr_ex (l := [(15, 0), (43, 0)]) (by unfold xg_leg; omega) (by omega) (by simp [xe_l, k2, pm_alone]) (by first | omega | (simp only [List.length_cons, List.length_append, List.length_nil]; omega)) (by first | omega | (simp only [List.length_cons, List.length_append, List.length_nil]; omega)) (by omega)
          have z2 : xr_R K 1 ((15, 0) :: (43, 0) :: R) (a) sp ((43, 0) :: R) (a + 1) sp := xr_tok (by first | omega | exact kl) k2 (by first | omega | (simp only [List.length_cons, List.length_append, List.length_nil]; omega)) (by first | omega | (simp only [List.length_cons, List.length_append, List.length_nil]; omega)) (by omega)
          have z3 : xr_R K 1 ((43, 0) :: R) (a + 1) sp ((42, 0) :: (44, 0) :: R) (a + 1) sp := xr_ex (l := [(42, 0), (44, 0)]) (by unfold xg_leg; omega) (by omega) (by simp [xe_l, k3]) (by first | omega | (simp only [List.length_cons, List.length_append, List.length_nil]; omega)) (by first | omega | (simp only [List.length_cons, List.length_append, List.length_nil]; omega)) (by omega)
          have z := (xr_t z1 (xr_t z2 z3))
          exact ⟨3, by omega, by simpa [xm_L, xm_1] using z⟩
      · rw [if_neg k2] at h
        by_cases k4 : K a = 6
        · rw [if_pos k4] at h
          have qk4 := pm_lt hK k4 (by decide)
          simp at h
          obtain ⟨rfl, rfl, rfl⟩ := h
          have z1 : xr_R K 1 ((55, p) :: R) (a) sp ((6, 0) :: (40, 0) :: (10, 0) :: (42, 0) :: (11, 0) :: (90, a) :: R) (a) sp := xr_ex (l := [(6, 0), (40, 0), (10, 0), (42, 0), (11, 0), (90, a)]) (by unfold xg_leg; omega) (by omega) (by simp [xe_l, k4, pm_alone]) (by first | omega | (simp only [List.length_cons, List.length_append, List.length_nil]; omega)) (by first | omega | (simp only [List.length_cons, List.length_append, List.length_nil]; omega)) (by omega)
          have z2 : xr_R K 1 ((6, 0) :: (40, 0) :: (10, 0) :: (42, 0) :: (11, 0) :: (90, a) :: R) (a) sp ((40, 0) :: (10, 0) :: (42, 0) :: (11, 0) :: (90, a) :: R) (a + 1) sp := xr_tok (by first | omega | exact kl) k4 (by first | omega | (simp only [List.length_cons, List.length_append, List.length_nil]; omega)) (by first | omega | (simp only [List.length_cons, List.length_append, List.length_nil]; omega)) (by omega)
          have z := (xr_t z1 z2)
          exact ⟨2, by omega, by simpa [xm_L, xm_1] using z⟩
        · rw [if_neg k4] at h
          simp at h
  · unfold pm_turn at h
    simp at h
    unfold pm_atom at h
    by_cases k1 : pm_alone (K a) = true
    · rw [if_pos k1] at h
      simp at h
    · rw [if_neg k1] at h
      by_cases k2 : K a = 15
      · rw [if_pos k2] at h
        by_cases k3 : K (a + 1) = 16
        · rw [if_pos k3] at h
          simp at h
        · rw [if_neg k3] at h
          simp at h
      · rw [if_neg k2] at h
        by_cases k4 : K a = 6
        · rw [if_pos k4] at h
          simp at h
        · rw [if_neg k4] at h
          simp at h
          subst h
          have zf : xr_F K ((55, p) :: R) (a) := ⟨_, _, _, rfl, (by first | omega | (simp only [List.length_cons, List.length_append, List.length_nil]; omega)), by omega, by unfold xg_leg; omega, Or.inr ⟨by omega, by omega, by simp [xe_l, k1, k2, k4]⟩⟩
          exact ⟨0, _, by omega, ⟨by simp [xm_1], rfl, rfl⟩, zf⟩
theorem xm_50 (hK : ∀ i, c ≤ i → K i = 99) (hc : c ≤ 24) (ha : a ≤ c) (h1 : R.length + 20 < 500) (h2 : sp.length ≤ 57) : xm_T 60 K 50 p a R sp := by
  refine ⟨fun a' l w h => ?_, fun a' h => ?_⟩
  · unfold pm_turn at h
    simp at h
    by_cases k1 : K a = 25
    · rw [if_pos k1] at h
      have qk1 := pm_lt hK k1 (by decide)
      simp at h
      obtain ⟨rfl, rfl, rfl⟩ := h
      have z1 : xr_R K 1 ((50, p) :: R) (a) sp ((25, 0) :: (55, 0) :: (54, 0) :: (53, 0) :: (52, 0) :: (51, 0) :: (50, 0) :: (83, a) :: R) (a) sp := xr_ex (l := [(25, 0), (55, 0), (54, 0), (53, 0), (52, 0), (51, 0), (50, 0), (83, a)]) (by unfold xg_leg; omega) (by omega) (by simp [xe_l, k1]) (by first | omega | (simp only [List.length_cons, List.length_append, List.length_nil]; omega)) (by first | omega | (simp only [List.length_cons, List.length_append, List.length_nil]; omega)) (by omega)
      have z2 : xr_R K 1 ((25, 0) :: (55, 0) :: (54, 0) :: (53, 0) :: (52, 0) :: (51, 0) :: (50, 0) :: (83, a) :: R) (a) sp ((55, 0) :: (54, 0) :: (53, 0) :: (52, 0) :: (51, 0) :: (50, 0) :: (83, a) :: R) (a + 1) sp := xr_tok (by first | omega | exact kl) k1 (by first | omega | (simp only [List.length_cons, List.length_append, List.length_nil]; omega)) (by first | omega | (simp only [List.length_cons, List.length_append, List.length_nil]; omega)) (by omega)
      have z := (xr_t z1 z2)
      exact ⟨2, by omega, by simpa [xm_L, xm_1] using z⟩
    · rw [if_neg k1] at h
      simp at h
      obtain ⟨rfl, rfl, rfl⟩ := h
      have z1 : xr_R K 1 ((50, p) :: R) (a) sp (R) (a) sp := xr_ex (l := []) (by unfold xg_leg; omega) (by omega) (by simp [xe_l, k1]) (by first | omega | (simp only [List.length_cons, List.length_append, List.length_nil]; omega)) (by first | omega | (simp only [List.length_cons, List.length_append, List.length_nil]; omega)) (by omega)
      have z := z1
      exact ⟨1, by omega, by simpa [xm_L, xm_1] using z⟩
  · unfold pm_turn at h
    simp at h
    by_cases k1 : K a = 25
    · rw [if_pos k1] at h
      simp at h
    · rw [if_neg k1] at h
      simp at h
theorem xm_51 (hK : ∀ i, c ≤ i → K i = 99) (hc : c ≤ 24) (ha : a ≤ c) (h1 : R.length + 20 < 500) (h2 : sp.length ≤ 57) : xm_T 60 K 51 p a R sp := by
  refine ⟨fun a' l w h => ?_, fun a' h => ?_⟩
  · unfold pm_turn at h
    simp at h
    by_cases k1 : K a = 18
    · rw [if_pos k1] at h
      have qk1 := pm_lt hK k1 (by decide)
      simp at h
      obtain ⟨rfl, rfl, rfl⟩ := h
      have z1 : xr_R K 1 ((51, p) :: R) (a) sp ((18, 0) :: (55, 0) :: (54, 0) :: (53, 0) :: (52, 0) :: (51, 0) :: (83, a) :: R) (a) sp := xr_ex (l := [(18, 0), (55, 0), (54, 0), (53, 0), (52, 0), (51, 0), (83, a)]) (by unfold xg_leg; omega) (by omega) (by simp [xe_l, k1]) (by first | omega | (simp only [List.length_cons, List.length_append, List.length_nil]; omega)) (by first | omega | (simp only [List.length_cons, List.length_append, List.length_nil]; omega)) (by omega)
      have z2 : xr_R K 1 ((18, 0) :: (55, 0) :: (54, 0) :: (53, 0) :: (52, 0) :: (51, 0) :: (83, a) :: R) (a) sp ((55, 0) :: (54, 0) :: (53, 0) :: (52, 0) :: (51, 0) :: (83, a) :: R) (a + 1) sp := xr_tok (by first | omega | exact kl) k1 (by first | omega | (simp only [List.length_cons, List.length_append, List.length_nil]; omega)) (by first | omega | (simp only [List.length_cons, List.length_append, List.length_nil]; omega)) (by omega)
      have z := (xr_t z1 z2)
      exact ⟨2, by omega, by simpa [xm_L, xm_1] using z⟩
    · rw [if_neg k1] at h
      simp at h
      obtain ⟨rfl, rfl, rfl⟩ := h
      have z1 : xr_R K 1 ((51, p) :: R) (a) sp (R) (a) sp := xr_ex (l := []) (by unfold xg_leg; omega) (by omega) (by simp [xe_l, k1]) (by first | omega | (simp only [List.length_cons, List.length_append, List.length_nil]; omega)) (by first | omega | (simp only [List.length_cons, List.length_append, List.length_nil]; omega)) (by omega)
      have z := z1
      exact ⟨1, by omega, by simpa [xm_L, xm_1] using z⟩
  · unfold pm_turn at h
    simp at h
    by_cases k1 : K a = 18
    · rw [if_pos k1] at h
      simp at h
    · rw [if_neg k1] at h
      simp at h
theorem xm_52 (hK : ∀ i, c ≤ i → K i = 99) (hc : c ≤ 24) (ha : a ≤ c) (h1 : R.length + 20 < 500) (h2 : sp.length ≤ 57) : xm_T 60 K 52 p a R sp := by
  refine ⟨fun a' l w h => ?_, fun a' h => ?_⟩
  · unfold pm_turn at h
    simp at h
    by_cases k1 : K a = 21
    · rw [if_pos k1] at h
      have qk1 := pm_lt hK k1 (by decide)
      simp at h
      obtain ⟨rfl, rfl, rfl⟩ := h
      have z1 : xr_R K 1 ((52, p) :: R) (a) sp ((21, 0) :: (55, 0) :: (54, 0) :: (53, 0) :: (83, a) :: (52, 0) :: R) (a) sp := xr_ex (l := [(21, 0), (55, 0), (54, 0), (53, 0), (83, a), (52, 0)]) (by unfold xg_leg; omega) (by omega) (by simp [xe_l, k1]) (by first | omega | (simp only [List.length_cons, List.length_append, List.length_nil]; omega)) (by first | omega | (simp only [List.length_cons, List.length_append, List.length_nil]; omega)) (by omega)
      have z2 : xr_R K 1 ((21, 0) :: (55, 0) :: (54, 0) :: (53, 0) :: (83, a) :: (52, 0) :: R) (a) sp ((55, 0) :: (54, 0) :: (53, 0) :: (83, a) :: (52, 0) :: R) (a + 1) sp := xr_tok (by first | omega | exact kl) k1 (by first | omega | (simp only [List.length_cons, List.length_append, List.length_nil]; omega)) (by first | omega | (simp only [List.length_cons, List.length_append, List.length_nil]; omega)) (by omega)
      have z := (xr_t z1 z2)
      exact ⟨2, by omega, by simpa [xm_L, xm_1] using z⟩
    · rw [if_neg k1] at h
      simp at h
      obtain ⟨rfl, rfl, rfl⟩ := h
      have z1 : xr_R K 1 ((52, p) :: R) (a) sp (R) (a) sp := xr_ex (l := []) (by unfold xg_leg; omega) (by omega) (by simp [xe_l, k1]) (by first | omega | (simp only [List.length_cons, List.length_append, List.length_nil]; omega)) (by first | omega | (simp only [List.length_cons, List.length_append, List.length_nil]; omega)) (by omega)
      have z := z1
      exact ⟨1, by omega, by simpa [xm_L, xm_1] using z⟩
  · unfold pm_turn at h
    simp at h
    by_cases k1 : K a = 21
    · rw [if_pos k1] at h
      simp at h
    · rw [if_neg k1] at h
      simp at h
theorem xm_53 (hK : ∀ i, c ≤ i → K i = 99) (hc : c ≤ 24) (ha : a ≤ c) (h1 : R.length + 20 < 500) (h2 : sp.length ≤ 57) : xm_T 60 K 53 p a R sp := by
  refine ⟨fun a' l w h => ?_, fun a' h => ?_⟩
  · unfold pm_turn at h
    simp at h
    by_cases k1 : K a = 19 ∨ K a = 20
    · rw [if_pos k1] at h
      have qk1 := pm_lt2 hK k1 (by decide) (by decide)
      have kl : K a < 38 := by omega
      simp at h
      obtain ⟨rfl, rfl, rfl⟩ := h
      have z1 : xr_R K 1 ((53, p) :: R) (a) sp ((K a, 0) :: (55, 0) :: (54, 0) :: (83, a) :: (53, 0) :: R) (a) sp := xr_ex (l := [(K a, 0), (55, 0), (54, 0), (83, a), (53, 0)]) (by unfold xg_leg; omega) (by omega) (by simp [xe_l, k1]) (by first | omega | (simp only [List.length_cons, List.length_append, List.length_nil]; omega)) (by first | omega | (simp only [List.length_cons, List.length_append, List.length_nil]; omega)) (by omega)
      have z2 : xr_R K 1 ((K a, 0) :: (55, 0) :: (54, 0) :: (83, a) :: (53, 0) :: R) (a) sp ((55, 0) :: (54, 0) :: (83, a) :: (53, 0) :: R) (a + 1) sp := xr_tok (by first | omega | exact kl) rfl (by first | omega | (simp only [List.length_cons, List.length_append, List.length_nil]; omega)) (by first | omega | (simp only [List.length_cons, List.length_append, List.length_nil]; omega)) (by omega)
      have z := (xr_t z1 z2)
      exact ⟨2, by omega, by simpa [xm_L, xm_1] using z⟩
    · rw [if_neg k1] at h
      simp at h
      obtain ⟨rfl, rfl, rfl⟩ := h
      have z1 : xr_R K 1 ((53, p) :: R) (a) sp (R) (a) sp := xr_ex (l := []) (by unfold xg_leg; omega) (by omega) (by simp [xe_l, k1]) (by first | omega | (simp only [List.length_cons, List.length_append, List.length_nil]; omega)) (by first | omega | (simp only [List.length_cons, List.length_append, List.length_nil]; omega)) (by omega)
      have z := z1
      exact ⟨1, by omega, by simpa [xm_L, xm_1] using z⟩
  · unfold pm_turn at h
    simp at h
    by_cases k1 : K a = 19 ∨ K a = 20
    · rw [if_pos k1] at h
      simp at h
    · rw [if_neg k1] at h
      simp at h
theorem xm_44 (hK : ∀ i, c ≤ i → K i = 99) (hc : c ≤ 24) (ha : a ≤ c) (h1 : R.length + 20 < 500) (h2 : sp.length ≤ 57) : xm_T 60 K 44 p a R sp := by
  refine ⟨fun a' l w h => ?_, fun a' h => ?_⟩
  · unfold pm_turn at h
    simp at h
    by_cases k1 : K a = 17
    · rw [if_pos k1] at h
      have qk1 := pm_lt hK k1 (by decide)
      simp at h
      obtain ⟨rfl, rfl, rfl⟩ := h
      have z1 : xr_R K 1 ((44, p) :: R) (a) sp ((17, 0) :: (42, 0) :: (16, 0) :: (83, a) :: R) (a) sp := xr_ex (l := [(17, 0), (42, 0), (16, 0), (83, a)]) (by unfold xg_leg; omega) (by omega) (by simp [xe_l, k1]) (by first | omega | (simp only [List.length_cons, List.length_append, List.length_nil]; omega)) (by first | omega | (simp only [List.length_cons, List.length_append, List.length_nil]; omega)) (by omega)
      have z2 : xr_R K 1 ((17, 0) :: (42, 0) :: (16, 0) :: (83, a) :: R) (a) sp ((42, 0) :: (16, 0) :: (83, a) :: R) (a + 1) sp := xr_tok (by first | omega | exact kl) k1 (by first | omega | (simp only [List.length_cons, List.length_append, List.length_nil]; omega)) (by first | omega | (simp only [List.length_cons, List.length_append, List.length_nil]; omega)) (by omega)
      have z := (xr_t z1 z2)
      exact ⟨2, by omega, by simpa [xm_L, xm_1] using z⟩
    · rw [if_neg k1] at h
      by_cases k2 : K a = 16
      · rw [if_pos k2] at h
        have qk2 := pm_lt hK k2 (by decide)
        simp at h
        obtain ⟨rfl, rfl, rfl⟩ := h
        have z1 : xr_R K 1 ((44, p) :: R) (a) sp ((16, 0) :: R) (a) sp := xr_ex (l := [(16, 0)]) (by unfold xg_leg; omega) (by omega) (by simp [xe_l, k2]) (by first | omega | (simp only [List.length_cons, List.length_append, List.length_nil]; omega)) (by first | omega | (simp only [List.length_cons, List.length_append, List.length_nil]; omega)) (by omega)
        have z2 : xr_R K 1 ((16, 0) :: R) (a) sp (R) (a + 1) sp := xr_tok (by first | omega | exact kl) k2 (by first | omega | (simp only [List.length_cons, List.length_append, List.length_nil]; omega)) (by first | omega | (simp only [List.length_cons, List.length_append, List.length_nil]; omega)) (by omega)
        have z := (xr_t z1 z2)
        exact ⟨2, by omega, by simpa [xm_L, xm_1] using z⟩
      · rw [if_neg k2] at h
        simp at h
  · unfold pm_turn at h
    simp at h
    by_cases k1 : K a = 17
    · rw [if_pos k1] at h
      simp at h
    · rw [if_neg k1] at h
      by_cases k2 : K a = 16
      · rw [if_pos k2] at h
        simp at h
      · rw [if_neg k2] at h
        simp at h
        subst h
        have z1 : xr_R K 1 ((44, p) :: R) (a) sp ((16, 0) :: R) (a) sp := xr_ex (l := [(16, 0)]) (by unfold xg_leg; omega) (by omega) (by simp [xe_l, k1]) (by first | omega | (simp only [List.length_cons, List.length_append, List.length_nil]; omega)) (by first | omega | (simp only [List.length_cons, List.length_append, List.length_nil]; omega)) (by omega)
        have zf : xr_F K ((16, 0) :: R) (a) := ⟨_, _, _, rfl, (by first | omega | (simp only [List.length_cons, List.length_append, List.length_nil]; omega)), by omega, by unfold xg_leg; omega, Or.inl ⟨by omega, k2⟩⟩
        have z := z1
        exact ⟨1, _, by omega, by simpa [xm_1] using z, zf⟩
theorem xm_45 (hK : ∀ i, c ≤ i → K i = 99) (hc : c ≤ 24) (ha : a ≤ c) (h1 : R.length + 20 < 500) (h2 : sp.length ≤ 57) : xm_T 60 K 45 p a R sp := by
  refine ⟨fun a' l w h => ?_, fun a' h => ?_⟩
  · unfold pm_turn at h
    simp at h
    obtain ⟨rfl, rfl, rfl⟩ := h
    have z1 : xr_R K 1 ((45, p) :: R) (a) sp ((63, 0) :: (62, 0) :: (61, 0) :: (60, 0) :: R) (a) sp := xr_ex (l := [(63, 0), (62, 0), (61, 0), (60, 0)]) (by unfold xg_leg; omega) (by omega) (by simp [xe_l]) (by first | omega | (simp only [List.length_cons, List.length_append, List.length_nil]; omega)) (by first | omega | (simp only [List.length_cons, List.length_append, List.length_nil]; omega)) (by omega)
    have z := z1
    exact ⟨1, by omega, by simpa [xm_L, xm_1] using z⟩
  · unfold pm_turn at h
    simp at h
theorem xm_60 (hK : ∀ i, c ≤ i → K i = 99) (hc : c ≤ 24) (ha : a ≤ c) (h1 : R.length + 20 < 500) (h2 : sp.length ≤ 57) : xm_T 60 K 60 p a R sp := by
  refine ⟨fun a' l w h => ?_, fun a' h => ?_⟩
  · unfold pm_turn at h
    simp at h
    by_cases k1 : K a = 37
    · rw [if_pos k1] at h
      have qk1 := pm_lt hK k1 (by decide)
      simp at h
      obtain ⟨rfl, rfl, rfl⟩ := h
      have z1 : xr_R K 1 ((60, p) :: R) (a) sp ((37, 0) :: (63, 0) :: (62, 0) :: (61, 0) :: (60, 0) :: (83, a) :: R) (a) sp := xr_ex (l := [(37, 0), (63, 0), (62, 0), (61, 0), (60, 0), (83, a)]) (by unfold xg_leg; omega) (by omega) (by simp [xe_l, k1]) (by first | omega | (simp only [List.length_cons, List.length_append, List.length_nil]; omega)) (by first | omega | (simp only [List.length_cons, List.length_append, List.length_nil]; omega)) (by omega)
      have z2 : xr_R K 1 ((37, 0) :: (63, 0) :: (62, 0) :: (61, 0) :: (60, 0) :: (83, a) :: R) (a) sp ((63, 0) :: (62, 0) :: (61, 0) :: (60, 0) :: (83, a) :: R) (a + 1) sp := xr_tok (by first | omega | exact kl) k1 (by first | omega | (simp only [List.length_cons, List.length_append, List.length_nil]; omega)) (by first | omega | (simp only [List.length_cons, List.length_append, List.length_nil]; omega)) (by omega)
      have z := (xr_t z1 z2)
      exact ⟨2, by omega, by simpa [xm_L, xm_1] using z⟩
    · rw [if_neg k1] at h
      simp at h
      obtain ⟨rfl, rfl, rfl⟩ := h
      have z1 : xr_R K 1 ((60, p) :: R) (a) sp (R) (a) sp := xr_ex (l := []) (by unfold xg_leg; omega) (by omega) (by simp [xe_l, k1]) (by first | omega | (simp only [List.length_cons, List.length_append, List.length_nil]; omega)) (by first | omega | (simp only [List.length_cons, List.length_append, List.length_nil]; omega)) (by omega)
      have z := z1
      exact ⟨1, by omega, by simpa [xm_L, xm_1] using z⟩
  · unfold pm_turn at h
    simp at h
    by_cases k1 : K a = 37
    · rw [if_pos k1] at h
      simp at h
    · rw [if_neg k1] at h
      simp at h
theorem xm_61 (hK : ∀ i, c ≤ i → K i = 99) (hc : c ≤ 24) (ha : a ≤ c) (h1 : R.length + 20 < 500) (h2 : sp.length ≤ 57) : xm_T 60 K 61 p a R sp := by
  refine ⟨fun a' l w h => ?_, fun a' h => ?_⟩
  · unfold pm_turn at h
    simp at h
    by_cases k1 : K a = 36
    · rw [if_pos k1] at h
      have qk1 := pm_lt hK k1 (by decide)
      simp at h
      obtain ⟨rfl, rfl, rfl⟩ := h
      have z1 : xr_R K 1 ((61, p) :: R) (a) sp ((36, 0) :: (63, 0) :: (62, 0) :: (61, 0) :: (83, a) :: R) (a) sp := xr_ex (l := [(36, 0), (63, 0), (62, 0), (61, 0), (83, a)]) (by unfold xg_leg; omega) (by omega) (by simp [xe_l, k1]) (by first | omega | (simp only [List.length_cons, List.length_append, List.length_nil]; omega)) (by first | omega | (simp only [List.length_cons, List.length_append, List.length_nil]; omega)) (by omega)
      have z2 : xr_R K 1 ((36, 0) :: (63, 0) :: (62, 0) :: (61, 0) :: (83, a) :: R) (a) sp ((63, 0) :: (62, 0) :: (61, 0) :: (83, a) :: R) (a + 1) sp := xr_tok (by first | omega | exact kl) k1 (by first | omega | (simp only [List.length_cons, List.length_append, List.length_nil]; omega)) (by first | omega | (simp only [List.length_cons, List.length_append, List.length_nil]; omega)) (by omega)
      have z := (xr_t z1 z2)
      exact ⟨2, by omega, by simpa [xm_L, xm_1] using z⟩
    · rw [if_neg k1] at h
      simp at h
      obtain ⟨rfl, rfl, rfl⟩ := h
      have z1 : xr_R K 1 ((61, p) :: R) (a) sp (R) (a) sp := xr_ex (l := []) (by unfold xg_leg; omega) (by omega) (by simp [xe_l, k1]) (by first | omega | (simp only [List.length_cons, List.length_append, List.length_nil]; omega)) (by first | omega | (simp only [List.length_cons, List.length_append, List.length_nil]; omega)) (by omega)
      have z := z1
      exact ⟨1, by omega, by simpa [xm_L, xm_1] using z⟩
  · unfold pm_turn at h
    simp at h
    by_cases k1 : K a = 36
    · rw [if_pos k1] at h
      simp at h
    · rw [if_neg k1] at h
      simp at h
theorem xm_62 (hK : ∀ i, c ≤ i → K i = 99) (hc : c ≤ 24) (ha : a ≤ c) (h1 : R.length + 20 < 500) (h2 : sp.length ≤ 57) : xm_T 60 K 62 p a R sp := by
  refine ⟨fun a' l w h => ?_, fun a' h => ?_⟩
  · unfold pm_turn at h
    simp at h
    by_cases k1 : K a = 34 ∨ K a = 23
    · rw [if_pos k1] at h
      have qk1 := pm_lt2 hK k1 (by decide) (by decide)
      have kl : K a < 38 := by omega
      simp at h
      obtain ⟨rfl, rfl, rfl⟩ := h
      have z1 : xr_R K 1 ((62, p) :: R) (a) sp ((K a, 0) :: (83, a) :: (62, 0) :: R) (a) sp := xr_ex (l := [(K a, 0), (83, a), (62, 0)]) (by unfold xg_leg; omega) (by omega) (by simp [xe_l, k1]) (by first | omega | (simp only [List.length_cons, List.length_append, List.length_nil]; omega)) (by first | omega | (simp only [List.length_cons, List.length_append, List.length_nil]; omega)) (by omega)
      have z2 : xr_R K 1 ((K a, 0) :: (83, a) :: (62, 0) :: R) (a) sp ((83, a) :: (62, 0) :: R) (a + 1) sp := xr_tok (by first | omega | exact kl) rfl (by first | omega | (simp only [List.length_cons, List.length_append, List.length_nil]; omega)) (by first | omega | (simp only [List.length_cons, List.length_append, List.length_nil]; omega)) (by omega)
      have z3 : xr_R K 1 ((83, a) :: (62, 0) :: R) (a + 1) sp ((62, 0) :: R) (a + 1) (sp ++ [(83, a)]) := xr_em (by omega) (by first | omega | (simp only [List.length_cons, List.length_append, List.length_nil]; omega)) (by first | omega | (simp only [List.length_cons, List.length_append, List.length_nil]; omega)) (by omega)
      have z := (xr_t z1 (xr_t z2 z3))
      exact ⟨3, by omega, by simpa [xm_L, xm_1] using z⟩
    · rw [if_neg k1] at h
      simp at h
      obtain ⟨rfl, rfl, rfl⟩ := h
      have z1 : xr_R K 1 ((62, p) :: R) (a) sp (R) (a) sp := xr_ex (l := []) (by unfold xg_leg; omega) (by omega) (by simp [xe_l, k1]) (by first | omega | (simp only [List.length_cons, List.length_append, List.length_nil]; omega)) (by first | omega | (simp only [List.length_cons, List.length_append, List.length_nil]; omega)) (by omega)
      have z := z1
      exact ⟨1, by omega, by simpa [xm_L, xm_1] using z⟩
  · unfold pm_turn at h
    simp at h
    by_cases k1 : K a = 34 ∨ K a = 23
    · rw [if_pos k1] at h
      simp at h
    · rw [if_neg k1] at h
      simp at h
theorem xm_63 (hK : ∀ i, c ≤ i → K i = 99) (hc : c ≤ 24) (ha : a ≤ c) (h1 : R.length + 20 < 500) (h2 : sp.length ≤ 57) : xm_T 60 K 63 p a R sp := by
  refine ⟨fun a' l w h => ?_, fun a' h => ?_⟩
  · unfold pm_turn at h
    simp at h
    by_cases k1 : K a = 15
    · rw [if_pos k1] at h
      have qk1 := pm_lt hK k1 (by decide)
      simp at h
      obtain ⟨rfl, rfl, rfl⟩ := h
      have z1 : xr_R K 1 ((63, p) :: R) (a) sp ((15, 0) :: (45, 0) :: (16, 0) :: R) (a) sp := xr_ex (l := [(15, 0), (45, 0), (16, 0)]) (by unfold xg_leg; omega) (by omega) (by simp [xe_l, k1]) (by first | omega | (simp only [List.length_cons, List.length_append, List.length_nil]; omega)) (by first | omega | (simp only [List.length_cons, List.length_append, List.length_nil]; omega)) (by omega)
      have z2 : xr_R K 1 ((15, 0) :: (45, 0) :: (16, 0) :: R) (a) sp ((45, 0) :: (16, 0) :: R) (a + 1) sp := xr_tok (by first | omega | exact kl) k1 (by first | omega | (simp only [List.length_cons, List.length_append, List.length_nil]; omega)) (by first | omega | (simp only [List.length_cons, List.length_append, List.length_nil]; omega)) (by omega)
      have z := (xr_t z1 z2)
      exact ⟨2, by omega, by simpa [xm_L, xm_1] using z⟩
    · rw [if_neg k1] at h
      by_cases k2 : (31 ≤ K a ∧ K a ≤ 33) ∨ K a = 35
      · rw [if_pos k2] at h
        have qk2 := pm_lt3 hK k2
        have kl : K a < 38 := by omega
        simp at h
        obtain ⟨rfl, rfl, rfl⟩ := h
        have z1 : xr_R K 1 ((63, p) :: R) (a) sp ((K a, 0) :: (80, a) :: R) (a) sp := xr_ex (l := [(K a, 0), (80, a)]) (by unfold xg_leg; omega) (by omega) (by simp [xe_l, k1, k2]) (by first | omega | (simp only [List.length_cons, List.length_append, List.length_nil]; omega)) (by first | omega | (simp only [List.length_cons, List.length_append, List.length_nil]; omega)) (by omega)
        have z2 : xr_R K 1 ((K a, 0) :: (80, a) :: R) (a) sp ((80, a) :: R) (a + 1) sp := xr_tok (by first | omega | exact kl) rfl (by first | omega | (simp only [List.length_cons, List.length_append, List.length_nil]; omega)) (by first | omega | (simp only [List.length_cons, List.length_append, List.length_nil]; omega)) (by omega)
        have z3 : xr_R K 1 ((80, a) :: R) (a + 1) sp (R) (a + 1) (sp ++ [(80, a)]) := xr_em (by omega) (by first | omega | (simp only [List.length_cons, List.length_append, List.length_nil]; omega)) (by first | omega | (simp only [List.length_cons, List.length_append, List.length_nil]; omega)) (by omega)
        have z := (xr_t z1 (xr_t z2 z3))
        exact ⟨3, by omega, by simpa [xm_L, xm_1] using z⟩
      · rw [if_neg k2] at h
        simp at h
  · unfold pm_turn at h
    simp at h
    by_cases k1 : K a = 15
    · rw [if_pos k1] at h
      simp at h
    · rw [if_neg k1] at h
      by_cases k2 : (31 ≤ K a ∧ K a ≤ 33) ∨ K a = 35
      · rw [if_pos k2] at h
        simp at h
      · rw [if_neg k2] at h
        simp at h
        subst h
        have zf : xr_F K ((63, p) :: R) (a) := ⟨_, _, _, rfl, (by first | omega | (simp only [List.length_cons, List.length_append, List.length_nil]; omega)), by omega, by unfold xg_leg; omega, Or.inr ⟨by omega, by omega, by simp [xe_l, k1, k2]⟩⟩
        exact ⟨0, _, by omega, ⟨by simp [xm_1], rfl, rfl⟩, zf⟩
theorem xm_80 {s : Nat} (hs : 80 ≤ s ∧ s ≤ 90) (ha : a ≤ 24) (h1 : R.length + 20 < 500) (h2 : sp.length ≤ 57) : xm_T 60 K s p a R sp := by
  refine ⟨fun a' l w h => ?_, fun a' h => ?_⟩
  · unfold pm_turn at h
    rw [if_pos hs.1] at h
    simp at h
    obtain ⟨rfl, rfl, rfl⟩ := h
    have z : xr_R K 1 ((s, p) :: R) a sp R a (sp ++ [(s, p)]) := xr_em hs (by omega) (by omega) (by omega)
    have e : xm_1 (s, p) = [(s, p)] := by
      unfold xm_1
      rw [if_neg (by show ¬ s = 46; omega), if_neg (by show ¬ s = 47; omega)]
    refine ⟨1, by omega, ?_⟩
    rw [e]; exact z
  · unfold pm_turn at h
    rw [if_pos hs.1] at h
    simp at h
theorem xm_38 {s : Nat} (hs : s < 38) (hp : p = 0) (ha : a ≤ 24) (h1 : R.length + 20 < 500) (h2 : sp.length ≤ 57) : xm_T 60 K s p a R sp := by
  subst hp
  have e : xm_1 (s, 0) = [(s, 0)] := by
    unfold xm_1
    rw [if_neg (by show ¬ s = 46; omega), if_neg (by show ¬ s = 47; omega)]
  refine ⟨fun a' l w h => ?_, fun a' h => ?_⟩
  · unfold pm_turn at h
    rw [if_neg (by omega), if_pos hs] at h
    by_cases k : K a = s
    · rw [if_pos k] at h
      simp at h
      obtain ⟨rfl, rfl, rfl⟩ := h
      have z : xr_R K 1 ((s, 0) :: R) a sp R (a + 1) sp := xr_tok hs k (by omega) (by omega) (by omega)
      refine ⟨1, by omega, ?_⟩
      rw [e, List.append_nil]; exact z
    · rw [if_neg k] at h
      simp at h
  · unfold pm_turn at h
    rw [if_neg (by omega), if_pos hs] at h
    by_cases k : K a = s
    · rw [if_pos k] at h
      simp at h
    · rw [if_neg k] at h
      simp at h
      subst h
      refine ⟨0, _, by omega, ⟨rfl, rfl, rfl⟩, ?_⟩
      rw [e]
      exact ⟨s, 0, R, rfl, by show (((s, 0) :: R).length ≤ 500); rw [List.length_cons]; omega, by omega, Or.inl hs, Or.inl ⟨hs, k⟩⟩
theorem xm_46 (ha : a ≤ 24) (h1 : R.length + 20 < 500) (h2 : sp.length ≤ 57) : xm_T 60 K 46 p a R sp := by
  refine ⟨fun a' l w h => ?_, fun a' h => ?_⟩
  · unfold pm_turn at h
    simp at h
    by_cases k : K a = 10
    · rw [if_pos k] at h
      simp at h
      obtain ⟨rfl, rfl, rfl⟩ := h
      have z : xr_R K 1 ((10, 0) :: (42, 0) :: (11, 0) :: (90, p) :: R) a sp ((42, 0) :: (11, 0) :: (90, p) :: R) (a + 1) sp := xr_tok (by omega) k (by simp only [List.length_cons]; omega) (by omega) (by omega)
      exact ⟨1, by omega, by simpa [xm_L, xm_1] using z⟩
    · rw [if_neg k] at h
      simp at h
  · unfold pm_turn at h
    simp at h
    by_cases k : K a = 10
    · rw [if_pos k] at h
      simp at h
    · rw [if_neg k] at h
      simp at h
      subst h
      refine ⟨0, _, by omega, ⟨rfl, rfl, rfl⟩, ?_⟩
      exact ⟨10, 0, (42, 0) :: (11, 0) :: (90, p) :: R, rfl, by show (((10, 0) :: (42, 0) :: (11, 0) :: (90, p) :: R).length ≤ 500); simp only [List.length_cons]; omega, by omega, Or.inl (by omega), Or.inl ⟨by omega, k⟩⟩
theorem xm_47 (ha : a ≤ 24) (h1 : R.length + 20 < 500) (h2 : sp.length ≤ 57) : xm_T 60 K 47 p a R sp := by
  refine ⟨fun a' l w h => ?_, fun a' h => ?_⟩
  · unfold pm_turn at h
    simp at h
    by_cases k : K a = 11
    · rw [if_pos k] at h
      simp at h
      obtain ⟨rfl, rfl, rfl⟩ := h
      have z : xr_R K 1 ((11, 0) :: (90, p) :: R) a sp ((90, p) :: R) (a + 1) sp := xr_tok (by omega) k (by simp only [List.length_cons]; omega) (by omega) (by omega)
      have z2 : xr_R K 1 ((90, p) :: R) (a + 1) sp R (a + 1) (sp ++ [(90, p)]) := xr_em (by omega) (by omega) (by omega) (by omega)
      have z3 := xr_t z z2
      exact ⟨2, by omega, by simpa [xm_L, xm_1] using z3⟩
    · rw [if_neg k] at h
      simp at h
  · unfold pm_turn at h
    simp at h
    by_cases k : K a = 11
    · rw [if_pos k] at h
      simp at h
    · rw [if_neg k] at h
      simp at h
      subst h
      refine ⟨0, _, by omega, ⟨rfl, rfl, rfl⟩, ?_⟩
      exact ⟨11, 0, (90, p) :: R, rfl, by show (((11, 0) :: (90, p) :: R).length ≤ 500); simp only [List.length_cons]; omega, by omega, Or.inl (by omega), Or.inl ⟨by omega, k⟩⟩
theorem xm_54 (hK : ∀ i, c ≤ i → K i = 99) (hc : c ≤ 24) (ha : a ≤ c) (h1 : R.length + 22 < 500) (h2 : sp.length ≤ 57) : xm_T 60 K 54 p a R sp := by
  have at' := xm_atom (p := 0) (R := (82, a) :: (54, 0) :: R) (sp := sp) hK hc ha (by simp only [List.length_cons]; omega) h2
  have bg : ∀ l w, (pm_atom K a).2 = some (l, w) → K a = 15 ∨ K a = 6 ∨ pm_alone (K a) = true := by
    intro l w e
    unfold pm_atom at e
    by_cases k1 : pm_alone (K a) = true
    · exact Or.inr (Or.inr k1)
    · rw [if_neg k1] at e
      by_cases k2 : K a = 15
      · exact Or.inl k2
      · rw [if_neg k2] at e
        by_cases k3 : K a = 6
        · exact Or.inr (Or.inl k3)
        · rw [if_neg k3] at e
          cases e
  have nb : (pm_atom K a).2 = none → ¬ (K a = 15 ∨ K a = 6 ∨ pm_alone (K a) = true) := by
    intro e
    unfold pm_atom at e
    by_cases k1 : pm_alone (K a) = true
    · rw [if_pos k1] at e; cases e
    · rw [if_neg k1] at e
      by_cases k2 : K a = 15
      · rw [if_pos k2] at e
        by_cases k3 : K (a + 1) = 16
        · rw [if_pos k3] at e; cases e
        · rw [if_neg k3] at e; cases e
      · rw [if_neg k2] at e
        by_cases k3 : K a = 6
        · rw [if_pos k3] at e; cases e
        · intro z
          rcases z with z | z | z
          · exact k2 z
          · exact k3 z
          · exact k1 z
  refine ⟨fun a' l w h => ?_, fun a' h => ?_⟩
  · unfold pm_turn at h
    simp at h
    unfold pm_apl at h
    cases e : (pm_atom K a).2 with
    | none =>
      rw [e] at h
      simp at h
      obtain ⟨rfl, rfl, rfl⟩ := h
      have q := nb e
      have z : xr_R K 1 ((54, p) :: R) a sp R a sp := xr_ex (l := []) (by unfold xg_leg; omega) (by omega) (by unfold xe_l; simp only [q]; simp) (by omega) (by omega) (by omega)
      exact ⟨1, by omega, by simpa [xm_L, xm_1] using z⟩
    | some y =>
      obtain ⟨l0, w0⟩ := y
      rw [e] at h
      simp at h
      obtain ⟨rfl, rfl, rfl⟩ := h
      have q := bg l0 w0 e
      have z : xr_R K 1 ((54, p) :: R) a sp ((55, 0) :: (82, a) :: (54, 0) :: R) a sp := xr_ex (l := [(55, 0), (82, a), (54, 0)]) (by unfold xg_leg; omega) (by omega) (by unfold xe_l; simp only [q]; simp) (by omega) (by omega) (by omega)
      obtain ⟨n, hn, z2⟩ := at'.1 (pm_atom K a).1 l0 w0 (by unfold pm_turn; simp; rw [← e])
      have z2' : xr_R K n ((55, 0) :: (82, a) :: (54, 0) :: R) a sp (xm_L l0 ++ (82, a) :: (54, 0) :: R) (pm_atom K a).1 (sp ++ w0) := by simpa [xm_1] using z2
      have z3 := xr_t z z2'
      refine ⟨1 + n, ?_, ?_⟩
      · omega
      · rw [xm_app, List.append_assoc]
        simpa [xm_L, xm_1] using z3
  · unfold pm_turn at h
    simp at h
    unfold pm_apl at h
    cases e : (pm_atom K a).2 with
    | none => rw [e] at h; simp at h
    | some y => rw [e] at h; simp at h
end
