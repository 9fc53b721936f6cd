/-! the numbers of a turn -/
theorem pm_N_decl {K : Nat → Nat} {c a a' : Nat} {l w : pm_L} (hK : ∀ i, c ≤ i → K i = 99) (ha : a ≤ c) (h : pm_decl K a = (a', some (l, w))) : pm_N c a 40 a' l w := by
  unfold pm_decl at h
  by_cases c1 : K a = 7
  · rw [if_pos c1] at h
    have qc1 := pm_lt hK c1 (by decide)
    by_cases c2 : K (a + 1) = 3
    · rw [if_pos c2] at h
      have qc2 := pm_lt hK c2 (by decide)
      by_cases c3 : K (a + 2) = 9
      · rw [if_pos c3] at h
        have qc3 := pm_lt hK c3 (by decide)
        simp at h
        obtain ⟨rfl, rfl, rfl⟩ := h
        unfold pm_N
        simp [pm_ws, pm_w, pm_ys, pm_y, pm_h5, pm_cs, pm_c]
        omega
      · rw [if_neg c3] at h
        simp at h
    · rw [if_neg c2] at h
      simp at h
  · rw [if_neg c1] at h
    by_cases c4 : K a = 8
    · rw [if_pos c4] at h
      have qc4 := pm_lt hK c4 (by decide)
      by_cases c5 : K (a + 1) = 3
      · rw [if_pos c5] at h
        have qc5 := pm_lt hK c5 (by decide)
        by_cases c6 : K (a + 2) = 3
        · rw [if_pos c6] at h
          have qc6 := pm_lt hK c6 (by decide)
          by_cases c7 : K (pm_nq K 24 (a + 3)) = 9
          · rw [if_pos c7] at h
            have qc7 := pm_lt hK c7 (by decide)
            have g := (pm_nq_ge (K := K) 24 (a + 3)).1
            generalize pm_nq K 24 (a + 3) = q at *
            simp at h
            obtain ⟨rfl, rfl, rfl⟩ := h
            unfold pm_N
            simp [pm_ws, pm_w, pm_ys, pm_y, pm_h5, pm_cs, pm_c]
            omega
          · rw [if_neg c7] at h
            simp at h
        · rw [if_neg c6] at h
          simp at h
      · rw [if_neg c5] at h
        simp at h
    · rw [if_neg c4] at h
      simp at h
theorem pm_N_expr {K : Nat → Nat} {c a a' : Nat} {l w : pm_L} (hK : ∀ i, c ≤ i → K i = 99) (ha : a ≤ c) (h : pm_expr K a = (a', some (l, w))) : pm_N c a 42 a' l w := by
  unfold pm_expr at h
  by_cases c1 : K a = 4
  · rw [if_pos c1] at h
    have qc1 := pm_lt hK c1 (by decide)
    by_cases c2 : K (a + 1) = 3
    · rw [if_pos c2] at h
      have qc2 := pm_lt hK c2 (by decide)
      by_cases c3 : K (a + 2) = 5
      · rw [if_pos c3] at h
        have qc3 := pm_lt hK c3 (by decide)
        simp at h
        obtain ⟨rfl, rfl, rfl⟩ := h
        unfold pm_N
        simp [pm_ws, pm_w, pm_ys, pm_y, pm_h5, pm_cs, pm_c]
        omega
      · rw [if_neg c3] at h
        simp at h
    · rw [if_neg c2] at h
      simp at h
  · rw [if_neg c1] at h
    by_cases c4 : K a = 12
    · rw [if_pos c4] at h
      have qc4 := pm_lt hK c4 (by decide)
      simp at h
      obtain ⟨rfl, rfl, rfl⟩ := h
      unfold pm_N
      simp [pm_ws, pm_w, pm_ys, pm_y, pm_h5, pm_cs, pm_c]
      omega
    · rw [if_neg c4] at h
      simp at h
      obtain ⟨rfl, rfl, rfl⟩ := h
      unfold pm_N
      simp [pm_ws, pm_w, pm_ys, pm_y, pm_h5, pm_cs, pm_c]
      omega
theorem pm_N_apl {K : Nat → Nat} {c a a' : Nat} {l w : pm_L} (hK : ∀ i, c ≤ i → K i = 99) (ha : a ≤ c) (h : pm_apl K a = (a', some (l, w))) : pm_N c a 54 a' l w := by
  unfold pm_apl at h
  cases e : (pm_atom K a).2 with
  | none =>
    rw [e] at h
    simp at h
    obtain ⟨rfl, rfl, rfl⟩ := h
    unfold pm_N
    simp [pm_ws, pm_w, pm_ys, pm_y, pm_h5, pm_cs, pm_c]
    omega
  | some x =>
    obtain ⟨l0, w0⟩ := x
    rw [e] at h
    simp at h
    obtain ⟨rfl, rfl, rfl⟩ := h
    have z := pm_N_atom hK (a := a) (a' := (pm_atom K a).1) (l := l0) (w := w0) (by rw [← e])
    have lw : (pm_atom K a).1 = a → False := by
      intro q
      have z2 := z.2.2.1 q
      have : pm_ws l0 = 0 := by
        have := z2
        unfold pm_w at this
        simp at this
        omega
      unfold pm_atom at e q
      revert e q
      repeat' split
      all_goals simp
    have l27 : pm_ws l0 ≤ 9 := by
      unfold pm_atom at e
      revert e
      repeat' split
      all_goals simp
      all_goals (intro h1 _; subst h1; simp [pm_ws, pm_w])
    have h5 : pm_h5 l0 = 0 := by
      unfold pm_atom at e
      revert e
      repeat' split
      all_goals simp
      all_goals (intro h1 _; subst h1; simp [pm_h5])
    have l1 : w0.length + pm_cs l0 + 1 + 2 * a ≤ 2 * (pm_atom K a).1 := by
      unfold pm_atom at e ⊢
      revert e
      repeat' split
      all_goals simp
      all_goals (intro h1 h2; subst h1; subst h2; simp [pm_cs, pm_c]; omega)
    obtain ⟨z1, z2, z3, z4, z5, z6⟩ := z
    rw [h5] at z5
    simp [pm_y] at z5
    simp [pm_c] at z6
    refine ⟨z1, z2, fun q => (lw q).elim, ?_, ?_, ?_⟩
    · rw [pm_ws_a]; simp [pm_ws, pm_w]; omega
    · rw [pm_ys_a]; simp [pm_ys, pm_y]; omega
    · rw [pm_cs_a]; simp [pm_cs, pm_c]; omega
theorem pm_N_turn {K : Nat → Nat} {c s p a a' : Nat} {l w : pm_L} (hK : ∀ i, c ≤ i → K i = 99) (hc : c ≤ 24) (ha : a ≤ c) (h : pm_turn K s p a = (a', some (l, w))) : pm_N c a s a' l w := by
  unfold pm_turn at h
  by_cases s0 : 80 ≤ s
  · rw [if_pos s0] at h
    simp at h
    obtain ⟨rfl, rfl, rfl⟩ := h
    unfold pm_N
    have q1 : s ≠ 55 := by omega
    have q7 : s ≠ 63 := by omega
    have q2 : s ≠ 46 := by omega
    have q3 : s ≠ 47 := by omega
    have q4 : s ≠ 42 := by omega
    have q5 : s ≠ 45 := by omega
    simp [pm_ws, pm_w, pm_ys, pm_y, pm_h5, pm_cs, pm_c, s0, q1, q2, q3, q4, q5, q7]
    omega
  · rw [if_neg s0] at h
    by_cases s1 : s < 38
    · rw [if_pos s1] at h
      by_cases c1 : K a = s
      · rw [if_pos c1] at h
        have qc1 := (pm_lt hK c1 (by omega) : a < c)
        simp at h
        obtain ⟨rfl, rfl, rfl⟩ := h
        unfold pm_N
        have q1 : s ≠ 55 := by omega
        have q7 : s ≠ 63 := by omega
        have q2 : s ≠ 46 := by omega
        have q3 : s ≠ 47 := by omega
        have q4 : s ≠ 42 := by omega
        have q5 : s ≠ 45 := by omega
        have q6 : ¬ 80 ≤ s := by omega
        simp [pm_ws, pm_w, pm_ys, pm_y, pm_h5, pm_cs, pm_c, q1, q2, q3, q4, q5, q6, q7]
        omega
      · rw [if_neg c1] at h
        simp at h
    · rw [if_neg s1] at h
      by_cases s2 : s = 40
      · rw [if_pos s2] at h
        subst s2
        exact pm_N_decl hK ha h
      · rw [if_neg s2] at h
        by_cases s3 : s = 42
        · rw [if_pos s3] at h
          subst s3
          exact pm_N_expr hK ha h
        · rw [if_neg s3] at h
          by_cases s4 : s = 44
          · rw [if_pos s4] at h
            subst s4
            by_cases c2 : K a = 17
            · rw [if_pos c2] at h
              have qc2 := pm_lt hK c2 (by decide)
              simp at h
              obtain ⟨rfl, rfl, rfl⟩ := h
              unfold pm_N
              simp [pm_ws, pm_w, pm_ys, pm_y, pm_h5, pm_cs, pm_c]
              omega
            · rw [if_neg c2] at h
              by_cases c3 : K a = 16
              · rw [if_pos c3] at h
                have qc3 := pm_lt hK c3 (by decide)
                simp at h
                obtain ⟨rfl, rfl, rfl⟩ := h
                unfold pm_N
                simp [pm_ws, pm_w, pm_ys, pm_y, pm_h5, pm_cs, pm_c]
                omega
              · rw [if_neg c3] at h
                simp at h
          · rw [if_neg s4] at h
            by_cases s5 : s = 45
            · rw [if_pos s5] at h
              subst s5
              simp at h
              obtain ⟨rfl, rfl, rfl⟩ := h
              unfold pm_N
              simp [pm_ws, pm_w, pm_ys, pm_y, pm_h5, pm_cs, pm_c]
              omega
            · rw [if_neg s5] at h
              by_cases s6 : s = 46
              · rw [if_pos s6] at h
                subst s6
                by_cases c4 : K a = 10
                · rw [if_pos c4] at h
                  have qc4 := pm_lt hK c4 (by decide)
                  simp at h
                  obtain ⟨rfl, rfl, rfl⟩ := h
                  unfold pm_N
                  simp [pm_ws, pm_w, pm_ys, pm_y, pm_h5, pm_cs, pm_c]
                  omega
                · rw [if_neg c4] at h
                  simp at h
              · rw [if_neg s6] at h
                by_cases s7 : s = 47
                · rw [if_pos s7] at h
                  subst s7
                  by_cases c5 : K a = 11
                  · rw [if_pos c5] at h
                    have qc5 := pm_lt hK c5 (by decide)
                    simp at h
                    obtain ⟨rfl, rfl, rfl⟩ := h
                    unfold pm_N
                    simp [pm_ws, pm_w, pm_ys, pm_y, pm_h5, pm_cs, pm_c]
                    omega
                  · rw [if_neg c5] at h
                    simp at h
                · rw [if_neg s7] at h
                  by_cases s8 : s = 50
                  · rw [if_pos s8] at h
                    subst s8
                    by_cases c6 : K a = 25
                    · rw [if_pos c6] at h
                      have qc6 := pm_lt hK c6 (by decide)
                      simp at h
                      obtain ⟨rfl, rfl, rfl⟩ := h
                      unfold pm_N
                      simp [pm_ws, pm_w, pm_ys, pm_y, pm_h5, pm_cs, pm_c]
                      omega
                    · rw [if_neg c6] at h
                      simp at h
                      obtain ⟨rfl, rfl, rfl⟩ := h
                      unfold pm_N
                      simp [pm_ws, pm_w, pm_ys, pm_y, pm_h5, pm_cs, pm_c]
                      omega
                  · rw [if_neg s8] at h
                    by_cases s9 : s = 51
                    · rw [if_pos s9] at h
                      subst s9
                      by_cases c7 : K a = 18
                      · rw [if_pos c7] at h
                        have qc7 := pm_lt hK c7 (by decide)
                        simp at h
                        obtain ⟨rfl, rfl, rfl⟩ := h
                        unfold pm_N
                        simp [pm_ws, pm_w, pm_ys, pm_y, pm_h5, pm_cs, pm_c]
                        omega
                      · rw [if_neg c7] at h
                        simp at h
                        obtain ⟨rfl, rfl, rfl⟩ := h
                        unfold pm_N
                        simp [pm_ws, pm_w, pm_ys, pm_y, pm_h5, pm_cs, pm_c]
                        omega
                    · rw [if_neg s9] at h
                      by_cases s10 : s = 52
                      · rw [if_pos s10] at h
                        subst s10
                        by_cases c8 : K a = 21
                        · rw [if_pos c8] at h
                          have qc8 := pm_lt hK c8 (by decide)
                          simp at h
                          obtain ⟨rfl, rfl, rfl⟩ := h
                          unfold pm_N
                          simp [pm_ws, pm_w, pm_ys, pm_y, pm_h5, pm_cs, pm_c]
                          omega
                        · rw [if_neg c8] at h
                          simp at h
                          obtain ⟨rfl, rfl, rfl⟩ := h
                          unfold pm_N
                          simp [pm_ws, pm_w, pm_ys, pm_y, pm_h5, pm_cs, pm_c]
                          omega
                      · rw [if_neg s10] at h
                        by_cases s11 : s = 53
                        · rw [if_pos s11] at h
                          subst s11
                          by_cases c9 : K a = 19 ∨ K a = 20
                          · rw [if_pos c9] at h
                            have qc9 := pm_lt2 hK c9 (by decide) (by decide)
                            simp at h
                            obtain ⟨rfl, rfl, rfl⟩ := h
                            unfold pm_N
                            simp [pm_ws, pm_w, pm_ys, pm_y, pm_h5, pm_cs, pm_c]
                            omega
                          · rw [if_neg c9] at h
                            simp at h
                            obtain ⟨rfl, rfl, rfl⟩ := h
                            unfold pm_N
                            simp [pm_ws, pm_w, pm_ys, pm_y, pm_h5, pm_cs, pm_c]
                            omega
                        · rw [if_neg s11] at h
                          by_cases s12 : s = 54
                          · rw [if_pos s12] at h
                            subst s12
                            exact pm_N_apl hK ha h
                          · rw [if_neg s12] at h
                            by_cases s13 : s = 55
                            · rw [if_pos s13] at h
                              subst s13
                              exact pm_N_atom hK h
                            · rw [if_neg s13] at h
                              by_cases s14 : s = 60
                              · rw [if_pos s14] at h
                                subst s14
                                by_cases c10 : K a = 37
                                · rw [if_pos c10] at h
                                  have qc10 := pm_lt hK c10 (by decide)
                                  simp at h
                                  obtain ⟨rfl, rfl, rfl⟩ := h
                                  unfold pm_N
                                  simp [pm_ws, pm_w, pm_ys, pm_y, pm_h5, pm_cs, pm_c]
                                  omega
                                · rw [if_neg c10] at h
                                  simp at h
                                  obtain ⟨rfl, rfl, rfl⟩ := h
                                  unfold pm_N
                                  simp [pm_ws, pm_w, pm_ys, pm_y, pm_h5, pm_cs, pm_c]
                                  omega
                              · rw [if_neg s14] at h
                                by_cases s15 : s = 61
                                · rw [if_pos s15] at h
                                  subst s15
                                  by_cases c11 : K a = 36
                                  · rw [if_pos c11] at h
                                    have qc11 := pm_lt hK c11 (by decide)
                                    simp at h
                                    obtain ⟨rfl, rfl, rfl⟩ := h
                                    unfold pm_N
                                    simp [pm_ws, pm_w, pm_ys, pm_y, pm_h5, pm_cs, pm_c]
                                    omega
                                  · rw [if_neg c11] at h
                                    simp at h
                                    obtain ⟨rfl, rfl, rfl⟩ := h
                                    unfold pm_N
                                    simp [pm_ws, pm_w, pm_ys, pm_y, pm_h5, pm_cs, pm_c]
                                    omega
                                · rw [if_neg s15] at h
                                  by_cases s16 : s = 62
                                  · rw [if_pos s16] at h
                                    subst s16
                                    by_cases c12 : K a = 34 ∨ K a = 23
                                    · rw [if_pos c12] at h
                                      have qc12 := pm_lt2 hK c12 (by decide) (by decide)
                                      simp at h
                                      obtain ⟨rfl, rfl, rfl⟩ := h
                                      unfold pm_N
                                      simp [pm_ws, pm_w, pm_ys, pm_y, pm_h5, pm_cs, pm_c]
                                      omega
                                    · rw [if_neg c12] at h
                                      simp at h
                                      obtain ⟨rfl, rfl, rfl⟩ := h
                                      unfold pm_N
                                      simp [pm_ws, pm_w, pm_ys, pm_y, pm_h5, pm_cs, pm_c]
                                      omega
                                  · rw [if_neg s16] at h
                                    by_cases s17 : s = 63
                                    · rw [if_pos s17] at h
                                      subst s17
                                      by_cases c13 : K a = 15
                                      · rw [if_pos c13] at h
                                        have qc13 := pm_lt hK c13 (by decide)
                                        simp at h
                                        obtain ⟨rfl, rfl, rfl⟩ := h
                                        unfold pm_N
                                        simp [pm_ws, pm_w, pm_ys, pm_y, pm_h5, pm_cs, pm_c]
                                        omega
                                      · rw [if_neg c13] at h
                                        by_cases c14 : (31 ≤ K a ∧ K a ≤ 33) ∨ K a = 35
                                        · rw [if_pos c14] at h
                                          have qc14 := pm_lt3 hK c14
                                          simp at h
                                          obtain ⟨rfl, rfl, rfl⟩ := h
                                          unfold pm_N
                                          simp [pm_ws, pm_w, pm_ys, pm_y, pm_h5, pm_cs, pm_c]
                                          omega
                                        · rw [if_neg c14] at h
                                          simp at h
                                    · rw [if_neg s17] at h
                                      simp at h
/-- every run ends -/
theorem pm_ex {K : Nat → Nat} {c : Nat} (hK : ∀ i, c ≤ i → K i = 99) (hc : c ≤ 24) : ∀ m ss a sp, a ≤ c → pm_ws ss + 28 * (c - a) < m → ∃ r, pm_go K m ss a sp = some r := by
  intro m
  induction m with
  | zero => intro ss a sp _ h; omega
  | succ m ih =>
    intro ss a sp ha h
    cases ss with
    | nil => exact ⟨_, rfl⟩
    | cons x ss =>
      obtain ⟨s, p⟩ := x
      unfold pm_go
      cases e : (pm_turn K s p a).2 with
      | none => exact ⟨_, rfl⟩
      | some q =>
        obtain ⟨l, w⟩ := q
        have z := pm_N_turn hK hc ha (s := s) (p := p) (a' := (pm_turn K s p a).1) (l := l) (w := w) (by rw [← e])
        obtain ⟨z1, z2, z3, z4, _, _⟩ := z
        refine ih _ _ _ z2 ?_
        unfold pm_ws at h
        rw [pm_ws_a]
        simp only at h
        by_cases q : (pm_turn K s p a).1 = a
        · have := z3 q; rw [q]; omega
        · omega
