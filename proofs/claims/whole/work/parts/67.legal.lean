/-! M's symbols are the ones it knows -/
def lg_1 (x : Nat × Nat) : Prop := (x.1 < 38 ∧ x.2 = 0) ∨ (80 ≤ x.1 ∧ x.1 ≤ 90) ∨ x.1 = 40 ∨ x.1 = 42 ∨ x.1 = 44 ∨ x.1 = 45 ∨ x.1 = 46 ∨ x.1 = 47 ∨ x.1 = 50 ∨ x.1 = 51 ∨ x.1 = 52 ∨ x.1 = 53 ∨ x.1 = 54 ∨ x.1 = 55 ∨ x.1 = 60 ∨ x.1 = 61 ∨ x.1 = 62 ∨ x.1 = 63
def lg_L : pm_L → Prop
  | [] => True
  | x :: ss => lg_1 x ∧ lg_L ss
theorem lg_a : ∀ l ss, lg_L l → lg_L ss → lg_L (l ++ ss) := by
  intro l
  induction l with
  | nil => intro ss _ h; exact h
  | cons x l ih => intro ss h h'; exact ⟨h.1, ih ss h.2 h'⟩
section
variable {K : Nat → Nat} {a a' s p : Nat} {l w : pm_L}
theorem lg_atom (h : pm_atom K a = (a', some (l, w))) : lg_L l := by
  unfold pm_atom at h
  by_cases c1 : pm_alone (K a) = true
  · rw [if_pos c1] at h
    simp at h
    obtain ⟨rfl, rfl, rfl⟩ := h
    exact trivial
  · rw [if_neg c1] at h
    by_cases c2 : K a = 15
    · rw [if_pos c2] at h
      by_cases c3 : K (a + 1) = 16
      · rw [if_pos c3] at h
        simp at h
        obtain ⟨rfl, rfl, rfl⟩ := h
        exact trivial
      · rw [if_neg c3] at h
        simp at h
        obtain ⟨rfl, rfl, rfl⟩ := h
        exact ⟨by unfold lg_1; simp, by unfold lg_1; simp, trivial⟩
    · rw [if_neg c2] at h
      by_cases c4 : K a = 6
      · rw [if_pos c4] at h
        simp at h
        obtain ⟨rfl, rfl, rfl⟩ := h
        exact ⟨by unfold lg_1; simp, by unfold lg_1; simp, trivial⟩
      · rw [if_neg c4] at h
        simp at h
theorem lg_decl (h : pm_decl K a = (a', some (l, w))) : lg_L l := by
  unfold pm_decl at h
  by_cases c1 : K a = 7
  · rw [if_pos c1] at h
    by_cases c2 : K (a + 1) = 3
    · rw [if_pos c2] at h
      by_cases c3 : K (a + 2) = 9
      · rw [if_pos c3] at h
        simp at h
        obtain ⟨rfl, rfl, rfl⟩ := h
        exact ⟨by unfold lg_1; simp, by unfold lg_1; simp, trivial⟩
      · rw [if_neg c3] at h
        simp at h
    · rw [if_neg c2] at h
      simp at h
  · rw [if_neg c1] at h
    by_cases c4 : K a = 8
    · rw [if_pos c4] at h
      by_cases c5 : K (a + 1) = 3
      · rw [if_pos c5] at h
        by_cases c6 : K (a + 2) = 3
        · rw [if_pos c6] at h
          by_cases c7 : K (pm_nq K 24 (a + 3)) = 9
          · rw [if_pos c7] at h
            have g := (pm_nq_ge (K := K) 24 (a + 3)).1
            simp at h
            obtain ⟨rfl, rfl, rfl⟩ := h
            exact ⟨by unfold lg_1; simp, by unfold lg_1; simp, trivial⟩
          · rw [if_neg c7] at h
            simp at h
        · rw [if_neg c6] at h
          simp at h
      · rw [if_neg c5] at h
        simp at h
    · rw [if_neg c4] at h
      simp at h
theorem lg_expr (h : pm_expr K a = (a', some (l, w))) : lg_L l := by
  unfold pm_expr at h
  by_cases c1 : K a = 4
  · rw [if_pos c1] at h
    by_cases c2 : K (a + 1) = 3
    · rw [if_pos c2] at h
      by_cases c3 : K (a + 2) = 5
      · rw [if_pos c3] at h
        simp at h
        obtain ⟨rfl, rfl, rfl⟩ := h
        exact ⟨by unfold lg_1; simp, by unfold lg_1; simp, trivial⟩
      · rw [if_neg c3] at h
        simp at h
    · rw [if_neg c2] at h
      simp at h
  · rw [if_neg c1] at h
    by_cases c4 : K a = 12
    · rw [if_pos c4] at h
      simp at h
      obtain ⟨rfl, rfl, rfl⟩ := h
      exact ⟨by unfold lg_1; simp, by unfold lg_1; simp, by unfold lg_1; simp, by unfold lg_1; simp, by unfold lg_1; simp, by unfold lg_1; simp, trivial⟩
    · rw [if_neg c4] at h
      simp at h
      obtain ⟨rfl, rfl, rfl⟩ := h
      exact ⟨by unfold lg_1; simp, by unfold lg_1; simp, by unfold lg_1; simp, by unfold lg_1; simp, by unfold lg_1; simp, by unfold lg_1; simp, trivial⟩
theorem lg_apl (h : pm_apl K a = (a', some (l, w))) : lg_L l := by
  unfold pm_apl at h
  cases e : (pm_atom K a).2 with
  | none =>
    rw [e] at h
    simp at h
    obtain ⟨rfl, rfl, rfl⟩ := h
    trivial
  | some x =>
    obtain ⟨l0, w0⟩ := x
    rw [e] at h
    simp at h
    obtain ⟨rfl, rfl, rfl⟩ := h
    have z := lg_atom (K := K) (a := a) (a' := (pm_atom K a).1) (l := l0) (w := w0) (by rw [← e])
    exact lg_a _ _ z ⟨by unfold lg_1; simp, by unfold lg_1; simp, trivial⟩
theorem lg_turn (h : pm_turn K s p a = (a', some (l, w))) : lg_L l := by
  unfold pm_turn at h
  by_cases s0 : 80 ≤ s
  · rw [if_pos s0] at h
    simp at h
    obtain ⟨rfl, rfl, rfl⟩ := h
    exact trivial
  · rw [if_neg s0] at h
    by_cases s1 : s < 38
    · rw [if_pos s1] at h
      by_cases c1 : K a = s
      · rw [if_pos c1] at h
        simp at h
        obtain ⟨rfl, rfl, rfl⟩ := h
        exact trivial
      · rw [if_neg c1] at h
        simp at h
    · rw [if_neg s1] at h
      by_cases s2 : s = 40
      · rw [if_pos s2] at h
        exact lg_decl h
      · rw [if_neg s2] at h
        by_cases s3 : s = 42
        · rw [if_pos s3] at h
          exact lg_expr h
        · rw [if_neg s3] at h
          by_cases s4 : s = 44
          · rw [if_pos s4] at h
            by_cases c2 : K a = 17
            · rw [if_pos c2] at h
              simp at h
              obtain ⟨rfl, rfl, rfl⟩ := h
              exact ⟨by unfold lg_1; simp, by unfold lg_1; simp, by unfold lg_1; simp, trivial⟩
            · rw [if_neg c2] at h
              by_cases c3 : K a = 16
              · rw [if_pos c3] at h
                simp at h
                obtain ⟨rfl, rfl, rfl⟩ := h
                exact trivial
              · rw [if_neg c3] at h
                simp at h
          · rw [if_neg s4] at h
            by_cases s5 : s = 45
            · rw [if_pos s5] at h
              simp at h
              obtain ⟨rfl, rfl, rfl⟩ := h
              exact ⟨by unfold lg_1; simp, by unfold lg_1; simp, by unfold lg_1; simp, by unfold lg_1; simp, trivial⟩
            · rw [if_neg s5] at h
              by_cases s6 : s = 46
              · rw [if_pos s6] at h
                by_cases c4 : K a = 10
                · rw [if_pos c4] at h
                  simp at h
                  obtain ⟨rfl, rfl, rfl⟩ := h
                  exact ⟨by unfold lg_1; simp, by unfold lg_1; simp, trivial⟩
                · rw [if_neg c4] at h
                  simp at h
              · rw [if_neg s6] at h
                by_cases s7 : s = 47
                · rw [if_pos s7] at h
                  by_cases c5 : K a = 11
                  · rw [if_pos c5] at h
                    simp at h
                    obtain ⟨rfl, rfl, rfl⟩ := h
                    exact trivial
                  · rw [if_neg c5] at h
                    simp at h
                · rw [if_neg s7] at h
                  by_cases s8 : s = 50
                  · rw [if_pos s8] at h
                    by_cases c6 : K a = 25
                    · rw [if_pos c6] at h
                      simp at h
                      obtain ⟨rfl, rfl, rfl⟩ := h
                      exact ⟨by unfold lg_1; simp, by unfold lg_1; simp, by unfold lg_1; simp, by unfold lg_1; simp, by unfold lg_1; simp, by unfold lg_1; simp, by unfold lg_1; simp, trivial⟩
                    · rw [if_neg c6] at h
                      simp at h
                      obtain ⟨rfl, rfl, rfl⟩ := h
                      exact trivial
                  · rw [if_neg s8] at h
                    by_cases s9 : s = 51
                    · rw [if_pos s9] at h
                      by_cases c7 : K a = 18
                      · rw [if_pos c7] at h
                        simp at h
                        obtain ⟨rfl, rfl, rfl⟩ := h
                        exact ⟨by unfold lg_1; simp, by unfold lg_1; simp, by unfold lg_1; simp, by unfold lg_1; simp, by unfold lg_1; simp, by unfold lg_1; simp, trivial⟩
                      · rw [if_neg c7] at h
                        simp at h
                        obtain ⟨rfl, rfl, rfl⟩ := h
                        exact trivial
                    · rw [if_neg s9] at h
                      by_cases s10 : s = 52
                      · rw [if_pos s10] at h
                        by_cases c8 : K a = 21
                        · rw [if_pos c8] at h
                          simp at h
                          obtain ⟨rfl, rfl, rfl⟩ := h
                          exact ⟨by unfold lg_1; simp, by unfold lg_1; simp, by unfold lg_1; simp, by unfold lg_1; simp, by unfold lg_1; simp, trivial⟩
                        · rw [if_neg c8] at h
                          simp at h
                          obtain ⟨rfl, rfl, rfl⟩ := h
                          exact trivial
                      · rw [if_neg s10] at h
                        by_cases s11 : s = 53
                        · rw [if_pos s11] at h
                          by_cases c9 : K a = 19 ∨ K a = 20
                          · rw [if_pos c9] at h
                            simp at h
                            obtain ⟨rfl, rfl, rfl⟩ := h
                            exact ⟨by unfold lg_1; simp, by unfold lg_1; simp, by unfold lg_1; simp, by unfold lg_1; simp, trivial⟩
                          · rw [if_neg c9] at h
                            simp at h
                            obtain ⟨rfl, rfl, rfl⟩ := h
                            exact trivial
                        · rw [if_neg s11] at h
                          by_cases s12 : s = 54
                          · rw [if_pos s12] at h
                            exact lg_apl h
                          · rw [if_neg s12] at h
                            by_cases s13 : s = 55
                            · rw [if_pos s13] at h
                              exact lg_atom h
                            · rw [if_neg s13] at h
                              by_cases s14 : s = 60
                              · rw [if_pos s14] at h
                                by_cases c10 : K a = 37
                                · rw [if_pos c10] at h
                                  simp at h
                                  obtain ⟨rfl, rfl, rfl⟩ := h
                                  exact ⟨by unfold lg_1; simp, by unfold lg_1; simp, by unfold lg_1; simp, by unfold lg_1; simp, by unfold lg_1; simp, trivial⟩
                                · rw [if_neg c10] at h
                                  simp at h
                                  obtain ⟨rfl, rfl, rfl⟩ := h
                                  exact trivial
                              · rw [if_neg s14] at h
                                by_cases s15 : s = 61
                                · rw [if_pos s15] at h
                                  by_cases c11 : K a = 36
                                  · rw [if_pos c11] at h
                                    simp at h
                                    obtain ⟨rfl, rfl, rfl⟩ := h
                                    exact ⟨by unfold lg_1; simp, by unfold lg_1; simp, by unfold lg_1; simp, by unfold lg_1; simp, trivial⟩
                                  · rw [if_neg c11] at h
                                    simp at h
                                    obtain ⟨rfl, rfl, rfl⟩ := h
                                    exact trivial
                                · rw [if_neg s15] at h
                                  by_cases s16 : s = 62
                                  · rw [if_pos s16] at h
                                    by_cases c12 : K a = 34 ∨ K a = 23
                                    · rw [if_pos c12] at h
                                      simp at h
                                      obtain ⟨rfl, rfl, rfl⟩ := h
                                      exact ⟨by unfold lg_1; simp, trivial⟩
                                    · rw [if_neg c12] at h
                                      simp at h
                                      obtain ⟨rfl, rfl, rfl⟩ := h
                                      exact trivial
                                  · rw [if_neg s16] at h
                                    by_cases s17 : s = 63
                                    · rw [if_pos s17] at h
                                      by_cases c13 : K a = 15
                                      · rw [if_pos c13] at h
                                        simp at h
                                        obtain ⟨rfl, rfl, rfl⟩ := h
                                        exact ⟨by unfold lg_1; simp, by unfold lg_1; simp, trivial⟩
                                      · rw [if_neg c13] at h
                                        by_cases c14 : (31 ≤ K a ∧ K a ≤ 33) ∨ K a = 35
                                        · rw [if_pos c14] at h
                                          simp at h
                                          obtain ⟨rfl, rfl, rfl⟩ := h
                                          exact trivial
                                        · rw [if_neg c14] at h
                                          simp at h
                                    · rw [if_neg s17] at h
                                      simp at h
end
