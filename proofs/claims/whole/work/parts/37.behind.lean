/-! what stands behind an atom, and where a val's name is -/
def pm_nb (a : Nat) : pm_L → Prop
  | [] => True
  | x :: ss => (x.1 = 55 → ∃ q r, ss = (54, q) :: r) ∧ (x.1 = 89 → x.2 + 1 < a) ∧ pm_nb a ss
theorem pm_nb_m {a a' : Nat} (h : a ≤ a') : ∀ ss, pm_nb a ss → pm_nb a' ss := by
  intro ss
  induction ss with
  | nil => intro _; trivial
  | cons x ss ih => intro q; exact ⟨q.1, fun z => by have := q.2.1 z; omega, ih q.2.2⟩
theorem pm_nb_c {a : Nat} {x : Nat × Nat} {ss : pm_L} (h1 : x.1 ≠ 55) (h2 : x.1 ≠ 89) (h : pm_nb a ss) : pm_nb a (x :: ss) := ⟨fun z => (h1 z).elim, fun z => (h2 z).elim, h⟩
theorem pm_nb_5 {a q : Nat} {x : Nat × Nat} {ss : pm_L} (h2 : x.1 ≠ 89) (h : pm_nb a ((54, q) :: ss)) : pm_nb a (x :: (54, q) :: ss) := ⟨fun _ => ⟨q, ss, rfl⟩, fun z => (h2 z).elim, h⟩
section
variable {K : Nat → Nat} {c a a' s p : Nat} {l w ss : pm_L}
theorem pm_nb_atom (hb : pm_nb a ss) (h : pm_atom K a = (a', some (l, w))) : pm_nb a' (l ++ ss) := by
  unfold pm_atom at h
  by_cases c1 : pm_alone (K a) = true
  · rw [if_pos c1] at h
    simp at h
    obtain ⟨rfl, rfl, rfl⟩ := h
    exact (pm_nb_m (by omega) ss hb)
  · rw [if_neg c1] at h
    by_cases c2 : K a = 15
    · rw [if_pos c2] at h
      by_cases c3 : K (a + 1) = 16
      · rw [if_pos c3] at h
        simp at h
        obtain ⟨rfl, rfl, rfl⟩ := h
        exact (pm_nb_m (by omega) ss hb)
      · rw [if_neg c3] at h
        simp at h
        obtain ⟨rfl, rfl, rfl⟩ := h
        exact (pm_nb_c (by simp) (by simp) (pm_nb_c (by simp) (by simp) (pm_nb_m (by omega) ss hb)))
    · rw [if_neg c2] at h
      by_cases c4 : K a = 6
      · rw [if_pos c4] at h
        simp at h
        obtain ⟨rfl, rfl, rfl⟩ := h
        exact (pm_nb_c (by simp) (by simp) (pm_nb_c (by simp) (by simp) (pm_nb_m (by omega) ss hb)))
      · rw [if_neg c4] at h
        simp at h
theorem pm_nb_decl (hb : pm_nb a ss) (h : pm_decl K a = (a', some (l, w))) : pm_nb a' (l ++ ss) := by
  unfold pm_decl at h
  by_cases c1 : K a = 7
  · rw [if_pos c1] at h
    by_cases c2 : K (a + 1) = 3
    · rw [if_pos c2] at h
      by_cases c3 : K (a + 2) = 9
      · rw [if_pos c3] at h
        simp at h
        obtain ⟨rfl, rfl, rfl⟩ := h
        exact (pm_nb_c (by simp) (by simp) (⟨fun z => (by simp at z), fun _ => (by show a + 1 < a + 3; omega), (pm_nb_m (by omega) ss hb)⟩ : pm_nb (a + 3) ((89, a) :: ss)))
      · rw [if_neg c3] at h
        simp at h
    · rw [if_neg c2] at h
      simp at h
  · rw [if_neg c1] at h
    by_cases c4 : K a = 8
    · rw [if_pos c4] at h
      by_cases c5 : K (a + 1) = 3
      · rw [if_pos c5] at h
        by_cases c6 : K (a + 2) = 3
        · rw [if_pos c6] at h
          by_cases c7 : K (pm_nq K 24 (a + 3)) = 9
          · rw [if_pos c7] at h
            have g := (pm_nq_ge (K := K) 24 (a + 3)).1
            simp at h
            obtain ⟨rfl, rfl, rfl⟩ := h
            exact (pm_nb_c (by simp) (by simp) (pm_nb_c (by simp) (by simp) (pm_nb_m (by omega) ss hb)))
          · rw [if_neg c7] at h
            simp at h
        · rw [if_neg c6] at h
          simp at h
      · rw [if_neg c5] at h
        simp at h
    · rw [if_neg c4] at h
      simp at h
theorem pm_nb_expr (hb : pm_nb a ss) (h : pm_expr K a = (a', some (l, w))) : pm_nb a' (l ++ ss) := by
  unfold pm_expr at h
  by_cases c1 : K a = 4
  · rw [if_pos c1] at h
    by_cases c2 : K (a + 1) = 3
    · rw [if_pos c2] at h
      by_cases c3 : K (a + 2) = 5
      · rw [if_pos c3] at h
        simp at h
        obtain ⟨rfl, rfl, rfl⟩ := h
        exact (pm_nb_c (by simp) (by simp) (pm_nb_c (by simp) (by simp) (pm_nb_m (by omega) ss hb)))
      · rw [if_neg c3] at h
        simp at h
    · rw [if_neg c2] at h
      simp at h
  · rw [if_neg c1] at h
    by_cases c4 : K a = 12
    · rw [if_pos c4] at h
      simp at h
      obtain ⟨rfl, rfl, rfl⟩ := h
      exact (pm_nb_c (by simp) (by simp) (pm_nb_c (by simp) (by simp) (pm_nb_c (by simp) (by simp) (pm_nb_c (by simp) (by simp) (pm_nb_c (by simp) (by simp) (pm_nb_c (by simp) (by simp) (pm_nb_m (by omega) ss hb)))))))
    · rw [if_neg c4] at h
      simp at h
      obtain ⟨rfl, rfl, rfl⟩ := h
      exact (pm_nb_5 (by simp) (pm_nb_c (by simp) (by simp) (pm_nb_c (by simp) (by simp) (pm_nb_c (by simp) (by simp) (pm_nb_c (by simp) (by simp) (pm_nb_c (by simp) (by simp) (pm_nb_m (by omega) ss hb)))))))
theorem pm_nb_apl (hb : pm_nb a ss) (h : pm_apl K a = (a', some (l, w))) : pm_nb a' (l ++ ss) := by
  unfold pm_apl at h
  cases e : (pm_atom K a).2 with
  | none =>
    rw [e] at h
    simp at h
    obtain ⟨rfl, rfl, rfl⟩ := h
    exact hb
  | some x =>
    obtain ⟨l0, w0⟩ := x
    rw [e] at h
    simp at h
    obtain ⟨rfl, rfl, rfl⟩ := h
    have z := pm_nb_atom (ss := (82, a) :: (54, 0) :: ss) (K := K) (a := a) (a' := (pm_atom K a).1) (l := l0) (w := w0) (pm_nb_c (by simp) (by simp) (pm_nb_c (by simp) (by simp) hb)) (by rw [← e])
    simpa using z
theorem pm_nb_turn (hb : pm_nb a ss) (h : pm_turn K s p a = (a', some (l, w))) : pm_nb a' (l ++ ss) := by
  unfold pm_turn at h
  by_cases s0 : 80 ≤ s
  · rw [if_pos s0] at h
    simp at h
    obtain ⟨rfl, rfl, rfl⟩ := h
    exact (pm_nb_m (by omega) ss hb)
  · rw [if_neg s0] at h
    by_cases s1 : s < 38
    · rw [if_pos s1] at h
      by_cases c1 : K a = s
      · rw [if_pos c1] at h
        simp at h
        obtain ⟨rfl, rfl, rfl⟩ := h
        exact (pm_nb_m (by omega) ss hb)
      · rw [if_neg c1] at h
        simp at h
    · rw [if_neg s1] at h
      by_cases s2 : s = 40
      · rw [if_pos s2] at h
        exact pm_nb_decl hb h
      · rw [if_neg s2] at h
        by_cases s3 : s = 42
        · rw [if_pos s3] at h
          exact pm_nb_expr hb h
        · rw [if_neg s3] at h
          by_cases s4 : s = 44
          · rw [if_pos s4] at h
            by_cases c2 : K a = 17
            · rw [if_pos c2] at h
              simp at h
              obtain ⟨rfl, rfl, rfl⟩ := h
              exact (pm_nb_c (by simp) (by simp) (pm_nb_c (by simp) (by simp) (pm_nb_c (by simp) (by simp) (pm_nb_m (by omega) ss hb))))
            · rw [if_neg c2] at h
              by_cases c3 : K a = 16
              · rw [if_pos c3] at h
                simp at h
                obtain ⟨rfl, rfl, rfl⟩ := h
                exact (pm_nb_m (by omega) ss hb)
              · rw [if_neg c3] at h
                simp at h
          · rw [if_neg s4] at h
            by_cases s5 : s = 45
            · rw [if_pos s5] at h
              simp at h
              obtain ⟨rfl, rfl, rfl⟩ := h
              exact (pm_nb_c (by simp) (by simp) (pm_nb_c (by simp) (by simp) (pm_nb_c (by simp) (by simp) (pm_nb_c (by simp) (by simp) (pm_nb_m (by omega) ss hb)))))
            · rw [if_neg s5] at h
              by_cases s6 : s = 46
              · rw [if_pos s6] at h
                by_cases c4 : K a = 10
                · rw [if_pos c4] at h
                  simp at h
                  obtain ⟨rfl, rfl, rfl⟩ := h
                  exact (pm_nb_c (by simp) (by simp) (pm_nb_c (by simp) (by simp) (pm_nb_m (by omega) ss hb)))
                · rw [if_neg c4] at h
                  simp at h
              · rw [if_neg s6] at h
                by_cases s7 : s = 47
                · rw [if_pos s7] at h
                  by_cases c5 : K a = 11
                  · rw [if_pos c5] at h
                    simp at h
                    obtain ⟨rfl, rfl, rfl⟩ := h
                    exact (pm_nb_m (by omega) ss hb)
                  · rw [if_neg c5] at h
                    simp at h
                · rw [if_neg s7] at h
                  by_cases s8 : s = 50
                  · rw [if_pos s8] at h
                    by_cases c6 : K a = 25
                    · rw [if_pos c6] at h
                      simp at h
                      obtain ⟨rfl, rfl, rfl⟩ := h
                      exact (pm_nb_5 (by simp) (pm_nb_c (by simp) (by simp) (pm_nb_c (by simp) (by simp) (pm_nb_c (by simp) (by simp) (pm_nb_c (by simp) (by simp) (pm_nb_c (by simp) (by simp) (pm_nb_c (by simp) (by simp) (pm_nb_m (by omega) ss hb))))))))
                    · rw [if_neg c6] at h
                      simp at h
                      obtain ⟨rfl, rfl, rfl⟩ := h
                      exact (pm_nb_m (by omega) ss hb)
                  · rw [if_neg s8] at h
                    by_cases s9 : s = 51
                    · rw [if_pos s9] at h
                      by_cases c7 : K a = 18
                      · rw [if_pos c7] at h
                        simp at h
                        obtain ⟨rfl, rfl, rfl⟩ := h
                        exact (pm_nb_5 (by simp) (pm_nb_c (by simp) (by simp) (pm_nb_c (by simp) (by simp) (pm_nb_c (by simp) (by simp) (pm_nb_c (by simp) (by simp) (pm_nb_c (by simp) (by simp) (pm_nb_m (by omega) ss hb)))))))
                      · rw [if_neg c7] at h
                        simp at h
                        obtain ⟨rfl, rfl, rfl⟩ := h
                        exact (pm_nb_m (by omega) ss hb)
                    · rw [if_neg s9] at h
                      by_cases s10 : s = 52
                      · rw [if_pos s10] at h
                        by_cases c8 : K a = 21
                        · rw [if_pos c8] at h
                          simp at h
                          obtain ⟨rfl, rfl, rfl⟩ := h
                          exact (pm_nb_5 (by simp) (pm_nb_c (by simp) (by simp) (pm_nb_c (by simp) (by simp) (pm_nb_c (by simp) (by simp) (pm_nb_c (by simp) (by simp) (pm_nb_m (by omega) ss hb))))))
                        · rw [if_neg c8] at h
                          simp at h
                          obtain ⟨rfl, rfl, rfl⟩ := h
                          exact (pm_nb_m (by omega) ss hb)
                      · rw [if_neg s10] at h
                        by_cases s11 : s = 53
                        · rw [if_pos s11] at h
                          by_cases c9 : K a = 19 ∨ K a = 20
                          · rw [if_pos c9] at h
                            simp at h
                            obtain ⟨rfl, rfl, rfl⟩ := h
                            exact (pm_nb_5 (by simp) (pm_nb_c (by simp) (by simp) (pm_nb_c (by simp) (by simp) (pm_nb_c (by simp) (by simp) (pm_nb_m (by omega) ss hb)))))
                          · rw [if_neg c9] at h
                            simp at h
                            obtain ⟨rfl, rfl, rfl⟩ := h
                            exact (pm_nb_m (by omega) ss hb)
                        · rw [if_neg s11] at h
                          by_cases s12 : s = 54
                          · rw [if_pos s12] at h
                            exact pm_nb_apl hb h
                          · rw [if_neg s12] at h
                            by_cases s13 : s = 55
                            · rw [if_pos s13] at h
                              exact pm_nb_atom hb h
                            · rw [if_neg s13] at h
                              by_cases s14 : s = 60
                              · rw [if_pos s14] at h
                                by_cases c10 : K a = 37
                                · rw [if_pos c10] at h
                                  simp at h
                                  obtain ⟨rfl, rfl, rfl⟩ := h
                                  exact (pm_nb_c (by simp) (by simp) (pm_nb_c (by simp) (by simp) (pm_nb_c (by simp) (by simp) (pm_nb_c (by simp) (by simp) (pm_nb_c (by simp) (by simp) (pm_nb_m (by omega) ss hb))))))
                                · rw [if_neg c10] at h
                                  simp at h
                                  obtain ⟨rfl, rfl, rfl⟩ := h
                                  exact (pm_nb_m (by omega) ss hb)
                              · rw [if_neg s14] at h
                                by_cases s15 : s = 61
                                · rw [if_pos s15] at h
                                  by_cases c11 : K a = 36
                                  · rw [if_pos c11] at h
                                    simp at h
                                    obtain ⟨rfl, rfl, rfl⟩ := h
                                    exact (pm_nb_c (by simp) (by simp) (pm_nb_c (by simp) (by simp) (pm_nb_c (by simp) (by simp) (pm_nb_c (by simp) (by simp) (pm_nb_m (by omega) ss hb)))))
                                  · rw [if_neg c11] at h
                                    simp at h
                                    obtain ⟨rfl, rfl, rfl⟩ := h
                                    exact (pm_nb_m (by omega) ss hb)
                                · rw [if_neg s15] at h
                                  by_cases s16 : s = 62
                                  · rw [if_pos s16] at h
                                    by_cases c12 : K a = 34 ∨ K a = 23
                                    · rw [if_pos c12] at h
                                      simp at h
                                      obtain ⟨rfl, rfl, rfl⟩ := h
                                      exact (pm_nb_c (by simp) (by simp) (pm_nb_m (by omega) ss hb))
                                    · rw [if_neg c12] at h
                                      simp at h
                                      obtain ⟨rfl, rfl, rfl⟩ := h
                                      exact (pm_nb_m (by omega) ss hb)
                                  · rw [if_neg s16] at h
                                    by_cases s17 : s = 63
                                    · rw [if_pos s17] at h
                                      by_cases c13 : K a = 15
                                      · rw [if_pos c13] at h
                                        simp at h
                                        obtain ⟨rfl, rfl, rfl⟩ := h
                                        exact (pm_nb_c (by simp) (by simp) (pm_nb_c (by simp) (by simp) (pm_nb_m (by omega) ss hb)))
                                      · rw [if_neg c13] at h
                                        by_cases c14 : (31 ≤ K a ∧ K a ≤ 33) ∨ K a = 35
                                        · rw [if_pos c14] at h
                                          simp at h
                                          obtain ⟨rfl, rfl, rfl⟩ := h
                                          exact (pm_nb_m (by omega) ss hb)
                                        · rw [if_neg c14] at h
                                          simp at h
                                    · rw [if_neg s17] at h
                                      simp at h
end
