/-! what a turn costs -/
def cq_ad (ss : pm_L) : Prop := (∀ y, y ∈ ss → y.1 ≠ 40) ∧ cq_adj ss
theorem cq_ad_c {x : Nat × Nat} {ss : pm_L} (h1 : x.1 ≠ 40) (h2 : x.1 ≠ 88) (h3 : x.1 ≠ 89) (h : cq_ad ss) : cq_ad (x :: ss) := by
  refine ⟨fun y hy => ?_, fun z => ?_, h.1, h.2⟩
  · rcases List.mem_cons.mp hy with z | z
    · rw [z]; exact h1
    · exact h.1 y z
  · omega
theorem cq_ad_d {s p : Nat} {ss : pm_L} (hs : s = 88 ∨ s = 89) (h : ss = [] ∨ ∃ q r, ss = (46, q) :: r) (h' : cq_ad ss) : cq_ad ((s, p) :: ss) := by
  refine ⟨fun y hy => ?_, fun _ => h, h'.1, h'.2⟩
  rcases List.mem_cons.mp hy with z | z
  · rw [z]; show s ≠ 40; omega
  · exact h'.1 y z
section
variable {K mq : Nat → Nat} {c a a' s p : Nat} {l w ss : pm_L} {x : Nat × Nat × Nat}
def cq_Q (K mq : Nat → Nat) (c a' : Nat) (l w ss : pm_L) (x : Nat × Nat × Nat) : Prop := (w = [] ∧ cq_I mq c (l ++ ss) a' x) ∨ ∃ s' p', w = [(s', p')] ∧ cq_I mq c (l ++ ss) a' (cr_1 K mq x s' p')
theorem cq_ss (C : cq_I mq c ((s, p) :: ss) a x) : cq_ad ss := ⟨C.2.2.2.1, C.2.2.2.2⟩
theorem cq_nx (C : cq_I mq c ((s, p) :: ss) a x) : (s = 40 ∨ s = 88 ∨ s = 89 → ss = [] ∨ ∃ q r, ss = (46, q) :: r) := C.2.2.1
theorem cq_atom (hK : ∀ i, c ≤ i → K i = 99) (hs : s = 55) (ht : pm_atom K a = (a', some (l, w))) (C : cq_I mq c ((s, p) :: ss) a x) (h82 : cq_h ss = 0) : cq_Q K mq c a' l w ss x := by
  subst hs
  have z40 : cq_40 ss = 0 := cq_40_0 (cq_ss C).1
  unfold pm_atom at ht
  by_cases c1 : pm_alone (K a) = true
  · rw [if_pos c1] at ht
    have q := pm_alone_lt hK c1
    simp at ht
    obtain ⟨rfl, rfl, rfl⟩ := ht
    refine Or.inr ⟨80, a, rfl, cq_emit (k := 1) C (by decide) (by decide) (cq_ss C).2 (by simp [cq_46_c, cq_40_c, cq_h_c, cq_p_c, cq_w, cr_c, z40] <;> omega) (by by_cases k3 : K a = 3 <;> simp [cq_46_c, cq_40_c, cq_h_c, cq_p_c, cq_w, cr_c, k3] <;> omega)⟩
  · rw [if_neg c1] at ht
    by_cases c2 : K a = 15
    · rw [if_pos c2] at ht
      have q := pm_lt hK c2 (by decide)
      by_cases c3 : K (a + 1) = 16
      · rw [if_pos c3] at ht
        have q := pm_lt hK c3 (by decide)
        simp at ht
        obtain ⟨rfl, rfl, rfl⟩ := ht
        exact Or.inr ⟨81, a + 1, rfl, cq_emit (k := 2) C (by decide) (by decide) (cq_ss C).2 (by simp [cq_46_c, cq_40_c, cq_h_c, cq_p_c, cq_w, cr_c, z40] <;> omega) (by simp [cq_46_c, cq_40_c, cq_h_c, cq_p_c, cq_w, cr_c] <;> omega)⟩
      · rw [if_neg c3] at ht
        simp at ht
        obtain ⟨rfl, rfl, rfl⟩ := ht
        exact Or.inl ⟨rfl, cq_step (k := 1) C (by decide) (by omega) (by omega) (cq_ad_c (by simp) (by simp) (by simp) (cq_ad_c (by simp) (by simp) (by simp) (cq_ss C))).2 (by simp [cq_46_c, cq_40_c, cq_h_c, cq_p_c, cq_w, cr_c, z40] <;> omega) (by simp [cq_46_c, cq_40_c, cq_h_c, cq_p_c, cq_w, cr_c] <;> omega)⟩
    · rw [if_neg c2] at ht
      by_cases c3 : K a = 6
      · rw [if_pos c3] at ht
        have q := pm_lt hK c3 (by decide)
        simp at ht
        obtain ⟨rfl, rfl, rfl⟩ := ht
        refine Or.inl ⟨rfl, cq_step (k := 0) C (by decide) (by omega) (by omega) ?_ (by simp [cq_46_c, cq_40_c, cq_h_c, cq_p_c, cq_w, cr_c] <;> omega) (by simp [cq_46_c, cq_40_c, cq_h_c, cq_p_c, cq_w, cr_c, h82] <;> omega)⟩
        have q2 := cq_ad_c (x := (46, a)) (by simp) (by simp) (by simp) (cq_ss C)
        exact ⟨fun _ => Or.inr ⟨a, ss, rfl⟩, q2.1, q2.2⟩
      · rw [if_neg c3] at ht
        simp at ht
theorem cq_apl (hK : ∀ i, c ≤ i → K i = 99) (hs : s = 54) (ht : pm_apl K a = (a', some (l, w))) (ha : a ≤ c) (C : cq_I mq c ((s, p) :: ss) a x) : cq_Q K mq c a' l w ss x := by
  subst hs
  have z40 : cq_40 ss = 0 := cq_40_0 (cq_ss C).1
  unfold pm_apl at ht
  cases e : (pm_atom K a).2 with
  | none =>
    rw [e] at ht
    simp at ht
    obtain ⟨rfl, rfl, rfl⟩ := ht
    exact Or.inl ⟨rfl, cq_step (k := 0) (l := []) C (by decide) ha (Nat.le_refl _) (cq_ss C).2 (by simp [cq_46_c, cq_40_c, cq_h_c, cq_p_c, cq_w, cr_c, z40]) (by simp [cq_46_c, cq_40_c, cq_h_c, cq_p_c, cq_w, cr_c])⟩
  | some y =>
    obtain ⟨l0, w0⟩ := y
    rw [e] at ht
    simp at ht
    obtain ⟨e1, e2, e3⟩ := ht
    have q8 := cq_ad_c (x := (82, a)) (by simp) (by simp) (by simp) (cq_ad_c (x := (54, 0)) (by simp) (by simp) (by simp) (cq_ss C))
    unfold pm_atom at e e1
    by_cases c1 : pm_alone (K a) = true
    · rw [if_pos c1] at e e1
      have q := pm_alone_lt hK c1
      simp at e e1
      obtain ⟨rfl, rfl⟩ := e
      subst e1 e2 e3
      exact Or.inr ⟨80, a, rfl, cq_emit (k := 1) (l := [(82, a), (54, 0)]) C (by decide) (by decide) q8.2 (by simp [cq_46_c, cq_40_c, cq_h_c, cq_p_c, cq_w, cr_c] <;> omega) (by by_cases k3 : K a = 3 <;> simp [cq_46_c, cq_40_c, cq_h_c, cq_p_c, cq_w, cr_c, k3] <;> omega)⟩
    · rw [if_neg c1] at e e1
      by_cases c2 : K a = 15
      · rw [if_pos c2] at e e1
        have q := pm_lt hK c2 (by decide)
        by_cases c3 : K (a + 1) = 16
        · rw [if_pos c3] at e e1
          have q := pm_lt hK c3 (by decide)
          simp at e e1
          obtain ⟨rfl, rfl⟩ := e
          subst e1 e2 e3
          exact Or.inr ⟨81, a + 1, rfl, cq_emit (k := 2) (l := [(82, a), (54, 0)]) C (by decide) (by decide) q8.2 (by simp [cq_46_c, cq_40_c, cq_h_c, cq_p_c, cq_w, cr_c] <;> omega) (by simp [cq_46_c, cq_40_c, cq_h_c, cq_p_c, cq_w, cr_c] <;> omega)⟩
        · rw [if_neg c3] at e e1
          simp at e e1
          obtain ⟨rfl, rfl⟩ := e
          subst e1 e2 e3
          exact Or.inl ⟨rfl, cq_step (k := 1) (l := [(42, 0), (44, 0), (82, a), (54, 0)]) C (by decide) (by omega) (by omega) (cq_ad_c (by simp) (by simp) (by simp) (cq_ad_c (x := (44, 0)) (by simp) (by simp) (by simp) q8)).2 (by simp [cq_46_c, cq_40_c, cq_h_c, cq_p_c, cq_w, cr_c] <;> omega) (by simp [cq_46_c, cq_40_c, cq_h_c, cq_p_c, cq_w, cr_c] <;> omega)⟩
      · rw [if_neg c2] at e e1
        by_cases c3 : K a = 6
        · rw [if_pos c3] at e e1
          have q := pm_lt hK c3 (by decide)
          simp at e e1
          obtain ⟨rfl, rfl⟩ := e
          subst e1 e2 e3
          refine Or.inl ⟨rfl, cq_step (k := 0) (l := [(40, 0), (46, a), (82, a), (54, 0)]) C (by decide) (by omega) (by omega) ?_ (by simp [cq_46_c, cq_40_c, cq_h_c, cq_p_c, cq_w, cr_c] <;> omega) (by simp [cq_46_c, cq_40_c, cq_h_c, cq_p_c, cq_w, cr_c] <;> omega)⟩
          have q2 := cq_ad_c (x := (46, a)) (by simp) (by simp) (by simp) q8
          exact ⟨fun _ => Or.inr ⟨a, _, rfl⟩, q2.1, q2.2⟩
        · rw [if_neg c3] at e e1
          simp at e
theorem cq_decl (hK : ∀ i, c ≤ i → K i = 99) (hm : ∀ q, mq q = pm_nq K 24 (q + 3) - (q + 1)) (hs : s = 40) (ht : pm_decl K a = (a', some (l, w))) (C : cq_I mq c ((s, p) :: ss) a x) : cq_Q K mq c a' l w ss x := by
  subst hs
  have z40 : cq_40 ss = 0 := cq_40_0 (cq_ss C).1
  have nx := cq_nx C (Or.inl rfl)
  have h0 : cq_h ss = 0 := by
    rcases nx with z | ⟨q, r, z⟩
    · rw [z]; rfl
    · rw [z]; rfl
  unfold pm_decl at ht
  by_cases c1 : K a = 7
  · rw [if_pos c1] at ht
    by_cases c2 : K (a + 1) = 3
    · rw [if_pos c2] at ht
      by_cases c3 : K (a + 2) = 9
      · rw [if_pos c3] at ht
        have q := pm_lt hK c3 (by decide)
        simp at ht
        obtain ⟨rfl, rfl, rfl⟩ := ht
        exact Or.inl ⟨rfl, cq_step (k := 0) C (by decide) (by omega) (by omega) (cq_ad_c (by simp) (by simp) (by simp) (cq_ad_d (Or.inr rfl) nx (cq_ss C))).2 (by simp [cq_46_c, cq_40_c, cq_h_c, cq_p_c, cq_w, cr_c] <;> omega) (by simp [cq_46_c, cq_40_c, cq_h_c, cq_p_c, cq_w, cr_c, h0] <;> omega)⟩
      · rw [if_neg c3] at ht
        simp at ht
    · rw [if_neg c2] at ht
      simp at ht
  · rw [if_neg c1] at ht
    by_cases c4 : K a = 8
    · rw [if_pos c4] at ht
      by_cases c5 : K (a + 1) = 3
      · rw [if_pos c5] at ht
        by_cases c6 : K (a + 2) = 3
        · rw [if_pos c6] at ht
          by_cases c7 : K (pm_nq K 24 (a + 3)) = 9
          · rw [if_pos c7] at ht
            have q := pm_lt hK c7 (by decide)
            have g := (pm_nq_ge (K := K) 24 (a + 3)).1
            have em := hm a
            simp at ht
            obtain ⟨rfl, rfl, rfl⟩ := ht
            generalize eq : pm_nq K 24 (a + 3) = r at q g em c7
            refine Or.inr ⟨87, a, rfl, cq_emit (k := mq a - 1) C (by decide) (by decide) (cq_ad_c (by simp) (by simp) (by simp) (cq_ad_d (Or.inl rfl) nx (cq_ss C))).2 (by simp [cq_46_c, cq_40_c, cq_h_c, cq_p_c, cq_w, cr_c] <;> omega) ?_⟩
            have m2 : 2 ≤ mq a := by omega
            have big : (mq a - 1) * 15 ≤ (mq a - 1) * (Nat.max x.2.1 x.2.2 + 15) := Nat.mul_le_mul_left _ (by omega)
            simp [cq_46_c, cq_40_c, cq_h_c, cq_p_c, cq_w, cr_c, h0]
            omega
          · rw [if_neg c7] at ht
            simp at ht
        · rw [if_neg c6] at ht
          simp at ht
      · rw [if_neg c5] at ht
        simp at ht
    · rw [if_neg c4] at ht
      simp at ht
theorem cq_expr (hK : ∀ i, c ≤ i → K i = 99) (ha : a ≤ c) (hs : s = 42) (ht : pm_expr K a = (a', some (l, w))) (C : cq_I mq c ((s, p) :: ss) a x) : cq_Q K mq c a' l w ss x := by
  subst hs
  have z40 : cq_40 ss = 0 := cq_40_0 (cq_ss C).1
  unfold pm_expr at ht
  by_cases c1 : K a = 4
  · rw [if_pos c1] at ht
    by_cases c2 : K (a + 1) = 3
    · rw [if_pos c2] at ht
      by_cases c3 : K (a + 2) = 5
      · rw [if_pos c3] at ht
        have q := pm_lt hK c3 (by decide)
        simp at ht
        obtain ⟨rfl, rfl, rfl⟩ := ht
        exact Or.inr ⟨85, a, rfl, cq_emit (k := 3) C (by decide) (by decide) (cq_ad_c (by simp) (by simp) (by simp) (cq_ad_c (by simp) (by simp) (by simp) (cq_ss C))).2 (by simp [cq_46_c, cq_40_c, cq_h_c, cq_p_c, cq_w, cr_c] <;> omega) (by simp [cq_46_c, cq_40_c, cq_h_c, cq_p_c, cq_w, cr_c] <;> omega)⟩
      · rw [if_neg c3] at ht
        simp at ht
    · rw [if_neg c2] at ht
      simp at ht
  · rw [if_neg c1] at ht
    by_cases c4 : K a = 12
    · rw [if_pos c4] at ht
      have q := pm_lt hK c4 (by decide)
      simp at ht
      obtain ⟨rfl, rfl, rfl⟩ := ht
      exact Or.inl ⟨rfl, cq_step (k := 1) C (by decide) (by omega) (by omega) (cq_ad_c (by simp) (by simp) (by simp) (cq_ad_c (by simp) (by simp) (by simp) (cq_ad_c (by simp) (by simp) (by simp) (cq_ad_c (by simp) (by simp) (by simp) (cq_ad_c (by simp) (by simp) (by simp) (cq_ad_c (by simp) (by simp) (by simp) (cq_ss C))))))).2 (by simp [cq_46_c, cq_40_c, cq_h_c, cq_p_c, cq_w, cr_c] <;> omega) (by simp [cq_46_c, cq_40_c, cq_h_c, cq_p_c, cq_w, cr_c] <;> omega)⟩
    · rw [if_neg c4] at ht
      simp at ht
      obtain ⟨rfl, rfl, rfl⟩ := ht
      exact Or.inl ⟨rfl, cq_step (k := 0) C (by decide) (by omega) (by omega) (cq_ad_c (by simp) (by simp) (by simp) (cq_ad_c (by simp) (by simp) (by simp) (cq_ad_c (by simp) (by simp) (by simp) (cq_ad_c (by simp) (by simp) (by simp) (cq_ad_c (by simp) (by simp) (by simp) (cq_ad_c (by simp) (by simp) (by simp) (cq_ss C))))))).2 (by simp [cq_46_c, cq_40_c, cq_h_c, cq_p_c, cq_w, cr_c] <;> omega) (by simp [cq_46_c, cq_40_c, cq_h_c, cq_p_c, cq_w, cr_c] <;> omega)⟩
theorem cq_turn (hK : ∀ i, c ≤ i → K i = 99) (hm : ∀ q, mq q = pm_nq K 24 (q + 3) - (q + 1)) (ha : a ≤ c) (rs : s < 38 ∨ s = 40 ∨ s = 42 ∨ s = 44 ∨ s = 46 ∨ s = 47 ∨ s = 50 ∨ s = 51 ∨ s = 52 ∨ s = 53 ∨ s = 54 ∨ s = 55 ∨ s = 82 ∨ s = 83 ∨ s = 84 ∨ s = 86 ∨ s = 88 ∨ s = 89) (h55 : s = 55 → cq_h ss = 0) (ht : pm_turn K s p a = (a', some (l, w))) (C : cq_I mq c ((s, p) :: ss) a x) : cq_Q K mq c a' l w ss x := by
  have z40 : cq_40 ss = 0 := cq_40_0 (cq_ss C).1
  unfold pm_turn at ht
  by_cases s0 : 80 ≤ s
  · rw [if_pos s0] at ht
    simp at ht
    obtain ⟨rfl, rfl, rfl⟩ := ht
    refine Or.inr ⟨s, p, rfl, ?_⟩
    have hs' := pd_s80 rs s0
    rcases hs' with rfl | rfl | rfl | rfl | rfl | rfl
    · exact cq_emit (k := 0) (l := []) C (by decide) (by decide) (cq_ss C).2 (by simp [cq_46_c, cq_40_c, cq_h_c, cq_p_c, cq_w, cr_c, z40]) (by simp [cq_46_c, cq_40_c, cq_h_c, cq_p_c, cq_w, cr_c] <;> omega)
    · exact cq_emit (k := 0) (l := []) C (by decide) (by decide) (cq_ss C).2 (by simp [cq_46_c, cq_40_c, cq_h_c, cq_p_c, cq_w, cr_c, z40]) (by simp [cq_46_c, cq_40_c, cq_h_c, cq_p_c, cq_w, cr_c] <;> omega)
    · exact cq_emit (k := 0) (l := []) C (by decide) (by decide) (cq_ss C).2 (by simp [cq_46_c, cq_40_c, cq_h_c, cq_p_c, cq_w, cr_c, z40]) (by simp [cq_46_c, cq_40_c, cq_h_c, cq_p_c, cq_w, cr_c] <;> omega)
    · exact cq_emit (k := 0) (l := []) C (by decide) (by decide) (cq_ss C).2 (by simp [cq_46_c, cq_40_c, cq_h_c, cq_p_c, cq_w, cr_c, z40]) (by simp [cq_46_c, cq_40_c, cq_h_c, cq_p_c, cq_w, cr_c] <;> omega)
    · exact cq_end (k := 0) C (Or.inl rfl)
    · exact cq_end (k := 0) C (Or.inr rfl)
  rw [if_neg s0] at ht
  by_cases s1 : s < 38
  · rw [if_pos s1] at ht
    by_cases k : K a = s
    · rw [if_pos k] at ht
      have q := pm_lt hK k (by omega)
      simp at ht
      obtain ⟨rfl, rfl, rfl⟩ := ht
      have n1 : s ≠ 46 := by omega
      have n2 : s ≠ 40 := by omega
      have n3 : s ≠ 82 := by omega
      have n4 : s ≠ 83 := by omega
      have n5 : s ≠ 84 := by omega
      have n6 : s ≠ 86 := by omega
      have n7 : s ≠ 88 := by omega
      exact Or.inl ⟨rfl, cq_step (k := 0) (l := []) C n1 (by omega) (by omega) (cq_ss C).2 (by simp [cq_46_c, cq_40_c, cq_h_c, cq_p_c, cq_w, cr_c, z40, n1, n2] <;> omega) (by simp [cq_46_c, cq_40_c, cq_h_c, cq_p_c, cq_w, cr_c, n1, n3, n4, n5, n6, n7] <;> omega)⟩
    · rw [if_neg k] at ht
      simp at ht
  rw [if_neg s1] at ht
  have s2 := pd_s40 rs s0 s1
  rcases s2 with rfl | rfl | rfl | rfl | rfl | rfl | rfl | rfl | rfl | rfl | rfl
  · simp at ht
    exact cq_decl hK hm rfl ht C
  · simp at ht
    exact cq_expr hK ha rfl ht C
  · simp at ht
    by_cases k : K a = 17
    · rw [if_pos k] at ht
      have q := pm_lt hK k (by decide)
      simp at ht
      obtain ⟨rfl, rfl, rfl⟩ := ht
      exact Or.inl ⟨rfl, cq_step (k := 1) C (by decide) (by omega) (by omega) (cq_ad_c (by simp) (by simp) (by simp) (cq_ad_c (by simp) (by simp) (by simp) (cq_ad_c (by simp) (by simp) (by simp) (cq_ss C)))).2 (by simp [cq_46_c, cq_40_c, cq_h_c, cq_p_c, cq_w, cr_c] <;> omega) (by simp [cq_46_c, cq_40_c, cq_h_c, cq_p_c, cq_w, cr_c] <;> omega)⟩
    · rw [if_neg k] at ht
      by_cases k2 : K a = 16
      · rw [if_pos k2] at ht
        have q := pm_lt hK k2 (by decide)
        simp at ht
        obtain ⟨rfl, rfl, rfl⟩ := ht
        exact Or.inl ⟨rfl, cq_step (k := 0) (l := []) C (by decide) (by omega) (by omega) (cq_ss C).2 (by simp [cq_46_c, cq_40_c, cq_h_c, cq_p_c, cq_w, cr_c, z40] <;> omega) (by simp [cq_46_c, cq_40_c, cq_h_c, cq_p_c, cq_w, cr_c] <;> omega)⟩
      · rw [if_neg k2] at ht
        simp at ht
  · simp at ht
    by_cases k : K a = 10
    · rw [if_pos k] at ht
      have q := pm_lt hK k (by decide)
      simp at ht
      obtain ⟨rfl, rfl, rfl⟩ := ht
      exact Or.inl ⟨rfl, cq_in C q (cq_ad_c (by simp) (by simp) (by simp) (cq_ad_c (x := (47, p)) (by simp) (by simp) (by simp) (cq_ss C))).2⟩
    · rw [if_neg k] at ht
      simp at ht
  · simp at ht
    by_cases k : K a = 11
    · rw [if_pos k] at ht
      have q := pm_lt hK k (by decide)
      simp at ht
      obtain ⟨rfl, rfl, rfl⟩ := ht
      exact Or.inr ⟨90, p, rfl, cq_emit (k := 0) (l := []) C (by decide) (by decide) (cq_ss C).2 (by simp [cq_46_c, cq_40_c, cq_h_c, cq_p_c, cq_w, cr_c, z40] <;> omega) (by simp [cq_46_c, cq_40_c, cq_h_c, cq_p_c, cq_w, cr_c] <;> omega)⟩
    · rw [if_neg k] at ht
      simp at ht
  · simp at ht
    by_cases k : K a = 25
    · rw [if_pos k] at ht
      have q : a < c := pm_lt hK k (by decide)
      simp at ht
      obtain ⟨rfl, rfl, rfl⟩ := ht
      exact Or.inl ⟨rfl, cq_step (k := 1) C (by decide) (by omega) (by omega) (cq_ad_c (by simp) (by simp) (by simp) (cq_ad_c (by simp) (by simp) (by simp) (cq_ad_c (by simp) (by simp) (by simp) (cq_ad_c (by simp) (by simp) (by simp) (cq_ad_c (by simp) (by simp) (by simp) (cq_ad_c (by simp) (by simp) (by simp) (cq_ad_c (by simp) (by simp) (by simp) (cq_ss C)))))))).2 (by simp [cq_46_c, cq_40_c, cq_h_c, cq_p_c, cq_w, cr_c] <;> omega) (by simp [cq_46_c, cq_40_c, cq_h_c, cq_p_c, cq_w, cr_c] <;> omega)⟩
    · rw [if_neg k] at ht
      simp at ht
      obtain ⟨rfl, rfl, rfl⟩ := ht
      exact Or.inl ⟨rfl, cq_step (k := 0) (l := []) C (by decide) ha (Nat.le_refl _) (cq_ss C).2 (by simp [cq_46_c, cq_40_c, cq_h_c, cq_p_c, cq_w, cr_c, z40]) (by simp [cq_46_c, cq_40_c, cq_h_c, cq_p_c, cq_w, cr_c])⟩
  · simp at ht
    by_cases k : K a = 18
    · rw [if_pos k] at ht
      have q : a < c := pm_lt hK k (by decide)
      simp at ht
      obtain ⟨rfl, rfl, rfl⟩ := ht
      exact Or.inl ⟨rfl, cq_step (k := 1) C (by decide) (by omega) (by omega) (cq_ad_c (by simp) (by simp) (by simp) (cq_ad_c (by simp) (by simp) (by simp) (cq_ad_c (by simp) (by simp) (by simp) (cq_ad_c (by simp) (by simp) (by simp) (cq_ad_c (by simp) (by simp) (by simp) (cq_ad_c (by simp) (by simp) (by simp) (cq_ss C))))))).2 (by simp [cq_46_c, cq_40_c, cq_h_c, cq_p_c, cq_w, cr_c] <;> omega) (by simp [cq_46_c, cq_40_c, cq_h_c, cq_p_c, cq_w, cr_c] <;> omega)⟩
    · rw [if_neg k] at ht
      simp at ht
      obtain ⟨rfl, rfl, rfl⟩ := ht
      exact Or.inl ⟨rfl, cq_step (k := 0) (l := []) C (by decide) ha (Nat.le_refl _) (cq_ss C).2 (by simp [cq_46_c, cq_40_c, cq_h_c, cq_p_c, cq_w, cr_c, z40]) (by simp [cq_46_c, cq_40_c, cq_h_c, cq_p_c, cq_w, cr_c])⟩
  · simp at ht
    by_cases k : K a = 21
    · rw [if_pos k] at ht
      have q : a < c := pm_lt hK k (by decide)
      simp at ht
      obtain ⟨rfl, rfl, rfl⟩ := ht
      exact Or.inl ⟨rfl, cq_step (k := 1) C (by decide) (by omega) (by omega) (cq_ad_c (by simp) (by simp) (by simp) (cq_ad_c (by simp) (by simp) (by simp) (cq_ad_c (by simp) (by simp) (by simp) (cq_ad_c (by simp) (by simp) (by simp) (cq_ad_c (by simp) (by simp) (by simp) (cq_ss C)))))).2 (by simp [cq_46_c, cq_40_c, cq_h_c, cq_p_c, cq_w, cr_c] <;> omega) (by simp [cq_46_c, cq_40_c, cq_h_c, cq_p_c, cq_w, cr_c] <;> omega)⟩
    · rw [if_neg k] at ht
      simp at ht
      obtain ⟨rfl, rfl, rfl⟩ := ht
      exact Or.inl ⟨rfl, cq_step (k := 0) (l := []) C (by decide) ha (Nat.le_refl _) (cq_ss C).2 (by simp [cq_46_c, cq_40_c, cq_h_c, cq_p_c, cq_w, cr_c, z40]) (by simp [cq_46_c, cq_40_c, cq_h_c, cq_p_c, cq_w, cr_c])⟩
  · simp at ht
    by_cases k : K a = 19 ∨ K a = 20
    · rw [if_pos k] at ht
      have q : a < c := pm_lt2 hK k (by decide) (by decide)
      simp at ht
      obtain ⟨rfl, rfl, rfl⟩ := ht
      exact Or.inl ⟨rfl, cq_step (k := 1) C (by decide) (by omega) (by omega) (cq_ad_c (by simp) (by simp) (by simp) (cq_ad_c (by simp) (by simp) (by simp) (cq_ad_c (by simp) (by simp) (by simp) (cq_ad_c (by simp) (by simp) (by simp) (cq_ss C))))).2 (by simp [cq_46_c, cq_40_c, cq_h_c, cq_p_c, cq_w, cr_c] <;> omega) (by simp [cq_46_c, cq_40_c, cq_h_c, cq_p_c, cq_w, cr_c] <;> omega)⟩
    · rw [if_neg k] at ht
      simp at ht
      obtain ⟨rfl, rfl, rfl⟩ := ht
      exact Or.inl ⟨rfl, cq_step (k := 0) (l := []) C (by decide) ha (Nat.le_refl _) (cq_ss C).2 (by simp [cq_46_c, cq_40_c, cq_h_c, cq_p_c, cq_w, cr_c, z40]) (by simp [cq_46_c, cq_40_c, cq_h_c, cq_p_c, cq_w, cr_c])⟩
  · simp at ht
    exact cq_apl hK rfl ht ha C
  · simp at ht
    exact cq_atom hK rfl ht C (h55 rfl)
end
