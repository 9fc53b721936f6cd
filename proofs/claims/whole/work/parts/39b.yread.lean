/-! the reference's reading against the pure parser -/
theorem pm_go_pre {K : Nat → Nat} : ∀ {f : Nat} {ss : pm_L} {a : Nat} {sp : pm_L} {a' : Nat} {sp' : pm_L} {b : Bool}, pm_go K f ss a sp = some (a', sp', b) → ∃ sp1, sp' = sp ++ sp1 := by
  intro f
  induction f with
  | zero => intro ss a sp a' sp' b h; cases h
  | succ f ih =>
    intro ss a sp a' sp' b h
    cases ss with
    | nil =>
      unfold pm_go at h
      simp at h
      exact ⟨[], by rw [h.2.1, List.append_nil]⟩
    | cons x ss =>
      obtain ⟨s, p⟩ := x
      unfold pm_go at h
      cases e : (pm_turn K s p a).2 with
      | none =>
        rw [e] at h
        simp at h
        exact ⟨[], by rw [h.2.1, List.append_nil]⟩
      | some q =>
        obtain ⟨l, w⟩ := q
        rw [e] at h
        simp only at h
        obtain ⟨sp1, e1⟩ := ih h
        exact ⟨w ++ sp1, by rw [e1, List.append_assoc]⟩
/-- one turn of a run, with what it still writes -/
theorem pm_go_1 {K : Nat → Nat} {f s p a : Nat} {ss sp sp1 : pm_L} {a' : Nat} {b : Bool} (h : pm_go K f ((s, p) :: ss) a sp = some (a', sp ++ sp1, b)) : ((pm_turn K s p a).2 = none ∧ a' = (pm_turn K s p a).1 ∧ sp1 = [] ∧ b = false) ∨ ∃ g l w sp2, f = g + 1 ∧ (pm_turn K s p a).2 = some (l, w) ∧ sp1 = w ++ sp2 ∧ pm_go K g (l ++ ss) (pm_turn K s p a).1 (sp ++ w) = some (a', (sp ++ w) ++ sp2, b) := by
  cases f with
  | zero => cases h
  | succ f =>
    unfold pm_go at h
    cases e : (pm_turn K s p a).2 with
    | none =>
      rw [e] at h
      simp at h
      obtain ⟨h1, h2, h3⟩ := h
      exact Or.inl ⟨rfl, h1.symm, h2, h3⟩
    | some q =>
      obtain ⟨l, w⟩ := q
      rw [e] at h
      simp only at h
      obtain ⟨sp2, e2⟩ := pm_go_pre h
      refine Or.inr ⟨f, l, w, sp2, rfl, rfl, ?_, ?_⟩
      · rw [List.append_assoc] at e2
        exact List.append_cancel_left e2
      · rw [← e2]; exact h
theorem pm_go_0 {K : Nat → Nat} {f a : Nat} {sp sp1 : pm_L} {a' : Nat} {b : Bool} (h : pm_go K f [] a sp = some (a', sp ++ sp1, b)) : a' = a ∧ sp1 = [] ∧ b = true := by
  cases f with
  | zero => cases h
  | succ f =>
    unfold pm_go at h
    simp at h
    exact ⟨h.1.symm, h.2.1, h.2.2⟩
/-- the reference's numbers for what waits; e: the bindings there are when it comes to the symbol -/
def yk_v (K mq : Nat → Nat) (s p e : Nat) : Nat :=
  if s < 38 then 1 + 64 * s
  else if s = 40 then 18 else if s = 42 then 2 else if s = 44 then 14 else if s = 46 then 16 else if s = 47 then 17
  else if s = 50 then 4 else if s = 51 then 6 else if s = 52 then 8 else if s = 53 then 10 else if s = 54 then 12 else if s = 55 then 13
  else if s = 82 then 26 + 64 * p
  else if s = 83 then (if K p = 17 then 15 else if K p = 18 then 24 + 64 * p else if K p = 25 then 23 + 64 * p else 25 + 64 * p)
  else if s = 84 then 22 + 64 * p else if s = 86 then 21
  else if s = 88 then 20 + 64 * (p + mq p + 1 + 32 * (e - mq p))
  else 19 + 64 * (p + 1)
def yk_e (mq : Nat → Nat) (s p e : Nat) : Nat :=
  if s = 40 ∨ s = 89 then e + 1 else if s = 46 ∨ s = 47 ∨ s = 86 then e - 1 else if s = 88 then e - mq p + 1 else e
def yk_S (K mq : Nat → Nat) : pm_L → Nat → List Nat
  | [], _ => []
  | (s, p) :: ss, e => yk_v K mq s p e :: yk_S K mq ss (yk_e mq s p e)
theorem yk_len {K mq : Nat → Nat} : ∀ ss e, (yk_S K mq ss e).length = ss.length := by
  intro ss
  induction ss with
  | nil => intro e; rfl
  | cons x ss ih => intro e; obtain ⟨s, p⟩ := x; unfold yk_S; rw [List.length_cons, List.length_cons, ih]
/-- a binding just completed hasn't come into force yet -/
def pm_pd : pm_L → Bool
  | [] => true
  | x :: _ => decide (x.1 = 46)
def pm_dk (s : Nat) : Bool := decide (s = 40) || decide (s = 88) || decide (s = 89)
def pm_46 : pm_L → Prop
  | [] => True
  | x :: ss => pm_dk x.1 = pm_pd ss ∧ pm_46 ss
theorem pm_46_atom {K : Nat → Nat} {a a' : Nat} {l w ss : pm_L} (h : pm_atom K a = (a', some (l, w))) (hs : pm_46 ss) (hp : pm_pd ss = false) : pm_46 (l ++ ss) ∧ pm_pd (l ++ ss) = false := by
  unfold pm_atom at h
  by_cases c1 : pm_alone (K a) = true
  · rw [if_pos c1] at h
    simp at h
    obtain ⟨rfl, rfl, rfl⟩ := h
    exact ⟨hs, hp⟩
  · rw [if_neg c1] at h
    by_cases c2 : K a = 15
    · rw [if_pos c2] at h
      by_cases c3 : K (a + 1) = 16
      · rw [if_pos c3] at h
        simp at h
        obtain ⟨rfl, rfl, rfl⟩ := h
        exact ⟨hs, hp⟩
      · rw [if_neg c3] at h
        simp at h
        obtain ⟨rfl, rfl, rfl⟩ := h
        simp [pm_46, pm_pd, pm_dk, hs]
        cases ss with
        | nil => cases hp
        | cons y r => simpa [pm_pd] using hp
    · rw [if_neg c2] at h
      by_cases c4 : K a = 6
      · rw [if_pos c4] at h
        simp at h
        obtain ⟨rfl, rfl, rfl⟩ := h
        simp [pm_46, pm_pd, pm_dk, hs]
        cases ss with
        | nil => cases hp
        | cons y r => simpa [pm_pd] using hp
      · rw [if_neg c4] at h
        simp at h
theorem pm_46_turn {K : Nat → Nat} {s p a a' : Nat} {l w ss : pm_L} (hs : s < 38 ∨ s = 40 ∨ s = 42 ∨ s = 44 ∨ s = 46 ∨ s = 47 ∨ s = 50 ∨ s = 51 ∨ s = 52 ∨ s = 53 ∨ s = 54 ∨ s = 55 ∨ s = 82 ∨ s = 83 ∨ s = 84 ∨ s = 86 ∨ s = 88 ∨ s = 89) (h : pm_turn K s p a = (a', some (l, w))) (hp : pm_46 ((s, p) :: ss)) : pm_46 (l ++ ss) ∧ pm_pd (l ++ ss) = (decide (s = 88) || decide (s = 89)) := by
  obtain ⟨h1, h2⟩ := hp
  have h1 : pm_dk s = pm_pd ss := h1
  have nil : l = [] → pm_dk s = (decide (s = 88) || decide (s = 89)) → pm_46 (l ++ ss) ∧ pm_pd (l ++ ss) = (decide (s = 88) || decide (s = 89)) := by
    intro e1 e2
    rw [e1, List.nil_append, ← h1, e2]
    exact ⟨h2, rfl⟩
  have cons : ∀ {y : Nat × Nat} {r : pm_L}, pm_pd ss = false → pm_pd (y :: (r ++ ss)) = decide (y.1 = 46) := fun _ => rfl
  by_cases c80 : 80 ≤ s
  · unfold pm_turn at h
    rw [if_pos c80] at h
    simp at h
    obtain ⟨rfl, rfl, rfl⟩ := h
    refine nil rfl ?_
    unfold pm_dk
    have : ¬ s = 40 := by omega
    simp [this]
  · by_cases c38 : s < 38
    · unfold pm_turn at h
      rw [if_neg c80, if_pos c38] at h
      by_cases k : K a = s
      · rw [if_pos k] at h
        simp at h
        obtain ⟨rfl, rfl, rfl⟩ := h
        refine nil rfl ?_
        unfold pm_dk
        have : ¬ s = 40 := by omega
        simp [this]
      · rw [if_neg k] at h
        simp at h
    · have ne : s ≠ 88 ∧ s ≠ 89 := by omega
      have r0 : (decide (s = 88) || decide (s = 89)) = false := by simp [ne]
      rw [r0]
      by_cases c40 : s = 40
      · subst c40
        have e1 : pm_pd ss = true := by rw [← h1]; rfl
        have ht : pm_decl K a = (a', some (l, w)) := h
        rcases pm_decl_l ht with q | q
        · rw [q]; exact ⟨⟨rfl, e1.symm, h2⟩, rfl⟩
        · rw [q]; exact ⟨⟨rfl, e1.symm, h2⟩, rfl⟩
      · have e1 : pm_pd ss = false := by
          rw [← h1]
          unfold pm_dk
          simp [c40, ne]
        have fin : ∀ l0 : pm_L, l = l0 → pm_46 (l0 ++ ss) ∧ pm_pd (l0 ++ ss) = false → pm_46 (l ++ ss) ∧ pm_pd (l ++ ss) = false := fun l0 e z => by rw [e]; exact z
        have n0 : l = [] → pm_46 (l ++ ss) ∧ pm_pd (l ++ ss) = false := fun e => by rw [e]; exact ⟨h2, e1⟩
        rcases hs with z | z | z | z | z | z | z | z | z | z | z | z | z | z | z | z | z | z
        · omega
        · omega
        · subst z
          have ht : pm_expr K a = (a', some (l, w)) := h
          unfold pm_expr at ht
          by_cases k1 : K a = 4
          · rw [if_pos k1] at ht
            by_cases k2 : K (a + 1) = 3
            · rw [if_pos k2] at ht
              by_cases k3 : K (a + 2) = 5
              · rw [if_pos k3] at ht
                simp at ht
                exact fin _ ht.2.1.symm ⟨⟨rfl, e1.symm, h2⟩, rfl⟩
              · rw [if_neg k3] at ht; simp at ht
            · rw [if_neg k2] at ht; simp at ht
          · rw [if_neg k1] at ht
            by_cases k4 : K a = 12
            · rw [if_pos k4] at ht
              simp at ht
              exact fin _ ht.2.1.symm ⟨⟨rfl, rfl, rfl, rfl, rfl, e1.symm, h2⟩, rfl⟩
            · rw [if_neg k4] at ht
              simp at ht
              exact fin _ ht.2.1.symm ⟨⟨rfl, rfl, rfl, rfl, rfl, e1.symm, h2⟩, rfl⟩
        · subst z
          have ht : (if K a = 17 then (a + 1, some ([(42, 0), (16, 0), (83, a)], [])) else if K a = 16 then (a + 1, some ([], [])) else (a, none)) = (a', some (l, w)) := h
          by_cases k1 : K a = 17
          · rw [if_pos k1] at ht
            simp at ht
            exact fin _ ht.2.1.symm ⟨⟨rfl, rfl, e1.symm, h2⟩, rfl⟩
          · rw [if_neg k1] at ht
            by_cases k2 : K a = 16
            · rw [if_pos k2] at ht
              simp at ht
              exact n0 ht.2.1
            · rw [if_neg k2] at ht; simp at ht
        · subst z
          have ht : (if K a = 10 then (a + 1, some ([(42, 0), (47, p)], [])) else (a, none)) = (a', some (l, w)) := h
          by_cases k1 : K a = 10
          · rw [if_pos k1] at ht
            simp at ht
            exact fin _ ht.2.1.symm ⟨⟨rfl, e1.symm, h2⟩, rfl⟩
          · rw [if_neg k1] at ht; simp at ht
        · subst z
          have ht : (if K a = 11 then (a + 1, some ([], [(90, p)])) else (a, none)) = (a', some (l, w)) := h
          by_cases k1 : K a = 11
          · rw [if_pos k1] at ht
            simp at ht
            exact n0 ht.2.1
          · rw [if_neg k1] at ht; simp at ht
        · subst z
          have ht : (if K a = 25 then (a + 1, some ([(55, 0), (54, 0), (53, 0), (52, 0), (51, 0), (50, 0), (83, a)], [])) else (a, some ([], []))) = (a', some (l, w)) := h
          by_cases k1 : K a = 25
          · rw [if_pos k1] at ht
            simp at ht
            exact fin _ ht.2.1.symm ⟨⟨rfl, rfl, rfl, rfl, rfl, rfl, e1.symm, h2⟩, rfl⟩
          · rw [if_neg k1] at ht
            simp at ht
            exact n0 ht.2.1
        · subst z
          have ht : (if K a = 18 then (a + 1, some ([(55, 0), (54, 0), (53, 0), (52, 0), (51, 0), (83, a)], [])) else (a, some ([], []))) = (a', some (l, w)) := h
          by_cases k1 : K a = 18
          · rw [if_pos k1] at ht
            simp at ht
            exact fin _ ht.2.1.symm ⟨⟨rfl, rfl, rfl, rfl, rfl, e1.symm, h2⟩, rfl⟩
          · rw [if_neg k1] at ht
            simp at ht
            exact n0 ht.2.1
        · subst z
          have ht : (if K a = 21 then (a + 1, some ([(55, 0), (54, 0), (53, 0), (83, a), (52, 0)], [])) else (a, some ([], []))) = (a', some (l, w)) := h
          by_cases k1 : K a = 21
          · rw [if_pos k1] at ht
            simp at ht
            exact fin _ ht.2.1.symm ⟨⟨rfl, rfl, rfl, rfl, e1.symm, h2⟩, rfl⟩
          · rw [if_neg k1] at ht
            simp at ht
            exact n0 ht.2.1
        · subst z
          have ht : (if K a = 19 ∨ K a = 20 then (a + 1, some ([(55, 0), (54, 0), (83, a), (53, 0)], [])) else (a, some ([], []))) = (a', some (l, w)) := h
          by_cases k1 : K a = 19 ∨ K a = 20
          · rw [if_pos k1] at ht
            simp at ht
            exact fin _ ht.2.1.symm ⟨⟨rfl, rfl, rfl, e1.symm, h2⟩, rfl⟩
          · rw [if_neg k1] at ht
            simp at ht
            exact n0 ht.2.1
        · subst z
          have ht : pm_apl K a = (a', some (l, w)) := h
          unfold pm_apl at ht
          cases e : (pm_atom K a).2 with
          | none =>
            rw [e] at ht
            simp at ht
            exact n0 ht.2.1
          | some q =>
            obtain ⟨l1, w1⟩ := q
            rw [e] at ht
            simp at ht
            obtain ⟨_, q1, _⟩ := ht
            have ha : pm_atom K a = ((pm_atom K a).1, some (l1, w1)) := by rw [← e]
            have r := pm_46_atom (ss := (82, a) :: (54, 0) :: ss) ha ⟨rfl, e1.symm, h2⟩ rfl
            rw [← q1, List.append_assoc]; exact r
        · subst z
          have ht : pm_atom K a = (a', some (l, w)) := h
          exact pm_46_atom ht h2 e1
        all_goals omega
