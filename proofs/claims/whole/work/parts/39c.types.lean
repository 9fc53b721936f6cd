/-! types that are spelled: heights, and the tree that the steps build -/
def th_1 (K : Nat → Nat) (c s p h h' : Nat) : Prop :=
  (s < 38 ∧ h' = h) ∨ ((s = 45 ∨ s = 63) ∧ h' = h + 1) ∨ ((s = 60 ∨ s = 61 ∨ s = 62) ∧ 1 ≤ h ∧ h' = h) ∨ (s = 83 ∧ (K p = 36 ∨ K p = 37) ∧ p < c ∧ h = h' + 1 ∧ 1 ≤ h')
def th_ok (K : Nat → Nat) (c : Nat) : pm_L → Nat → Prop
  | [], h => h = 1
  | (s, p) :: ss, h => ∃ h', th_1 K c s p h h' ∧ th_ok K c ss h'
def ts_pre (K : Nat → Nat) (c s p h : Nat) : Prop :=
  (s = 80 ∧ p < c ∧ ((31 ≤ K p ∧ K p ≤ 33) ∨ K p = 35)) ∨ (s = 83 ∧ p < c ∧ (((K p = 34 ∨ K p = 23) ∧ 1 ≤ h) ∨ ((K p = 36 ∨ K p = 37) ∧ 2 ≤ h)))
def ts_h (K : Nat → Nat) (s p h : Nat) : Nat := if s = 80 then h + 1 else if K p = 34 ∨ K p = 23 then h else h - 1
/-- the trees that wait, the uppermost first -/
def ts_1 (K N : Nat → Nat) (st : List tr_T) (s p : Nat) : List tr_T :=
  if s = 80 then tr_at (if K p = 35 then 10 + N p else K p - 31) :: st
  else if K p = 34 then tr_con 3 (st.getD 0 (tr_at 0)) (st.getD 0 (tr_at 0)) :: st.drop 1
  else if K p = 23 then tr_con 4 (st.getD 0 (tr_at 0)) (st.getD 0 (tr_at 0)) :: st.drop 1
  else tr_con (if K p = 36 then 5 else 6) (st.getD 1 (tr_at 0)) (st.getD 0 (tr_at 0)) :: st.drop 2
def ts_ok (K : Nat → Nat) (c : Nat) (b : Bool) : pm_L → Nat → Prop
  | [], h => b = true → h = 1
  | (s, p) :: sp, h => ts_pre K c s p h ∧ ts_ok K c b sp (ts_h K s p h)
def ts_E (K N : Nat → Nat) : pm_L → List tr_T → List tr_T
  | [], st => st
  | (s, p) :: sp, st => ts_E K N sp (ts_1 K N st s p)
theorem th_turn {K : Nat → Nat} {c s p a a' h : Nat} {l w ss : pm_L} (hK : ∀ i, c ≤ i → K i = 99) (ht : pm_turn K s p a = (a', some (l, w))) (ok : th_ok K c ((s, p) :: ss) h) : (w = [] ∧ th_ok K c (l ++ ss) h) ∨ ∃ s' p', w = [(s', p')] ∧ ts_pre K c s' p' h ∧ th_ok K c (l ++ ss) (ts_h K s' p' h) := by
  obtain ⟨h', t, ok⟩ := ok
  rcases t with ⟨z, e⟩ | ⟨z, e⟩ | ⟨z, e1, e⟩ | ⟨z, e1, e2, e3, e4⟩
  · unfold pm_turn at ht
    rw [if_neg (by omega), if_pos z] at ht
    by_cases k : K a = s
    · rw [if_pos k] at ht
      simp at ht
      obtain ⟨_, rfl, rfl⟩ := ht
      rw [e] at ok
      exact Or.inl ⟨rfl, ok⟩
    · rw [if_neg k] at ht; simp at ht
  · rcases z with z | z
    · subst z
      have ht : (a, some ([(63, 0), (62, 0), (61, 0), (60, 0)], [])) = (a', some (l, w)) := ht
      simp at ht
      obtain ⟨_, rfl, rfl⟩ := ht
      refine Or.inl ⟨rfl, h + 1, Or.inr (Or.inl ⟨Or.inr rfl, rfl⟩), h + 1, Or.inr (Or.inr (Or.inl ⟨by omega, by omega, rfl⟩)), h + 1, Or.inr (Or.inr (Or.inl ⟨by omega, by omega, rfl⟩)), h + 1, Or.inr (Or.inr (Or.inl ⟨by omega, by omega, rfl⟩)), ?_⟩
      rw [e] at ok; exact ok
    · subst z
      have ht : (if K a = 15 then (a + 1, some ([(45, 0), (16, 0)], [])) else if (31 ≤ K a ∧ K a ≤ 33) ∨ K a = 35 then (a + 1, some ([], [(80, a)])) else (a, none)) = (a', some (l, w)) := ht
      by_cases k1 : K a = 15
      · rw [if_pos k1] at ht
        simp at ht
        obtain ⟨_, rfl, rfl⟩ := ht
        refine Or.inl ⟨rfl, h + 1, Or.inr (Or.inl ⟨Or.inl rfl, rfl⟩), h + 1, Or.inl ⟨by omega, rfl⟩, ?_⟩
        rw [e] at ok; exact ok
      · rw [if_neg k1] at ht
        by_cases k2 : (31 ≤ K a ∧ K a ≤ 33) ∨ K a = 35
        · rw [if_pos k2] at ht
          simp at ht
          obtain ⟨_, rfl, rfl⟩ := ht
          refine Or.inr ⟨80, a, rfl, Or.inl ⟨rfl, pm_lt3 hK k2, k2⟩, ?_⟩
          rw [e] at ok; exact ok
        · rw [if_neg k2] at ht; simp at ht
  · rw [e] at ok
    rcases z with z | z | z
    · subst z
      have ht : (if K a = 37 then (a + 1, some ([(63, 0), (62, 0), (61, 0), (60, 0), (83, a)], [])) else (a, some ([], []))) = (a', some (l, w)) := ht
      by_cases k : K a = 37
      · rw [if_pos k] at ht
        simp at ht
        obtain ⟨_, rfl, rfl⟩ := ht
        exact Or.inl ⟨rfl, h + 1, Or.inr (Or.inl ⟨Or.inr rfl, rfl⟩), h + 1, Or.inr (Or.inr (Or.inl ⟨by omega, by omega, rfl⟩)), h + 1, Or.inr (Or.inr (Or.inl ⟨by omega, by omega, rfl⟩)), h + 1, Or.inr (Or.inr (Or.inl ⟨by omega, by omega, rfl⟩)), h, Or.inr (Or.inr (Or.inr ⟨rfl, Or.inr k, pm_lt hK k (by decide), rfl, e1⟩)), ok⟩
      · rw [if_neg k] at ht
        simp at ht
        obtain ⟨_, rfl, rfl⟩ := ht
        exact Or.inl ⟨rfl, ok⟩
    · subst z
      have ht : (if K a = 36 then (a + 1, some ([(63, 0), (62, 0), (61, 0), (83, a)], [])) else (a, some ([], []))) = (a', some (l, w)) := ht
      by_cases k : K a = 36
      · rw [if_pos k] at ht
        simp at ht
        obtain ⟨_, rfl, rfl⟩ := ht
        exact Or.inl ⟨rfl, h + 1, Or.inr (Or.inl ⟨Or.inr rfl, rfl⟩), h + 1, Or.inr (Or.inr (Or.inl ⟨by omega, by omega, rfl⟩)), h + 1, Or.inr (Or.inr (Or.inl ⟨by omega, by omega, rfl⟩)), h, Or.inr (Or.inr (Or.inr ⟨rfl, Or.inl k, pm_lt hK k (by decide), rfl, e1⟩)), ok⟩
      · rw [if_neg k] at ht
        simp at ht
        obtain ⟨_, rfl, rfl⟩ := ht
        exact Or.inl ⟨rfl, ok⟩
    · subst z
      have ht : (if K a = 34 ∨ K a = 23 then (a + 1, some ([(62, 0)], [(83, a)])) else (a, some ([], []))) = (a', some (l, w)) := ht
      by_cases k : K a = 34 ∨ K a = 23
      · rw [if_pos k] at ht
        simp at ht
        obtain ⟨_, rfl, rfl⟩ := ht
        refine Or.inr ⟨83, a, rfl, Or.inr ⟨rfl, pm_lt2 hK k (by decide) (by decide), Or.inl ⟨k, e1⟩⟩, h, ?_, ok⟩
        have : ts_h K 83 a h = h := by
          unfold ts_h
          rw [if_neg (by decide), if_pos k]
        rw [this]
        exact Or.inr (Or.inr (Or.inl ⟨by omega, e1, rfl⟩))
      · rw [if_neg k] at ht
        simp at ht
        obtain ⟨_, rfl, rfl⟩ := ht
        exact Or.inl ⟨rfl, ok⟩
  · subst z
    have ht : (a, some ([], [(83, p)])) = (a', some (l, w)) := ht
    simp at ht
    obtain ⟨_, rfl, rfl⟩ := ht
    refine Or.inr ⟨83, p, rfl, Or.inr ⟨rfl, e2, Or.inr ⟨e1, by omega⟩⟩, ?_⟩
    have : ts_h K 83 p h = h' := by
      unfold ts_h
      rw [if_neg (by decide), if_neg (by omega)]
      omega
    rw [this]; exact ok
theorem th_run {K : Nat → Nat} {c : Nat} (hK : ∀ i, c ≤ i → K i = 99) : ∀ f ss a sp sp1 a' b, pm_go K f ss a sp = some (a', sp ++ sp1, b) → ∀ h, th_ok K c ss h → ts_ok K c b sp1 h := by
  intro f
  induction f with
  | zero => intro ss a sp sp1 a' b h; cases h
  | succ f ih =>
    intro ss a sp sp1 a' b hgo h ok
    cases ss with
    | nil =>
      obtain ⟨_, e, _⟩ := pm_go_0 hgo
      rw [e]; exact fun _ => ok
    | cons y ss =>
      obtain ⟨s, p⟩ := y
      rcases pm_go_1 hgo with ⟨_, _, e, e2⟩ | ⟨g, l, w, sp2, ef, et, e, hgo2⟩
      · rw [e, e2]; exact fun z => by cases z
      · have eg : g = f := by omega
        subst eg
        have ht : pm_turn K s p a = ((pm_turn K s p a).1, some (l, w)) := by rw [← et]
        rcases th_turn hK ht ok with ⟨w0, ok2⟩ | ⟨s', p', w1, pre, ok2⟩
        · rw [w0] at hgo2 e
          rw [e]; exact ih _ _ _ _ _ _ hgo2 _ ok2
        · rw [w1] at hgo2 e
          rw [e]; exact ⟨pre, ih _ _ _ _ _ _ hgo2 _ ok2⟩
/-- the labels of a spelled type -/
def ts_lab (T : tr_T) : Prop := ∀ c, c ∈ tr_pre T → c < 7 ∨ (10 ≤ c ∧ c < 14)
theorem ts_lab_1 {K N : Nat → Nat} {c s p : Nat} {st : List tr_T} (hp : ts_pre K c s p st.length) (hN : K p = 35 → N p < 4) (h : ∀ T, T ∈ st → ts_lab T) : (∀ T, T ∈ ts_1 K N st s p → ts_lab T) ∧ (ts_1 K N st s p).length = ts_h K s p st.length := by
  unfold ts_1 ts_h
  rcases hp with ⟨z, z1, z2⟩ | ⟨z, z1, z2⟩
  · rw [if_pos z, if_pos z]
    refine ⟨fun T hT => ?_, rfl⟩
    rcases List.mem_cons.mp hT with q | q
    · rw [q]
      intro x hx
      rw [tr_pre_at] at hx
      rw [List.mem_singleton.mp hx]
      by_cases k : K p = 35
      · rw [if_pos k]; have := hN k; omega
      · rw [if_neg k]; omega
    · exact h T q
  · have n80 : ¬ s = 80 := by omega
    rw [if_neg n80, if_neg n80]
    rcases z2 with ⟨k, l1⟩ | ⟨k, l2⟩
    · cases st with
      | nil => simp at l1
      | cons x r =>
        have hx := h x List.mem_cons_self
        rw [if_pos k]
        rcases k with k | k
        · rw [if_pos k]
          refine ⟨fun T hT => ?_, rfl⟩
          rcases List.mem_cons.mp hT with q | q
          · rw [q]
            intro y hy
            rw [tr_pre_con, if_pos (Or.inl rfl)] at hy
            rcases List.mem_cons.mp hy with e | e
            · omega
            · exact hx y e
          · exact h T (List.mem_cons_of_mem _ q)
        · have n34 : ¬ K p = 34 := by omega
          rw [if_neg n34, if_pos k]
          refine ⟨fun T hT => ?_, rfl⟩
          rcases List.mem_cons.mp hT with q | q
          · rw [q]
            intro y hy
            rw [tr_pre_con, if_pos (Or.inr rfl)] at hy
            rcases List.mem_cons.mp hy with e | e
            · omega
            · exact hx y e
          · exact h T (List.mem_cons_of_mem _ q)
    · cases st with
      | nil => simp at l2
      | cons x r =>
        cases r with
        | nil => simp at l2
        | cons y r =>
          have hx := h x List.mem_cons_self
          have hy := h y (List.mem_cons_of_mem _ List.mem_cons_self)
          have m1 : ¬ K p = 34 := by omega
          have m2 : ¬ K p = 23 := by omega
          have m3 : ¬ (K p = 34 ∨ K p = 23) := by omega
          rw [if_neg m1, if_neg m2, if_neg m3]
          refine ⟨fun T hT => ?_, rfl⟩
          rcases List.mem_cons.mp hT with q | q
          · rw [q]
            intro u hu
            have n34 : ¬ ((if K p = 36 then 5 else 6) = 3 ∨ (if K p = 36 then 5 else 6) = 4) := by
              by_cases k36 : K p = 36
              · rw [if_pos k36]; omega
              · rw [if_neg k36]; omega
            rw [tr_pre_con, if_neg n34] at hu
            rcases List.mem_cons.mp hu with e | e
            · left
              rw [e]
              by_cases k36 : K p = 36
              · rw [if_pos k36]; omega
              · rw [if_neg k36]; omega
            · rcases List.mem_append.mp e with e | e
              · exact hy u e
              · exact hx u e
          · exact h T (List.mem_cons_of_mem _ (List.mem_cons_of_mem _ q))
