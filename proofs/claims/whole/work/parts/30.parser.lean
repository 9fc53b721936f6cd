/-! the parser as both sides follow it. K a: the kind of the token at place a (99: none). A turn takes the uppermost symbol (s, p); it answers the place it comes to, and what is put in the symbol's stead and which steps are written, or none: the tokens stop being a beginning at that place -/
abbrev pm_L : Type := List (Nat × Nat)
def pm_alone (t : Nat) : Bool := decide (t < 4) || (decide (22 ≤ t) && decide (t ≤ 30) && decide (t ≠ 25))
def pm_atom (K : Nat → Nat) (a : Nat) : Nat × Option (pm_L × pm_L) :=
  if pm_alone (K a) = true then (a + 1, some ([], [(80, a)]))
  else if K a = 15 then (if K (a + 1) = 16 then (a + 2, some ([], [(81, a + 1)])) else (a + 1, some ([(42, 0), (44, 0)], [])))
  else if K a = 6 then (a + 1, some ([(40, 0), (46, a)], []))
  else (a, none)
/-- the first place from q on that holds no NAME -/
def pm_nq (K : Nat → Nat) : Nat → Nat → Nat
  | 0, q => q
  | f + 1, q => if K q = 3 then pm_nq K f (q + 1) else q
def pm_decl (K : Nat → Nat) (a : Nat) : Nat × Option (pm_L × pm_L) :=
  if K a = 7 then
    (if K (a + 1) = 3 then (if K (a + 2) = 9 then (a + 3, some ([(42, 0), (89, a)], [])) else (a + 2, none)) else (a + 1, none))
  else if K a = 8 then
    (if K (a + 1) = 3 then
      (if K (a + 2) = 3 then
        (if K (pm_nq K 24 (a + 3)) = 9 then (pm_nq K 24 (a + 3) + 1, some ([(42, 0), (88, a)], [(87, a)])) else (pm_nq K 24 (a + 3), none))
       else (a + 2, none))
     else (a + 1, none))
  else (a, none)
def pm_expr (K : Nat → Nat) (a : Nat) : Nat × Option (pm_L × pm_L) :=
  if K a = 4 then
    (if K (a + 1) = 3 then (if K (a + 2) = 5 then (a + 3, some ([(42, 0), (86, a)], [(85, a)])) else (a + 2, none)) else (a + 1, none))
  else if K a = 12 then (a + 1, some ([(42, 0), (13, 0), (42, 0), (14, 0), (42, 0), (84, a)], []))
  else (a, some ([(55, 0), (54, 0), (53, 0), (52, 0), (51, 0), (50, 0)], []))
def pm_apl (K : Nat → Nat) (a : Nat) : Nat × Option (pm_L × pm_L) :=
  match (pm_atom K a).2 with
  | some (l, w) => ((pm_atom K a).1, some (l ++ [(82, a), (54, 0)], w))
  | none => (a, some ([], []))
def pm_turn (K : Nat → Nat) (s p a : Nat) : Nat × Option (pm_L × pm_L) :=
  if 80 ≤ s then (a, some ([], [(s, p)]))
  else if s < 38 then (if K a = s then (a + 1, some ([], [])) else (a, none))
  else if s = 40 then pm_decl K a
  else if s = 42 then pm_expr K a
  else if s = 44 then (if K a = 17 then (a + 1, some ([(42, 0), (16, 0), (83, a)], [])) else if K a = 16 then (a + 1, some ([], [])) else (a, none))
  else if s = 45 then (a, some ([(63, 0), (62, 0), (61, 0), (60, 0)], []))
  else if s = 46 then (if K a = 10 then (a + 1, some ([(42, 0), (47, p)], [])) else (a, none))
  else if s = 47 then (if K a = 11 then (a + 1, some ([], [(90, p)])) else (a, none))
  else if s = 50 then (if K a = 25 then (a + 1, some ([(55, 0), (54, 0), (53, 0), (52, 0), (51, 0), (50, 0), (83, a)], [])) else (a, some ([], [])))
  else if s = 51 then (if K a = 18 then (a + 1, some ([(55, 0), (54, 0), (53, 0), (52, 0), (51, 0), (83, a)], [])) else (a, some ([], [])))
  else if s = 52 then (if K a = 21 then (a + 1, some ([(55, 0), (54, 0), (53, 0), (83, a), (52, 0)], [])) else (a, some ([], [])))
  else if s = 53 then (if K a = 19 ∨ K a = 20 then (a + 1, some ([(55, 0), (54, 0), (83, a), (53, 0)], [])) else (a, some ([], [])))
  else if s = 54 then pm_apl K a
  else if s = 55 then pm_atom K a
  else if s = 60 then (if K a = 37 then (a + 1, some ([(63, 0), (62, 0), (61, 0), (60, 0), (83, a)], [])) else (a, some ([], [])))
  else if s = 61 then (if K a = 36 then (a + 1, some ([(63, 0), (62, 0), (61, 0), (83, a)], [])) else (a, some ([], [])))
  else if s = 62 then (if K a = 34 ∨ K a = 23 then (a + 1, some ([(62, 0)], [(83, a)])) else (a, some ([], [])))
  else if s = 63 then (if K a = 15 then (a + 1, some ([(45, 0), (16, 0)], [])) else if (31 ≤ K a ∧ K a ≤ 33) ∨ K a = 35 then (a + 1, some ([], [(80, a)])) else (a, none))
  else (a, none)
/-- the whole run: f turns at most; the answer: the place, all steps written, and whether all symbols were met -/
def pm_go (K : Nat → Nat) : Nat → pm_L → Nat → pm_L → Option (Nat × pm_L × Bool)
  | 0, _, _, _ => none
  | _ + 1, [], a, sp => some (a, sp, true)
  | f + 1, (s, p) :: ss, a, sp =>
    match (pm_turn K s p a).2 with
    | none => some ((pm_turn K s p a).1, sp, false)
    | some (l, w) => pm_go K f (l ++ ss) (pm_turn K s p a).1 (sp ++ w)
theorem pm_go_m {K : Nat → Nat} : ∀ {f g : Nat} {ss : pm_L} {a : Nat} {sp : pm_L} {r : Nat × pm_L × Bool}, pm_go K f ss a sp = some r → f ≤ g → pm_go K g ss a sp = some r := by
  intro f
  induction f with
  | zero => intro g ss a sp r h; cases h
  | succ f ih =>
    intro g ss a sp r h hg
    obtain ⟨g, rfl⟩ : ∃ k, g = k + 1 := ⟨g - 1, by omega⟩
    cases ss with
    | nil => exact h
    | cons x ss =>
      obtain ⟨s, p⟩ := x
      unfold pm_go at h ⊢
      cases e : (pm_turn K s p a).2 with
      | none => rw [e] at h; exact h
      | some q =>
        obtain ⟨l, w⟩ := q
        rw [e] at h
        exact ih h (by omega)
/-- the weight of what waits: every turn that takes no token lessens it -/
def pm_w (s : Nat) : Nat := if s = 42 then 8 else if s = 45 then 5 else 1
def pm_ws : pm_L → Nat
  | [] => 0
  | x :: l => pm_w x.1 + pm_ws l
theorem pm_ws_a : ∀ l l', pm_ws (l ++ l') = pm_ws l + pm_ws l' := by
  intro l
  induction l with
  | nil => intro l'; simp [pm_ws]
  | cons x l ih => intro l'; simp [pm_ws, ih]; omega
/-- how many places the symbols take -/
def pm_y (s : Nat) : Nat := if s = 46 then 4 else if s = 47 then 2 else 1
def pm_ys : pm_L → Nat
  | [] => 0
  | x :: l => pm_y x.1 + pm_ys l
theorem pm_ys_a : ∀ l l', pm_ys (l ++ l') = pm_ys l + pm_ys l' := by
  intro l
  induction l with
  | nil => intro l'; simp [pm_ys]
  | cons x l ih => intro l'; simp [pm_ys, ih]; omega
def pm_h5 : pm_L → Nat
  | [] => 0
  | x :: _ => if x.1 = 55 ∨ x.1 = 63 then 5 else 0
/-- the steps that a stack of symbols will write of itself -/
def pm_c (s : Nat) : Nat := if 80 ≤ s then 1 else if s = 46 then 1 else if s = 47 then 1 else 0
def pm_cs : pm_L → Nat
  | [] => 0
  | x :: l => pm_c x.1 + pm_cs l
theorem pm_cs_a : ∀ l l', pm_cs (l ++ l') = pm_cs l + pm_cs l' := by
  intro l
  induction l with
  | nil => intro l'; simp [pm_cs]
  | cons x l ih => intro l'; simp [pm_cs, ih]; omega
theorem pm_nq_ge {K : Nat → Nat} : ∀ f q, q ≤ pm_nq K f q ∧ pm_nq K f q ≤ q + f := by
  intro f
  induction f with
  | zero => intro q; exact ⟨Nat.le_refl _, Nat.le_refl _⟩
  | succ f ih =>
    intro q
    unfold pm_nq
    by_cases c : K q = 3
    · rw [if_pos c]; have := ih (q + 1); omega
    · rw [if_neg c]; omega
theorem pm_nq_in {K : Nat → Nat} : ∀ f q i, q ≤ i → i < pm_nq K f q → K i = 3 := by
  intro f
  induction f with
  | zero => intro q i h h'; unfold pm_nq at h'; omega
  | succ f ih =>
    intro q i h h'
    unfold pm_nq at h'
    by_cases c : K q = 3
    · rw [if_pos c] at h'
      by_cases e : i = q
      · rw [e]; exact c
      · exact ih (q + 1) i (by omega) h'
    · rw [if_neg c] at h'; omega
/-- what a turn does to the numbers: c tokens in all -/
def pm_N (c a s a' : Nat) (l w : pm_L) : Prop :=
  a ≤ a' ∧ a' ≤ c ∧ (a' = a → pm_ws l < pm_w s) ∧ pm_ws l ≤ 27 ∧ pm_ys l + (if s = 55 ∨ s = 63 then 5 else 0) + 9 * a ≤ pm_y s + 9 * a' + pm_h5 l ∧ w.length + pm_cs l + 2 * a ≤ pm_c s + 2 * a'
theorem pm_lt {K : Nat → Nat} {c a t : Nat} (hK : ∀ i, c ≤ i → K i = 99) (h : K a = t) (ht : t ≠ 99) : a < c := by
  by_cases q : a < c
  · exact q
  · exact (ht (h.symm.trans (hK a (by omega)))).elim
theorem pm_lt2 {K : Nat → Nat} {c a t u : Nat} (hK : ∀ i, c ≤ i → K i = 99) (h : K a = t ∨ K a = u) (ht : t ≠ 99) (hu : u ≠ 99) : a < c := by
  rcases h with h | h
  · exact pm_lt hK h ht
  · exact pm_lt hK h hu
theorem pm_lt3 {K : Nat → Nat} {c a : Nat} (hK : ∀ i, c ≤ i → K i = 99) (h : (31 ≤ K a ∧ K a ≤ 33) ∨ K a = 35) : a < c := by
  by_cases q : a < c
  · exact q
  · have := hK a (by omega)
    omega
theorem pm_alone_lt {K : Nat → Nat} {c a : Nat} (hK : ∀ i, c ≤ i → K i = 99) (h : pm_alone (K a) = true) : a < c := by
  by_cases q : a < c
  · exact q
  · rw [hK a (by omega)] at h
    exact absurd h (by decide)
theorem pm_N_atom {K : Nat → Nat} {c a a' : Nat} {l w : pm_L} (hK : ∀ i, c ≤ i → K i = 99) (h : pm_atom K a = (a', some (l, w))) : pm_N c a 55 a' l w := by
  unfold pm_atom at h
  by_cases c1 : pm_alone (K a) = true
  · rw [if_pos c1] at h
    have q := pm_alone_lt hK c1
    simp at h
    obtain ⟨rfl, rfl, rfl⟩ := h
    unfold pm_N
    simp [pm_ws, pm_w, pm_ys, pm_y, pm_h5, pm_cs, pm_c]
    omega
  · rw [if_neg c1] at h
    by_cases c2 : K a = 15
    · rw [if_pos c2] at h
      have q := pm_lt hK c2 (by decide)
      by_cases c3 : K (a + 1) = 16
      · rw [if_pos c3] at h
        have q := pm_lt hK c3 (by decide)
        simp at h
        obtain ⟨rfl, rfl, rfl⟩ := h
        unfold pm_N
        simp [pm_ws, pm_w, pm_ys, pm_y, pm_h5, pm_cs, pm_c]
        omega
      · rw [if_neg c3] at h
        simp at h
        obtain ⟨rfl, rfl, rfl⟩ := h
        unfold pm_N
        simp [pm_ws, pm_w, pm_ys, pm_y, pm_h5, pm_cs, pm_c]
        omega
    · rw [if_neg c2] at h
      by_cases c3 : K a = 6
      · rw [if_pos c3] at h
        have q := pm_lt hK c3 (by decide)
        simp at h
        obtain ⟨rfl, rfl, rfl⟩ := h
        unfold pm_N
        simp [pm_ws, pm_w, pm_ys, pm_y, pm_h5, pm_cs, pm_c]
        omega
      · rw [if_neg c3] at h
        simp at h
