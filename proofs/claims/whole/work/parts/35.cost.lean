/-! how many nodes a declaration can make: pf b n m bounds them, n made, m the greatest copy, b tokens left -/
def pf : Nat → Nat → Nat → Nat
  | 0, n, _ => n
  | 1, n, m => n + (m + 15)
  | 2, n, m => n + (m + 15) + (m + 15)
  | 3, n, m => n + (m + 15) + (m + 15) + (m + 15)
  | 4, n, m => n + (m + 15) + (m + 15) + (m + 15) + (m + 15)
  | b + 5, n, m => Nat.max (pf (b + 4) (n + (m + 15)) m) (pf b (n + 3) (Nat.max m n))
theorem pf_1 : ∀ b n m, pf b (n + (m + 15)) m ≤ pf (b + 1) n m
  | 0, n, m => Nat.le_refl _
  | 1, n, m => Nat.le_refl _
  | 2, n, m => Nat.le_refl _
  | 3, n, m => Nat.le_refl _
  | b + 4, n, m => by
    show _ ≤ Nat.max _ _
    exact Nat.le_max_left _ _
theorem pf_5 (b n m : Nat) : pf b (n + 3) (Nat.max m n) ≤ pf (b + 5) n m := by
  show _ ≤ Nat.max _ _
  exact Nat.le_max_right _ _
theorem pf_nm : ∀ b n n' m m', n ≤ n' → m ≤ m' → pf b n m ≤ pf b n' m'
  | 0, n, n', m, m', h, _ => h
  | 1, n, n', m, m', h, h' => by unfold pf; omega
  | 2, n, n', m, m', h, h' => by unfold pf; omega
  | 3, n, n', m, m', h, h' => by unfold pf; omega
  | 4, n, n', m, m', h, h' => by unfold pf; omega
  | b + 5, n, n', m, m', h, h' => by
    have a := pf_nm (b + 4) (n + (m + 15)) (n' + (m' + 15)) m m' (by omega) h'
    have mm : Nat.max m n ≤ Nat.max m' n' := by
      refine Nat.max_le.mpr ⟨Nat.le_trans h' (Nat.le_max_left _ _), Nat.le_trans h (Nat.le_max_right _ _)⟩
    have c := pf_nm b (n + 3) (n' + 3) (Nat.max m n) (Nat.max m' n') (by omega) mm
    show Nat.max _ _ ≤ Nat.max _ _
    exact Nat.max_le.mpr ⟨Nat.le_trans a (Nat.le_max_left _ _), Nat.le_trans c (Nat.le_max_right _ _)⟩
theorem pf_b (b n m : Nat) : pf b n m ≤ pf (b + 1) n m := Nat.le_trans (pf_nm b n (n + (m + 15)) m m (by omega) (Nat.le_refl _)) (pf_1 b n m)
theorem pf_bb {b b' : Nat} (n m : Nat) (h : b ≤ b') : pf b n m ≤ pf b' n m := by
  induction b' with
  | zero => have : b = 0 := by omega
            subst this; exact Nat.le_refl _
  | succ b' ih =>
    by_cases e : b = b' + 1
    · rw [e]; exact Nat.le_refl _
    · exact Nat.le_trans (ih (by omega)) (pf_b b' n m)
theorem pf_n (b n m : Nat) : n ≤ pf b n m := pf_bb (b := 0) n m (by omega)
/-- k tokens pay for k times m + 15 nodes -/
theorem pf_k : ∀ k b n m, pf b (n + k * (m + 15)) m ≤ pf (b + k) n m := by
  intro k
  induction k with
  | zero => intro b n m; simp
  | succ k ih =>
    intro b n m
    have a := pf_1 (b + k) n m
    have c := ih b (n + (m + 15)) m
    have e : n + (k + 1) * (m + 15) = n + (m + 15) + k * (m + 15) := by rw [Nat.succ_mul]; omega
    rw [e]
    exact Nat.le_trans c a
/-- the numbers that the steps lead to: nodes made, the greatest copy, the last declaration's nodes -/
def cr_c (K mq : Nat → Nat) (m s p : Nat) : Nat :=
  if s = 80 then (if K p = 3 then m + 12 else 5) else if s = 81 then 1 else if s = 82 then 3 else if s = 83 then 3 else if s = 84 then 2 else if s = 85 then 1 else if s = 86 then 1 else if s = 87 then mq p else if s = 88 then mq p else 0
def cr_1 (K mq : Nat → Nat) (x : Nat × Nat × Nat) (s p : Nat) : Nat × Nat × Nat :=
  (x.1 + cr_c K mq (Nat.max x.2.1 x.2.2) s p, Nat.max x.2.1 x.2.2, if s = 88 ∨ s = 89 then x.1 + cr_c K mq (Nat.max x.2.1 x.2.2) s p else 0)
/-- what the symbols that wait will cost of themselves -/
def cq_w (mq : Nat → Nat) (s p : Nat) : Nat := if s = 82 then 3 else if s = 83 then 3 else if s = 84 then 2 else if s = 86 then 1 else if s = 88 then mq p else 0
def cq_h (ss : pm_L) : Nat := match ss with
  | [] => 0
  | x :: _ => if x.1 = 82 then 3 else 0
/-- an application is paid with its argument's first token, that of a let with its in -/
def cq_p (mq : Nat → Nat) : pm_L → Nat
  | [] => 0
  | x :: ss => (if x.1 = 46 then 0 else cq_h ss) + (if x.1 = 82 then 0 else cq_w mq x.1 x.2) + cq_p mq ss
def cq_46 : pm_L → Nat
  | [] => 0
  | x :: ss => (if x.1 = 46 then 1 else 0) + cq_46 ss
def cq_40 (ss : pm_L) : Nat := match ss with
  | [] => 0
  | x :: _ => if x.1 = 40 then 3 else 0
def cq_m (ss : pm_L) (x : Nat × Nat × Nat) : Nat := match ss with
  | [] => x.2.1
  | y :: _ => if y.1 = 46 then x.2.1 else Nat.max x.2.1 x.2.2
/-- behind a declaration comes a let's in, or nothing; and a declaration that hasn't begun stands first -/
def cq_adj : pm_L → Prop
  | [] => True
  | x :: ss => (x.1 = 40 ∨ x.1 = 88 ∨ x.1 = 89 → ss = [] ∨ ∃ q r, ss = (46, q) :: r) ∧ (∀ y, y ∈ ss → y.1 ≠ 40) ∧ cq_adj ss
def cq_I (mq : Nat → Nat) (c : Nat) (ss : pm_L) (a : Nat) (x : Nat × Nat × Nat) : Prop :=
  pf ((c - a) + 4 * cq_46 ss - cq_40 ss) (x.1 + (cq_h ss + cq_p mq ss)) (cq_m ss x) ≤ 1503 ∧ x.2.2 ≤ x.1 ∧ cq_adj ss
theorem cq_46_c (y : Nat × Nat) (ss : pm_L) : cq_46 (y :: ss) = (if y.1 = 46 then 1 else 0) + cq_46 ss := rfl
theorem cq_40_c (y : Nat × Nat) (ss : pm_L) : cq_40 (y :: ss) = if y.1 = 40 then 3 else 0 := rfl
theorem cq_h_c (y : Nat × Nat) (ss : pm_L) : cq_h (y :: ss) = if y.1 = 82 then 3 else 0 := rfl
theorem cq_p_c (mq : Nat → Nat) (y : Nat × Nat) (ss : pm_L) : cq_p mq (y :: ss) = (if y.1 = 46 then 0 else cq_h ss) + (if y.1 = 82 then 0 else cq_w mq y.1 y.2) + cq_p mq ss := rfl
theorem cq_le {b b' n n' m m' k : Nat} (hb : b' + k ≤ b) (hn : n' ≤ n + k * (m + 15)) (hm : m' ≤ m) : pf b' n' m' ≤ pf b n m :=
  Nat.le_trans (pf_nm b' n' (n + k * (m + 15)) m' m hn hm) (Nat.le_trans (pf_k k b' n m) (pf_bb n m hb))
theorem cq_m_le (ss : pm_L) (x : Nat × Nat × Nat) : cq_m ss x ≤ Nat.max x.2.1 x.2.2 := by
  unfold cq_m
  cases ss with
  | nil => exact Nat.le_max_left _ _
  | cons y ss =>
    by_cases c : y.1 = 46
    · simp only [c, if_true]; exact Nat.le_max_left _ _
    · simp only [c, if_false]; exact Nat.le_refl _
theorem cq_h_le (ss : pm_L) : cq_h ss ≤ 3 := by
  unfold cq_h
  cases ss with
  | nil => exact Nat.zero_le _
  | cons y ss =>
    by_cases c : y.1 = 82
    · simp only [c, if_true]; exact Nat.le_refl _
    · simp only [c, if_false]; exact Nat.zero_le _
theorem cq_40_0 {ss : pm_L} (h : ∀ y, y ∈ ss → y.1 ≠ 40) : cq_40 ss = 0 := by
  unfold cq_40
  cases ss with
  | nil => rfl
  | cons y ss => simp only [h y List.mem_cons_self, if_false]
section
variable {K mq : Nat → Nat} {c a a' s p : Nat} {l w ss : pm_L} {x : Nat × Nat × Nat}
/-- a turn that writes nothing and whose head is no let's in -/
theorem cq_step {k : Nat} (C : cq_I mq c ((s, p) :: ss) a x) (hs : s ≠ 46) (ha : a' ≤ c) (haa : a ≤ a') (hd : cq_adj (l ++ ss))
    (hb : (c - a') + 4 * cq_46 (l ++ ss) - cq_40 (l ++ ss) + k ≤ (c - a) + 4 * cq_46 ((s, p) :: ss) - cq_40 ((s, p) :: ss))
    (hn : cq_h (l ++ ss) + cq_p mq (l ++ ss) ≤ cq_h ((s, p) :: ss) + cq_p mq ((s, p) :: ss) + k * 15) : cq_I mq c (l ++ ss) a' x := by
  obtain ⟨c1, c2, c3⟩ := C
  refine ⟨Nat.le_trans (cq_le (k := k) hb ?_ ?_) c1, c2, hd⟩
  · have : k * 15 ≤ k * (cq_m ((s, p) :: ss) x + 15) := Nat.mul_le_mul_left k (by omega)
    omega
  · have e : cq_m ((s, p) :: ss) x = Nat.max x.2.1 x.2.2 := by
      unfold cq_m
      simp only [hs, if_false]
    rw [e]; exact cq_m_le _ _
/-- a turn that writes one step, no declaration's end -/
theorem cq_emit {k s' p' : Nat} (C : cq_I mq c ((s, p) :: ss) a x) (hs : s ≠ 46) (hs' : s' ≠ 88 ∧ s' ≠ 89) (hd : cq_adj (l ++ ss))
    (hb : (c - a') + 4 * cq_46 (l ++ ss) - cq_40 (l ++ ss) + k ≤ (c - a) + 4 * cq_46 ((s, p) :: ss) - cq_40 ((s, p) :: ss))
    (hn : cr_c K mq (Nat.max x.2.1 x.2.2) s' p' + (cq_h (l ++ ss) + cq_p mq (l ++ ss)) ≤ cq_h ((s, p) :: ss) + cq_p mq ((s, p) :: ss) + k * (Nat.max x.2.1 x.2.2 + 15)) : cq_I mq c (l ++ ss) a' (cr_1 K mq x s' p') := by
  obtain ⟨c1, c2, c3⟩ := C
  have e : cq_m ((s, p) :: ss) x = Nat.max x.2.1 x.2.2 := by
    unfold cq_m
    simp only [hs, if_false]
  have q0 : (cr_1 K mq x s' p').2.2 = 0 := by
    unfold cr_1
    simp only [hs'.1, hs'.2, or_self, if_false]
  refine ⟨Nat.le_trans (cq_le (k := k) hb ?_ ?_) c1, by rw [q0]; exact Nat.zero_le _, hd⟩
  · rw [e]
    show x.1 + cr_c K mq (Nat.max x.2.1 x.2.2) s' p' + _ ≤ _
    omega
  · refine Nat.le_trans (cq_m_le _ _) ?_
    rw [q0, e]
    exact Nat.max_le.mpr ⟨Nat.le_refl _, Nat.zero_le _⟩
/-- the end of a declaration is written -/
theorem cq_end {k s' p' : Nat} (C : cq_I mq c ((s', p') :: ss) a x) (hs' : s' = 88 ∨ s' = 89) : cq_I mq c ss a (cr_1 K mq x s' p') := by
  obtain ⟨c1, c2, c3, c4, c5⟩ := C
  have e : cq_m ((s', p') :: ss) x = Nat.max x.2.1 x.2.2 := by
    unfold cq_m
    rcases hs' with h | h
    · simp only [h]; rfl
    · simp only [h]; rfl
  have nx := c3 (by omega)
  have h0 : cq_h ss = 0 := by
    rcases nx with z | ⟨q, r, z⟩
    · rw [z]; rfl
    · rw [z]; rfl
  have m0 : cq_m ss (cr_1 K mq x s' p') = Nat.max x.2.1 x.2.2 := by
    rcases nx with z | ⟨q, r, z⟩
    · rw [z]; rfl
    · rw [z]; rfl
  have z40 : cq_40 ss = 0 := cq_40_0 c4
  refine ⟨?_, ?_, c5⟩
  · refine Nat.le_trans ?_ c1
    rw [m0, e]
    refine cq_le (k := 0) ?_ ?_ (Nat.le_refl _)
    · rw [z40, cq_46_c, cq_40_c]
      rcases hs' with h | h
      · simp [h]
      · simp [h]
    · rw [h0]
      show x.1 + cr_c K mq (Nat.max x.2.1 x.2.2) s' p' + _ ≤ _
      rw [cq_p_c, cq_h_c, h0]
      rcases hs' with h | h
      · simp [h, cr_c, cq_w]; omega
      · simp [h, cr_c, cq_w]
  · unfold cr_1
    simp only [hs', if_true]
    exact Nat.le_refl _
/-- a let's in -/
theorem cq_in (C : cq_I mq c ((46, p) :: ss) a x) (ha : a < c) (hd : cq_adj ((42, 0) :: (47, p) :: ss)) : cq_I mq c ((42, 0) :: (47, p) :: ss) (a + 1) x := by
  obtain ⟨c1, c2, c3, c4, c5⟩ := C
  have z40 : cq_40 ss = 0 := cq_40_0 c4
  have h3 := cq_h_le ss
  refine ⟨Nat.le_trans ?_ c1, c2, hd⟩
  have e1 : cq_m ((46, p) :: ss) x = x.2.1 := rfl
  have e2 : cq_m ((42, 0) :: (47, p) :: ss) x = Nat.max x.2.1 x.2.2 := rfl
  have e3 : cq_46 ((46, p) :: ss) = 1 + cq_46 ss := rfl
  have e4 : cq_46 ((42, 0) :: (47, p) :: ss) = cq_46 ss := by simp [cq_46_c]
  have e5 : cq_40 ((46, p) :: ss) = 0 := rfl
  have e6 : cq_40 ((42, 0) :: (47, p) :: ss) = 0 := rfl
  have e7 : cq_h ((46, p) :: ss) + cq_p mq ((46, p) :: ss) = cq_p mq ss := by simp [cq_p_c, cq_h_c, cq_w]
  have e8 : cq_h ((42, 0) :: (47, p) :: ss) + cq_p mq ((42, 0) :: (47, p) :: ss) = cq_h ss + cq_p mq ss := by
    simp [cq_p_c, cq_h_c, cq_w]
  rw [e1, e2, e3, e4, e5, e6, e7, e8]
  have q := pf_5 ((c - (a + 1)) + 4 * cq_46 ss - 0) (x.1 + cq_p mq ss) x.2.1
  have bb : (c - (a + 1)) + 4 * cq_46 ss - 0 + 5 = (c - a) + 4 * (1 + cq_46 ss) - 0 := by omega
  rw [bb] at q
  refine Nat.le_trans (pf_nm _ _ _ _ _ (by omega) ?_) q
  exact Nat.max_le.mpr ⟨Nat.le_max_left _ _, Nat.le_trans (by omega) (Nat.le_max_right _ _)⟩
end
