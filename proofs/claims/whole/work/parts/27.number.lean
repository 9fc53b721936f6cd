/-! numbering by first occurrence: labels below 7 stand for themselves, the others are open or general (cl: general) -/
def ix_of (x : Nat) : List Nat → Nat
  | [] => 0
  | y :: l => if y = x then 0 else ix_of x l + 1
def ix_add (x : Nat) (l : List Nat) : List Nat := if x ∈ l then l else l ++ [x]
theorem ix_le (x : Nat) : ∀ l, ix_of x l ≤ l.length := by
  intro l
  induction l with
  | nil => exact Nat.le_refl 0
  | cons y l ih =>
    unfold ix_of
    rw [List.length_cons]
    by_cases c : y = x
    · rw [if_pos c]; omega
    · rw [if_neg c]; omega
theorem ix_lt {x : Nat} : ∀ {l}, ix_of x l < l.length ↔ x ∈ l := by
  intro l
  induction l with
  | nil => exact ⟨fun h => (Nat.not_lt_zero _ h).elim, fun h => (by cases h)⟩
  | cons y l ih =>
    unfold ix_of
    rw [List.length_cons]
    by_cases c : y = x
    · rw [if_pos c, c]; exact ⟨fun _ => List.mem_cons_self, fun _ => by omega⟩
    · rw [if_neg c, List.mem_cons]
      exact ⟨fun h => Or.inr (ih.mp (by omega)), fun h => h.elim (fun e => (c e.symm).elim) (fun e => by have := ih.mpr e; omega)⟩
theorem ix_no {x : Nat} {l : List Nat} (h : x ∉ l) : ix_of x l = l.length := by
  have h1 := ix_le x l
  have h2 : ¬ ix_of x l < l.length := fun z => h (ix_lt.mp z)
  omega
theorem ix_app {x : Nat} {m : List Nat} : ∀ {l}, x ∈ l → ix_of x (l ++ m) = ix_of x l := by
  intro l
  induction l with
  | nil => intro h; cases h
  | cons y l ih =>
    intro h
    rw [List.cons_append]
    unfold ix_of
    by_cases c : y = x
    · rw [if_pos c, if_pos c]
    · rw [if_neg c, if_neg c]
      rcases List.mem_cons.mp h with z | z
      · exact (c z.symm).elim
      · rw [ih z]
theorem ix_app' {x y : Nat} : ∀ {l}, x ∉ l → ix_of x (l ++ [y]) = if y = x then l.length else l.length + 1 := by
  intro l
  induction l with
  | nil => intro _; rfl
  | cons z l ih =>
    intro h
    rw [List.cons_append]
    unfold ix_of
    have h1 : ¬ z = x := fun e => h (by rw [e]; exact List.mem_cons_self)
    rw [if_neg h1, ih (fun q => h (List.mem_cons_of_mem _ q)), List.length_cons]
    by_cases c : y = x
    · rw [if_pos c, if_pos c]
    · rw [if_neg c, if_neg c]
theorem ix_get {x : Nat} : ∀ {l}, x ∈ l → l[ix_of x l]? = some x := by
  intro l
  induction l with
  | nil => intro h; cases h
  | cons y l ih =>
    intro h
    unfold ix_of
    by_cases c : y = x
    · rw [if_pos c, c]; rfl
    · rw [if_neg c, List.getElem?_cons_succ]
      rcases List.mem_cons.mp h with z | z
      · exact (c z.symm).elim
      · exact ih z
theorem ix_inj {x y : Nat} {l : List Nat} (hx : x ∈ l) (h : ix_of x l = ix_of y l) : x = y := by
  have hy : y ∈ l := ix_lt.mp (by rw [← h]; exact ix_lt.mpr hx)
  have e1 := ix_get hx
  rw [h, ix_get hy] at e1
  exact (Option.some.inj e1).symm
theorem ix_add_m {x : Nat} {l : List Nat} : x ∈ ix_add x l := by
  unfold ix_add
  by_cases c : x ∈ l
  · rw [if_pos c]; exact c
  · rw [if_neg c]; exact List.mem_append_right _ List.mem_cons_self
theorem ix_add_e (x : Nat) (l : List Nat) : ∃ m, ix_add x l = l ++ m := by
  unfold ix_add
  by_cases c : x ∈ l
  · rw [if_pos c]; exact ⟨[], (List.append_nil l).symm⟩
  · rw [if_neg c]; exact ⟨_, rfl⟩
theorem ix_add_i {x : Nat} {l : List Nat} : ix_of x (ix_add x l) = ix_of x l := by
  unfold ix_add
  by_cases c : x ∈ l
  · rw [if_pos c]
  · rw [if_neg c, ix_app' c, if_pos rfl, ix_no c]
theorem ix_add_n {x : Nat} {l : List Nat} (h : l.Nodup) : (ix_add x l).Nodup := by
  unfold ix_add
  by_cases c : x ∈ l
  · rw [if_pos c]; exact h
  · rw [if_neg c]
    refine List.nodup_append.mpr ⟨h, by simp, fun a ha b hb e => ?_⟩
    rw [List.mem_singleton] at hb
    rw [e, hb] at ha
    exact c ha
theorem ix_add_mem {x y : Nat} {l : List Nat} : y ∈ ix_add x l ↔ y ∈ l ∨ y = x := by
  unfold ix_add
  by_cases c : x ∈ l
  · rw [if_pos c]; exact ⟨Or.inl, fun h => h.elim id (fun e => e ▸ c)⟩
  · rw [if_neg c, List.mem_append, List.mem_singleton]
/-- two lists in which what belongs together stands at the same places -/
def ix_R (D : Nat → Nat → Prop) (s s' : List Nat) : Prop := s.length = s'.length ∧ ∀ x x', D x x' → ix_of x s = ix_of x' s'
theorem ix_R_add {D : Nat → Nat → Prop} {s s' : List Nat} {y y' : Nat} (hD : ∀ x x' z z', D x x' → D z z' → (x = z ↔ x' = z')) (h : ix_R D s s') (hy : D y y') : ix_R D (ix_add y s) (ix_add y' s') := by
  obtain ⟨hl, hi⟩ := h
  have my : y ∈ s ↔ y' ∈ s' := by rw [← ix_lt, ← ix_lt, hl, hi y y' hy]
  unfold ix_add
  by_cases c : y ∈ s
  · rw [if_pos c, if_pos (my.mp c)]; exact ⟨hl, hi⟩
  · rw [if_neg c, if_neg (fun z => c (my.mpr z))]
    refine ⟨by rw [List.length_append, List.length_append, hl]; rfl, fun x x' hx => ?_⟩
    have mx : x ∈ s ↔ x' ∈ s' := by rw [← ix_lt, ← ix_lt, hl, hi x x' hx]
    by_cases d : x ∈ s
    · rw [ix_app d, ix_app (mx.mp d)]; exact hi x x' hx
    · rw [ix_app' d, ix_app' (fun z => d (mx.mpr z)), hl]
      have q := hD y y' x x' hy hx
      by_cases e : y = x
      · rw [if_pos e, if_pos (q.mp e)]
      · rw [if_neg e, if_neg (fun z => e (q.mpr z))]
theorem ix_R_0 {D : Nat → Nat → Prop} : ix_R D [] [] := ⟨rfl, fun _ _ _ => rfl⟩
def nm_c (cl : Nat → Bool) (so sg : List Nat) (x : Nat) : Nat := if x < 7 then x else if cl x = true then 10 + ix_of x sg else 100 + ix_of x so
def nm_o (cl : Nat → Bool) (so : List Nat) (x : Nat) : List Nat := if x < 7 ∨ cl x = true then so else ix_add x so
def nm_g (cl : Nat → Bool) (sg : List Nat) (x : Nat) : List Nat := if x < 7 ∨ cl x = false then sg else ix_add x sg
/-- the codes of a list of labels; so, sg: the open and the general ones met so far -/
def nm_l (cl : Nat → Bool) : List Nat → List Nat → List Nat → List Nat
  | _, _, [] => []
  | so, sg, x :: l => nm_c cl so sg x :: nm_l cl (nm_o cl so x) (nm_g cl sg x) l
def nm_so (cl : Nat → Bool) (so l : List Nat) : List Nat := l.foldl (nm_o cl) so
def nm_sg (cl : Nat → Bool) (sg l : List Nat) : List Nat := l.foldl (nm_g cl) sg
/-- the open ones met in the names before v -/
def nm_S (cl : Nat → Bool) (L : Nat → List Nat) : Nat → List Nat
  | 0 => []
  | v + 1 => nm_so cl (nm_S cl L v) (L v)
def nm_d (cl : Nat → Bool) (L : Nat → List Nat) (v : Nat) : List Nat := nm_l cl (nm_S cl L v) [] (L v)
theorem nm_l_len {cl : Nat → Bool} : ∀ (l so sg : List Nat), (nm_l cl so sg l).length = l.length := by
  intro l
  induction l with
  | nil => intro so sg; rfl
  | cons x l ih => intro so sg; unfold nm_l; rw [List.length_cons, List.length_cons, ih]
theorem nm_l_app {cl : Nat → Bool} : ∀ (l m so sg : List Nat), nm_l cl so sg (l ++ m) = nm_l cl so sg l ++ nm_l cl (nm_so cl so l) (nm_sg cl sg l) m := by
  intro l
  induction l with
  | nil => intro m so sg; rfl
  | cons x l ih =>
    intro m so sg
    rw [List.cons_append]
    show nm_c cl so sg x :: nm_l cl (nm_o cl so x) (nm_g cl sg x) (l ++ m) = _
    rw [ih]
    rfl
/-- another choice of labels: the codes stay -/
theorem nm_l_i {cl cl' : Nat → Bool} {Do Dg : Nat → Nat → Prop} {π : Nat → Nat} (ho : ∀ x x' z z', Do x x' → Do z z' → (x = z ↔ x' = z')) (hg : ∀ x x' z z', Dg x x' → Dg z z' → (x = z ↔ x' = z')) : ∀ (l so sg so' sg' : List Nat), (∀ x, x ∈ l → (x < 7 ∧ π x = x) ∨ (7 ≤ x ∧ 7 ≤ π x ∧ cl' (π x) = cl x ∧ (cl x = false → Do x (π x)) ∧ (cl x = true → Dg x (π x)))) → ix_R Do so so' → ix_R Dg sg sg' → nm_l cl' so' sg' (l.map π) = nm_l cl so sg l ∧ ix_R Do (nm_so cl so l) (nm_so cl' so' (l.map π)) ∧ ix_R Dg (nm_sg cl sg l) (nm_sg cl' sg' (l.map π)) := by
  intro l
  induction l with
  | nil => intro so sg so' sg' _ h1 h2; exact ⟨rfl, h1, h2⟩
  | cons x l ih =>
    intro so sg so' sg' h h1 h2
    have hx := h x List.mem_cons_self
    have key : nm_c cl' so' sg' (π x) = nm_c cl so sg x ∧ ix_R Do (nm_o cl so x) (nm_o cl' so' (π x)) ∧ ix_R Dg (nm_g cl sg x) (nm_g cl' sg' (π x)) := by
      unfold nm_c nm_o nm_g
      rcases hx with ⟨a, b⟩ | ⟨a, b, c, d, e⟩
      · rw [b, if_pos a, if_pos a, if_pos (Or.inl a), if_pos (Or.inl a), if_pos (Or.inl a), if_pos (Or.inl a)]
        exact ⟨rfl, h1, h2⟩
      · have n1 : ¬ x < 7 := by omega
        have n2 : ¬ π x < 7 := by omega
        rw [c, if_neg n1, if_neg n2]
        cases k : cl x with
        | true =>
          have f1 : ¬ (x < 7 ∨ true = false) := fun z => z.elim (by omega) (fun z => by cases z)
          have f2 : ¬ (π x < 7 ∨ true = false) := fun z => z.elim (by omega) (fun z => by cases z)
          rw [if_pos rfl, if_pos rfl, if_pos (Or.inr rfl), if_pos (Or.inr rfl), if_neg f1, if_neg f2, h2.2 x _ (e k)]
          exact ⟨rfl, h1, ix_R_add hg h2 (e k)⟩
        | false =>
          have f0 : ¬ (false = true) := fun z => by cases z
          have f1 : ¬ (x < 7 ∨ false = true) := fun z => z.elim (by omega) (fun z => by cases z)
          have f2 : ¬ (π x < 7 ∨ false = true) := fun z => z.elim (by omega) (fun z => by cases z)
          rw [if_neg f0, if_neg f0, if_neg f1, if_neg f2, if_pos (Or.inr rfl), if_pos (Or.inr rfl), h1.2 x _ (d k)]
          exact ⟨rfl, ix_R_add ho h1 (d k), h2⟩
    have r := ih _ _ _ _ (fun y hy => h y (List.mem_cons_of_mem _ hy)) key.2.1 key.2.2
    refine ⟨?_, r.2⟩
    rw [List.map_cons]
    unfold nm_l
    rw [key.1, r.1]
/-- two families of labels that differ by their choice have the same codes -/
theorem nm_inv {cl cl' : Nat → Bool} {L L' : Nat → List Nat} {π : Nat → Nat → Nat} {N : Nat} (hL : ∀ v, v < N → L' v = (L v).map (π v)) (h7 : ∀ v, v < N → ∀ x, x ∈ L v → (x < 7 ∧ π v x = x) ∨ (7 ≤ x ∧ 7 ≤ π v x ∧ cl' (π v x) = cl x)) (hg : ∀ v, v < N → ∀ x y, x ∈ L v → y ∈ L v → 7 ≤ x → 7 ≤ y → cl x = true → cl y = true → π v x = π v y → x = y) (ho : ∀ v w, v < N → w < N → ∀ x y, x ∈ L v → y ∈ L w → 7 ≤ x → 7 ≤ y → cl x = false → cl y = false → (x = y ↔ π v x = π w y)) : (∀ v, v < N → nm_d cl' L' v = nm_d cl L v) ∧ (nm_S cl' L' N).length = (nm_S cl L N).length := by
  have key : ∀ v, v ≤ N → ix_R (fun x x' => ∃ w, w < N ∧ x ∈ L w ∧ 7 ≤ x ∧ cl x = false ∧ x' = π w x) (nm_S cl L v) (nm_S cl' L' v) ∧ (v < N → nm_d cl' L' v = nm_d cl L v) := by
    have one : ∀ v, v < N → ix_R (fun x x' => ∃ w, w < N ∧ x ∈ L w ∧ 7 ≤ x ∧ cl x = false ∧ x' = π w x) (nm_S cl L v) (nm_S cl' L' v) → nm_d cl' L' v = nm_d cl L v ∧ ix_R (fun x x' => ∃ w, w < N ∧ x ∈ L w ∧ 7 ≤ x ∧ cl x = false ∧ x' = π w x) (nm_S cl L (v + 1)) (nm_S cl' L' (v + 1)) := by
      intro v hv hr
      have q := nm_l_i (cl := cl) (cl' := cl') (Do := fun x x' => ∃ w, w < N ∧ x ∈ L w ∧ 7 ≤ x ∧ cl x = false ∧ x' = π w x) (Dg := fun x x' => x ∈ L v ∧ 7 ≤ x ∧ cl x = true ∧ x' = π v x) (π := π v)
        (fun x x' z z' ⟨w, a1, a2, a3, a4, a5⟩ ⟨w', b1, b2, b3, b4, b5⟩ => by rw [a5, b5]; exact ho w w' a1 b1 x z a2 b2 a3 b3 a4 b4)
        (fun x x' z z' ⟨a1, a2, a3, a4⟩ ⟨b1, b2, b3, b4⟩ => by rw [a4, b4]; exact ⟨fun e => by rw [e], hg v hv x z a1 b1 a2 b2 a3 b3⟩)
        (L v) (nm_S cl L v) [] (nm_S cl' L' v) [] (fun x hx => ?_) hr ix_R_0
      · refine ⟨?_, ?_⟩
        · unfold nm_d
          rw [hL v hv]; exact q.1
        · unfold nm_S
          rw [hL v hv]; exact q.2.1
      · rcases h7 v hv x hx with z | ⟨a, b, c⟩
        · exact Or.inl z
        · exact Or.inr ⟨a, b, c, fun k => ⟨v, hv, hx, a, k, rfl⟩, fun k => ⟨hx, a, k, rfl⟩⟩
    intro v
    induction v with
    | zero => intro _; exact ⟨ix_R_0, fun h => (one 0 h ix_R_0).1⟩
    | succ v ih =>
      intro h
      have r := (one v (by omega) (ih (by omega)).1).2
      exact ⟨r, fun h' => (one (v + 1) h' r).1⟩
  exact ⟨fun v hv => (key v (by omega)).2 hv, (key N (Nat.le_refl N)).1.1.symm⟩
/-! the codes read off the lists of all labels met -/
theorem nm_so_e {cl : Nat → Bool} : ∀ (l so : List Nat), ∃ m, nm_so cl so l = so ++ m := by
  intro l
  induction l with
  | nil => intro so; exact ⟨[], (List.append_nil so).symm⟩
  | cons x l ih =>
    intro so
    obtain ⟨m, e⟩ := ih (nm_o cl so x)
    have : ∃ k, nm_o cl so x = so ++ k := by
      unfold nm_o
      by_cases c : x < 7 ∨ cl x = true
      · rw [if_pos c]; exact ⟨[], (List.append_nil so).symm⟩
      · rw [if_neg c]; exact ix_add_e x so
    obtain ⟨k, e'⟩ := this
    refine ⟨k ++ m, ?_⟩
    show nm_so cl (nm_o cl so x) l = _
    rw [e, e', List.append_assoc]
theorem nm_sg_e {cl : Nat → Bool} : ∀ (l so : List Nat), ∃ m, nm_sg cl so l = so ++ m := by
  intro l
  induction l with
  | nil => intro so; exact ⟨[], (List.append_nil so).symm⟩
  | cons x l ih =>
    intro so
    obtain ⟨m, e⟩ := ih (nm_g cl so x)
    have : ∃ k, nm_g cl so x = so ++ k := by
      unfold nm_g
      by_cases c : x < 7 ∨ cl x = false
      · rw [if_pos c]; exact ⟨[], (List.append_nil so).symm⟩
      · rw [if_neg c]; exact ix_add_e x so
    obtain ⟨k, e'⟩ := this
    refine ⟨k ++ m, ?_⟩
    show nm_sg cl (nm_g cl so x) l = _
    rw [e, e', List.append_assoc]
theorem nm_so_mem {cl : Nat → Bool} {y : Nat} : ∀ (l so : List Nat), y ∈ nm_so cl so l ↔ y ∈ so ∨ (y ∈ l ∧ 7 ≤ y ∧ cl y = false) := by
  intro l
  induction l with
  | nil => intro so; exact ⟨Or.inl, fun h => h.elim id (fun h => by cases h.1)⟩
  | cons x l ih =>
    intro so
    show y ∈ nm_so cl (nm_o cl so x) l ↔ _
    rw [ih, List.mem_cons]
    have e : y ∈ nm_o cl so x ↔ y ∈ so ∨ (y = x ∧ 7 ≤ y ∧ cl y = false) := by
      unfold nm_o
      by_cases c : x < 7 ∨ cl x = true
      · rw [if_pos c]
        refine ⟨Or.inl, fun h => h.elim id (fun h => ?_)⟩
        rw [h.1] at h
        rcases c with c | c
        · omega
        · rw [c] at h; cases h.2.2
      · rw [if_neg c, ix_add_mem]
        refine ⟨fun h => h.elim Or.inl (fun h => Or.inr ⟨h, ?_, ?_⟩), fun h => h.elim Or.inl (fun h => Or.inr h.1)⟩
        · rw [h]; exact Nat.le_of_not_lt (fun z => c (Or.inl z))
        · rw [h]
          cases k : cl x with
          | true => exact (c (Or.inr k)).elim
          | false => rfl
    rw [e]
    constructor
    · rintro ((h | h) | h)
      · exact Or.inl h
      · exact Or.inr ⟨Or.inl h.1, h.2⟩
      · exact Or.inr ⟨Or.inr h.1, h.2⟩
    · rintro (h | ⟨h | h, h'⟩)
      · exact Or.inl (Or.inl h)
      · exact Or.inl (Or.inr ⟨h, h'⟩)
      · exact Or.inr ⟨h, h'⟩
theorem nm_sg_mem {cl : Nat → Bool} {y : Nat} : ∀ (l so : List Nat), y ∈ nm_sg cl so l ↔ y ∈ so ∨ (y ∈ l ∧ 7 ≤ y ∧ cl y = true) := by
  intro l
  induction l with
  | nil => intro so; exact ⟨Or.inl, fun h => h.elim id (fun h => by cases h.1)⟩
  | cons x l ih =>
    intro so
    show y ∈ nm_sg cl (nm_g cl so x) l ↔ _
    rw [ih, List.mem_cons]
    have e : y ∈ nm_g cl so x ↔ y ∈ so ∨ (y = x ∧ 7 ≤ y ∧ cl y = true) := by
      unfold nm_g
      by_cases c : x < 7 ∨ cl x = false
      · rw [if_pos c]
        refine ⟨Or.inl, fun h => h.elim id (fun h => ?_)⟩
        rw [h.1] at h
        rcases c with c | c
        · omega
        · rw [c] at h; cases h.2.2
      · rw [if_neg c, ix_add_mem]
        refine ⟨fun h => h.elim Or.inl (fun h => Or.inr ⟨h, ?_, ?_⟩), fun h => h.elim Or.inl (fun h => Or.inr h.1)⟩
        · rw [h]; exact Nat.le_of_not_lt (fun z => c (Or.inl z))
        · rw [h]
          cases k : cl x with
          | false => exact (c (Or.inr k)).elim
          | true => rfl
    rw [e]
    constructor
    · rintro ((h | h) | h)
      · exact Or.inl h
      · exact Or.inr ⟨Or.inl h.1, h.2⟩
      · exact Or.inr ⟨Or.inr h.1, h.2⟩
    · rintro (h | ⟨h | h, h'⟩)
      · exact Or.inl (Or.inl h)
      · exact Or.inl (Or.inr ⟨h, h'⟩)
      · exact Or.inr ⟨h, h'⟩
theorem nm_so_nd {cl : Nat → Bool} : ∀ (l so : List Nat), so.Nodup → (nm_so cl so l).Nodup := by
  intro l
  induction l with
  | nil => intro so h; exact h
  | cons x l ih =>
    intro so h
    refine ih (nm_o cl so x) ?_
    unfold nm_o
    by_cases c : x < 7 ∨ cl x = true
    · rw [if_pos c]; exact h
    · rw [if_neg c]; exact ix_add_n h
theorem nm_sg_nd {cl : Nat → Bool} : ∀ (l so : List Nat), so.Nodup → (nm_sg cl so l).Nodup := by
  intro l
  induction l with
  | nil => intro so h; exact h
  | cons x l ih =>
    intro so h
    refine ih (nm_g cl so x) ?_
    unfold nm_g
    by_cases c : x < 7 ∨ cl x = false
    · rw [if_pos c]; exact h
    · rw [if_neg c]; exact ix_add_n h
/-- codes from the final lists -/
theorem nm_l_fin {cl : Nat → Bool} : ∀ (l so sg m k : List Nat), nm_l cl so sg l = l.map (nm_c cl (nm_so cl so l ++ m) (nm_sg cl sg l ++ k)) := by
  intro l
  induction l with
  | nil => intro so sg m k; rfl
  | cons x l ih =>
    intro so sg m k
    rw [List.map_cons]
    unfold nm_l
    have s1 : nm_so cl so (x :: l) = nm_so cl (nm_o cl so x) l := rfl
    have s2 : nm_sg cl sg (x :: l) = nm_sg cl (nm_g cl sg x) l := rfl
    rw [s1, s2, ih _ _ m k]
    congr 1
    obtain ⟨a, ea⟩ := nm_so_e (cl := cl) l (nm_o cl so x)
    obtain ⟨b, eb⟩ := nm_sg_e (cl := cl) l (nm_g cl sg x)
    rw [ea, eb]
    unfold nm_c
    by_cases c : x < 7
    · rw [if_pos c, if_pos c]
    · rw [if_neg c, if_neg c]
      cases h : cl x with
      | true =>
        rw [if_pos rfl, if_pos rfl]
        have e : nm_g cl sg x = ix_add x sg := by
          unfold nm_g
          rw [h]
          exact if_neg (fun z => z.elim c (fun z => by cases z))
        rw [e, List.append_assoc, ix_app ix_add_m, ix_add_i]
      | false =>
        have f0 : ¬ (false = true) := fun z => by cases z
        rw [if_neg f0, if_neg f0]
        have e : nm_o cl so x = ix_add x so := by
          unfold nm_o
          rw [h]
          exact if_neg (fun z => z.elim c (fun z => by cases z))
        rw [e, List.append_assoc, ix_app ix_add_m, ix_add_i]
theorem nm_S_e {cl : Nat → Bool} {L : Nat → List Nat} {v : Nat} : ∀ N, v ≤ N → ∃ m, nm_S cl L N = nm_S cl L v ++ m := by
  intro N
  induction N with
  | zero => intro h; have : v = 0 := by omega
            rw [this]; exact ⟨[], (List.append_nil _).symm⟩
  | succ N ih =>
    intro h
    by_cases c : v = N + 1
    · rw [c]; exact ⟨[], (List.append_nil _).symm⟩
    · obtain ⟨m, e⟩ := ih (by omega)
      obtain ⟨k, e'⟩ := nm_so_e (cl := cl) (L N) (nm_S cl L N)
      refine ⟨m ++ k, ?_⟩
      show nm_so cl (nm_S cl L N) (L N) = _
      rw [e', e, List.append_assoc]
theorem nm_S_nd {cl : Nat → Bool} {L : Nat → List Nat} : ∀ N, (nm_S cl L N).Nodup := by
  intro N
  induction N with
  | zero => exact List.Pairwise.nil
  | succ N ih => exact nm_so_nd _ _ ih
theorem nm_S_mem {cl : Nat → Bool} {L : Nat → List Nat} {y : Nat} : ∀ N, y ∈ nm_S cl L N ↔ ∃ v, v < N ∧ y ∈ L v ∧ 7 ≤ y ∧ cl y = false := by
  intro N
  induction N with
  | zero => exact ⟨fun h => (by cases h), fun ⟨v, h, _⟩ => (Nat.not_lt_zero _ h).elim⟩
  | succ N ih =>
    show y ∈ nm_so cl (nm_S cl L N) (L N) ↔ _
    rw [nm_so_mem, ih]
    constructor
    · rintro (⟨v, a, b⟩ | h)
      · exact ⟨v, by omega, b⟩
      · exact ⟨N, by omega, h⟩
    · rintro ⟨v, a, b⟩
      by_cases c : v = N
      · rw [c] at b; exact Or.inr b
      · exact Or.inl ⟨v, by omega, b⟩
/-- all codes of a family at once -/
theorem nm_d_fin {cl : Nat → Bool} {L : Nat → List Nat} {N v : Nat} (hv : v < N) : nm_d cl L v = (L v).map (nm_c cl (nm_S cl L N) (nm_sg cl [] (L v))) := by
  obtain ⟨m, e⟩ := nm_S_e (cl := cl) (L := L) (v := v + 1) N (by omega)
  have q := nm_l_fin (cl := cl) (L v) (nm_S cl L v) [] m []
  rw [List.append_nil] at q
  have e' : nm_S cl L N = nm_so cl (nm_S cl L v) (L v) ++ m := e
  rw [e']
  exact q
