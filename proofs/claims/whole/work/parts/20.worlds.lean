/-! what the steps of a declaration do to a set of worlds (ν: the open variables, st: the types that wait, E: the types of the bindings, the innermost first) -/
abbrev dv_W : Type := List tr_T → List tr_T → List tr_T → Prop
def dv_psh (P : List tr_T → List tr_T → tr_T → Prop) (V : dv_W) : dv_W := fun ν st E => ∃ τ st0, st = τ :: st0 ∧ V ν st0 E ∧ P ν E τ
def dv_tr {γ : Type} (inp out : γ → List tr_T) (V : dv_W) : dv_W := fun ν st E => ∃ c st0, st = out c ++ st0 ∧ V ν (inp c ++ st0) E
def dv_app : dv_W → dv_W := dv_tr (γ := tr_T × tr_T) (fun c => [c.1, tr_con 6 c.1 c.2]) (fun c => [c.2])
def dv_pair : dv_W → dv_W := dv_tr (γ := tr_T × tr_T) (fun c => [c.1, c.2]) (fun c => [tr_con 5 c.2 c.1])
def dv_cons : dv_W → dv_W := dv_tr (γ := tr_T) (fun c => [tr_con 3 c c, c]) (fun c => [tr_con 3 c c])
def dv_asg : dv_W → dv_W := dv_tr (γ := tr_T) (fun c => [c, tr_con 4 c c]) (fun _ => [tr_at 2])
def dv_num (k : Nat) : dv_W → dv_W := dv_tr (γ := Unit) (fun _ => [tr_at 0, tr_at 0]) (fun _ => [tr_at k])
def dv_if : dv_W → dv_W := dv_tr (γ := tr_T) (fun c => [c, c, tr_at 1]) (fun c => [c])
def dv_lams (m : Nat) (V : dv_W) : dv_W := fun ν st E => ∃ xs E0, E = xs ++ E0 ∧ xs.length = m ∧ V ν st E0
def dv_fn (V : dv_W) : dv_W := fun ν st E => ∃ x c st0, st = tr_con 6 x c :: st0 ∧ V ν (c :: st0) (x :: E)
def dv_bind (V : dv_W) : dv_W := fun ν st E => ∃ τ E0, E = τ :: E0 ∧ V ν (τ :: st) E0
def dv_let (V : dv_W) : dv_W := fun ν st E => ∃ x, V ν st (x :: E)
/-- the type of a function: xs its parameters, the last one first -/
def dv_arr : List tr_T → tr_T → tr_T
  | [], c => c
  | x :: xs, c => dv_arr xs (tr_con 6 x c)
def dv_fun (m : Nat) (V : dv_W) : dv_W := fun ν st E => ∃ f st0 xs c, st = f :: st0 ∧ xs.length = m ∧ f = dv_arr xs c ∧ V ν (c :: st0) (xs ++ f :: E)
def dv_len (h e : Nat) (V : dv_W) : Prop := ∀ ν st E, V ν st E → st.length = h ∧ E.length = e
/-- given what lies about and the lowest b bindings, the lowest k that wait and all the rest know nothing of each other -/
def dv_CI (k b : Nat) (V : dv_W) : Prop := ∀ ν A A' B B' Eu Eu' El, A.length = k → A'.length = k → El.length = b → V ν (B ++ A) (Eu ++ El) → V ν (B' ++ A') (Eu' ++ El) → V ν (B' ++ A) (Eu' ++ El)
theorem ls_split {α : Type} {X B A C : List α} (h : X ++ C = B ++ A) (hl : A.length ≤ C.length) : ∃ B0, B = X ++ B0 ∧ C = B0 ++ A := by
  rcases List.append_eq_append_iff.mp h with ⟨D, h1, h2⟩ | ⟨D, h1, h2⟩
  · exact ⟨D, h1, h2⟩
  · have : D = [] := by
      have e : A.length = D.length + C.length := by rw [h2, List.length_append]
      exact List.eq_nil_of_length_eq_zero (by omega)
    subst this
    exact ⟨[], by simpa using h1.symm, by simpa using h2.symm⟩
theorem ls_cons {α : Type} {x : α} {B A C : List α} (h : x :: C = B ++ A) (hl : A.length ≤ C.length) : ∃ B0, B = x :: B0 ∧ C = B0 ++ A := by
  obtain ⟨B0, h1, h2⟩ := ls_split (X := [x]) (B := B) (A := A) (C := C) h hl
  exact ⟨B0, h1, h2⟩
theorem dv_len_psh {P : List tr_T → List tr_T → tr_T → Prop} {V : dv_W} {h e : Nat} (hl : dv_len h e V) : dv_len (h + 1) e (dv_psh P V) := by
  intro ν st E ⟨τ, st0, e1, v, _⟩
  have := hl _ _ _ v
  rw [e1]
  exact ⟨by simp [this.1], this.2⟩
theorem dv_len_tr {γ : Type} {inp out : γ → List tr_T} {V : dv_W} {h e i o : Nat} (hi : ∀ c, (inp c).length = i) (ho : ∀ c, (out c).length = o) (hl : dv_len (h + i) e V) : dv_len (h + o) e (dv_tr inp out V) := by
  intro ν st E ⟨c, st0, e1, v⟩
  have := hl _ _ _ v
  rw [List.length_append, hi] at this
  rw [e1, List.length_append, ho]
  exact ⟨by omega, this.2⟩
theorem dv_len_lams {m : Nat} {V : dv_W} {h e : Nat} (hl : dv_len h e V) : dv_len h (e + m) (dv_lams m V) := by
  intro ν st E ⟨xs, E0, e1, e2, v⟩
  have := hl _ _ _ v
  rw [e1, List.length_append, e2]
  exact ⟨this.1, by omega⟩
theorem dv_len_fn {V : dv_W} {h e : Nat} (hl : dv_len (h + 1) (e + 1) V) : dv_len (h + 1) e (dv_fn V) := by
  intro ν st E ⟨x, c, st0, e1, v⟩
  have := hl _ _ _ v
  rw [List.length_cons, List.length_cons] at this
  rw [e1, List.length_cons]
  omega
theorem dv_len_bind {V : dv_W} {h e : Nat} (hl : dv_len (h + 1) e V) : dv_len h (e + 1) (dv_bind V) := by
  intro ν st E ⟨τ, E0, e1, v⟩
  have := hl _ _ _ v
  rw [List.length_cons] at this
  rw [e1, List.length_cons]
  omega
theorem dv_len_let {V : dv_W} {h e : Nat} (hl : dv_len h (e + 1) V) : dv_len h e (dv_let V) := by
  intro ν st E ⟨x, v⟩
  have := hl _ _ _ v
  rw [List.length_cons] at this
  omega
theorem dv_len_fun {m : Nat} {V : dv_W} {h e : Nat} (hl : dv_len (h + 1) (e + m + 1) V) : dv_len (h + 1) e (dv_fun m V) := by
  intro ν st E ⟨f, st0, xs, c, e1, e2, e3, v⟩
  have := hl _ _ _ v
  rw [List.length_cons, List.length_append, List.length_cons, e2] at this
  rw [e1, List.length_cons]
  omega
theorem dv_CI_new {V : dv_W} {h e : Nat} (hl : dv_len h e V) : dv_CI h e V := by
  intro ν A A' B B' Eu Eu' El hA hA' hE v v'
  have l1 := hl _ _ _ v
  have l2 := hl _ _ _ v'
  rw [List.length_append, List.length_append] at l1 l2
  have b1 : B = [] := List.eq_nil_of_length_eq_zero (by omega)
  have b2 : B' = [] := List.eq_nil_of_length_eq_zero (by omega)
  have b3 : Eu = [] := List.eq_nil_of_length_eq_zero (by omega)
  have b4 : Eu' = [] := List.eq_nil_of_length_eq_zero (by omega)
  subst b1 b2 b3 b4
  exact v
theorem dv_CI_psh {P : List tr_T → List tr_T → tr_T → Prop} {V : dv_W} {h e k b : Nat} (hl : dv_len h e V) (hk : k ≤ h) (C : dv_CI k b V) : dv_CI k b (dv_psh P V) := by
  intro ν A A' B B' Eu Eu' El hA hA' hE ⟨τ, st0, e1, v, p⟩ ⟨τ', st0', e1', v', p'⟩
  have l1 := (hl _ _ _ v).1
  have l2 := (hl _ _ _ v').1
  obtain ⟨B0, e2, e3⟩ := ls_cons e1.symm (by omega)
  obtain ⟨B0', e2', e3'⟩ := ls_cons e1'.symm (by omega)
  subst e2 e3 e2' e3'
  exact ⟨τ', B0' ++ A, rfl, C ν A A' B0 B0' Eu Eu' El hA hA' hE v v', p'⟩
theorem dv_CI_tr {γ : Type} {inp out : γ → List tr_T} {V : dv_W} {h e k b i : Nat} (hi : ∀ c, (inp c).length = i) (hl : dv_len (h + i) e V) (hk : k ≤ h) (C : dv_CI k b V) : dv_CI k b (dv_tr inp out V) := by
  intro ν A A' B B' Eu Eu' El hA hA' hE ⟨c, st0, e1, v⟩ ⟨c', st0', e1', v'⟩
  have l1 := (hl _ _ _ v).1
  have l2 := (hl _ _ _ v').1
  rw [List.length_append, hi] at l1 l2
  obtain ⟨B0, e2, e3⟩ := ls_split e1.symm (by omega)
  obtain ⟨B0', e2', e3'⟩ := ls_split e1'.symm (by omega)
  subst e2 e3 e2' e3'
  refine ⟨c', B0' ++ A, List.append_assoc _ _ _, ?_⟩
  rw [← List.append_assoc] at v v' ⊢
  exact C ν A A' _ _ Eu Eu' El hA hA' hE v v'
theorem dv_CI_lams {m : Nat} {V : dv_W} {h e k b : Nat} (hl : dv_len h e V) (hb : b ≤ e) (C : dv_CI k b V) : dv_CI k b (dv_lams m V) := by
  intro ν A A' B B' Eu Eu' El hA hA' hE ⟨xs, E0, e1, m1, v⟩ ⟨xs', E0', e1', m1', v'⟩
  have l1 := (hl _ _ _ v).2
  have l2 := (hl _ _ _ v').2
  obtain ⟨B0, e2, e3⟩ := ls_split e1.symm (by omega)
  obtain ⟨B0', e2', e3'⟩ := ls_split e1'.symm (by omega)
  subst e2 e3 e2' e3'
  exact ⟨xs', B0' ++ El, List.append_assoc _ _ _, m1', C ν A A' B B' B0 B0' El hA hA' hE v v'⟩
theorem dv_CI_fn {V : dv_W} {h e k b : Nat} (hl : dv_len (h + 1) (e + 1) V) (hk : k ≤ h) (C : dv_CI k b V) : dv_CI k b (dv_fn V) := by
  intro ν A A' B B' Eu Eu' El hA hA' hE ⟨x, c, st0, e1, v⟩ ⟨x', c', st0', e1', v'⟩
  have l1 := (hl _ _ _ v).1
  have l2 := (hl _ _ _ v').1
  rw [List.length_cons] at l1 l2
  obtain ⟨B0, e2, e3⟩ := ls_cons e1.symm (by omega)
  obtain ⟨B0', e2', e3'⟩ := ls_cons e1'.symm (by omega)
  subst e2 e3 e2' e3'
  exact ⟨x', c', B0' ++ A, rfl, C ν A A' (c :: B0) (c' :: B0') (x :: Eu) (x' :: Eu') El hA hA' hE v v'⟩
theorem dv_CI_bind {V : dv_W} {h e k b : Nat} (hl : dv_len (h + 1) e V) (hb : b ≤ e) (C : dv_CI k b V) : dv_CI k b (dv_bind V) := by
  intro ν A A' B B' Eu Eu' El hA hA' hE ⟨τ, E0, e1, v⟩ ⟨τ', E0', e1', v'⟩
  have l1 := (hl _ _ _ v).2
  have l2 := (hl _ _ _ v').2
  obtain ⟨B0, e2, e3⟩ := ls_cons e1.symm (by omega)
  obtain ⟨B0', e2', e3'⟩ := ls_cons e1'.symm (by omega)
  subst e2 e3 e2' e3'
  exact ⟨τ', B0' ++ El, rfl, C ν A A' (τ :: B) (τ' :: B') B0 B0' El hA hA' hE v v'⟩
theorem dv_CI_let {V : dv_W} {k b : Nat} (C : dv_CI k b V) : dv_CI k b (dv_let V) := by
  intro ν A A' B B' Eu Eu' El hA hA' hE ⟨x, v⟩ ⟨x', v'⟩
  exact ⟨x', C ν A A' B B' (x :: Eu) (x' :: Eu') El hA hA' hE v v'⟩
theorem dv_CI_fun {m : Nat} {V : dv_W} {h e k b : Nat} (hl : dv_len (h + 1) (e + m + 1) V) (hk : k ≤ h) (C : dv_CI k b V) : dv_CI k b (dv_fun m V) := by
  intro ν A A' B B' Eu Eu' El hA hA' hE ⟨f, st0, xs, c, e1, m1, a1, v⟩ ⟨f', st0', xs', c', e1', m1', a1', v'⟩
  have l1 := (hl _ _ _ v).1
  have l2 := (hl _ _ _ v').1
  rw [List.length_cons] at l1 l2
  obtain ⟨B0, e2, e3⟩ := ls_cons e1.symm (by omega)
  obtain ⟨B0', e2', e3'⟩ := ls_cons e1'.symm (by omega)
  subst e2 e3 e2' e3'
  refine ⟨f', B0' ++ A, xs', c', rfl, m1', a1', ?_⟩
  have z := C ν A A' (c :: B0) (c' :: B0') (xs ++ f :: Eu) (xs' ++ f' :: Eu') El hA hA' hE (by simpa using v) (by simpa using v')
  simpa using z
/-- what rp_gen asks -/
theorem dv_CI_top {V : dv_W} {h e : Nat} (hl : dv_len (h + 1) e V) (C : dv_CI h e V) : ∀ ν E τ st τ' st', V ν (τ :: st) E → V ν (τ' :: st') E → V ν (τ' :: st) E := by
  intro ν E τ st τ' st' v v'
  have l1 := hl _ _ _ v
  have l2 := hl _ _ _ v'
  rw [List.length_cons] at l1 l2
  exact C ν st st' [τ] [τ'] [] [] E (by omega) (by omega) l1.2 v v'
