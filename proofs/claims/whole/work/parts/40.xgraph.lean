/-! the component's nodes as a graph -/
section
variable {f_tokenCount f_accepted f_lastPlace f_openCount f_draftOpen f_symbolCount f_stepCount f_bindingCount f_waitingCount f_clashPlace f_nodeCount f_todoCount : Int32} {a_kinds a_values a_declaredSize a_declaredNodes a_draftSize a_draftNodes a_symbols a_symbolPlaces a_steps a_stepPlaces a_bindings a_boundType a_waitingTypes a_waitingFirm a_shape a_left a_right a_link a_note a_todo a_todoOther a_generalNode : Nat → Int32}
variable {kd pa pb : Nat → Nat} {n K : Nat}
/-- the arrays hold the graph -/
def xg_G (n : Nat) (sh lf rt lk : Nat → Int32) (kd pa pb : Nat → Nat) : Prop :=
  ∀ i, i < n → (kd i = 1000 ∧ pa i ≠ i ∧ pa i < n ∧ lk i = nI (pa i)) ∨ (kd i ≠ 1000 ∧ kd i < 30 ∧ lk i = nI i ∧ sh i = nI (kd i) ∧ (gr_cn (kd i) → lf i = nI (pa i) ∧ rt i = nI (pb i)))
/-- a stack in an array: the uppermost is the list's first -/
def st_1 (a : Nat → Int32) : List Nat → Prop
  | [] => True
  | x :: L => a L.length = nI x ∧ st_1 a L
theorem st_1u {a : Nat → Int32} {k : Nat} {x : Int32} : ∀ L : List Nat, L.length ≤ k → st_1 a L → st_1 (upd a k x) L := by
  intro L
  induction L with
  | nil => intro _ _; trivial
  | cons y L ih =>
    intro h z
    rw [List.length_cons] at h
    refine ⟨?_, ih (by omega) z.2⟩
    rw [pk_un (by omega)]; exact z.1
theorem st_1p {a : Nat → Int32} {x : Nat} {L : List Nat} (h : st_1 a L) : st_1 (upd a L.length (nI x)) (x :: L) := ⟨pk_us, st_1u L (Nat.le_refl _) h⟩
theorem xw_find_l {post : Int32 → Prop} (hG : xg_G n a_shape a_left a_right a_link kd pa pb) (hn : n ≤ 4096) : ∀ f j c, j < n → c + f ≤ 4096 → kd (gr_f kd pa f j) ≠ 1000 → post (nI (gr_f kd pa f j)) → wX_find_4 post f_tokenCount f_accepted f_lastPlace f_openCount f_draftOpen f_symbolCount f_stepCount f_bindingCount f_waitingCount f_clashPlace f_nodeCount f_todoCount a_kinds a_values a_declaredSize a_declaredNodes a_draftSize a_draftNodes a_symbols a_symbolPlaces a_steps a_stepPlaces a_bindings a_boundType a_waitingTypes a_waitingFirm a_shape a_left a_right a_link a_note a_todo a_todoOther a_generalNode (f + 1) (nI j) (nI c) := by
  intro f
  induction f with
  | zero =>
    intro j c hj hc hk hp
    refine br_c (fun _ => hp) (fun _ => ⟨vp_in_nI (by omega) (by omega), ?_⟩)
    rcases hG j hj with z | z
    · exact (hk z.1).elim
    · rw [nI_clamp (by omega)]
      exact br_t z.2.2.1 hp
  | succ f ih =>
    intro j c hj hc hk hp
    refine br_f (nI_ge (b := 4096) (by omega) (by decide)) ⟨vp_in_nI (by omega) (by omega), ?_⟩
    rw [nI_clamp (by omega)]
    rcases hG j hj with z | z
    · rw [gr_f_l z.1] at hk hp
      have ne : ¬ a_link j = nI j := by
        rw [z.2.2.2]
        intro e
        exact z.2.1 ((nI_eq (by omega) (by omega)).mp e)
      exact br_f ne ⟨vp_in_nI (by omega) (by omega), nm_r z.2.2.2 (nm_r (nI_1 c) (ih _ _ z.2.2.1 (by omega) hk hp))⟩
    · rw [gr_f_r z.1] at hp
      exact br_t z.2.2.1 hp
theorem xw_find {post : Int32 → Prop} {i r : Nat} (hG : xg_G n a_shape a_left a_right a_link kd pa pb) (hn : n ≤ 4096) (hL : gr_L n kd pa K) (hK : K ≤ 4096) (hi : i < n) (hr : gr_to kd pa i r) (hp : post (nI r)) : wpX_find post (f_tokenCount, f_accepted, f_lastPlace, f_openCount, f_draftOpen, f_symbolCount, f_stepCount, f_bindingCount, f_waitingCount, f_clashPlace, f_nodeCount, f_todoCount, a_kinds, a_values, a_declaredSize, a_declaredNodes, a_draftSize, a_draftNodes, a_symbols, a_symbolPlaces, a_steps, a_stepPlaces, a_bindings, a_boundType, a_waitingTypes, a_waitingFirm, a_shape, a_left, a_right, a_link, a_note, a_todo, a_todoOther, a_generalNode) (nI i) := by
  have e := gr_to_u hr (gr_L_to hL hi)
  rw [e] at hp
  exact ⟨K + 1, xw_find_l hG hn K i 0 hi (by omega) (hL i hi) hp⟩
theorem xw_new {post : Int32 → SX → Prop} {k a b : Int32} (hn : n < 4096) (h : post (nI n) (f_tokenCount, f_accepted, f_lastPlace, f_openCount, f_draftOpen, f_symbolCount, f_stepCount, f_bindingCount, f_waitingCount, f_clashPlace, nI (n + 1), f_todoCount, a_kinds, a_values, a_declaredSize, a_declaredNodes, a_draftSize, a_draftNodes, a_symbols, a_symbolPlaces, a_steps, a_stepPlaces, a_bindings, a_boundType, a_waitingTypes, a_waitingFirm, upd a_shape n k, upd a_left n a, upd a_right n b, upd a_link n (nI n), upd a_note n 0, a_todo, a_todoOther, a_generalNode)) : wpX_newNode post (f_tokenCount, f_accepted, f_lastPlace, f_openCount, f_draftOpen, f_symbolCount, f_stepCount, f_bindingCount, f_waitingCount, f_clashPlace, nI n, f_todoCount, a_kinds, a_values, a_declaredSize, a_declaredNodes, a_draftSize, a_draftNodes, a_symbols, a_symbolPlaces, a_steps, a_stepPlaces, a_bindings, a_boundType, a_waitingTypes, a_waitingFirm, a_shape, a_left, a_right, a_link, a_note, a_todo, a_todoOther, a_generalNode) k a b := by
  have e : (nI n).toNatClampNeg = n := nI_clamp (by omega)
  have hi : vp_in (nI n) 4096 := vp_in_nI hn (by decide)
  refine br_t (nI_lt (b := 4096) hn (by decide)) (nm_r (nI_1 n) ⟨hi, ?_⟩)
  rw [e]
  exact nm_e ⟨hi, nm_e ⟨hi, nm_e ⟨hi, nm_e ⟨hi, nm_e h⟩⟩⟩⟩
theorem xg_new {sh lf rt lk : Nat → Int32} {k a b : Nat} (hG : xg_G n sh lf rt lk kd pa pb) (hk : k < 30) : xg_G (n + 1) (upd sh n (nI k)) (upd lf n (nI a)) (upd rt n (nI b)) (upd lk n (nI n)) (gr_u kd n k) (gr_u pa n a) (gr_u pb n b) := by
  intro i hi
  by_cases c : i = n
  · subst c
    rw [gr_us, gr_us, gr_us, pk_us, pk_us, pk_us, pk_us]
    exact Or.inr ⟨by omega, hk, rfl, rfl, fun _ => ⟨rfl, rfl⟩⟩
  · rw [gr_un c, gr_un c, gr_un c, pk_un c, pk_un c, pk_un c, pk_un c]
    rcases hG i (by omega) with z | z
    · exact Or.inl ⟨z.1, z.2.1, by omega, z.2.2.2⟩
    · exact Or.inr z
theorem gr_same_u {a b k : Nat} : gr_same n kd pa pb (gr_u kd n k) (gr_u pa n a) (gr_u pb n b) := by
  intro i hi
  exact ⟨gr_un (by omega), gr_un (by omega), gr_un (by omega)⟩
theorem gr_f_n {kd' pa' pb' : Nat → Nat} (W : gr_W n kd pa pb) (s : gr_same n kd pa pb kd' pa' pb') : ∀ f i, i < n → gr_f kd' pa' f i = gr_f kd pa f i := by
  intro f
  induction f with
  | zero => intro i _; rfl
  | succ f ih =>
    intro i hi
    obtain ⟨e1, e2, _⟩ := s i hi
    by_cases c : kd i = 1000
    · rw [gr_f_l c, gr_f_l (e1.trans c), e2]; exact ih _ ((W i hi).1 c)
    · rw [gr_f_r c, gr_f_r (by rw [e1]; exact c)]
theorem gr_L_n {kd' pa' pb' : Nat → Nat} (W : gr_W n kd pa pb) (s : gr_same n kd pa pb kd' pa' pb') (hL : gr_L n kd pa K) (hk : kd' n ≠ 1000) : gr_L (n + 1) kd' pa' K := by
  intro i hi
  by_cases c : i < n
  · rw [gr_f_n W s K i c]
    have t := gr_to_n W (gr_L_to hL c) c
    rw [(s _ t).1]; exact hL i c
  · have e : i = n := by omega
    subst e
    rw [gr_f_r hk]; exact hk
theorem gr_nr_n {kd' pa' pb' : Nat → Nat} (s : gr_same n kd pa pb kd' pa' pb') (hk : kd' n ≠ 1000) : gr_nr kd' (n + 1) = gr_nr kd n + 1 := by
  show gr_nr kd' n + (if kd' n = 1000 then 0 else 1) = _
  rw [if_neg hk, gr_nr_c n (fun i hi => (s i hi).1)]
theorem xw_parts {post : Int32 → Prop} {i k : Nat} (hi : i < 4096) (hs : a_shape i = nI k) (hk : k < 30) (h1 : gr_cn k → post 1) (h0 : ¬ gr_cn k → post 0) : wpX_hasParts post (f_tokenCount, f_accepted, f_lastPlace, f_openCount, f_draftOpen, f_symbolCount, f_stepCount, f_bindingCount, f_waitingCount, f_clashPlace, f_nodeCount, f_todoCount, a_kinds, a_values, a_declaredSize, a_declaredNodes, a_draftSize, a_draftNodes, a_symbols, a_symbolPlaces, a_steps, a_stepPlaces, a_bindings, a_boundType, a_waitingTypes, a_waitingFirm, a_shape, a_left, a_right, a_link, a_note, a_todo, a_todoOther, a_generalNode) (nI i) := by
  have v : vp_in (nI i) 4096 := vp_in_nI hi (by decide)
  refine ⟨v, ?_⟩
  rw [nI_clamp (by omega), hs]
  refine pk_lt k 3 (fun c => h0 (by omega)) (fun c => ⟨v, ?_⟩)
  exact pk_lt 6 k (fun c' => h0 (by omega)) (fun c' => h1 (by omega))
theorem xg_sh {sh lf rt lk : Nat → Int32} {i : Nat} (hG : xg_G n sh lf rt lk kd pa pb) (hi : i < n) (hk : kd i ≠ 1000) : kd i < 30 ∧ sh i = nI (kd i) ∧ (gr_cn (kd i) → lf i = nI (pa i) ∧ rt i = nI (pb i)) := by
  rcases hG i hi with z | z
  · exact (hk z.1).elim
  · exact ⟨z.2.1, z.2.2.2.1, z.2.2.2.2⟩
/-- how many below n have a property -/
def ct_n (p : Nat → Bool) : Nat → Nat
  | 0 => 0
  | n + 1 => ct_n p n + (if p n = true then 1 else 0)
theorem ct_c {p q : Nat → Bool} : ∀ n, (∀ i, i < n → p i = q i) → ct_n p n = ct_n q n := by
  intro n
  induction n with
  | zero => intro _; rfl
  | succ n ih =>
    intro h
    unfold ct_n
    rw [ih (fun i hi => h i (by omega)), h n (by omega)]
theorem ct_le {p : Nat → Bool} : ∀ n, ct_n p n ≤ n := by
  intro n
  induction n with
  | zero => exact Nat.le_refl 0
  | succ n ih =>
    unfold ct_n
    by_cases c : p n = true
    · rw [if_pos c]; omega
    · rw [if_neg c]; omega
theorem ct_u {p q : Nat → Bool} {a : Nat} (ha : p a = true) (hq : q a = false) (ho : ∀ i, i ≠ a → q i = p i) : ∀ n, a < n → ct_n q n + 1 = ct_n p n := by
  intro n
  induction n with
  | zero => intro h; omega
  | succ n ih =>
    intro h
    unfold ct_n
    by_cases c : a = n
    · subst c
      rw [ha, hq, if_pos rfl, if_neg (by decide), ct_c a (fun i hi => ho i (by omega))]
    · rw [ho n (by omega)]
      have := ih (by omega)
      omega
end
