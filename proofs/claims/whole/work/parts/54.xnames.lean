/-! the component's bindings -/
/-- the tokens: c of them, K their kinds (99 behind the last), N their values where they are names or type variables -/
def tk_T (ks vs : Nat → Int32) (c : Nat) (K N : Nat → Nat) : Prop :=
  c ≤ 24 ∧ (∀ i, c ≤ i → K i = 99) ∧ ∀ i, i < c → ks i = nI (K i) ∧ K i < 38 ∧ (K i = 3 → vs i = nI (N i) ∧ N i < 12) ∧ (K i = 35 → vs i = nI (N i) ∧ N i < 4)
/-- places fall from the innermost binding to the outermost -/
def bs_S : List (Nat × Bool) → Prop
  | [] => True
  | b :: bs => (∀ x, x ∈ bs → x.1 < b.1) ∧ bs_S bs
theorem bs_len : ∀ (bs : List (Nat × Bool)) (m : Nat), bs_S bs → (∀ x, x ∈ bs → x.1 < m) → bs.length ≤ m := by
  intro bs
  induction bs with
  | nil => intro m _ _; exact Nat.zero_le _
  | cons b bs ih =>
    intro m h hm
    have z := ih b.1 h.2 h.1
    have := hm b List.mem_cons_self
    rw [List.length_cons]; omega
theorem bs_app : ∀ (A B : List (Nat × Bool)), bs_S (A ++ B) → bs_S B := by
  intro A
  induction A with
  | nil => intro B h; exact h
  | cons a A ih => intro B h; exact ih B h.2
theorem bs_ns {p : Nat} {bs : List (Nat × Bool)} (h : bs_S bs) (hx : ∀ x, x ∈ bs → x.1 ≤ p) : ∀ m, bs_S (pd_ns p m ++ bs) ∧ ∀ x, x ∈ pd_ns p m ++ bs → x.1 ≤ p + m := by
  intro m
  induction m with
  | zero => exact ⟨h, fun x z => hx x z⟩
  | succ m ih =>
    refine ⟨⟨fun x z => ?_, ih.1⟩, fun x z => ?_⟩
    · have := ih.2 x z
      show x.1 < p + 1 + m
      omega
    · rcases List.mem_cons.mp z with z | z
      · rw [z]; show p + 1 + m ≤ p + (m + 1); omega
      · have := ih.2 x z; omega
section
variable {f_tokenCount f_accepted f_lastPlace f_openCount f_draftOpen f_symbolCount f_stepCount f_bindingCount f_waitingCount f_clashPlace f_nodeCount f_todoCount : Int32} {a_kinds a_values a_declaredSize a_declaredNodes a_draftSize a_draftNodes a_symbols a_symbolPlaces a_steps a_stepPlaces a_bindings a_boundType a_waitingTypes a_waitingFirm a_shape a_left a_right a_link a_note a_todo a_todoOther a_generalNode : Nat → Int32}
variable {kd pa pb : Nat → Nat} {n K : Nat}
def xb_P (bd : Nat → Int32) : List (Nat × Bool) → Prop
  | [] => True
  | b :: bs => bd bs.length = nI b.1 ∧ b.1 < 24 ∧ xb_P bd bs
theorem xb_Pu {bd : Nat → Int32} {k : Nat} {x : Int32} : ∀ bs : List (Nat × Bool), bs.length ≤ k → xb_P bd bs → xb_P (upd bd k x) bs := by
  intro bs
  induction bs with
  | nil => intro _ _; trivial
  | cons b bs ih =>
    intro h z
    rw [List.length_cons] at h
    refine ⟨?_, z.2.1, ih (by omega) z.2.2⟩
    rw [pk_un (by omega)]; exact z.1
theorem xb_Pp {bd : Nat → Int32} {b : Nat × Bool} {bs : List (Nat × Bool)} (h : xb_P bd bs) (hb : b.1 < 24) : xb_P (upd bd bs.length (nI b.1)) (b :: bs) := ⟨pk_us, hb, xb_Pu bs (Nat.le_refl _) h⟩
theorem xb_PB {bd bt : Nat → Int32} : ∀ (bs : List (Nat × Bool)) (env : List Nat), xb_B bd bt bs env → xb_P bd bs := by
  intro bs
  induction bs with
  | nil => intro env _; trivial
  | cons b bs ih =>
    intro env h
    cases env with
    | nil => exact h.elim
    | cons e env => exact ⟨h.1, h.2.1, ih env h.2.2.2⟩
theorem xb_Papp {bd : Nat → Int32} : ∀ (A B : List (Nat × Bool)), xb_P bd (A ++ B) → xb_P bd B := by
  intro A
  induction A with
  | nil => intro B h; exact h
  | cons a A ih => intro B h; exact ih B h.2.2
theorem xw_bind {post : SX → Prop} {h : Nat} {x : Int32} (hh : h < 24) (hp : post (f_tokenCount, f_accepted, f_lastPlace, f_openCount, f_draftOpen, f_symbolCount, f_stepCount, nI (h + 1), f_waitingCount, f_clashPlace, f_nodeCount, f_todoCount, a_kinds, a_values, a_declaredSize, a_declaredNodes, a_draftSize, a_draftNodes, a_symbols, a_symbolPlaces, a_steps, a_stepPlaces, upd a_bindings h x, a_boundType, a_waitingTypes, a_waitingFirm, a_shape, a_left, a_right, a_link, a_note, a_todo, a_todoOther, a_generalNode)) : wpX_bind post (f_tokenCount, f_accepted, f_lastPlace, f_openCount, f_draftOpen, f_symbolCount, f_stepCount, nI h, f_waitingCount, f_clashPlace, f_nodeCount, f_todoCount, a_kinds, a_values, a_declaredSize, a_declaredNodes, a_draftSize, a_draftNodes, a_symbols, a_symbolPlaces, a_steps, a_stepPlaces, a_bindings, a_boundType, a_waitingTypes, a_waitingFirm, a_shape, a_left, a_right, a_link, a_note, a_todo, a_todoOther, a_generalNode) x := by
  refine br_f (nI_ge (b := 24) hh (by decide)) ⟨vp_in_nI hh (by decide), ?_⟩
  rw [nI_clamp (by omega)]
  exact nm_e (nm_r (nI_1 h) hp)
theorem xw_unbind {post : SX → Prop} {h m : Nat} (hm : 0 < h) (hh : h + m < 100) (hp : post (f_tokenCount, f_accepted, f_lastPlace, f_openCount, f_draftOpen, f_symbolCount, f_stepCount, nI h, f_waitingCount, f_clashPlace, f_nodeCount, f_todoCount, a_kinds, a_values, a_declaredSize, a_declaredNodes, a_draftSize, a_draftNodes, a_symbols, a_symbolPlaces, a_steps, a_stepPlaces, a_bindings, a_boundType, a_waitingTypes, a_waitingFirm, a_shape, a_left, a_right, a_link, a_note, a_todo, a_todoOther, a_generalNode)) : wpX_unbind post (f_tokenCount, f_accepted, f_lastPlace, f_openCount, f_draftOpen, f_symbolCount, f_stepCount, nI (h + m), f_waitingCount, f_clashPlace, f_nodeCount, f_todoCount, a_kinds, a_values, a_declaredSize, a_declaredNodes, a_draftSize, a_draftNodes, a_symbols, a_symbolPlaces, a_steps, a_stepPlaces, a_bindings, a_boundType, a_waitingTypes, a_waitingFirm, a_shape, a_left, a_right, a_link, a_note, a_todo, a_todoOther, a_generalNode) (nI m) := by
  refine br_f (nI_ge (by omega) (by omega)) (nm_r ?_ hp)
  rw [pk_sub (by omega)]
  congr 1
  omega
theorem xw_unbind0 {post : SX → Prop} {m : Nat} (hp : post (f_tokenCount, f_accepted, f_lastPlace, f_openCount, f_draftOpen, f_symbolCount, f_stepCount, nI 0, f_waitingCount, f_clashPlace, f_nodeCount, f_todoCount, a_kinds, a_values, a_declaredSize, a_declaredNodes, a_draftSize, a_draftNodes, a_symbols, a_symbolPlaces, a_steps, a_stepPlaces, a_bindings, a_boundType, a_waitingTypes, a_waitingFirm, a_shape, a_left, a_right, a_link, a_note, a_todo, a_todoOther, a_generalNode)) : wpX_unbind post (f_tokenCount, f_accepted, f_lastPlace, f_openCount, f_draftOpen, f_symbolCount, f_stepCount, nI m, f_waitingCount, f_clashPlace, f_nodeCount, f_todoCount, a_kinds, a_values, a_declaredSize, a_declaredNodes, a_draftSize, a_draftNodes, a_symbols, a_symbolPlaces, a_steps, a_stepPlaces, a_bindings, a_boundType, a_waitingTypes, a_waitingFirm, a_shape, a_left, a_right, a_link, a_note, a_todo, a_todoOther, a_generalNode) (nI m) := br_t (Int32.le_refl _) hp
theorem xw_unbindA {post : SX → Prop} {h m : Nat} (hh : h + m < 100) (hp : post (f_tokenCount, f_accepted, f_lastPlace, f_openCount, f_draftOpen, f_symbolCount, f_stepCount, nI h, f_waitingCount, f_clashPlace, f_nodeCount, f_todoCount, a_kinds, a_values, a_declaredSize, a_declaredNodes, a_draftSize, a_draftNodes, a_symbols, a_symbolPlaces, a_steps, a_stepPlaces, a_bindings, a_boundType, a_waitingTypes, a_waitingFirm, a_shape, a_left, a_right, a_link, a_note, a_todo, a_todoOther, a_generalNode)) : wpX_unbind post (f_tokenCount, f_accepted, f_lastPlace, f_openCount, f_draftOpen, f_symbolCount, f_stepCount, nI (h + m), f_waitingCount, f_clashPlace, f_nodeCount, f_todoCount, a_kinds, a_values, a_declaredSize, a_declaredNodes, a_draftSize, a_draftNodes, a_symbols, a_symbolPlaces, a_steps, a_stepPlaces, a_bindings, a_boundType, a_waitingTypes, a_waitingFirm, a_shape, a_left, a_right, a_link, a_note, a_todo, a_todoOther, a_generalNode) (nI m) := by
  by_cases c : h = 0
  · subst c
    rw [Nat.zero_add]
    exact xw_unbind0 hp
  · exact xw_unbind (by omega) hh hp
theorem xw_equals {post : Int32 → Prop} {c p : Nat} {N mq Kt : Nat → Nat} (hT : tk_T a_kinds a_values c Kt N) (hf : pd_fn Kt mq p) (hp : p + mq p + 1 < c) (h : post (nI (p + mq p + 1))) : wpX_equalsBehind post (nI c, f_accepted, f_lastPlace, f_openCount, f_draftOpen, f_symbolCount, f_stepCount, f_bindingCount, f_waitingCount, f_clashPlace, f_nodeCount, f_todoCount, a_kinds, a_values, a_declaredSize, a_declaredNodes, a_draftSize, a_draftNodes, a_symbols, a_symbolPlaces, a_steps, a_stepPlaces, a_bindings, a_boundType, a_waitingTypes, a_waitingFirm, a_shape, a_left, a_right, a_link, a_note, a_todo, a_todoOther, a_generalNode) (nI p) := by
  obtain ⟨c24, _, tk⟩ := hT
  obtain ⟨_, f0, f1, f2⟩ := hf
  have loop : ∀ d j, p ≤ j → j + d = p + mq p + 1 → wX_equalsBehind_2 post (nI c) f_accepted f_lastPlace f_openCount f_draftOpen f_symbolCount f_stepCount f_bindingCount f_waitingCount f_clashPlace f_nodeCount f_todoCount a_kinds a_values a_declaredSize a_declaredNodes a_draftSize a_draftNodes a_symbols a_symbolPlaces a_steps a_stepPlaces a_bindings a_boundType a_waitingTypes a_waitingFirm a_shape a_left a_right a_link a_note a_todo a_todoOther a_generalNode (d + 1) (nI j) := by
    intro d
    induction d with
    | zero =>
      intro j h1 h2
      have e : j = p + mq p + 1 := by omega
      subst e
      refine br_f (nI_ge (by omega) (by omega)) ⟨vp_in_nI (by omega) (by decide), ?_⟩
      rw [nI_clamp (by omega), (tk _ hp).1, f2]
      exact br_t rfl h
    | succ d ih =>
      intro j h1 h2
      refine br_f (nI_ge (by omega) (by omega)) ⟨vp_in_nI (by omega) (by decide), ?_⟩
      rw [nI_clamp (by omega), (tk j (by omega)).1]
      have k9 : Kt j ≠ 9 := by
        by_cases e : j = p
        · rw [e, f0]; decide
        · rw [f1 j (by omega) (by omega)]; decide
      refine br_f (fun z => k9 ((nI_eq (b := 9) (by have := (tk j (by omega)).2.1; omega) (by omega)).mp z)) (nm_r (nI_1 j) (ih (j + 1) (by omega) (by omega)))
  exact ⟨mq p + 2, loop (mq p + 1) p (Nat.le_refl _) (by omega)⟩
theorem xw_bindingOf {post : Int32 → Prop} {nm : Nat} {N : Nat → Nat} (hnm : nm < 12) : ∀ bs : List (Nat × Bool), bs.length ≤ 24 → xb_P a_bindings bs → (∀ b, b ∈ bs → a_values b.1 = nI (N b.1) ∧ N b.1 < 12) → (∀ j b, bx_ix N bs nm = some j → bs[j]? = some b → post (nI b.1)) → (bx_ix N bs nm = none → post (-1)) → wpX_bindingOf post (f_tokenCount, f_accepted, f_lastPlace, f_openCount, f_draftOpen, f_symbolCount, f_stepCount, nI bs.length, f_waitingCount, f_clashPlace, f_nodeCount, f_todoCount, a_kinds, a_values, a_declaredSize, a_declaredNodes, a_draftSize, a_draftNodes, a_symbols, a_symbolPlaces, a_steps, a_stepPlaces, a_bindings, a_boundType, a_waitingTypes, a_waitingFirm, a_shape, a_left, a_right, a_link, a_note, a_todo, a_todoOther, a_generalNode) (nI nm) := by
  intro bs hlen hP hN h1 h2
  have loop : ∀ (bs' : List (Nat × Bool)), bs'.length ≤ 24 → xb_P a_bindings bs' → (∀ b, b ∈ bs' → a_values b.1 = nI (N b.1) ∧ N b.1 < 12) → (∀ j b, bx_ix N bs' nm = some j → bs'[j]? = some b → post (nI b.1)) → (bx_ix N bs' nm = none → post (-1)) → wX_bindingOf_7 post (nI nm) f_tokenCount f_accepted f_lastPlace f_openCount f_draftOpen f_symbolCount f_stepCount (nI bs.length) f_waitingCount f_clashPlace f_nodeCount f_todoCount a_kinds a_values a_declaredSize a_declaredNodes a_draftSize a_draftNodes a_symbols a_symbolPlaces a_steps a_stepPlaces a_bindings a_boundType a_waitingTypes a_waitingFirm a_shape a_left a_right a_link a_note a_todo a_todoOther a_generalNode (bs'.length + 1) (nI bs'.length + (-1)) := by
    intro bs'
    induction bs' with
    | nil =>
      intro _ _ _ _ k2
      exact br_t (by decide) (k2 rfl)
    | cons b bs' ih =>
      intro k0 kP kN k1 k2
      rw [List.length_cons] at k0 ⊢
      rw [pk_m1]
      obtain ⟨v1, v2⟩ := kN b List.mem_cons_self
      refine br_f (nI_pos (by omega)) ⟨vp_in_nI (by omega) (by decide), ?_⟩
      rw [nI_clamp (by omega), kP.1]
      refine ⟨vp_in_nI kP.2.1 (by decide), ?_⟩
      rw [nI_clamp (by have := kP.2.1; omega), v1]
      refine pk_eq (N b.1) nm (fun e => ⟨vp_in_nI (by omega) (by decide), ?_⟩) (fun e => nm_e ?_)
      · exact k1 0 b (by unfold bx_ix; rw [if_pos e]) rfl
      · refine ih (by omega) kP.2.2 (fun b' hb' => kN b' (List.mem_cons_of_mem _ hb')) (fun j b' hj hb' => ?_) (fun q => ?_)
        · refine k1 (j + 1) b' ?_ (by rw [List.getElem?_cons_succ]; exact hb')
          unfold bx_ix
          rw [if_neg e, hj]; rfl
        · refine k2 ?_
          unfold bx_ix
          rw [if_neg e, q]; rfl
  unfold wpX_bindingOf
  refine nm_e ⟨bs.length + 1, ?_⟩
  have e : nI bs.length - 1 = nI bs.length + (-1) := by
    rw [Int32.sub_eq_add_neg]
  rw [e]
  exact loop bs hlen hP hN h1 h2
end
