/-! a graph that stands for a set of worlds: op (the variables that lie about), stk (the types that wait), env (the types of the bindings, the innermost first), bs (name, general) of the bindings -/
/-- the entries whose binding isn't general -/
def mo_l {α : Type} : List (Nat × Bool) → List α → List α
  | b :: bs, e :: E => if b.2 = true then mo_l bs E else e :: mo_l bs E
  | _, _ => []
theorem mo_t {α : Type} {m : Nat} {bs : List (Nat × Bool)} {e : α} {E : List α} : mo_l ((m, true) :: bs) (e :: E) = mo_l bs E := rfl
theorem mo_f {α : Type} {m : Nat} {bs : List (Nat × Bool)} {e : α} {E : List α} : mo_l ((m, false) :: bs) (e :: E) = e :: mo_l bs E := rfl
theorem mo_m {α : Type} : ∀ (bs : List (Nat × Bool)) (E : List α) (x : α), x ∈ mo_l bs E → x ∈ E := by
  intro bs
  induction bs with
  | nil => intro E x h; cases h
  | cons b bs ih =>
    intro E x h
    cases E with
    | nil => cases h
    | cons e E =>
      obtain ⟨m, p⟩ := b
      cases p with
      | true => rw [mo_t] at h; exact List.mem_cons_of_mem _ (ih E x h)
      | false =>
        rw [mo_f] at h
        rcases List.mem_cons.mp h with z | z
        · rw [z]; exact List.mem_cons_self
        · exact List.mem_cons_of_mem _ (ih E x z)
theorem mo_map {α β : Type} (f : α → β) : ∀ (bs : List (Nat × Bool)) (E : List α), mo_l bs (E.map f) = (mo_l bs E).map f := by
  intro bs
  induction bs with
  | nil => intro E; rfl
  | cons b bs ih =>
    intro E
    cases E with
    | nil => rfl
    | cons e E =>
      obtain ⟨m, p⟩ := b
      cases p with
      | true => rw [List.map_cons, mo_t, mo_t]; exact ih E
      | false => rw [List.map_cons, mo_f, mo_f, List.map_cons, ih E]
theorem mp_e {α β : Type} {f g : α → β} : ∀ {l : List α}, l.map f = l.map g → ∀ x, x ∈ l → f x = g x := by
  intro l
  induction l with
  | nil => intro _ x h; cases h
  | cons a l ih =>
    intro h x hx
    rw [List.map_cons, List.map_cons] at h
    injection h with h1 h2
    rcases List.mem_cons.mp hx with z | z
    · rw [z]; exact h1
    · exact ih h2 x z
theorem mp_i {α β : Type} {f g : α → β} {l : List α} (h : ∀ x, x ∈ l → f x = g x) : l.map f = l.map g := List.map_congr_left h
/-- a general binding's type is settled by what lies about, the bindings around it that aren't general, and the general variables -/
def rp_P (n : Nat) (kd pa pb : Nat → Nat) (op : List Nat) : List (Nat × Bool) → List Nat → Prop
  | b :: bs, e :: env => (b.2 = true → ∀ ρ ρ', gr_V n kd pa pb ρ → gr_V n kd pa pb ρ' → op.map ρ = op.map ρ' → (mo_l bs env).map ρ = (mo_l bs env).map ρ' → (∀ i, i < n → kd i = 8 → ρ i = ρ' i) → ρ e = ρ' e) ∧ rp_P n kd pa pb op bs env
  | _, _ => True
theorem rp_P_all {n : Nat} {kd pa pb : Nat → Nat} {op : List Nat} {ρ ρ' : Nat → tr_T} (hV : gr_V n kd pa pb ρ) (hV' : gr_V n kd pa pb ρ') (ho : op.map ρ = op.map ρ') (hg : ∀ i, i < n → kd i = 8 → ρ i = ρ' i) : ∀ (bs : List (Nat × Bool)) (env : List Nat), bs.length = env.length → rp_P n kd pa pb op bs env → (mo_l bs env).map ρ = (mo_l bs env).map ρ' → env.map ρ = env.map ρ' := by
  intro bs
  induction bs with
  | nil => intro env hl _ _; cases env with
    | nil => rfl
    | cons e env => cases hl
  | cons b bs ih =>
    intro env hl hP hm
    cases env with
    | nil => cases hl
    | cons e env =>
      obtain ⟨m, p⟩ := b
      have hl' : bs.length = env.length := by simpa using hl
      cases p with
      | true =>
        rw [mo_t] at hm
        rw [List.map_cons, List.map_cons, hP.1 rfl ρ ρ' hV hV' ho hm hg, ih env hl' hP.2 hm]
      | false =>
        rw [mo_f, List.map_cons, List.map_cons] at hm
        injection hm with h1 h2
        rw [List.map_cons, List.map_cons, h1, ih env hl' hP.2 h2]
theorem rp_P_mono {n n' : Nat} {kd pa pb kd' pa' pb' : Nat → Nat} {op : List Nat} (hV : ∀ ρ, gr_V n' kd' pa' pb' ρ → gr_V n kd pa pb ρ) (hg : ∀ i, i < n → kd i = 8 → i < n' ∧ kd' i = 8) : ∀ (bs : List (Nat × Bool)) (env : List Nat), rp_P n kd pa pb op bs env → rp_P n' kd' pa' pb' op bs env := by
  intro bs
  induction bs with
  | nil => intro env _; trivial
  | cons b bs ih =>
    intro env h
    cases env with
    | nil => trivial
    | cons e env =>
      exact ⟨fun c ρ ρ' h1 h2 h3 h4 h5 => h.1 c ρ ρ' (hV ρ h1) (hV ρ' h2) h3 h4 (fun i hi k => h5 i (hg i hi k).1 (hg i hi k).2), ih env h.2⟩
def rp_I (b0 nl n : Nat) (kd pa pb : Nat → Nat) (op stk env : List Nat) (bs : List (Nat × Bool)) (V : List tr_T → List tr_T → List tr_T → Prop) : Prop :=
  gr_W n kd pa pb ∧ gr_A n kd pa pb ∧
  (∃ M E : Nat → Prop, (gr_C n kd pa pb M ∧ (∀ i, M i → kd i ≠ 8) ∧ (∀ x, x ∈ op → M x) ∧ (∀ x, x ∈ stk → M x) ∧ (∀ x, x ∈ mo_l bs env → M x)) ∧ gr_C n kd pa pb E ∧ (∀ i, M i → E i) ∧ (∀ x, x ∈ env → E x) ∧ ∀ i, E i → ¬ M i → b0 ≤ i ∧ i < nl) ∧
  (∀ x, x ∈ env → x < n) ∧ bs.length = env.length ∧ rp_P n kd pa pb op bs env ∧
  (∀ ν st E, V ν st E ↔ ∃ ρ, gr_V n kd pa pb ρ ∧ op.map ρ = ν ∧ stk.map ρ = st ∧ env.map ρ = E)
/-- kinds 7 and 8 are free alike -/
theorem gr_V_78 {n : Nat} {kd kd' pa pb : Nat → Nat} (h : ∀ i, i < n → kd' i = kd i ∨ gr_fr (kd' i) ∧ gr_fr (kd i)) (ρ : Nat → tr_T) : gr_V n kd' pa pb ρ ↔ gr_V n kd pa pb ρ := by
  constructor
  · intro hV i hi
    have e := hV i hi
    rcases h i hi with z | ⟨z1, z2⟩
    · rw [z] at e; exact e
    · rw [gr_ev_f z2]
  · intro hV i hi
    have e := hV i hi
    rcases h i hi with z | ⟨z1, z2⟩
    · rw [z]; exact e
    · rw [gr_ev_f z1]
theorem gr_H_78 {kd kd' pa pb : Nat → Nat} (h : ∀ i, kd' i = kd i ∨ gr_fr (kd' i) ∧ gr_fr (kd i)) : ∀ f i, gr_H kd pa pb f i → gr_H kd' pa pb f i := by
  intro f
  induction f with
  | zero => intro i z; exact z.elim
  | succ f ih =>
    intro i z
    rcases h i with e | ⟨e1, e2⟩
    · refine ⟨fun c => ih _ (z.1 (e ▸ c)), fun c => ?_⟩
      rw [e] at c
      exact ⟨ih _ (z.2 c).1, ih _ (z.2 c).2⟩
    · exact ⟨fun c => by omega, fun c => by omega⟩
/-- making general -/
theorem rp_gen {b0 nl n : Nat} {kd pa pb kd' : Nat → Nat} {op stk env : List Nat} {bs : List (Nat × Bool)} {V : List tr_T → List tr_T → List tr_T → Prop} {t nm : Nat} {F R : Nat → Prop}
    (I : rp_I b0 nl n kd pa pb op (t :: stk) env bs V)
    (CI : ∀ ν E τ st τ' st', V ν (τ :: st) E → V ν (τ' :: st') E → V ν (τ' :: st) E)
    (hF : gr_C n kd pa pb F)
    (dF : ∀ ρ ρ', gr_V n kd pa pb ρ → gr_V n kd pa pb ρ' → op.map ρ = op.map ρ' → env.map ρ = env.map ρ' → (∀ i, i < n → kd i = 8 → ρ i = ρ' i) → ∀ i, F i → ρ i = ρ' i)
    (oF : ∀ ρ ρ', gr_V n kd pa pb ρ → gr_V n kd pa pb ρ' → (∀ i, F i → ρ i = ρ' i) → op.map ρ = op.map ρ' ∧ env.map ρ = env.map ρ')
    (hR : gr_C n kd pa pb R)
    (dR : ∀ ρ ρ', gr_V n kd pa pb ρ → gr_V n kd pa pb ρ' → ρ t = ρ' t → ∀ i, R i → ρ i = ρ' i)
    (oR : ∀ ρ ρ', gr_V n kd pa pb ρ → gr_V n kd pa pb ρ' → (∀ i, R i → ρ i = ρ' i) → ρ t = ρ' t)
    (hb : ∀ ρ ρ', gr_V n kd pa pb ρ → gr_V n kd pa pb ρ' → (∀ i, F i → ρ i = ρ' i) → ∀ i, i < b0 → ρ i = ρ' i)
    (hk : ∀ i, (kd i = 7 ∧ R i ∧ ¬ F i ∧ kd' i = 8) ∨ (¬ (kd i = 7 ∧ R i ∧ ¬ F i) ∧ kd' i = kd i)) :
    rp_I b0 n n kd' pa pb op stk (t :: env) ((nm, true) :: bs) (fun ν st E => ∃ τ E0, E = τ :: E0 ∧ V ν (τ :: st) E0) := by
  obtain ⟨W, A, ⟨M, E, ⟨hM, gM, oM, sM, eM⟩, cE, mE, eE, bE⟩, en, hl, hP, hV⟩ := I
  have h78 : ∀ i, kd' i = kd i ∨ gr_fr (kd' i) ∧ gr_fr (kd i) := by
    intro i
    rcases hk i with z | z
    · exact Or.inr ⟨Or.inr z.2.2.2, Or.inl z.1⟩
    · exact Or.inl z.2
  have vv : ∀ ρ, gr_V n kd' pa pb ρ ↔ gr_V n kd pa pb ρ := gr_V_78 (fun i _ => h78 i)
  have k1 : ∀ i, kd' i = 1000 ↔ kd i = 1000 := by
    intro i
    rcases h78 i with z | z
    · rw [z]
    · omega
  have k2 : ∀ i, gr_cn (kd' i) ↔ gr_cn (kd i) := by
    intro i
    rcases h78 i with z | z
    · rw [z]
    · omega
  have tM : M t := sM t List.mem_cons_self
  have tn : t < n := (hM t tM).1
  -- agreement on all that stays
  have key : ∀ ρ ρ', gr_V n kd pa pb ρ → gr_V n kd pa pb ρ' → (∀ j, j < n → gr_fr (kd j) → kd' j = kd j → ρ j = ρ' j) → ∀ i, F i → ρ i = ρ' i := by
    intro ρ ρ' h h' ha i hi
    refine gr_agA A h h' hF (fun j hj c => ?_) hi
    refine ha j (hF j hj).1 c ?_
    rcases hk j with z | z
    · exact (z.2.2.1 hj).elim
    · exact z.2
  refine ⟨?_, ?_, ⟨fun i => M i ∧ ∀ ρ ρ', gr_V n kd pa pb ρ → gr_V n kd pa pb ρ' → (∀ j, j < n → gr_fr (kd j) → kd' j = kd j → ρ j = ρ' j) → ρ i = ρ' i, E, ⟨?_, ?_, ?_, ?_, ?_⟩, ?_, fun i hi => mE i hi.1, ?_, ?_⟩, ?_, ?_, ?_, ?_⟩
  · intro i hi
    rw [k1, k2]; exact W i hi
  · intro i hi
    obtain ⟨f, h⟩ := A i hi
    exact ⟨f, gr_H_78 h78 f i h⟩
  · intro i ⟨mi, hi⟩
    have z := hM i mi
    refine ⟨z.1, fun c => ⟨z.2.1 ((k1 i).mp c), fun ρ ρ' h h' ha => ?_⟩, fun c => ?_⟩
    · rw [← gr_Vl h z.1 ((k1 i).mp c), ← gr_Vl h' z.1 ((k1 i).mp c)]; exact hi ρ ρ' h h' ha
    · have c' := (k2 i).mp c
      refine ⟨⟨(z.2.2 c').1, fun ρ ρ' h h' ha => ?_⟩, (z.2.2 c').2, fun ρ ρ' h h' ha => ?_⟩
      · have e := hi ρ ρ' h h' ha
        rw [gr_Vc h z.1 c', gr_Vc h' z.1 c'] at e
        exact (tr_con_inj e).2.1
      · have e := hi ρ ρ' h h' ha
        rw [gr_Vc h z.1 c', gr_Vc h' z.1 c'] at e
        exact (tr_con_inj e).2.2
  · intro i ⟨mi, hi⟩ c
    have z : kd i = 7 := by
      rcases hk i with z | z
      · exact z.1
      · exact (gM i mi (z.2 ▸ c)).elim
    have ni : i < n := (hM i mi).1
    obtain ⟨ρ, h, r⟩ := gr_ex A (fun _ => tr_at 0)
    obtain ⟨ρ', h', r'⟩ := gr_ex A (fun j => if j = i then tr_at 1 else tr_at 0)
    have e := hi ρ ρ' h h' (fun j hj cj ej => by
      rw [r j hj cj, r' j hj cj]
      have : j ≠ i := fun q => by rw [q, c, z] at ej; omega
      rw [if_neg this])
    rw [r i ni (Or.inl z), r' i ni (Or.inl z), if_pos rfl] at e
    exact absurd (tr_at_inj e) (by decide)
  · intro x hx
    exact ⟨oM x hx, fun ρ ρ' h h' ha => mp_e (oF ρ ρ' h h' (key ρ ρ' h h' ha)).1 x hx⟩
  · intro x hx
    refine ⟨sM x (List.mem_cons_of_mem _ hx), fun ρ ρ' h h' ha => ?_⟩
    obtain ⟨e1, e2⟩ := oF ρ ρ' h h' (key ρ ρ' h h' ha)
    have v := (hV (op.map ρ) (ρ t :: stk.map ρ) (env.map ρ)).mpr ⟨ρ, h, rfl, rfl, rfl⟩
    have v' := (hV (op.map ρ) (ρ' t :: stk.map ρ') (env.map ρ)).mpr ⟨ρ', h', e1.symm, rfl, e2.symm⟩
    obtain ⟨ρ2, h2, _, es, _⟩ := (hV _ _ _).mp (CI _ _ _ _ _ _ v v')
    rw [List.map_cons] at es
    injection es with et es
    have C := gr_agC W h h2
    have xs := mp_e es x hx
    refine gr_agA A h h' C (fun j hj c => ?_) ⟨(hM x (sM x (List.mem_cons_of_mem _ hx))).1, xs.symm⟩
    rcases hk j with z | z
    · exact hj.2.trans (dR ρ2 ρ' h2 h' et j z.2.1)
    · exact ha j hj.1 c z.2
  · intro x hx
    refine ⟨eM x (by rw [mo_t] at hx; exact hx), fun ρ ρ' h h' ha => ?_⟩
    rw [mo_t] at hx
    exact mp_e (oF ρ ρ' h h' (key ρ ρ' h h' ha)).2 x (mo_m bs env x hx)
  · intro i hi
    rw [k1, k2]; exact cE i hi
  · intro x hx
    rcases List.mem_cons.mp hx with z | z
    · rw [z]; exact mE t tM
    · exact eE x z
  · intro i hi nm
    refine ⟨?_, (cE i hi).1⟩
    by_cases mi : M i
    · by_cases q : i < b0
      · exact (nm ⟨mi, fun ρ ρ' h h' ha => hb ρ ρ' h h' (key ρ ρ' h h' ha) i q⟩).elim
      · omega
    · exact (bE i hi mi).1
  · intro x hx
    rcases List.mem_cons.mp hx with z | z
    · rw [z]; exact tn
    · exact en x z
  · simp [hl]
  · refine ⟨fun _ ρ ρ' h h' ho hm hg => ?_, rp_P_mono (fun ρ h => (vv ρ).mp h) (fun i hi c => ⟨hi, ?_⟩) bs env hP⟩
    · have h := (vv ρ).mp h
      have h' := (vv ρ').mp h'
      have hg' : ∀ i, i < n → kd i = 8 → ρ i = ρ' i := fun i hi c => hg i hi (by
        rcases hk i with z | z
        · exact z.2.2.2
        · rw [z.2]; exact c)
      have he := rp_P_all h h' ho hg' bs env hl hP hm
      have fF := dF ρ ρ' h h' ho he hg'
      refine oR ρ ρ' h h' (fun i hi => gr_agA A h h' hR (fun j hj c => ?_) hi)
      rcases hk j with z | z
      · exact hg j (hR j hj).1 z.2.2.2
      · rcases c with c | c
        · by_cases q : F j
          · exact fF j q
          · exact (z.1 ⟨c, hj, q⟩).elim
        · exact hg' j (hR j hj).1 c
    · rcases hk i with z | z
      · exact z.2.2.2
      · rw [z.2]; exact c
  · intro ν st E
    constructor
    · intro ⟨τ, E0, e, v⟩
      obtain ⟨ρ, h, e1, e2, e3⟩ := (hV _ _ _).mp v
      rw [List.map_cons] at e2
      injection e2 with e2 e4
      exact ⟨ρ, (vv ρ).mpr h, e1, e4, by rw [List.map_cons, e, e2, e3]⟩
    · intro ⟨ρ, h, e1, e2, e3⟩
      exact ⟨ρ t, env.map ρ, by rw [← e3, List.map_cons], (hV _ _ _).mpr ⟨ρ, (vv ρ).mp h, e1, by rw [List.map_cons, e2], rfl⟩⟩
