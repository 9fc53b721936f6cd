/-! what is done to a graph that stands for worlds: new nodes, bindings, making equal -/
theorem rp_cg {b0 nl n : Nat} {kd pa pb : Nat → Nat} {op stk env : List Nat} {bs : List (Nat × Bool)} {V V' : List tr_T → List tr_T → List tr_T → Prop} (h : ∀ ν st E, V ν st E ↔ V' ν st E) (I : rp_I b0 nl n kd pa pb op stk env bs V) : rp_I b0 nl n kd pa pb op stk env bs V' := by
  obtain ⟨a, b, c, d, e, f, g⟩ := I
  exact ⟨a, b, c, d, e, f, fun ν st E => (h ν st E).symm.trans (g ν st E)⟩
/-- fields that are the same below n -/
def gr_same (n : Nat) (kd pa pb kd' pa' pb' : Nat → Nat) : Prop := ∀ i, i < n → kd' i = kd i ∧ pa' i = pa i ∧ pb' i = pb i
/-- valuations that are the same below n -/
theorem gr_V_n {n : Nat} {kd pa pb : Nat → Nat} {ρ ρ' : Nat → tr_T} (W : gr_W n kd pa pb) (h : gr_V n kd pa pb ρ) (e : ∀ i, i < n → ρ' i = ρ i) : gr_V n kd pa pb ρ' := by
  refine gr_Vi fun i hi => ⟨fun c => ?_, fun c => ?_, fun c1 c2 c3 => ?_⟩
  · rw [e i hi, e _ ((W i hi).1 c)]; exact gr_Vl h hi c
  · rw [e i hi, e _ ((W i hi).2 c).1, e _ ((W i hi).2 c).2]; exact gr_Vc h hi c
  · rw [e i hi]; exact gr_Vt h hi c1 c2 c3
theorem gr_V_s {n : Nat} {kd pa pb kd' pa' pb' : Nat → Nat} {ρ : Nat → tr_T} (s : gr_same n kd pa pb kd' pa' pb') : gr_V n kd' pa' pb' ρ ↔ gr_V n kd pa pb ρ := by
  constructor
  · intro h i hi
    have e := h i hi
    rw [(s i hi).1, (s i hi).2.1, (s i hi).2.2] at e
    exact e
  · intro h i hi
    rw [(s i hi).1, (s i hi).2.1, (s i hi).2.2]
    exact h i hi
theorem gr_H_n {n : Nat} {kd pa pb kd' pa' pb' : Nat → Nat} (W : gr_W n kd pa pb) (s : gr_same n kd pa pb kd' pa' pb') : ∀ f i, i < n → gr_H kd pa pb f i → gr_H kd' pa' pb' f i := by
  intro f
  induction f with
  | zero => intro i _ h; exact h.elim
  | succ f ih =>
    intro i hi h
    obtain ⟨e1, e2, e3⟩ := s i hi
    unfold gr_H
    rw [e1, e2, e3]
    exact ⟨fun c => ih _ ((W i hi).1 c) (h.1 c), fun c => ⟨ih _ ((W i hi).2 c).1 (h.2 c).1, ih _ ((W i hi).2 c).2 (h.2 c).2⟩⟩
/-- one new node on top of what waits: its parts hold no general variable; A, B read their values off the lists -/
theorem rp_push {b0 nl n : Nat} {kd pa pb kd' pa' pb' : Nat → Nat} {op stk env : List Nat} {bs : List (Nat × Bool)} {V : List tr_T → List tr_T → List tr_T → Prop} (I : rp_I b0 nl n kd pa pb op stk env bs V) (s : gr_same n kd pa pb kd' pa' pb') (A B : List tr_T → List tr_T → List tr_T → tr_T) (k1 : kd' n ≠ 1000) (k8 : kd' n ≠ 8)
    (hp : gr_cn (kd' n) → (pa' n ∈ stk ∨ pa' n ∈ op ∨ pa' n ∈ mo_l bs env) ∧ (pb' n ∈ stk ∨ pb' n ∈ op ∨ pb' n ∈ mo_l bs env) ∧ ∀ ρ : Nat → tr_T, A (op.map ρ) (stk.map ρ) (env.map ρ) = ρ (pa' n) ∧ B (op.map ρ) (stk.map ρ) (env.map ρ) = ρ (pb' n)) :
    rp_I b0 nl (n + 1) kd' pa' pb' op (n :: stk) env bs (fun ν st E => ∃ τ st0, st = τ :: st0 ∧ V ν st0 E ∧ (gr_cn (kd' n) → τ = tr_con (kd' n) (A ν st0 E) (B ν st0 E)) ∧ (¬ gr_cn (kd' n) → kd' n ≠ 7 → τ = tr_at (kd' n))) := by
  obtain ⟨W, Ac, ⟨M, Es, ⟨hM, gM, oM, sM, eM⟩, cE, mE, eE, bE⟩, en, hl, hP, hV⟩ := I
  have mp : ∀ x, (x ∈ stk ∨ x ∈ op ∨ x ∈ mo_l bs env) → M x := by
    intro x hx
    rcases hx with z | z | z
    · exact sM x z
    · exact oM x z
    · exact eM x z
  have W' : gr_W (n + 1) kd' pa' pb' := by
    intro i hi
    by_cases c : i < n
    · rw [(s i c).1, (s i c).2.1, (s i c).2.2]
      exact ⟨fun z => Nat.lt_succ_of_lt ((W i c).1 z), fun z => ⟨Nat.lt_succ_of_lt ((W i c).2 z).1, Nat.lt_succ_of_lt ((W i c).2 z).2⟩⟩
    · have e : i = n := by omega
      rw [e]
      exact ⟨fun z => (k1 z).elim, fun z => ⟨Nat.lt_succ_of_lt (hM _ (mp _ (hp z).1)).1, Nat.lt_succ_of_lt (hM _ (mp _ (hp z).2.1)).1⟩⟩
  have vv : ∀ ρ, gr_V (n + 1) kd' pa' pb' ρ → gr_V n kd pa pb ρ := by
    intro ρ h i hi
    have e := h i (by omega)
    rw [(s i hi).1, (s i hi).2.1, (s i hi).2.2] at e
    exact e
  refine ⟨W', ?_, ⟨fun i => M i ∨ i = n, fun i => Es i ∨ i = n, ⟨?_, ?_, fun x hx => Or.inl (oM x hx), ?_, fun x hx => Or.inl (eM x hx)⟩, ?_, fun i hi => hi.elim (fun z => Or.inl (mE i z)) Or.inr, fun x hx => Or.inl (eE x hx), ?_⟩, fun x hx => Nat.lt_succ_of_lt (en x hx), hl, ?_, ?_⟩
  · intro i hi
    by_cases c : i < n
    · obtain ⟨f, h⟩ := Ac i c
      exact ⟨f, gr_H_n W s f i c h⟩
    · have e : i = n := by omega
      rw [e]
      refine gr_H_i (fun z => (k1 z).elim) (fun z => ?_)
      have m1 := (hM _ (mp _ (hp z).1)).1
      have m2 := (hM _ (mp _ (hp z).2.1)).1
      obtain ⟨f, h⟩ := Ac _ m1
      obtain ⟨g, h'⟩ := Ac _ m2
      exact ⟨⟨f, gr_H_n W s f _ m1 h⟩, g, gr_H_n W s g _ m2 h'⟩
  · intro i hi
    rcases hi with hi | hi
    · obtain ⟨a, b, c⟩ := hM i hi
      rw [(s i a).1, (s i a).2.1, (s i a).2.2]
      exact ⟨by omega, fun z => Or.inl (b z), fun z => ⟨Or.inl (c z).1, Or.inl (c z).2⟩⟩
    · rw [hi]
      exact ⟨by omega, fun z => (k1 z).elim, fun z => ⟨Or.inl (mp _ (hp z).1), Or.inl (mp _ (hp z).2.1)⟩⟩
  · intro i hi
    rcases hi with hi | hi
    · rw [(s i (hM i hi).1).1]; exact gM i hi
    · rw [hi]; exact k8
  · intro x hx
    rcases List.mem_cons.mp hx with z | z
    · exact Or.inr z
    · exact Or.inl (sM x z)
  · intro i hi
    rcases hi with hi | hi
    · obtain ⟨a, b, c⟩ := cE i hi
      rw [(s i a).1, (s i a).2.1, (s i a).2.2]
      exact ⟨by omega, fun z => Or.inl (b z), fun z => ⟨Or.inl (c z).1, Or.inl (c z).2⟩⟩
    · rw [hi]
      exact ⟨by omega, fun z => (k1 z).elim, fun z => ⟨Or.inl (mE _ (mp _ (hp z).1)), Or.inl (mE _ (mp _ (hp z).2.1))⟩⟩
  · intro i hi nm
    rcases hi with hi | hi
    · exact bE i hi (fun z => nm (Or.inl z))
    · exact (nm (Or.inr hi)).elim
  · exact rp_P_mono vv (fun i hi c => ⟨by omega, by rw [(s i hi).1]; exact c⟩) bs env hP
  · intro ν st E
    constructor
    · intro ⟨τ, st0, e, v, v1, v2⟩
      obtain ⟨ρ, h, e1, e2, e3⟩ := (hV _ _ _).mp v
      have ag : ∀ x, x < n → (fun i => if i = n then τ else ρ i) x = ρ x := fun x hx => if_neg (by omega)
      have mo : op.map (fun i => if i = n then τ else ρ i) = op.map ρ := mp_i fun x hx => ag x (hM x (oM x hx)).1
      have ms : stk.map (fun i => if i = n then τ else ρ i) = stk.map ρ := mp_i fun x hx => ag x (hM x (sM x hx)).1
      have me : env.map (fun i => if i = n then τ else ρ i) = env.map ρ := mp_i fun x hx => ag x (en x hx)
      refine ⟨fun i => if i = n then τ else ρ i, gr_Vi fun i hi => ?_, mo.trans e1, ?_, me.trans e3⟩
      · by_cases c : i < n
        · have h' := gr_V_n W h ag
          have h'' := (gr_V_s s).mpr h'
          exact ⟨fun z => gr_Vl h'' c z, fun z => gr_Vc h'' c z, fun z1 z2 z3 => gr_Vt h'' c z1 z2 z3⟩
        · have ei : i = n := by omega
          rw [ei]
          refine ⟨fun z => (k1 z).elim, fun z => ?_, fun z1 z2 z3 => ?_⟩
          · have q := (hp z).2.2 ρ
            rw [e1, e2, e3] at q
            have n1 := (hM _ (mp _ (hp z).1)).1
            have n2 := (hM _ (mp _ (hp z).2.1)).1
            show (if n = n then τ else ρ n) = tr_con (kd' n) (if pa' n = n then τ else ρ (pa' n)) (if pb' n = n then τ else ρ (pb' n))
            have n3 : ¬ pa' n = n := by omega
            have n4 : ¬ pb' n = n := by omega
            rw [if_pos rfl, if_neg n3, if_neg n4, ← q.1, ← q.2]; exact v1 z
          · show (if n = n then τ else ρ n) = _
            rw [if_pos rfl]; exact v2 z2 (fun z => z3 (Or.inl z))
      · rw [List.map_cons, ms, e2, e]
        show (if n = n then τ else ρ n) :: st0 = _
        rw [if_pos rfl]
    · intro ⟨ρ, h, e1, e2, e3⟩
      refine ⟨ρ n, stk.map ρ, by rw [← e2, List.map_cons], (hV _ _ _).mpr ⟨ρ, vv ρ h, e1, rfl, e3⟩, fun z => ?_, fun z1 z2 => ?_⟩
      · have q := (hp z).2.2 ρ
        rw [e1, e3] at q
        rw [q.1, q.2]; exact gr_Vc h (by omega) z
      · exact gr_Vt h (by omega) k1 z1 (fun z => by rcases z with z | z
                                                    · exact z2 z
                                                    · exact k8 z)
/-- another choice of what waits -/
theorem rp_sel {b0 nl n : Nat} {kd pa pb : Nat → Nat} {op stk stk' env : List Nat} {bs : List (Nat × Bool)} {V : List tr_T → List tr_T → List tr_T → Prop} (I : rp_I b0 nl n kd pa pb op stk env bs V) (f : List tr_T → List tr_T → List tr_T → List tr_T) (hs : ∀ x, x ∈ stk' → x ∈ stk ∨ x ∈ mo_l bs env) (hf : ∀ ρ : Nat → tr_T, f (op.map ρ) (stk.map ρ) (env.map ρ) = stk'.map ρ) : rp_I b0 nl n kd pa pb op stk' env bs (fun ν st' E => ∃ st, V ν st E ∧ f ν st E = st') := by
  obtain ⟨W, Ac, ⟨M, Es, ⟨hM, gM, oM, sM, eM⟩, cE, mE, eE, bE⟩, en, hl, hP, hV⟩ := I
  refine ⟨W, Ac, ⟨M, Es, ⟨hM, gM, oM, fun x hx => (hs x hx).elim (sM x) (eM x), eM⟩, cE, mE, eE, bE⟩, en, hl, hP, fun ν st' E => ?_⟩
  constructor
  · intro ⟨st, v, e⟩
    obtain ⟨ρ, h, e1, e2, e3⟩ := (hV _ _ _).mp v
    refine ⟨ρ, h, e1, ?_, e3⟩
    rw [← hf ρ, e1, e2, e3]; exact e
  · intro ⟨ρ, h, e1, e2, e3⟩
    refine ⟨stk.map ρ, (hV _ _ _).mpr ⟨ρ, h, e1, rfl, e3⟩, ?_⟩
    rw [← e1, ← e3, hf ρ]; exact e2
/-- what waits on top becomes the type of a new binding that isn't general -/
theorem rp_bind {b0 nl n : Nat} {kd pa pb : Nat → Nat} {op stk env : List Nat} {bs : List (Nat × Bool)} {V : List tr_T → List tr_T → List tr_T → Prop} {t : Nat} (nm : Nat) (I : rp_I b0 nl n kd pa pb op (t :: stk) env bs V) : rp_I b0 nl n kd pa pb op stk (t :: env) ((nm, false) :: bs) (fun ν st E => ∃ τ E0, E = τ :: E0 ∧ V ν (τ :: st) E0) := by
  obtain ⟨W, Ac, ⟨M, Es, ⟨hM, gM, oM, sM, eM⟩, cE, mE, eE, bE⟩, en, hl, hP, hV⟩ := I
  have tM := sM t List.mem_cons_self
  refine ⟨W, Ac, ⟨M, Es, ⟨hM, gM, oM, fun x hx => sM x (List.mem_cons_of_mem _ hx), fun x hx => ?_⟩, cE, mE, fun x hx => ?_, bE⟩, fun x hx => ?_, by simp [hl], ⟨fun z => (by cases z), hP⟩, fun ν st E => ?_⟩
  · rw [mo_f] at hx
    rcases List.mem_cons.mp hx with z | z
    · rw [z]; exact tM
    · exact eM x z
  · rcases List.mem_cons.mp hx with z | z
    · rw [z]; exact mE t tM
    · exact eE x z
  · rcases List.mem_cons.mp hx with z | z
    · rw [z]; exact (hM t tM).1
    · exact en x z
  · constructor
    · intro ⟨τ, E0, e, v⟩
      obtain ⟨ρ, h, e1, e2, e3⟩ := (hV _ _ _).mp v
      rw [List.map_cons] at e2
      injection e2 with e2 e4
      exact ⟨ρ, h, e1, e4, by rw [List.map_cons, e, e2, e3]⟩
    · intro ⟨ρ, h, e1, e2, e3⟩
      exact ⟨ρ t, env.map ρ, by rw [← e3, List.map_cons], (hV _ _ _).mpr ⟨ρ, h, e1, by rw [List.map_cons, e2], rfl⟩⟩
theorem rp_unbind {b0 nl n : Nat} {kd pa pb : Nat → Nat} {op stk env : List Nat} {bs : List (Nat × Bool)} {V : List tr_T → List tr_T → List tr_T → Prop} {t : Nat} {b : Nat × Bool} (I : rp_I b0 nl n kd pa pb op stk (t :: env) (b :: bs) V) : rp_I b0 nl n kd pa pb op stk env bs (fun ν st E => ∃ τ, V ν st (τ :: E)) := by
  obtain ⟨W, Ac, ⟨M, Es, ⟨hM, gM, oM, sM, eM⟩, cE, mE, eE, bE⟩, en, hl, hP, hV⟩ := I
  refine ⟨W, Ac, ⟨M, Es, ⟨hM, gM, oM, sM, fun x hx => eM x ?_⟩, cE, mE, fun x hx => eE x (List.mem_cons_of_mem _ hx), bE⟩, fun x hx => en x (List.mem_cons_of_mem _ hx), by simpa using hl, hP.2, fun ν st E => ?_⟩
  · obtain ⟨m, p⟩ := b
    cases p with
    | true => rw [mo_t]; exact hx
    | false => rw [mo_f]; exact List.mem_cons_of_mem _ hx
  · constructor
    · intro ⟨τ, v⟩
      obtain ⟨ρ, h, e1, e2, e3⟩ := (hV _ _ _).mp v
      rw [List.map_cons] at e3
      injection e3 with e3 e4
      exact ⟨ρ, h, e1, e2, e4⟩
    · intro ⟨ρ, h, e1, e2, e3⟩
      exact ⟨ρ t, (hV _ _ _).mpr ⟨ρ, h, e1, e2, by rw [List.map_cons, e3]⟩⟩
/-- two that wait have been made equal -/
theorem rp_eq {b0 nl n K : Nat} {kd pa pb kd' pa' : Nat → Nat} {op stk env : List Nat} {bs : List (Nat × Bool)} {V : List tr_T → List tr_T → List tr_T → Prop} {M : Nat → Prop} {s t : Nat} (I : rp_I b0 nl n kd pa pb op stk env bs V) (oM : ∀ x, x ∈ op → M x) (sM : ∀ x, x ∈ stk → M x) (eM : ∀ x, x ∈ mo_l bs env → M x) (U : un_I n kd pa pb M s t kd' pa' []) (hK : gr_L n kd' pa' K) {S : Nat → Prop} (hS : ck_R n kd' pa' pb S) (h0 : (∀ x, gr_to kd' pa' s x → S x) ∨ ∀ x, gr_to kd' pa' t x → S x) (f : List tr_T → List tr_T → List tr_T → Prop) (hf : ∀ ρ : Nat → tr_T, f (op.map ρ) (stk.map ρ) (env.map ρ) ↔ ρ s = ρ t) (g8 : ∀ i, i < n → kd i = 8 → ¬ M i) {Es : Nat → Prop} (cE : gr_C n kd pa pb Es) (mE : ∀ i, M i → Es i) (eE : ∀ x, x ∈ env → Es x) (bE : ∀ i, Es i → ¬ M i → b0 ≤ i ∧ i < nl) : rp_I b0 nl n kd' pa' pb op stk env bs (fun ν st E => V ν st E ∧ f ν st E) := by
  obtain ⟨W, Ac, _, en, hl, hP, hV⟩ := I
  have Ac' := un_end U W Ac hK hS h0
  obtain ⟨W', Vv, _, C, G, D, _⟩ := U
  have vv : ∀ ρ, gr_V n kd' pa' pb ρ ↔ gr_V n kd pa pb ρ ∧ ρ s = ρ t := fun ρ => by
    rw [Vv ρ]
    exact ⟨fun h => ⟨h, fun p hp => by cases hp⟩, fun h => h.1⟩
  refine ⟨W', Ac', ⟨M, Es, ⟨C, G, oM, sM, eM⟩, fun i hi => ?_, mE, eE, bE⟩, en, hl, rp_P_mono (fun ρ h => ((vv ρ).mp h).1) (fun i hi c => ⟨hi, ?_⟩) bs env hP, fun ν st E => ?_⟩
  · obtain ⟨a, b, c⟩ := cE i hi
    refine ⟨a, ?_⟩
    rcases D i a with z | z
    · rw [z.1, z.2]; exact ⟨b, c⟩
    · exact ⟨fun q => mE _ ((C i z.2.2).2.1 q), fun q => by omega⟩
  · rcases D i hi with z | z
    · rw [z.1]; exact c
    · exact (g8 i hi c z.2.2).elim
  · constructor
    · intro ⟨v, u⟩
      obtain ⟨ρ, h, e1, e2, e3⟩ := (hV _ _ _).mp v
      rw [← e1, ← e2, ← e3] at u
      exact ⟨ρ, (vv ρ).mpr ⟨h, (hf ρ).mp u⟩, e1, e2, e3⟩
    · intro ⟨ρ, h, e1, e2, e3⟩
      obtain ⟨h, e⟩ := (vv ρ).mp h
      refine ⟨(hV _ _ _).mpr ⟨ρ, h, e1, e2, e3⟩, ?_⟩
      rw [← e1, ← e2, ← e3]; exact (hf ρ).mpr e
/-- two that nothing makes equal: no world is left -/
theorem rp_ne {b0 nl n : Nat} {kd pa pb : Nat → Nat} {op stk env : List Nat} {bs : List (Nat × Bool)} {V : List tr_T → List tr_T → List tr_T → Prop} {s t : Nat} (I : rp_I b0 nl n kd pa pb op stk env bs V) (U : ∀ ρ, gr_V n kd pa pb ρ → ρ s ≠ ρ t) (f : List tr_T → List tr_T → List tr_T → Prop) (hf : ∀ ρ : Nat → tr_T, f (op.map ρ) (stk.map ρ) (env.map ρ) ↔ ρ s = ρ t) : ∀ ν st E, ¬ (V ν st E ∧ f ν st E) := by
  intro ν st E ⟨v, u⟩
  obtain ⟨W, Ac, _, en, hl, hP, hV⟩ := I
  obtain ⟨ρ, h, e1, e2, e3⟩ := (hV _ _ _).mp v
  rw [← e1, ← e2, ← e3] at u
  exact U ρ h ((hf ρ).mp u)
/-- some world is left -/
theorem rp_some {b0 nl n : Nat} {kd pa pb : Nat → Nat} {op stk env : List Nat} {bs : List (Nat × Bool)} {V : List tr_T → List tr_T → List tr_T → Prop} (I : rp_I b0 nl n kd pa pb op stk env bs V) : ∃ ν st E, V ν st E := by
  obtain ⟨W, Ac, _, en, hl, hP, hV⟩ := I
  obtain ⟨ρ, h, _⟩ := gr_ex Ac (fun _ => tr_at 0)
  exact ⟨_, _, _, (hV _ _ _).mpr ⟨ρ, h, rfl, rfl, rfl⟩⟩
