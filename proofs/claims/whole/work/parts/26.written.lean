/-! types as node answers them: codes, the whole ahead of its parts -/
def cd_ar (c : Nat) : Nat := if c = 5 ∨ c = 6 then 2 else if c = 3 ∨ c = 4 then 1 else 0
/-- how many types a list of codes holds -/
def cd_n : List Nat → Nat
  | [] => 0
  | c :: cs => cd_n cs + 1 - cd_ar c
def cd_wf (oc : Nat) : List Nat → Prop
  | [] => True
  | c :: cs => (c < 7 ∨ (10 ≤ c ∧ c < 22) ∨ (100 ≤ c ∧ c < 100 + oc)) ∧ cd_ar c ≤ cd_n cs ∧ cd_wf oc cs
/-- the trees that codes stand for: ν the open, γ the general variables -/
def cd_ev (ν γ : Nat → tr_T) : List Nat → List tr_T
  | [] => []
  | c :: cs =>
    if 100 ≤ c then ν (c - 100) :: cd_ev ν γ cs
    else if 10 ≤ c then γ (c - 10) :: cd_ev ν γ cs
    else if c < 3 then tr_at c :: cd_ev ν γ cs
    else if c = 3 ∨ c = 4 then tr_con c ((cd_ev ν γ cs).getD 0 (tr_at 0)) ((cd_ev ν γ cs).getD 0 (tr_at 0)) :: (cd_ev ν γ cs).drop 1
    else tr_con c ((cd_ev ν γ cs).getD 0 (tr_at 0)) ((cd_ev ν γ cs).getD 1 (tr_at 0)) :: (cd_ev ν γ cs).drop 2
theorem cd_ev_len {oc : Nat} {ν γ : Nat → tr_T} : ∀ cs, cd_wf oc cs → (cd_ev ν γ cs).length = cd_n cs := by
  intro cs
  induction cs with
  | nil => intro _; rfl
  | cons c cs ih =>
    intro h
    obtain ⟨h1, h2, h3⟩ := h
    have l := ih h3
    unfold cd_ev cd_n
    unfold cd_ar at h2 ⊢
    by_cases c1 : 100 ≤ c
    · rw [if_pos c1, List.length_cons, l, if_neg (by omega), if_neg (by omega), Nat.sub_zero]
    · rw [if_neg c1]
      by_cases c2 : 10 ≤ c
      · rw [if_pos c2, List.length_cons, l, if_neg (by omega), if_neg (by omega), Nat.sub_zero]
      · rw [if_neg c2]
        by_cases c3 : c < 3
        · rw [if_pos c3, List.length_cons, l, if_neg (by omega), if_neg (by omega), Nat.sub_zero]
        · rw [if_neg c3]
          by_cases c4 : c = 3 ∨ c = 4
          · rw [if_neg (by omega), if_pos c4] at h2
            rw [if_pos c4, List.length_cons, List.length_drop, l, if_neg (by omega), if_pos c4]
            omega
          · rw [if_pos (by omega)] at h2
            rw [if_neg c4, List.length_cons, List.length_drop, l, if_pos (by omega)]
            omega
theorem cd_ev_c {ν ν' γ γ' : Nat → tr_T} : ∀ cs, (∀ c, c ∈ cs → 100 ≤ c → ν (c - 100) = ν' (c - 100)) → (∀ c, c ∈ cs → 10 ≤ c → c < 100 → γ (c - 10) = γ' (c - 10)) → cd_ev ν γ cs = cd_ev ν' γ' cs := by
  intro cs
  induction cs with
  | nil => intro _ _; rfl
  | cons c cs ih =>
    intro h1 h2
    have e := ih (fun d hd => h1 d (List.mem_cons_of_mem _ hd)) (fun d hd => h2 d (List.mem_cons_of_mem _ hd))
    unfold cd_ev
    rw [e]
    by_cases c1 : 100 ≤ c
    · rw [if_pos c1, if_pos c1, h1 c List.mem_cons_self c1]
    · rw [if_neg c1, if_neg c1]
      by_cases c2 : 10 ≤ c
      · rw [if_pos c2, if_pos c2, h2 c List.mem_cons_self c2 (by omega)]
      · rw [if_neg c2, if_neg c2]
/-- new nodes that hold no general variable -/
theorem rp_ext {b0 nl n n' r : Nat} {kd pa pb kd' pa' pb' : Nat → Nat} {op stk env : List Nat} {bs : List (Nat × Bool)} {V V' : List tr_T → List tr_T → List tr_T → Prop} (I : rp_I b0 nl n kd pa pb op stk env bs V) (hn : n ≤ n') (s : gr_same n kd pa pb kd' pa' pb') (W' : gr_W n' kd' pa' pb') (A' : gr_A n' kd' pa' pb')
    (nw : ∀ m, n ≤ m → m < n' → kd' m ≠ 8 ∧ kd' m ≠ 1000 ∧ (gr_cn (kd' m) → (pa' m ∈ op ∨ n ≤ pa' m) ∧ (pb' m ∈ op ∨ n ≤ pb' m))) (hr : r ∈ op ∨ (n ≤ r ∧ r < n'))
    (hV' : ∀ ν st E, V' ν st E ↔ ∃ ρ, gr_V n' kd' pa' pb' ρ ∧ op.map ρ = ν ∧ (r :: stk).map ρ = st ∧ env.map ρ = E) : rp_I b0 nl n' kd' pa' pb' op (r :: stk) env bs V' := by
  obtain ⟨W, A, ⟨M, E, ⟨hM, gM, oM, sM, eM⟩, cE, mE, eE, bE⟩, en, hl, hP, hV⟩ := I
  refine ⟨W', A', ⟨fun i => M i ∨ (n ≤ i ∧ i < n'), fun i => E i ∨ (n ≤ i ∧ i < n'), ⟨?_, ?_, fun x hx => Or.inl (oM x hx), ?_, fun x hx => Or.inl (eM x hx)⟩, ?_, fun i hi => hi.elim (fun z => Or.inl (mE i z)) Or.inr, fun x hx => Or.inl (eE x hx), ?_⟩, fun x hx => by have := en x hx; omega, hl, ?_, hV'⟩
  · intro i hi
    rcases hi with hi | hi
    · obtain ⟨a, b, c⟩ := hM i hi
      rw [(s i a).1, (s i a).2.1, (s i a).2.2]
      exact ⟨by omega, fun z => Or.inl (b z), fun z => ⟨Or.inl (c z).1, Or.inl (c z).2⟩⟩
    · obtain ⟨q1, q2, q3⟩ := nw i hi.1 hi.2
      refine ⟨hi.2, fun z => (q2 z).elim, fun z => ?_⟩
      have w := (W' i hi.2).2 z
      exact ⟨(q3 z).1.elim (fun q => Or.inl (oM _ q)) (fun q => Or.inr ⟨q, w.1⟩), (q3 z).2.elim (fun q => Or.inl (oM _ q)) (fun q => Or.inr ⟨q, w.2⟩)⟩
  · intro i hi
    rcases hi with hi | hi
    · rw [(s i (hM i hi).1).1]; exact gM i hi
    · exact (nw i hi.1 hi.2).1
  · intro x hx
    rcases List.mem_cons.mp hx with z | z
    · rw [z]; exact hr.elim (fun q => Or.inl (oM _ q)) Or.inr
    · exact Or.inl (sM x z)
  · intro i hi
    rcases hi with hi | hi
    · obtain ⟨a, b, c⟩ := cE i hi
      rw [(s i a).1, (s i a).2.1, (s i a).2.2]
      exact ⟨by omega, fun z => Or.inl (b z), fun z => ⟨Or.inl (c z).1, Or.inl (c z).2⟩⟩
    · obtain ⟨q1, q2, q3⟩ := nw i hi.1 hi.2
      refine ⟨hi.2, fun z => (q2 z).elim, fun z => ?_⟩
      have w := (W' i hi.2).2 z
      exact ⟨(q3 z).1.elim (fun q => Or.inl (mE _ (oM _ q))) (fun q => Or.inr ⟨q, w.1⟩), (q3 z).2.elim (fun q => Or.inl (mE _ (oM _ q))) (fun q => Or.inr ⟨q, w.2⟩)⟩
  · intro i hi nm
    rcases hi with hi | hi
    · exact bE i hi (fun z => nm (Or.inl z))
    · exact (nm (Or.inr hi)).elim
  · refine rp_P_mono (fun ρ h i hi => ?_) (fun i hi c => ⟨by omega, by rw [(s i hi).1]; exact c⟩) bs env hP
    have e := h i (by omega)
    rw [(s i hi).1, (s i hi).2.1, (s i hi).2.2] at e
    exact e
/-- what holds while nodes for codes are made, from the back: cs the codes done, L their nodes, gn the nodes of the general variables (kind gk) -/
def bd_I (oc gk n n' : Nat) (kd pa pb kd' pa' pb' : Nat → Nat) (gn : Nat → Option Nat) (L cs : List Nat) : Prop :=
  n ≤ n' ∧ gr_same n kd pa pb kd' pa' pb' ∧ gr_W n' kd' pa' pb' ∧ gr_A n' kd' pa' pb' ∧
  (∀ m, n ≤ m → m < n' → kd' m ≠ 1000 ∧ (kd' m = 8 → gk = 8) ∧ (gr_cn (kd' m) → (pa' m < oc ∨ n ≤ pa' m) ∧ (pb' m < oc ∨ n ≤ pb' m))) ∧
  (∀ x, x ∈ L → x < oc ∨ (n ≤ x ∧ x < n')) ∧ (∀ g x, gn g = some x → n ≤ x ∧ x < n' ∧ kd' x = gk) ∧ (∀ g g' x, gn g = some x → gn g' = some x → g = g') ∧ (∀ c, c ∈ cs → 10 ≤ c → c < 100 → gn (c - 10) ≠ none) ∧
  (∀ ρ, gr_V n' kd' pa' pb' ρ → L.map ρ = cd_ev ρ (fun g => ((gn g).map ρ).getD (tr_at 0)) cs) ∧
  (∀ ρ, gr_V n kd pa pb ρ → ∀ γ : Nat → tr_T, ∃ ρ', gr_V n' kd' pa' pb' ρ' ∧ (∀ i, i < n → ρ' i = ρ i) ∧ ∀ g x, gn g = some x → ρ' x = γ g)
section
variable {oc gk n n' : Nat} {kd pa pb kd' pa' pb' : Nat → Nat} {gn : Nat → Option Nat} {L cs : List Nat}
/-- a new node of kind k -/
theorem gr_W_new {k a b : Nat} (W : gr_W n kd pa pb) (hk : k ≠ 1000) (hp : gr_cn k → a < n ∧ b < n) : gr_W (n + 1) (gr_u kd n k) (gr_u pa n a) (gr_u pb n b) := by
  intro i hi
  by_cases c : i = n
  · subst c
    rw [gr_us, gr_us, gr_us]
    exact ⟨fun z => (hk z).elim, fun z => by have := hp z; omega⟩
  · rw [gr_un c, gr_un c, gr_un c]
    have := W i (by omega)
    exact ⟨fun z => by have := this.1 z; omega, fun z => by have := this.2 z; omega⟩
theorem gr_A_new {k a b : Nat} (W : gr_W n kd pa pb) (A : gr_A n kd pa pb) (hk : k ≠ 1000) (hp : gr_cn k → a < n ∧ b < n) : gr_A (n + 1) (gr_u kd n k) (gr_u pa n a) (gr_u pb n b) := by
  have s : gr_same n kd pa pb (gr_u kd n k) (gr_u pa n a) (gr_u pb n b) := fun i hi => ⟨gr_un (by omega), gr_un (by omega), gr_un (by omega)⟩
  intro i hi
  by_cases c : i = n
  · subst c
    refine gr_H_i (fun z => ?_) (fun z => ?_)
    · rw [gr_us] at z; exact (hk z).elim
    · rw [gr_us] at z
      rw [gr_us, gr_us]
      obtain ⟨f, h⟩ := A a (hp z).1
      obtain ⟨g, h'⟩ := A b (hp z).2
      exact ⟨⟨f, gr_H_n W s f _ (hp z).1 h⟩, g, gr_H_n W s g _ (hp z).2 h'⟩
  · obtain ⟨f, h⟩ := A i (by omega)
    exact ⟨f, gr_H_n W s f i (by omega) h⟩
theorem gr_V_new {k a b : Nat} {ρ : Nat → tr_T} (h : gr_V (n + 1) (gr_u kd n k) (gr_u pa n a) (gr_u pb n b) ρ) : gr_V n kd pa pb ρ ∧ ρ n = gr_ev k (ρ a) (ρ b) (ρ n) := by
  refine ⟨fun i hi => ?_, ?_⟩
  · have e := h i (by omega)
    rw [gr_un (by omega), gr_un (by omega), gr_un (by omega)] at e
    exact e
  · have e := h n (by omega)
    rw [gr_us, gr_us, gr_us] at e
    exact e
theorem gr_V_new' {k a b : Nat} {ρ : Nat → tr_T} {v : tr_T} (W : gr_W n kd pa pb) (h : gr_V n kd pa pb ρ) (hp : gr_cn k → a < n ∧ b < n) (hk : k ≠ 1000) (hv : ¬ gr_fr k → v = gr_ev k (ρ a) (ρ b) v) : gr_V (n + 1) (gr_u kd n k) (gr_u pa n a) (gr_u pb n b) (fun i => if i = n then v else ρ i) := by
  have h' := gr_V_n W h (ρ' := fun i => if i = n then v else ρ i) (fun i hi => if_neg (by omega))
  intro i hi
  by_cases c : i = n
  · subst c
    rw [gr_us, gr_us, gr_us]
    show (if i = i then v else ρ i) = gr_ev k (if a = i then v else ρ a) (if b = i then v else ρ b) (if i = i then v else ρ i)
    rw [if_pos rfl]
    by_cases cf : gr_fr k
    · rw [gr_ev_f cf]
    · by_cases cc : gr_cn k
      · have := hp cc
        have n1 : ¬ a = i := by omega
        have n2 : ¬ b = i := by omega
        rw [if_neg n1, if_neg n2]; exact hv cf
      · have e := hv cf
        rw [gr_ev_t hk cc cf] at e ⊢; exact e
  · have e := h' i (by omega)
    rw [gr_un c, gr_un c, gr_un c]; exact e
theorem bd_0 {kd pa pb : Nat → Nat} (W : gr_W n kd pa pb) (A : gr_A n kd pa pb) : bd_I oc gk n n kd pa pb kd pa pb (fun _ => none) [] [] :=
  ⟨Nat.le_refl _, fun i _ => ⟨rfl, rfl, rfl⟩, W, A, fun m h1 h2 => by omega, fun x hx => (by cases hx), fun g x h => (by cases h), fun g g' x h => (by cases h), fun c hc => (by cases hc), fun ρ _ => rfl, fun ρ h γ => ⟨ρ, h, fun _ _ => rfl, fun g x h => (by cases h)⟩⟩
/-- an open variable -/
theorem bd_op {c : Nat} (I : bd_I oc gk n n' kd pa pb kd' pa' pb' gn L cs) (h1 : 100 ≤ c) (h2 : c < 100 + oc) : bd_I oc gk n n' kd pa pb kd' pa' pb' gn ((c - 100) :: L) (c :: cs) := by
  obtain ⟨i1, i2, i3, i4, i5, i6, i7, i8, i9, i10, i11⟩ := I
  refine ⟨i1, i2, i3, i4, i5, fun x hx => ?_, i7, i8, fun d hd d1 d2 => ?_, fun ρ h => ?_, i11⟩
  · rcases List.mem_cons.mp hx with z | z
    · rw [z]; exact Or.inl (by omega)
    · exact i6 x z
  · rcases List.mem_cons.mp hd with z | z
    · omega
    · exact i9 d z d1 d2
  · unfold cd_ev
    rw [if_pos h1, List.map_cons, i10 ρ h]
/-- a general variable that has its node -/
theorem bd_g {c x : Nat} (I : bd_I oc gk n n' kd pa pb kd' pa' pb' gn L cs) (h1 : 10 ≤ c) (h2 : c < 22) (hx : gn (c - 10) = some x) : bd_I oc gk n n' kd pa pb kd' pa' pb' gn (x :: L) (c :: cs) := by
  obtain ⟨i1, i2, i3, i4, i5, i6, i7, i8, i9, i10, i11⟩ := I
  refine ⟨i1, i2, i3, i4, i5, fun y hy => ?_, i7, i8, fun d hd d1 d2 => ?_, fun ρ h => ?_, i11⟩
  · rcases List.mem_cons.mp hy with z | z
    · rw [z]; have := i7 _ _ hx; exact Or.inr ⟨this.1, this.2.1⟩
    · exact i6 y z
  · rcases List.mem_cons.mp hd with z | z
    · rw [z, hx]; exact fun q => by cases q
    · exact i9 d z d1 d2
  · unfold cd_ev
    rw [if_neg (by omega), if_pos h1, List.map_cons, i10 ρ h, hx]
    rfl
def bd_u (gn : Nat → Option Nat) (g0 x : Nat) : Nat → Option Nat := fun g => if g = g0 then some x else gn g
/-- one that gets it now -/
theorem bd_gn {c : Nat} (I : bd_I oc gk n n' kd pa pb kd' pa' pb' gn L cs) (h1 : 10 ≤ c) (h2 : c < 22) (hx : gn (c - 10) = none) (hgk : gk = 7 ∨ gk = 8) : bd_I oc gk n (n' + 1) kd pa pb (gr_u kd' n' gk) (gr_u pa' n' 0) (gr_u pb' n' 0) (bd_u gn (c - 10) n') (n' :: L) (c :: cs) := by
  obtain ⟨i1, i2, i3, i4, i5, i6, i7, i8, i9, i10, i11⟩ := I
  have k1 : gk ≠ 1000 := by omega
  have kc : ¬ gr_cn gk := by omega
  have us : ∀ g, g = c - 10 → bd_u gn (c - 10) n' g = some n' := fun g e => if_pos e
  have un : ∀ g, ¬ g = c - 10 → bd_u gn (c - 10) n' g = gn g := fun g e => if_neg e
  refine ⟨by omega, fun i hi => ?_, gr_W_new i3 k1 (fun z => (kc z).elim), gr_A_new i3 i4 k1 (fun z => (kc z).elim), fun m m1 m2 => ?_, fun y hy => ?_, fun g x hg => ?_, fun g g' x hg hg' => ?_, fun d hd d1 d2 => ?_, fun ρ h => ?_, fun ρ h γ => ?_⟩
  · rw [gr_un (by omega), gr_un (by omega), gr_un (by omega)]; exact i2 i hi
  · by_cases e : m = n'
    · subst e
      rw [gr_us]; exact ⟨k1, fun z => z, fun z => (kc z).elim⟩
    · rw [gr_un e, gr_un e, gr_un e]; exact i5 m m1 (by omega)
  · rcases List.mem_cons.mp hy with z | z
    · rw [z]; exact Or.inr ⟨i1, by omega⟩
    · exact (i6 y z).elim Or.inl (fun q => Or.inr ⟨q.1, by omega⟩)
  · by_cases e : g = c - 10
    · rw [us _ e] at hg
      cases hg
      rw [gr_us]; exact ⟨i1, by omega, rfl⟩
    · rw [un _ e] at hg
      have := i7 g x hg
      rw [gr_un (by omega)]; exact ⟨this.1, by omega, this.2.2⟩
  · by_cases e : g = c - 10
    · by_cases e' : g' = c - 10
      · rw [e, e']
      · rw [us _ e] at hg
        rw [un _ e'] at hg'
        cases hg
        have := i7 g' _ hg'
        omega
    · rw [un _ e] at hg
      by_cases e' : g' = c - 10
      · rw [us _ e'] at hg'
        cases hg'
        have := i7 g _ hg
        omega
      · rw [un _ e'] at hg'
        exact i8 g g' x hg hg'
  · by_cases e : d - 10 = c - 10
    · rw [us _ e]; exact fun q => by cases q
    · rw [un _ e]
      rcases List.mem_cons.mp hd with z | z
      · exact (e (by rw [z])).elim
      · exact i9 d z d1 d2
  · have h' := (gr_V_new h).1
    unfold cd_ev
    rw [if_neg (by omega), if_pos h1, List.map_cons, i10 ρ h']
    rw [us _ rfl]
    show _ = (Option.map ρ (some n')).getD (tr_at 0) :: _
    congr 1
    refine cd_ev_c cs (fun _ _ _ => rfl) (fun d hd d1 d2 => ?_)
    have ne : ¬ d - 10 = c - 10 := fun e => i9 d hd d1 d2 (e ▸ hx)
    rw [un _ ne]
  · obtain ⟨ρ', h', a', b'⟩ := i11 ρ h γ
    refine ⟨fun i => if i = n' then γ (c - 10) else ρ' i, gr_V_new' i3 h' (fun z => (kc z).elim) k1 (fun z => (z (by omega)).elim), fun i hi => ?_, fun g x hg => ?_⟩
    · show (if i = n' then _ else _) = _
      rw [if_neg (by omega)]; exact a' i hi
    · show (if x = n' then _ else _) = _
      by_cases e : g = c - 10
      · rw [us _ e] at hg
        cases hg
        rw [if_pos rfl, e]
      · rw [un _ e] at hg
        have := i7 g x hg
        rw [if_neg (by omega)]; exact b' g x hg
/-- a node with parts, or a leaf -/
theorem bd_con {c k a b : Nat} {L' : List Nat} (I : bd_I oc gk n n' kd pa pb kd' pa' pb' gn L cs) (hon : oc ≤ n) (hc : c < 7) (hk : k = c) (hL : (c < 3 ∧ L' = L) ∨ (c = 3 ∧ L = a :: L' ∧ b = a) ∨ (c = 4 ∧ L = a :: L' ∧ b = a) ∨ ((c = 5 ∨ c = 6) ∧ L = a :: b :: L')) : bd_I oc gk n (n' + 1) kd pa pb (gr_u kd' n' k) (gr_u pa' n' a) (gr_u pb' n' b) gn (n' :: L') (c :: cs) := by
  subst hk
  obtain ⟨i1, i2, i3, i4, i5, i6, i7, i8, i9, i10, i11⟩ := I
  have k1 : k ≠ 1000 := by omega
  have hm : gr_cn k → (a < oc ∨ (n ≤ a ∧ a < n')) ∧ (b < oc ∨ (n ≤ b ∧ b < n')) := by
    intro z
    rcases hL with q | q | q | q
    · omega
    · have := i6 a (by rw [q.2.1]; exact List.mem_cons_self); rw [q.2.2]; exact ⟨this, this⟩
    · have := i6 a (by rw [q.2.1]; exact List.mem_cons_self); rw [q.2.2]; exact ⟨this, this⟩
    · exact ⟨i6 a (by rw [q.2]; exact List.mem_cons_self), i6 b (by rw [q.2]; exact List.mem_cons_of_mem _ List.mem_cons_self)⟩
  have hp : gr_cn k → a < n' ∧ b < n' := fun z => by have := hm z; omega
  have sub : ∀ y, y ∈ L' → y ∈ L := by
    intro y hy
    rcases hL with q | q | q | q
    · rw [← q.2]; exact hy
    · rw [q.2.1]; exact List.mem_cons_of_mem _ hy
    · rw [q.2.1]; exact List.mem_cons_of_mem _ hy
    · rw [q.2]; exact List.mem_cons_of_mem _ (List.mem_cons_of_mem _ hy)
  refine ⟨by omega, fun i hi => ?_, gr_W_new i3 k1 hp, gr_A_new i3 i4 k1 hp, fun m m1 m2 => ?_, fun y hy => ?_, fun g x hg => ?_, i8, fun d hd d1 d2 => ?_, fun ρ h => ?_, fun ρ h γ => ?_⟩
  · rw [gr_un (by omega), gr_un (by omega), gr_un (by omega)]; exact i2 i hi
  · by_cases e : m = n'
    · subst e
      rw [gr_us, gr_us, gr_us]
      refine ⟨k1, fun z => by omega, fun z => ?_⟩
      have := hm z
      exact ⟨this.1.elim Or.inl (fun q => Or.inr q.1), this.2.elim Or.inl (fun q => Or.inr q.1)⟩
    · rw [gr_un e, gr_un e, gr_un e]; exact i5 m m1 (by omega)
  · rcases List.mem_cons.mp hy with z | z
    · rw [z]; exact Or.inr ⟨i1, by omega⟩
    · exact (i6 y (sub y z)).elim Or.inl (fun q => Or.inr ⟨q.1, by omega⟩)
  · have := i7 g x hg
    rw [gr_un (by omega)]; exact ⟨this.1, by omega, this.2.2⟩
  · rcases List.mem_cons.mp hd with z | z
    · omega
    · exact i9 d z d1 d2
  · obtain ⟨h', e⟩ := gr_V_new h
    have v := i10 ρ h'
    unfold cd_ev
    rw [if_neg (by omega), if_neg (by omega), ← v, List.map_cons]
    rcases hL with q | q | q | q
    · rw [if_pos q.1, q.2, e, gr_ev_t k1 (by omega) (by omega)]
    · rw [if_neg (by omega), if_pos (by omega), e, gr_ev_c (by omega), q.2.1, q.2.2]; rfl
    · rw [if_neg (by omega), if_pos (by omega), e, gr_ev_c (by omega), q.2.1, q.2.2]; rfl
    · rw [if_neg (by omega), if_neg (by omega), e, gr_ev_c (by omega), q.2]; rfl
  · obtain ⟨ρ', h', a', b'⟩ := i11 ρ h γ
    refine ⟨fun i => if i = n' then gr_ev k (ρ' a) (ρ' b) (tr_at 0) else ρ' i, gr_V_new' i3 h' hp k1 (fun z => ?_), fun i hi => ?_, fun g x hg => ?_⟩
    · by_cases cc : gr_cn k
      · rw [gr_ev_c cc, gr_ev_c cc]
      · rw [gr_ev_t k1 cc z, gr_ev_t k1 cc z]
    · show (if i = n' then _ else _) = _
      rw [if_neg (by omega)]; exact a' i hi
    · show (if x = n' then _ else _) = _
      have := i7 g x hg
      rw [if_neg (by omega)]; exact b' g x hg
end
