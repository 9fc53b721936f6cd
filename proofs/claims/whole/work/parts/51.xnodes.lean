/-! new nodes on top of what waits (component and reference alike), and what the parts of a step come to -/
section
variable {kd pa pb : Nat → Nat} {b0 nl n K : Nat} {op stk env : List Nat} {bs : List (Nat × Bool)} {V : dv_W}
def ls_g (i : Nat) (st : List tr_T) : tr_T := st.getD i (tr_at 0)
theorem rp_var (I : rp_I b0 nl n kd pa pb op stk env bs V) {a b : Nat} : rp_I b0 nl (n + 1) (gr_u kd n 7) (gr_u pa n a) (gr_u pb n b) op (n :: stk) env bs (fun ν st E => ∃ τ st0, st = τ :: st0 ∧ V ν st0 E) := by
  have z := rp_push (kd' := gr_u kd n 7) (pa' := gr_u pa n a) (pb' := gr_u pb n b) I (fun i hi => ⟨gr_un (by omega), gr_un (by omega), gr_un (by omega)⟩) (fun _ _ _ => tr_at 0) (fun _ _ _ => tr_at 0) (by rw [gr_us]; omega) (by rw [gr_us]; omega) (fun q => by rw [gr_us] at q; omega)
  refine rp_cg (fun ν st E => ?_) z
  rw [gr_us]
  constructor
  · intro ⟨τ, s0, e, v, _, _⟩; exact ⟨τ, s0, e, v⟩
  · intro ⟨τ, s0, e, v⟩; exact ⟨τ, s0, e, v, fun q => by omega, fun _ q => (q rfl).elim⟩
theorem rp_leaf (I : rp_I b0 nl n kd pa pb op stk env bs V) {k a b : Nat} (hk : k ≠ 1000) (h2 : ¬ gr_cn k) (h3 : ¬ gr_fr k) : rp_I b0 nl (n + 1) (gr_u kd n k) (gr_u pa n a) (gr_u pb n b) op (n :: stk) env bs (fun ν st E => ∃ st0, st = tr_at k :: st0 ∧ V ν st0 E) := by
  have z := rp_push (kd' := gr_u kd n k) (pa' := gr_u pa n a) (pb' := gr_u pb n b) I (fun i hi => ⟨gr_un (by omega), gr_un (by omega), gr_un (by omega)⟩) (fun _ _ _ => tr_at 0) (fun _ _ _ => tr_at 0) (by rw [gr_us]; exact hk) (by rw [gr_us]; omega) (fun q => by rw [gr_us] at q; exact (h2 q).elim)
  refine rp_cg (fun ν st E => ?_) z
  rw [gr_us]
  constructor
  · intro ⟨τ, s0, e, v, _, q⟩; exact ⟨s0, by rw [e, q h2 (by omega)], v⟩
  · intro ⟨s0, e, v⟩; exact ⟨_, s0, e, v, fun q => (h2 q).elim, fun _ _ => rfl⟩
theorem rp_con (I : rp_I b0 nl n kd pa pb op stk env bs V) {k a b : Nat} (hk : gr_cn k) (ha : a ∈ stk ∨ a ∈ mo_l bs env) (hb : b ∈ stk ∨ b ∈ mo_l bs env) (A B : List tr_T → List tr_T → List tr_T → tr_T) (hA : ∀ ρ : Nat → tr_T, A (op.map ρ) (stk.map ρ) (env.map ρ) = ρ a) (hB : ∀ ρ : Nat → tr_T, B (op.map ρ) (stk.map ρ) (env.map ρ) = ρ b) : rp_I b0 nl (n + 1) (gr_u kd n k) (gr_u pa n a) (gr_u pb n b) op (n :: stk) env bs (fun ν st E => ∃ st0, st = tr_con k (A ν st0 E) (B ν st0 E) :: st0 ∧ V ν st0 E) := by
  have z := rp_push (kd' := gr_u kd n k) (pa' := gr_u pa n a) (pb' := gr_u pb n b) I (fun i hi => ⟨gr_un (by omega), gr_un (by omega), gr_un (by omega)⟩) A B (by rw [gr_us]; omega) (by rw [gr_us]; omega) (fun q => by
    rw [gr_us, gr_us]
    exact ⟨ha.elim Or.inl (fun z => Or.inr (Or.inr z)), hb.elim Or.inl (fun z => Or.inr (Or.inr z)), fun ρ => ⟨hA ρ, hB ρ⟩⟩)
  refine rp_cg (fun ν st E => ?_) z
  rw [gr_us]
  constructor
  · intro ⟨τ, s0, e, v, q, _⟩; exact ⟨s0, by rw [e, q hk], v⟩
  · intro ⟨s0, e, v⟩; exact ⟨_, s0, e, v, fun _ => rfl, fun q => (q hk).elim⟩
/-- the links' lengths, with a new node -/
theorem xt_L {k a b : Nat} (W : gr_W n kd pa pb) (hL : gr_L n kd pa K) (hK : K + gr_nr kd n ≤ n) (hk : k ≠ 1000) : gr_L (n + 1) (gr_u kd n k) (gr_u pa n a) K ∧ K + gr_nr (gr_u kd n k) (n + 1) ≤ n + 1 := by
  have s : gr_same n kd pa pb (gr_u kd n k) (gr_u pa n a) (gr_u pb n b) := gr_same_u
  have k1 : gr_u kd n k n ≠ 1000 := by rw [gr_us]; exact hk
  refine ⟨gr_L_n W s hL k1, ?_⟩
  rw [gr_nr_n s k1]; omega
/-! equivalences: what the nodes come to is what the steps mean -/
theorem xe_l1 {h e : Nat} (hl : dv_len (h + 1) e V) {ν st E : List tr_T} (v : V ν st E) : ∃ x r, st = x :: r := by
  have := (hl _ _ _ v).1
  cases st with
  | nil => simp at this
  | cons x r => exact ⟨x, r, rfl⟩
theorem xe_l2 {h e : Nat} (hl : dv_len (h + 2) e V) {ν st E : List tr_T} (v : V ν st E) : ∃ x y r, st = x :: y :: r := by
  have := (hl _ _ _ v).1
  cases st with
  | nil => simp at this
  | cons x r =>
    cases r with
    | nil => simp at this
    | cons y r => exact ⟨x, y, r, rfl⟩
theorem xe_l3 {h e : Nat} (hl : dv_len (h + 3) e V) {ν st E : List tr_T} (v : V ν st E) : ∃ x y z r, st = x :: y :: z :: r := by
  have := (hl _ _ _ v).1
  cases st with
  | nil => simp at this
  | cons x r =>
    cases r with
    | nil => simp at this
    | cons y r =>
      cases r with
      | nil => simp at this
      | cons z r => exact ⟨x, y, z, r, rfl⟩
theorem xe_app {h e : Nat} (hl : dv_len (h + 2) e V) (ν st' E : List tr_T) : (∃ st, ((∃ s0, st = tr_con 6 (ls_g 1 s0) (ls_g 0 s0) :: s0 ∧ ∃ τ s1, s0 = τ :: s1 ∧ V ν s1 E) ∧ ls_g 3 st = ls_g 0 st) ∧ ls_g 1 st :: st.drop 4 = st') ↔ dv_app V ν st' E := by
  constructor
  · intro ⟨st, ⟨⟨s0, e1, τ, s1, e2, v⟩, c⟩, e3⟩
    obtain ⟨x, y, r, e4⟩ := xe_l2 hl v
    subst e4 e2 e1 e3
    simp [ls_g] at c
    refine ⟨(x, τ), r, rfl, ?_⟩
    rw [c] at v
    exact v
  · intro ⟨c, r, e, v⟩
    exact ⟨_, ⟨⟨_, rfl, c.2, _, rfl, v⟩, rfl⟩, e.symm⟩
theorem xe_pair {h e : Nat} (hl : dv_len (h + 2) e V) (ν st' E : List tr_T) : (∃ st, (∃ s0, st = tr_con 5 (ls_g 1 s0) (ls_g 0 s0) :: s0 ∧ V ν s0 E) ∧ ls_g 0 st :: st.drop 3 = st') ↔ dv_pair V ν st' E := by
  constructor
  · intro ⟨st, ⟨s0, e1, v⟩, e3⟩
    obtain ⟨x, y, r, e4⟩ := xe_l2 hl v
    subst e4 e1 e3
    exact ⟨(x, y), r, rfl, v⟩
  · intro ⟨c, r, e, v⟩
    exact ⟨_, ⟨_, rfl, v⟩, e.symm⟩
theorem xe_cons {h e : Nat} (hl : dv_len (h + 2) e V) (ν st' E : List tr_T) : (∃ st, ((∃ s0, st = tr_con 3 (ls_g 1 s0) (ls_g 1 s0) :: s0 ∧ V ν s0 E) ∧ ls_g 1 st = ls_g 0 st) ∧ ls_g 1 st :: st.drop 3 = st') ↔ dv_cons V ν st' E := by
  constructor
  · intro ⟨st, ⟨⟨s0, e1, v⟩, c⟩, e3⟩
    obtain ⟨x, y, r, e4⟩ := xe_l2 hl v
    subst e4 e1 e3
    simp [ls_g] at c
    refine ⟨y, r, by simp [ls_g, c], ?_⟩
    rw [c] at v
    exact v
  · intro ⟨c, r, e, v⟩
    exact ⟨_, ⟨⟨_, rfl, v⟩, rfl⟩, e.symm⟩
theorem xe_asg {h e : Nat} (hl : dv_len (h + 2) e V) (ν st' E : List tr_T) : (∃ st, (∃ s2, st = tr_at 2 :: s2 ∧ (∃ s0, s2 = tr_con 4 (ls_g 0 s0) (ls_g 0 s0) :: s0 ∧ V ν s0 E) ∧ ls_g 2 s2 = ls_g 0 s2) ∧ ls_g 0 st :: st.drop 4 = st') ↔ dv_asg V ν st' E := by
  constructor
  · intro ⟨st, ⟨s2, e0, ⟨s0, e1, v⟩, c⟩, e3⟩
    obtain ⟨x, y, r, e4⟩ := xe_l2 hl v
    subst e4 e1 e0 e3
    simp [ls_g] at c
    refine ⟨x, r, rfl, ?_⟩
    rw [c] at v
    exact v
  · intro ⟨c, r, e, v⟩
    exact ⟨_, ⟨_, rfl, ⟨_, rfl, v⟩, rfl⟩, e.symm⟩
theorem xe_num {k h e : Nat} (hl : dv_len (h + 2) e V) (ν st' E : List tr_T) : (∃ st, (∃ s2, st = tr_at k :: s2 ∧ (((∃ s0, s2 = tr_at 0 :: s0 ∧ V ν s0 E) ∧ ls_g 2 s2 = ls_g 0 s2) ∧ ls_g 1 s2 = ls_g 0 s2)) ∧ ls_g 0 st :: st.drop 4 = st') ↔ dv_num k V ν st' E := by
  constructor
  · intro ⟨st, ⟨s2, e0, ⟨⟨s0, e1, v⟩, c1⟩, c2⟩, e3⟩
    obtain ⟨x, y, r, e4⟩ := xe_l2 hl v
    subst e4 e1 e0 e3
    simp [ls_g] at c1 c2
    refine ⟨(), r, rfl, ?_⟩
    rw [c1, c2] at v
    exact v
  · intro ⟨c, r, e, v⟩
    exact ⟨_, ⟨_, rfl, ⟨⟨_, rfl, v⟩, rfl⟩, rfl⟩, e.symm⟩
theorem xe_if {h e : Nat} (hl : dv_len (h + 3) e V) (ν st' E : List tr_T) : (∃ st, (((∃ s0, st = tr_at 1 :: s0 ∧ V ν s0 E) ∧ ls_g 3 st = ls_g 0 st) ∧ ls_g 1 st = ls_g 2 st) ∧ ls_g 2 st :: st.drop 4 = st') ↔ dv_if V ν st' E := by
  constructor
  · intro ⟨st, ⟨⟨⟨s0, e1, v⟩, c1⟩, c2⟩, e3⟩
    obtain ⟨x, y, z, r, e4⟩ := xe_l3 hl v
    subst e4 e1 e3
    simp [ls_g] at c1 c2
    refine ⟨y, r, rfl, ?_⟩
    rw [c1, c2] at v
    exact v
  · intro ⟨c, r, e, v⟩
    exact ⟨_, ⟨⟨⟨_, rfl, v⟩, rfl⟩, rfl⟩, e.symm⟩
end
