/-! heights and frames: what the parser's symbols will do to the number h of types that wait and to the bindings el (place, is of a let), and which declarations are at work (fs: heights at their beginnings) -/
abbrev pd_L : Type := List (Nat × Nat × Nat)
def pd_k : pd_L → Nat
  | [] => 0
  | f :: _ => f.1
def pd_b : pd_L → Nat
  | [] => 0
  | f :: _ => f.2.1
/-- the binders of a fun at p with m names, the last one first -/
def pd_ns (p : Nat) : Nat → List (Nat × Bool)
  | 0 => []
  | m + 1 => (p + 1 + m, false) :: pd_ns p m
theorem pd_ns_len (p : Nat) : ∀ m, (pd_ns p m).length = m := by
  intro m
  induction m with
  | zero => rfl
  | succ m ih => unfold pd_ns; rw [List.length_cons, ih]
/-- a fun at p: its names and its equals -/
def pd_fn (K : Nat → Nat) (mq : Nat → Nat) (p : Nat) : Prop := 2 ≤ mq p ∧ K p = 8 ∧ (∀ i, p < i → i ≤ p + mq p → K i = 3) ∧ K (p + mq p + 1) = 9
/-- what is known of a symbol's place -/
def pd_P (K mq : Nat → Nat) (c s p : Nat) : Prop :=
  (s = 82 ∨ s = 84 ∨ s = 46 ∨ s = 47 → p < c) ∧ (s = 83 → p < c ∧ (K p = 17 ∨ K p = 18 ∨ K p = 19 ∨ K p = 20 ∨ K p = 21 ∨ K p = 25)) ∧ (s = 86 → p + 1 < c) ∧ (s = 88 → pd_fn K mq p ∧ p + mq p + 1 < c) ∧ (s = 89 → p + 1 < c ∧ K (p + 1) = 3)
def pd_R (K mq : Nat → Nat) (c s p h : Nat) (el : List (Nat × Bool)) (fs : pd_L) (h' : Nat) (el' : List (Nat × Bool)) (fs' : pd_L) : Prop :=
  pd_k fs ≤ h ∧ pd_b fs ≤ el.length ∧
  (s < 38 ∨ s = 40 ∨ s = 42 ∨ s = 44 ∨ s = 46 ∨ s = 47 ∨ s = 50 ∨ s = 51 ∨ s = 52 ∨ s = 53 ∨ s = 54 ∨ s = 55 ∨ s = 82 ∨ s = 83 ∨ s = 84 ∨ s = 86 ∨ s = 88 ∨ s = 89) ∧
  pd_P K mq c s p ∧
  (s < 38 → h' = h ∧ el' = el ∧ fs' = fs) ∧
  (s = 40 → h' = h ∧ el' = (0, true) :: el ∧ fs' = fs) ∧
  (s = 42 ∨ s = 55 → h' = h + 1 ∧ el' = el ∧ fs' = fs) ∧
  (s = 44 ∨ s = 50 ∨ s = 51 ∨ s = 52 ∨ s = 53 ∨ s = 54 → pd_k fs < h ∧ h' = h ∧ el' = el ∧ fs' = fs) ∧
  (s = 46 → pd_b fs < el.length ∧ el = (0, true) :: el' ∧ h' = h + 1 ∧ fs' = fs) ∧
  (s = 47 → pd_k fs < h ∧ pd_b fs < el.length ∧ el = (0, true) :: el' ∧ h' = h ∧ fs' = fs) ∧
  (s = 82 ∨ s = 83 → pd_k fs + 2 ≤ h ∧ h = h' + 1 ∧ el' = el ∧ fs' = fs) ∧
  (s = 84 → pd_k fs + 3 ≤ h ∧ h = h' + 2 ∧ el' = el ∧ fs' = fs) ∧
  (s = 86 → pd_k fs < h ∧ pd_b fs < el.length ∧ el = (p + 1, false) :: el' ∧ h' = h ∧ fs' = fs) ∧
  (s = 88 → ∃ el0, fs = (h', el0.length, p) :: fs' ∧ h = h' + 1 ∧ el = pd_ns p (mq p) ++ el0 ∧ el' = (0, true) :: el0) ∧
  (s = 89 → fs = (h', el.length, p) :: fs' ∧ h = h' + 1 ∧ el' = (0, true) :: el)
def pd_ok (K mq : Nat → Nat) (c : Nat) : pm_L → Nat → List (Nat × Bool) → pd_L → Prop
  | [], h, el, fs => h = 0 ∧ el = [(0, true)] ∧ fs = []
  | (s, p) :: ss, h, el, fs => ∃ h' el' fs', pd_R K mq c s p h el fs h' el' fs' ∧ pd_ok K mq c ss h' el' fs'
/-! the meaning of the steps -/
def cs_T (t : Nat) (τ : tr_T) : Prop :=
  (t = 0 → τ = tr_at 0) ∧ (t = 1 ∨ t = 2 → τ = tr_at 1) ∧ (t = 22 → ∃ a, τ = tr_con 3 a a) ∧ (t = 23 → ∃ a, τ = tr_con 6 a (tr_con 4 a a)) ∧
  (t = 24 → ∃ a, τ = tr_con 6 (tr_con 4 a a) a) ∧ (t = 26 → ∃ a, τ = tr_con 6 (tr_con 3 a a) a) ∧ (t = 27 → ∃ a, τ = tr_con 6 (tr_con 3 a a) (tr_con 3 a a)) ∧
  (t = 28 → ∃ a, τ = tr_con 6 (tr_con 3 a a) (tr_at 1)) ∧ (t = 29 → ∃ a b, τ = tr_con 6 (tr_con 5 a b) a) ∧ (t = 30 → ∃ a b, τ = tr_con 6 (tr_con 5 a b) b)
/-- where a name is bound; N: the value of the token at a place -/
def bx_ix (N : Nat → Nat) : List (Nat × Bool) → Nat → Option Nat
  | [], _ => none
  | b :: bs, nm => if N b.1 = nm then some 0 else (bx_ix N bs nm).map (· + 1)
def dd_mono (j : Nat) : List tr_T → List tr_T → tr_T → Prop := fun _ E τ => E[j]? = some τ
def dd_poly (bs : List (Nat × Bool)) (V : dv_W) (j : Nat) : List tr_T → List tr_T → tr_T → Prop := fun ν E τ => ∃ st2 E2, V ν st2 E2 ∧ mo_l (bs.drop (j + 1)) (E2.drop (j + 1)) = mo_l (bs.drop (j + 1)) (E.drop (j + 1)) ∧ E2[j]? = some τ
def dd_name (N : Nat → Nat) (Dc : Nat → List tr_T → tr_T → Prop) (bs : List (Nat × Bool)) (V : dv_W) (nm : Nat) : List tr_T → List tr_T → tr_T → Prop :=
  match bx_ix N bs nm with
  | some j => if (bs[j]?).map Prod.snd = some true then dd_poly bs V j else dd_mono j
  | none => fun ν _ τ => Dc nm ν τ
def dd_V (K N mq : Nat → Nat) (Dc : Nat → List tr_T → tr_T → Prop) (bs : List (Nat × Bool)) (V : dv_W) (s p : Nat) : dv_W :=
  if s = 80 then (if K p = 3 then dv_psh (dd_name N Dc bs V (N p)) V else dv_psh (fun _ _ τ => cs_T (K p) τ) V)
  else if s = 81 then dv_psh (fun _ _ τ => τ = tr_at 2) V
  else if s = 82 then dv_app V
  else if s = 83 then (if K p = 17 then dv_pair V else if K p = 18 then dv_cons V else if K p = 25 then dv_asg V else if K p = 21 then dv_num 1 V else dv_num 0 V)
  else if s = 84 then dv_if V
  else if s = 85 then dv_lams 1 V
  else if s = 86 then dv_fn V
  else if s = 87 then dv_lams (mq p) V
  else if s = 88 then dv_bind (dv_fun (mq p - 1) V)
  else if s = 89 then dv_bind V
  else dv_let V
def dd_bs (mq : Nat → Nat) (bs : List (Nat × Bool)) (fl : List Bool) (s p : Nat) : List (Nat × Bool) :=
  if s = 85 then (p + 1, false) :: bs
  else if s = 86 then bs.drop 1
  else if s = 87 then pd_ns p (mq p) ++ bs
  else if s = 88 then (p + 1, true) :: bs.drop (mq p)
  else if s = 89 then (p + 1, fl.headD false) :: bs
  else if s = 90 then bs.drop 1
  else bs
def dd_fl (K : Nat → Nat) (fl : List Bool) (s p : Nat) : List Bool :=
  if s = 80 then true :: fl
  else if s = 81 then true :: fl
  else if s = 82 then false :: fl.drop 2
  else if s = 83 then ((decide (K p = 17) || decide (K p = 18)) && fl.headD false && (fl.drop 1).headD false) :: fl.drop 2
  else if s = 84 then false :: fl.drop 3
  else if s = 86 then true :: fl.drop 1
  else if s = 88 then fl.drop 1
  else if s = 89 then fl.drop 1
  else if s = 90 then false :: fl.drop 1
  else fl
/-- what holds ahead of a step -/
def dd_pre (K mq : Nat → Nat) (c : Nat) (bs : List (Nat × Bool)) (fl : List Bool) (V : dv_W) (s p : Nat) : Prop :=
  p < c ∧ dv_len fl.length bs.length V ∧ 80 ≤ s ∧ s ≤ 90 ∧
  (s = 80 → pm_alone (K p) = true) ∧
  (s = 82 → 2 ≤ fl.length) ∧
  (s = 83 → 2 ≤ fl.length ∧ (K p = 17 ∨ K p = 18 ∨ K p = 19 ∨ K p = 20 ∨ K p = 21 ∨ K p = 25)) ∧
  (s = 84 → 3 ≤ fl.length) ∧
  (s = 85 → p + 1 < c ∧ K (p + 1) = 3 ∧ ∀ x, x ∈ bs → x.1 ≤ p) ∧
  (s = 86 → 1 ≤ fl.length ∧ p + 1 < c ∧ ∃ bs0, bs = (p + 1, false) :: bs0) ∧
  (s = 87 → pd_fn K mq p ∧ p + mq p + 1 < c ∧ ∀ x, x ∈ bs → x.1 ≤ p) ∧
  (s = 88 → pd_fn K mq p ∧ p + mq p + 1 < c ∧ 1 ≤ fl.length ∧ ∃ bs0, bs = pd_ns p (mq p) ++ bs0 ∧ dv_CI (fl.length - 1) bs0.length V ∧ ∀ x, x ∈ bs0 → x.1 ≤ p) ∧
  (s = 89 → p + 1 < c ∧ K (p + 1) = 3 ∧ 1 ≤ fl.length ∧ dv_CI (fl.length - 1) bs.length V ∧ ∀ x, x ∈ bs → x.1 ≤ p) ∧
  (s = 90 → 1 ≤ fl.length ∧ bs ≠ [])
