/-! the steps' meaning, step by step -/
section
variable {K N mq : Nat → Nat} {Dc : Nat → List tr_T → tr_T → Prop} {bs : List (Nat × Bool)} {fl : List Bool} {V : dv_W} {p : Nat}
theorem eV_80 : dd_V K N mq Dc bs V 80 p = (if K p = 3 then dv_psh (dd_name N Dc bs V (N p)) V else dv_psh (fun _ _ τ => cs_T (K p) τ) V) := rfl
theorem eB_80 : dd_bs mq bs fl 80 p = (bs) := rfl
theorem eF_80 : dd_fl K fl 80 p = (true :: fl) := rfl
theorem eV_81 : dd_V K N mq Dc bs V 81 p = (dv_psh (fun _ _ τ => τ = tr_at 2) V) := rfl
theorem eB_81 : dd_bs mq bs fl 81 p = (bs) := rfl
theorem eF_81 : dd_fl K fl 81 p = (true :: fl) := rfl
theorem eV_82 : dd_V K N mq Dc bs V 82 p = (dv_app V) := rfl
theorem eB_82 : dd_bs mq bs fl 82 p = (bs) := rfl
theorem eF_82 : dd_fl K fl 82 p = (false :: fl.drop 2) := rfl
theorem eV_83 : dd_V K N mq Dc bs V 83 p = (if K p = 17 then dv_pair V else if K p = 18 then dv_cons V else if K p = 25 then dv_asg V else if K p = 21 then dv_num 1 V else dv_num 0 V) := rfl
theorem eB_83 : dd_bs mq bs fl 83 p = (bs) := rfl
theorem eF_83 : dd_fl K fl 83 p = (((decide (K p = 17) || decide (K p = 18)) && fl.headD false && (fl.drop 1).headD false) :: fl.drop 2) := rfl
theorem eV_84 : dd_V K N mq Dc bs V 84 p = (dv_if V) := rfl
theorem eB_84 : dd_bs mq bs fl 84 p = (bs) := rfl
theorem eF_84 : dd_fl K fl 84 p = (false :: fl.drop 3) := rfl
theorem eV_85 : dd_V K N mq Dc bs V 85 p = (dv_lams 1 V) := rfl
theorem eB_85 : dd_bs mq bs fl 85 p = ((p + 1, false) :: bs) := rfl
theorem eF_85 : dd_fl K fl 85 p = (fl) := rfl
theorem eV_86 : dd_V K N mq Dc bs V 86 p = (dv_fn V) := rfl
theorem eB_86 : dd_bs mq bs fl 86 p = (bs.drop 1) := rfl
theorem eF_86 : dd_fl K fl 86 p = (true :: fl.drop 1) := rfl
theorem eV_87 : dd_V K N mq Dc bs V 87 p = (dv_lams (mq p) V) := rfl
theorem eB_87 : dd_bs mq bs fl 87 p = (pd_ns p (mq p) ++ bs) := rfl
theorem eF_87 : dd_fl K fl 87 p = (fl) := rfl
theorem eV_88 : dd_V K N mq Dc bs V 88 p = (dv_bind (dv_fun (mq p - 1) V)) := rfl
theorem eB_88 : dd_bs mq bs fl 88 p = ((p + 1, true) :: bs.drop (mq p)) := rfl
theorem eF_88 : dd_fl K fl 88 p = (fl.drop 1) := rfl
theorem eV_89 : dd_V K N mq Dc bs V 89 p = (dv_bind V) := rfl
theorem eB_89 : dd_bs mq bs fl 89 p = ((p + 1, fl.headD false) :: bs) := rfl
theorem eF_89 : dd_fl K fl 89 p = (fl.drop 1) := rfl
theorem eV_90 : dd_V K N mq Dc bs V 90 p = (dv_let V) := rfl
theorem eB_90 : dd_bs mq bs fl 90 p = (bs.drop 1) := rfl
theorem eF_90 : dd_fl K fl 90 p = (false :: fl.drop 1) := rfl
end
/-- where a declaration's types first clash (q), or that they don't (none) -/
def gc_C (K N mq : Nat → Nat) (Dc : Nat → List tr_T → tr_T → Prop) : pm_L → List (Nat × Bool) → List Bool → dv_W → Option Nat → Prop
  | [], _, _, _, r => r = none
  | (s, p) :: sp, bs, fl, V, r => ((∃ ν st E, dd_V K N mq Dc bs V s p ν st E) ∧ gc_C K N mq Dc sp (dd_bs mq bs fl s p) (dd_fl K fl s p) (dd_V K N mq Dc bs V s p) r) ∨ ((∀ ν st E, ¬ dd_V K N mq Dc bs V s p ν st E) ∧ r = some (if s = 88 then p + mq p + 1 else p))
/-- the first name that means nothing, or none -/
def gn_N (K N mq : Nat → Nat) (dc : Nat → List Nat) : pm_L → List (Nat × Bool) → List Bool → Option Nat → Prop
  | [], _, _, r => r = none
  | (s, p) :: sp, bs, fl, r => if s = 80 ∧ K p = 3 ∧ bx_ix N bs (N p) = none ∧ dc (N p) = [] then r = some p else gn_N K N mq dc sp (dd_bs mq bs fl s p) (dd_fl K fl s p) r
theorem gn_u {K N mq : Nat → Nat} {dc : Nat → List Nat} : ∀ sp bs fl r r', gn_N K N mq dc sp bs fl r → gn_N K N mq dc sp bs fl r' → r = r' := by
  intro sp
  induction sp with
  | nil => intro bs fl r r' h h'; exact Eq.trans h (Eq.symm h')
  | cons y sp ih =>
    obtain ⟨s, p⟩ := y
    intro bs fl r r' h h'
    unfold gn_N at h h'
    by_cases c : s = 80 ∧ K p = 3 ∧ bx_ix N bs (N p) = none ∧ dc (N p) = []
    · rw [if_pos c] at h h'; rw [h, h']
    · rw [if_neg c] at h h'; exact ih _ _ _ _ h h'
theorem gc_u {K N mq : Nat → Nat} {Dc : Nat → List tr_T → tr_T → Prop} : ∀ sp bs fl V r r', gc_C K N mq Dc sp bs fl V r → gc_C K N mq Dc sp bs fl V r' → r = r' := by
  intro sp
  induction sp with
  | nil => intro bs fl V r r' h h'; exact Eq.trans h (Eq.symm h')
  | cons y sp ih =>
    obtain ⟨s, p⟩ := y
    intro bs fl V r r' h h'
    rcases h with ⟨⟨ν, st, E, v⟩, h⟩ | ⟨no, h⟩
    · rcases h' with ⟨_, h'⟩ | ⟨no', _⟩
      · exact ih _ _ _ _ _ h h'
      · exact (no' ν st E v).elim
    · rcases h' with ⟨⟨ν, st, E, v⟩, _⟩ | ⟨_, h'⟩
      · exact (no ν st E v).elim
      · rw [h, h']
