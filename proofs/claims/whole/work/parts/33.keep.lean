/-! the parser's turns keep the discipline, and what the steps mean keeps the frames -/
def di_F (V : dv_W) (bs : List (Nat × Bool)) : Nat → Nat → pd_L → Prop
  | _, _, [] => True
  | h, e, f :: fs => f.1 ≤ h ∧ f.2.1 ≤ e ∧ dv_CI f.1 f.2.1 V ∧ (∀ x, x ∈ bs.drop (bs.length - f.2.1) → x.1 ≤ f.2.2) ∧ di_F V bs f.1 f.2.1 fs
def di_I (h : Nat) (el : List (Nat × Bool)) (fs : pd_L) (bs : List (Nat × Bool)) (fl : List Bool) (V : dv_W) : Prop :=
  fl.length = h ∧ bs.length = el.length ∧ (∀ (i x : Nat), el[i]? = some (x, false) → bs[i]? = some (x, false)) ∧ dv_len h el.length V ∧ di_F V bs h el.length fs
theorem di_F_in {V V' : dv_W} {bs bs' : List (Nat × Bool)} : ∀ (fs : pd_L) (a b : Nat), di_F V bs a b fs → (∀ k j, k ≤ a → j ≤ b → dv_CI k j V → dv_CI k j V') → (∀ j, j ≤ b → bs'.drop (bs'.length - j) = bs.drop (bs.length - j)) → di_F V' bs' a b fs := by
  intro fs
  induction fs with
  | nil => intro a b _ _ _; trivial
  | cons f fs ih =>
    intro a b h t u
    obtain ⟨h1, h2, h3, h5, h4⟩ := h
    exact ⟨h1, h2, t _ _ h1 h2 h3, by rw [u _ h2]; exact h5, ih _ _ h4 (fun k j hk hj => t k j (by omega) (by omega)) (fun j hj => u j (by omega))⟩
theorem di_F_tr {V V' : dv_W} {bs bs' : List (Nat × Bool)} {fs : pd_L} {h e h' e' : Nat} (F : di_F V bs h e fs) (t : ∀ k j, k ≤ pd_k fs → j ≤ pd_b fs → dv_CI k j V → dv_CI k j V') (u : ∀ j, j ≤ pd_b fs → bs'.drop (bs'.length - j) = bs.drop (bs.length - j)) (h1 : pd_k fs ≤ h') (h2 : pd_b fs ≤ e') : di_F V' bs' h' e' fs := by
  cases fs with
  | nil => trivial
  | cons f fs =>
    obtain ⟨_, _, f3, f5, f4⟩ := F
    exact ⟨h1, h2, t _ _ (Nat.le_refl _) (Nat.le_refl _) f3, by rw [u f.2.1 (Nat.le_refl _)]; exact f5, di_F_in fs _ _ f4 t u⟩
theorem ls_dropc {α : Type} {A B : List α} {j : Nat} (h : j ≤ B.length) : (A ++ B).drop ((A ++ B).length - j) = B.drop (B.length - j) := by
  have e : (A ++ B).length - j = A.length + (B.length - j) := by rw [List.length_append]; omega
  rw [e, List.drop_append]
  simp
section
variable {K mq N : Nat → Nat} {Dc : Nat → List tr_T → tr_T → Prop} {c h : Nat} {el : List (Nat × Bool)} {fs : pd_L}
theorem pd_38 {s p : Nat} (hs : s < 38) (h1 : pd_k fs ≤ h) (h2 : pd_b fs ≤ el.length) : pd_R K mq c s p h el fs h el fs := by
  refine ⟨h1, h2, Or.inl hs, ⟨fun z => ?_, fun z => ?_, fun z => ?_, fun z => ?_, fun z => ?_⟩, fun _ => ⟨rfl, rfl, rfl⟩, fun z => ?_, fun z => ?_, fun z => ?_, fun z => ?_, fun z => ?_, fun z => ?_, fun z => ?_, fun z => ?_, fun z => ?_, fun z => ?_⟩
  all_goals (exfalso; omega)
theorem pd_40 {p : Nat} (h1 : pd_k fs ≤ h) (h2 : pd_b fs ≤ el.length) : pd_R K mq c 40 p h el fs h ((0, true) :: el) fs := by
  unfold pd_R pd_P
  simp
  exact ⟨h1, h2⟩
theorem pd_42 {p : Nat} (h1 : pd_k fs ≤ h) (h2 : pd_b fs ≤ el.length) : pd_R K mq c 42 p h el fs (h + 1) el fs := by
  unfold pd_R pd_P
  simp
  exact ⟨h1, h2⟩
theorem pd_55 {p : Nat} (h1 : pd_k fs ≤ h) (h2 : pd_b fs ≤ el.length) : pd_R K mq c 55 p h el fs (h + 1) el fs := by
  unfold pd_R pd_P
  simp
  exact ⟨h1, h2⟩
theorem pd_44 {p s : Nat} (hs : s = 44 ∨ s = 50 ∨ s = 51 ∨ s = 52 ∨ s = 53 ∨ s = 54) (h1 : pd_k fs < h) (h2 : pd_b fs ≤ el.length) : pd_R K mq c s p h el fs h el fs := by
  rcases hs with rfl | rfl | rfl | rfl | rfl | rfl
  all_goals
    unfold pd_R pd_P
    simp
    exact ⟨by omega, h2, h1⟩
theorem pd_46 {p : Nat} (hp : p < c) (h1 : pd_k fs ≤ h) (h2 : pd_b fs ≤ el.length) : pd_R K mq c 46 p h ((0, true) :: el) fs (h + 1) el fs := by
  unfold pd_R pd_P
  simp
  omega
theorem pd_47 {p : Nat} (hp : p < c) (h1 : pd_k fs < h) (h2 : pd_b fs ≤ el.length) : pd_R K mq c 47 p h ((0, true) :: el) fs h el fs := by
  unfold pd_R pd_P
  simp
  omega
theorem pd_82 {p : Nat} (hp : p < c) (h1 : pd_k fs + 1 ≤ h) (h2 : pd_b fs ≤ el.length) : pd_R K mq c 82 p (h + 1) el fs h el fs := by
  unfold pd_R pd_P
  simp
  omega
theorem pd_83 {p : Nat} (hp : p < c) (hk : K p = 17 ∨ K p = 18 ∨ K p = 19 ∨ K p = 20 ∨ K p = 21 ∨ K p = 25) (h1 : pd_k fs + 1 ≤ h) (h2 : pd_b fs ≤ el.length) : pd_R K mq c 83 p (h + 1) el fs h el fs := by
  unfold pd_R pd_P
  simp
  omega
theorem pd_84 {p : Nat} (hp : p < c) (h1 : pd_k fs + 1 ≤ h) (h2 : pd_b fs ≤ el.length) : pd_R K mq c 84 p (h + 2) el fs h el fs := by
  unfold pd_R pd_P
  simp
  omega
theorem pd_86 {p : Nat} (hp : p + 1 < c) (h1 : pd_k fs < h) (h2 : pd_b fs ≤ el.length) : pd_R K mq c 86 p h ((p + 1, false) :: el) fs h el fs := by
  unfold pd_R pd_P
  simp
  omega
theorem pd_88 {p : Nat} (hf : pd_fn K mq p) (hp : p + mq p + 1 < c) : pd_R K mq c 88 p (h + 1) (pd_ns p (mq p) ++ el) ((h, el.length, p) :: fs) h ((0, true) :: el) fs := by
  refine ⟨by simp [pd_k], by simp [pd_b], by omega, ⟨fun z => ?_, fun z => ?_, fun z => ?_, fun _ => ⟨hf, hp⟩, fun z => ?_⟩, fun z => ?_, fun z => ?_, fun z => ?_, fun z => ?_, fun z => ?_, fun z => ?_, fun z => ?_, fun z => ?_, fun z => ?_, fun _ => ⟨el, rfl, rfl, rfl, rfl⟩, fun z => ?_⟩
  all_goals (exfalso; omega)
theorem pd_89 {p : Nat} (hp : p + 1 < c) (hk : K (p + 1) = 3) : pd_R K mq c 89 p (h + 1) el ((h, el.length, p) :: fs) h ((0, true) :: el) fs := by
  refine ⟨by simp [pd_k], by simp [pd_b], by omega, ⟨fun z => ?_, fun z => ?_, fun z => ?_, fun z => ?_, fun _ => ⟨hp, hk⟩⟩, fun z => ?_, fun z => ?_, fun z => ?_, fun z => ?_, fun z => ?_, fun z => ?_, fun z => ?_, fun z => ?_, fun z => ?_, fun z => ?_, fun _ => ⟨rfl, rfl, rfl⟩⟩
  all_goals (exfalso; omega)
/-- the six levels of an expression, or the last of them -/
theorem pd_e6 {ss : pm_L} (h1 : pd_k fs ≤ h) (h2 : pd_b fs ≤ el.length) (ok : pd_ok K mq c ss (h + 1) el fs) : pd_ok K mq c ((55, 0) :: (54, 0) :: (53, 0) :: (52, 0) :: (51, 0) :: (50, 0) :: ss) h el fs :=
  ⟨_, _, _, pd_55 h1 h2, _, _, _, pd_44 (by omega) (by omega) h2, _, _, _, pd_44 (by omega) (by omega) h2, _, _, _, pd_44 (by omega) (by omega) h2, _, _, _, pd_44 (by omega) (by omega) h2, _, _, _, pd_44 (by omega) (by omega) h2, ok⟩
end
section
variable {K mq N : Nat → Nat} {Dc : Nat → List tr_T → tr_T → Prop} {c h : Nat} {el : List (Nat × Bool)} {fs : pd_L} {bs : List (Nat × Bool)} {fl : List Bool} {V : dv_W}
theorem dk_psh {P : List tr_T → List tr_T → tr_T → Prop} {b : Bool} (D : di_I h el fs bs fl V) (h1 : pd_k fs ≤ h) (h2 : pd_b fs ≤ el.length) : di_I (h + 1) el fs bs (b :: fl) (dv_psh P V) := by
  obtain ⟨d1, d2, d3, d4, d5⟩ := D
  exact ⟨by simp [d1], d2, d3, dv_len_psh d4, di_F_tr d5 (fun k j hk hj C => dv_CI_psh d4 (by omega) C) (fun _ _ => rfl) (by omega) h2⟩
theorem dk_tr {γ : Type} {inp out : γ → List tr_T} {i : Nat} {fl' : List Bool} (hi : ∀ x, (inp x).length = i) (ho : ∀ x, (out x).length = 1) (hf : fl'.length = h + 1) (D : di_I (h + i) el fs bs fl V) (h1 : pd_k fs ≤ h) (h2 : pd_b fs ≤ el.length) : di_I (h + 1) el fs bs fl' (dv_tr inp out V) := by
  obtain ⟨d1, d2, d3, d4, d5⟩ := D
  exact ⟨hf, d2, d3, dv_len_tr hi ho d4, di_F_tr d5 (fun k j hk hj C => dv_CI_tr hi d4 (by omega) C) (fun _ _ => rfl) (by omega) h2⟩
theorem dk_rel {x : Nat} {el bs : List (Nat × Bool)} (d : ∀ (i y : Nat), el[i]? = some (y, false) → bs[i]? = some (y, false)) : ∀ (i y : Nat), ((x, false) :: el)[i]? = some (y, false) → ((x, false) :: bs)[i]? = some (y, false) := by
  intro i y hy
  cases i with
  | zero => exact hy
  | succ i => rw [List.getElem?_cons_succ] at hy ⊢; exact d i y hy
theorem dk_rel' {b : Nat × Bool} {el bs : List (Nat × Bool)} (d : ∀ (i y : Nat), el[i]? = some (y, false) → bs[i]? = some (y, false)) : ∀ (i y : Nat), ((0, true) :: el)[i]? = some (y, false) → (b :: bs)[i]? = some (y, false) := by
  intro i y hy
  cases i with
  | zero => simp at hy
  | succ i => rw [List.getElem?_cons_succ] at hy ⊢; exact d i y hy
theorem dk_reln {p : Nat} {el bs : List (Nat × Bool)} (d : ∀ (i y : Nat), el[i]? = some (y, false) → bs[i]? = some (y, false)) : ∀ (m i y : Nat), (pd_ns p m ++ el)[i]? = some (y, false) → (pd_ns p m ++ bs)[i]? = some (y, false) := by
  intro m
  induction m with
  | zero => exact d
  | succ m ih => exact dk_rel ih
theorem dk_un {x : Nat × Bool} {el bs : List (Nat × Bool)} (hl : bs.length = (x :: el).length) (d : ∀ (i y : Nat), (x :: el)[i]? = some (y, false) → bs[i]? = some (y, false)) : ∃ b bs0, bs = b :: bs0 ∧ (x.2 = false → b = x) ∧ bs0.length = el.length ∧ ∀ (i y : Nat), el[i]? = some (y, false) → bs0[i]? = some (y, false) := by
  cases bs with
  | nil => simp at hl
  | cons b bs =>
    refine ⟨b, bs, rfl, fun z => ?_, by simpa using hl, fun i y hy => ?_⟩
    · obtain ⟨x1, x2⟩ := x
      simp at z
      subst z
      have := d 0 x1 rfl
      simpa using this
    · have := d (i + 1) y (by rw [List.getElem?_cons_succ]; exact hy)
      rw [List.getElem?_cons_succ] at this
      exact this
theorem dk_unn {p : Nat} {el : List (Nat × Bool)} : ∀ (m : Nat) (bs : List (Nat × Bool)), bs.length = (pd_ns p m ++ el).length → (∀ (i y : Nat), (pd_ns p m ++ el)[i]? = some (y, false) → bs[i]? = some (y, false)) → ∃ bs0, bs = pd_ns p m ++ bs0 ∧ bs0.length = el.length ∧ ∀ (i y : Nat), el[i]? = some (y, false) → bs0[i]? = some (y, false) := by
  intro m
  induction m with
  | zero => intro bs hl d; exact ⟨bs, rfl, hl, d⟩
  | succ m ih =>
    intro bs hl d
    obtain ⟨b, bs0, e, e1, l, d'⟩ := dk_un (x := (p + 1 + m, false)) (el := pd_ns p m ++ el) hl d
    obtain ⟨bs1, e2, l2, d2⟩ := ih bs0 l d'
    refine ⟨bs1, ?_, l2, d2⟩
    rw [e, e1 rfl, e2]
    rfl
theorem dk_lam {p : Nat} (D : di_I h el fs bs fl V) (h1 : pd_k fs ≤ h) (h2 : pd_b fs ≤ el.length) : di_I h ((p + 1, false) :: el) fs ((p + 1, false) :: bs) fl (dv_lams 1 V) := by
  obtain ⟨d1, d2, d3, d4, d5⟩ := D
  exact ⟨d1, by simp [d2], dk_rel d3, dv_len_lams d4, di_F_tr d5 (fun k j hk hj C => dv_CI_lams d4 (by omega) C) (fun j hj => ls_dropc (A := [(p + 1, false)]) (by omega)) h1 (by rw [List.length_cons]; omega)⟩
theorem dk_lams {p m : Nat} (D : di_I h el fs bs fl V) (h1 : pd_k fs ≤ h) (h2 : pd_b fs ≤ el.length) : di_I h (pd_ns p m ++ el) fs (pd_ns p m ++ bs) fl (dv_lams m V) := by
  obtain ⟨d1, d2, d3, d4, d5⟩ := D
  have el' : (pd_ns p m ++ el).length = el.length + m := by rw [List.length_append, pd_ns_len]; omega
  refine ⟨d1, by rw [List.length_append, List.length_append, d2], dk_reln d3 m, ?_, ?_⟩
  · rw [el']; exact dv_len_lams d4
  · exact di_F_tr d5 (fun k j hk hj C => dv_CI_lams d4 (by omega) C) (fun j hj => ls_dropc (by omega)) h1 (by omega)
theorem dk_fn {p : Nat} {fl' : List Bool} (D : di_I (h + 1) ((p + 1, false) :: el) fs bs fl V) (h1 : pd_k fs ≤ h) (h2 : pd_b fs ≤ el.length) (hf : fl'.length = h + 1) : ∃ bs0, bs = (p + 1, false) :: bs0 ∧ di_I (h + 1) el fs bs0 fl' (dv_fn V) := by
  obtain ⟨d1, d2, d3, d4, d5⟩ := D
  obtain ⟨b, bs0, e, e1, l, d'⟩ := dk_un d2 d3
  rw [e1 rfl] at e
  exact ⟨bs0, e, hf, l, d', dv_len_fn d4, di_F_tr d5 (fun k j hk hj C => dv_CI_fn d4 (by omega) C) (fun j hj => by rw [e]; exact (ls_dropc (A := [(p + 1, false)]) (by omega)).symm) (by omega) h2⟩
theorem dk_let {fl' : List Bool} (D : di_I h ((0, true) :: el) fs bs fl V) (h1 : pd_k fs ≤ h) (h2 : pd_b fs ≤ el.length) (hf : fl'.length = h) : ∃ b bs0, bs = b :: bs0 ∧ di_I h el fs bs0 fl' (dv_let V) := by
  obtain ⟨d1, d2, d3, d4, d5⟩ := D
  obtain ⟨b, bs0, e, e1, l, d'⟩ := dk_un d2 d3
  exact ⟨b, bs0, e, hf, l, d', dv_len_let d4, di_F_tr d5 (fun k j hk hj C => dv_CI_let C) (fun j hj => by rw [e]; exact (ls_dropc (A := [b]) (by omega)).symm) h1 h2⟩
theorem dk_val {b : Nat × Bool} {p : Nat} {fl' : List Bool} (D : di_I (h + 1) el ((h, el.length, p) :: fs) bs fl V) (hf : fl'.length = h) : dv_CI h el.length V ∧ (∀ x, x ∈ bs → x.1 ≤ p) ∧ di_I h ((0, true) :: el) fs (b :: bs) fl' (dv_bind V) := by
  obtain ⟨d1, d2, d3, d4, _, _, d6, d8, d7⟩ := D
  have d8' : ∀ x, x ∈ bs → x.1 ≤ p := by
    have e : bs.length - (h, el.length, p).2.1 = 0 := by show bs.length - el.length = 0; omega
    rw [e] at d8
    exact d8
  refine ⟨d6, d8', hf, by simp [d2], dk_rel' d3, dv_len_bind d4, ?_⟩
  have q := di_F_in fs _ _ d7 (V' := dv_bind V) (bs' := b :: bs) (fun k j hk hj C => dv_CI_bind d4 hj C) (fun j hj => ls_dropc (A := [b]) (by rw [d2]; exact hj))
  cases fs with
  | nil => trivial
  | cons f fs =>
    obtain ⟨q1, q2, q3, q5, q4⟩ := q
    exact ⟨q1, by rw [List.length_cons]; exact Nat.le_succ_of_le q2, q3, q5, q4⟩
theorem dk_fun {b : Nat × Bool} {p m : Nat} {fl' : List Bool} (D : di_I (h + 1) (pd_ns p (m + 1) ++ el) ((h, el.length, p) :: fs) bs fl V) (hf : fl'.length = h) : ∃ bs0, bs = pd_ns p (m + 1) ++ bs0 ∧ bs0.length = el.length ∧ dv_CI h el.length V ∧ (∀ x, x ∈ bs0 → x.1 ≤ p) ∧ di_I h ((0, true) :: el) fs (b :: bs0) fl' (dv_bind (dv_fun m V)) := by
  obtain ⟨d1, d2, d3, d4, _, _, d6, d9, d7⟩ := D
  obtain ⟨bs0, e, l, d'⟩ := dk_unn (m + 1) bs d2 d3
  have d4' : dv_len (h + 1) (el.length + m + 1) V := by
    rw [List.length_append, pd_ns_len] at d4
    have q : m + 1 + el.length = el.length + m + 1 := by omega
    rw [q] at d4; exact d4
  have d8 := dv_len_fun d4'
  have d9' : ∀ x, x ∈ bs0 → x.1 ≤ p := by
    have z : bs.drop (bs.length - el.length) = bs0 := by
      rw [e, ls_dropc (by omega), l, Nat.sub_self]; rfl
    intro x hx
    exact d9 x (by show x ∈ bs.drop (bs.length - el.length); rw [z]; exact hx)
  refine ⟨bs0, e, l, d6, d9', hf, by simp [l], dk_rel' d', dv_len_bind d8, ?_⟩
  have q := di_F_in fs _ _ d7 (V' := dv_bind (dv_fun m V)) (bs' := b :: bs0) (fun k j hk hj C => dv_CI_bind d8 hj (dv_CI_fun d4' hk C)) (fun j hj => by
    have hj' : j ≤ bs0.length := by rw [l]; exact hj
    rw [e, ls_dropc hj']
    exact ls_dropc (A := [b]) hj')
  cases fs with
  | nil => trivial
  | cons f fs =>
    obtain ⟨q1, q2, q3, q5, q4⟩ := q
    exact ⟨q1, by rw [List.length_cons]; exact Nat.le_succ_of_le q2, q3, q5, q4⟩
/-- a declaration begins -/
theorem dk_new {p : Nat} (D : di_I h el fs bs fl V) (hp : ∀ x, x ∈ bs → x.1 < p) : di_I h el ((h, el.length, p) :: fs) bs fl V := by
  obtain ⟨d1, d2, d3, d4, d5⟩ := D
  exact ⟨d1, d2, d3, d4, Nat.le_refl _, Nat.le_refl _, dv_CI_new d4, fun x hx => Nat.le_of_lt (hp x (List.mem_of_mem_drop hx)), d5⟩
end
