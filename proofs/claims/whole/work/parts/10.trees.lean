/-! trees, graphs of types and their valuations. A graph: kinds kd, parts pa, pb of the nodes below n.
Kind 1000: the node stands for node pa; 3 .. 6: parts pa and pb; 7, 8: free; all others: leaves -/
abbrev tr_T : Type := Std.Format
def tr_at (c : Nat) : tr_T := Std.Format.tag c Std.Format.nil
def tr_con (c : Nat) (l r : tr_T) : tr_T := Std.Format.tag c (Std.Format.append l r)
theorem tr_at_inj {c d : Nat} (h : tr_at c = tr_at d) : c = d := by
  unfold tr_at at h
  injection h
theorem tr_con_inj {c d : Nat} {l r l' r' : tr_T} (h : tr_con c l r = tr_con d l' r') : c = d ∧ l = l' ∧ r = r' := by
  unfold tr_con at h
  injection h with h1 h2
  injection h2 with h3 h4
  exact ⟨h1, h3, h4⟩
theorem tr_at_con {c d : Nat} {l r : tr_T} (h : tr_at c = tr_con d l r) : False := by
  unfold tr_at tr_con at h
  injection h with h1 h2
  injection h2
noncomputable def tr_sz (t : tr_T) : Nat := SizeOf.sizeOf t
theorem tr_sz_l (c : Nat) (l r : tr_T) : tr_sz l < tr_sz (tr_con c l r) := by
  unfold tr_sz tr_con
  simp
  omega
theorem tr_sz_r (c : Nat) (l r : tr_T) : tr_sz r < tr_sz (tr_con c l r) := by
  unfold tr_sz tr_con
  simp
  omega
abbrev gr_cn (k : Nat) : Prop := 3 ≤ k ∧ k ≤ 6
abbrev gr_fr (k : Nat) : Prop := k = 7 ∨ k = 8
def gr_ev (k : Nat) (x y z : tr_T) : tr_T :=
  if k = 1000 then x else if 3 ≤ k ∧ k ≤ 6 then tr_con k x y else if k = 7 ∨ k = 8 then z else tr_at k
theorem gr_ev_l {k : Nat} {x y z : tr_T} (h : k = 1000) : gr_ev k x y z = x := by
  unfold gr_ev
  rw [if_pos h]
theorem gr_ev_c {k : Nat} {x y z : tr_T} (h : gr_cn k) : gr_ev k x y z = tr_con k x y := by
  unfold gr_ev
  rw [if_neg (by omega), if_pos h]
theorem gr_ev_f {k : Nat} {x y z : tr_T} (h : gr_fr k) : gr_ev k x y z = z := by
  unfold gr_ev
  rw [if_neg (by omega), if_neg (by omega), if_pos h]
theorem gr_ev_t {k : Nat} {x y z : tr_T} (h1 : k ≠ 1000) (h2 : ¬ gr_cn k) (h3 : ¬ gr_fr k) : gr_ev k x y z = tr_at k := by
  unfold gr_ev
  rw [if_neg h1, if_neg h2, if_neg h3]
def gr_V (n : Nat) (kd pa pb : Nat → Nat) (ρ : Nat → tr_T) : Prop :=
  ∀ i, i < n → ρ i = gr_ev (kd i) (ρ (pa i)) (ρ (pb i)) (ρ i)
def gr_W (n : Nat) (kd pa pb : Nat → Nat) : Prop :=
  ∀ i, i < n → (kd i = 1000 → pa i < n) ∧ (gr_cn (kd i) → pa i < n ∧ pb i < n)
def gr_H (kd pa pb : Nat → Nat) : Nat → Nat → Prop
  | 0, _ => False
  | f + 1, i => (kd i = 1000 → gr_H kd pa pb f (pa i)) ∧ (gr_cn (kd i) → gr_H kd pa pb f (pa i) ∧ gr_H kd pa pb f (pb i))
/-- no node contains itself -/
def gr_A (n : Nat) (kd pa pb : Nat → Nat) : Prop := ∀ i, i < n → ∃ f, gr_H kd pa pb f i
/-- a set of nodes that holds the parts of its nodes -/
def gr_C (n : Nat) (kd pa pb : Nat → Nat) (S : Nat → Prop) : Prop :=
  ∀ i, S i → i < n ∧ (kd i = 1000 → S (pa i)) ∧ (gr_cn (kd i) → S (pa i) ∧ S (pb i))
theorem gr_H_s {kd pa pb : Nat → Nat} : ∀ f i, gr_H kd pa pb f i → gr_H kd pa pb (f + 1) i := by
  intro f
  induction f with
  | zero => intro i h; exact h.elim
  | succ f ih =>
    intro i h
    exact ⟨fun z => ih _ (h.1 z), fun z => ⟨ih _ (h.2 z).1, ih _ (h.2 z).2⟩⟩
theorem gr_H_m {kd pa pb : Nat → Nat} {f g i : Nat} (h : f ≤ g) (hf : gr_H kd pa pb f i) : gr_H kd pa pb g i := by
  induction g with
  | zero => cases Nat.le_zero.mp h; exact hf
  | succ g ih =>
    by_cases e : f = g + 1
    · rw [← e]; exact hf
    · exact gr_H_s g i (ih (by omega))
/-- heights of the parts give one of the whole -/
theorem gr_H_i {kd pa pb : Nat → Nat} {i : Nat} (h1 : kd i = 1000 → ∃ f, gr_H kd pa pb f (pa i))
    (h2 : gr_cn (kd i) → (∃ f, gr_H kd pa pb f (pa i)) ∧ ∃ f, gr_H kd pa pb f (pb i)) : ∃ f, gr_H kd pa pb f i := by
  by_cases c1 : kd i = 1000
  · obtain ⟨f, hf⟩ := h1 c1
    exact ⟨f + 1, fun _ => hf, fun z => by omega⟩
  · by_cases c2 : gr_cn (kd i)
    · obtain ⟨⟨f, hf⟩, g, hg⟩ := h2 c2
      exact ⟨f + g + 1, fun z => (c1 z).elim, fun _ => ⟨gr_H_m (by omega) hf, gr_H_m (by omega) hg⟩⟩
    · exact ⟨1, fun z => (c1 z).elim, fun z => (c2 z).elim⟩
def gr_e (kd pa pb : Nat → Nat) (θ : Nat → tr_T) : Nat → Nat → tr_T
  | 0, i => θ i
  | f + 1, i => gr_ev (kd i) (gr_e kd pa pb θ f (pa i)) (gr_e kd pa pb θ f (pb i)) (θ i)
theorem gr_e_s {kd pa pb : Nat → Nat} {θ : Nat → tr_T} : ∀ f i, gr_H kd pa pb f i → ∀ g, f ≤ g → gr_e kd pa pb θ g i = gr_e kd pa pb θ f i := by
  intro f
  induction f with
  | zero => intro i h; exact h.elim
  | succ f ih =>
    intro i h g hg
    obtain ⟨g, rfl⟩ : ∃ k, g = k + 1 := ⟨g - 1, by omega⟩
    unfold gr_e
    by_cases c1 : kd i = 1000
    · rw [gr_ev_l c1, gr_ev_l c1]; exact ih _ (h.1 c1) g (by omega)
    · by_cases c2 : gr_cn (kd i)
      · rw [gr_ev_c c2, gr_ev_c c2, ih _ (h.2 c2).1 g (by omega), ih _ (h.2 c2).2 g (by omega)]
      · by_cases c3 : gr_fr (kd i)
        · rw [gr_ev_f c3, gr_ev_f c3]
        · rw [gr_ev_t c1 c2 c3, gr_ev_t c1 c2 c3]
theorem gr_Vl {n : Nat} {kd pa pb : Nat → Nat} {ρ : Nat → tr_T} (h : gr_V n kd pa pb ρ) {i : Nat} (hi : i < n) (c : kd i = 1000) : ρ i = ρ (pa i) := by
  have e := h i hi
  rw [gr_ev_l c] at e
  exact e
theorem gr_Vc {n : Nat} {kd pa pb : Nat → Nat} {ρ : Nat → tr_T} (h : gr_V n kd pa pb ρ) {i : Nat} (hi : i < n) (c : gr_cn (kd i)) : ρ i = tr_con (kd i) (ρ (pa i)) (ρ (pb i)) := by
  have e := h i hi
  rw [gr_ev_c c] at e
  exact e
theorem gr_Vt {n : Nat} {kd pa pb : Nat → Nat} {ρ : Nat → tr_T} (h : gr_V n kd pa pb ρ) {i : Nat} (hi : i < n) (c1 : kd i ≠ 1000) (c2 : ¬ gr_cn (kd i)) (c3 : ¬ gr_fr (kd i)) : ρ i = tr_at (kd i) := by
  have e := h i hi
  rw [gr_ev_t c1 c2 c3] at e
  exact e
/-- a valuation, node by node -/
theorem gr_Vi {n : Nat} {kd pa pb : Nat → Nat} {ρ : Nat → tr_T} (h : ∀ i, i < n → (kd i = 1000 → ρ i = ρ (pa i)) ∧ (gr_cn (kd i) → ρ i = tr_con (kd i) (ρ (pa i)) (ρ (pb i))) ∧ (kd i ≠ 1000 → ¬ gr_cn (kd i) → ¬ gr_fr (kd i) → ρ i = tr_at (kd i))) : gr_V n kd pa pb ρ := by
  intro i hi
  obtain ⟨h1, h2, h3⟩ := h i hi
  by_cases c1 : kd i = 1000
  · rw [gr_ev_l c1]; exact h1 c1
  · by_cases c2 : gr_cn (kd i)
    · rw [gr_ev_c c2]; exact h2 c2
    · by_cases c3 : gr_fr (kd i)
      · rw [gr_ev_f c3]
      · rw [gr_ev_t c1 c2 c3]; exact h3 c1 c2 c3
/-- what the free nodes are given extends to a valuation -/
theorem gr_ex {n : Nat} {kd pa pb : Nat → Nat} (A : gr_A n kd pa pb) (θ : Nat → tr_T) : ∃ ρ, gr_V n kd pa pb ρ ∧ ∀ i, i < n → gr_fr (kd i) → ρ i = θ i := by
  have key : ∀ i, ∃ x : tr_T, ∀ f, gr_H kd pa pb f i → x = gr_e kd pa pb θ f i := by
    intro i
    by_cases h : ∃ f, gr_H kd pa pb f i
    · obtain ⟨g, hg⟩ := h
      refine ⟨gr_e kd pa pb θ g i, fun f hf => ?_⟩
      by_cases c : f ≤ g
      · exact gr_e_s f i hf _ c
      · exact (gr_e_s _ i hg f (by omega)).symm
    · exact ⟨θ i, fun f hf => (h ⟨f, hf⟩).elim⟩
  obtain ⟨ρ, hρ'⟩ := Classical.axiomOfChoice key
  have hρ : ∀ f i, gr_H kd pa pb f i → ρ i = gr_e kd pa pb θ f i := fun f i => hρ' i f
  refine ⟨ρ, gr_Vi fun i hi => ?_, fun i hi c => ?_⟩
  · obtain ⟨f, hf⟩ := A i hi
    cases f with
    | zero => exact hf.elim
    | succ f =>
      have e := hρ _ i hf
      unfold gr_e at e
      refine ⟨fun c => ?_, fun c => ?_, fun c1 c2 c3 => ?_⟩
      · rw [gr_ev_l c] at e; rw [e, hρ _ _ (hf.1 c)]
      · rw [gr_ev_c c] at e; rw [e, hρ _ _ (hf.2 c).1, hρ _ _ (hf.2 c).2]
      · rw [gr_ev_t c1 c2 c3] at e; exact e
  · obtain ⟨f, hf⟩ := A i hi
    cases f with
    | zero => exact hf.elim
    | succ f =>
      have e := hρ _ i hf
      unfold gr_e at e
      rw [gr_ev_f c] at e
      exact e
/-- valuations that agree on the free nodes of a closed set agree on it -/
theorem gr_ag {n : Nat} {kd pa pb : Nat → Nat} {ρ ρ' : Nat → tr_T} {S : Nat → Prop} (hV : gr_V n kd pa pb ρ) (hV' : gr_V n kd pa pb ρ') (hS : gr_C n kd pa pb S) (hf : ∀ i, S i → gr_fr (kd i) → ρ i = ρ' i) : ∀ f i, gr_H kd pa pb f i → S i → ρ i = ρ' i := by
  intro f
  induction f with
  | zero => intro i h; exact h.elim
  | succ f ih =>
    intro i h si
    obtain ⟨hi, s1, s2⟩ := hS i si
    by_cases c1 : kd i = 1000
    · rw [gr_Vl hV hi c1, gr_Vl hV' hi c1]; exact ih _ (h.1 c1) (s1 c1)
    · by_cases c2 : gr_cn (kd i)
      · rw [gr_Vc hV hi c2, gr_Vc hV' hi c2, ih _ (h.2 c2).1 (s2 c2).1, ih _ (h.2 c2).2 (s2 c2).2]
      · by_cases c3 : gr_fr (kd i)
        · exact hf i si c3
        · rw [gr_Vt hV hi c1 c2 c3, gr_Vt hV' hi c1 c2 c3]
theorem gr_agA {n : Nat} {kd pa pb : Nat → Nat} {ρ ρ' : Nat → tr_T} {S : Nat → Prop} (A : gr_A n kd pa pb) (hV : gr_V n kd pa pb ρ) (hV' : gr_V n kd pa pb ρ') (hS : gr_C n kd pa pb S) (hf : ∀ i, S i → gr_fr (kd i) → ρ i = ρ' i) {i : Nat} (si : S i) : ρ i = ρ' i := by
  obtain ⟨f, h⟩ := A i (hS i si).1
  exact gr_ag hV hV' hS hf f i h si
/-- the set of the nodes at which two valuations agree holds the parts of its nodes -/
theorem gr_agC {n : Nat} {kd pa pb : Nat → Nat} {ρ ρ' : Nat → tr_T} (W : gr_W n kd pa pb) (hV : gr_V n kd pa pb ρ) (hV' : gr_V n kd pa pb ρ') : gr_C n kd pa pb (fun i => i < n ∧ ρ i = ρ' i) := by
  intro i ⟨hi, e⟩
  refine ⟨hi, fun c => ⟨(W i hi).1 c, ?_⟩, fun c => ?_⟩
  · rw [← gr_Vl hV hi c, ← gr_Vl hV' hi c]; exact e
  · rw [gr_Vc hV hi c, gr_Vc hV' hi c] at e
    obtain ⟨_, e1, e2⟩ := tr_con_inj e
    exact ⟨⟨((W i hi).2 c).1, e1⟩, ((W i hi).2 c).2, e2⟩
/-- the node that a node stands for -/
def gr_f (kd pa : Nat → Nat) : Nat → Nat → Nat
  | 0, i => i
  | f + 1, i => if kd i = 1000 then gr_f kd pa f (pa i) else i
def gr_to (kd pa : Nat → Nat) (i r : Nat) : Prop := kd r ≠ 1000 ∧ ∃ f, gr_f kd pa f i = r
theorem gr_f_l {kd pa : Nat → Nat} {f i : Nat} (h : kd i = 1000) : gr_f kd pa (f + 1) i = gr_f kd pa f (pa i) := by
  show (if kd i = 1000 then _ else _) = _
  rw [if_pos h]
theorem gr_f_r {kd pa : Nat → Nat} {i : Nat} (h : kd i ≠ 1000) : ∀ f, gr_f kd pa f i = i := by
  intro f
  cases f with
  | zero => rfl
  | succ f => show (if kd i = 1000 then _ else _) = _; rw [if_neg h]
theorem gr_f_m {kd pa : Nat → Nat} : ∀ {f i r g : Nat}, gr_f kd pa f i = r → kd r ≠ 1000 → f ≤ g → gr_f kd pa g i = r := by
  intro f
  induction f with
  | zero => intro i r g h hr _; cases h; exact gr_f_r hr g
  | succ f ih =>
    intro i r g h hr hg
    obtain ⟨g, rfl⟩ : ∃ k, g = k + 1 := ⟨g - 1, by omega⟩
    by_cases c : kd i = 1000
    · rw [gr_f_l c] at h ⊢; exact ih h hr (by omega)
    · rw [gr_f_r c] at h ⊢; exact h
theorem gr_to_u {kd pa : Nat → Nat} {i r r' : Nat} (h : gr_to kd pa i r) (h' : gr_to kd pa i r') : r = r' := by
  obtain ⟨hr, f, e⟩ := h
  obtain ⟨hr', f', e'⟩ := h'
  have a := gr_f_m (g := f + f') e hr (by omega)
  have b := gr_f_m (g := f + f') e' hr' (by omega)
  exact a.symm.trans b
theorem gr_to_r {kd pa : Nat → Nat} {i : Nat} (h : kd i ≠ 1000) : gr_to kd pa i i := ⟨h, 0, rfl⟩
theorem gr_to_l {kd pa : Nat → Nat} {i r : Nat} (c : kd i = 1000) (h : gr_to kd pa (pa i) r) : gr_to kd pa i r := by
  obtain ⟨hr, f, e⟩ := h
  exact ⟨hr, f + 1, by rw [gr_f_l c]; exact e⟩
/-- what holds along links holds at the end -/
theorem gr_f_P {kd pa : Nat → Nat} (P : Nat → Prop) (hP : ∀ i, P i → kd i = 1000 → P (pa i)) : ∀ f i, P i → P (gr_f kd pa f i) := by
  intro f
  induction f with
  | zero => intro i h; exact h
  | succ f ih =>
    intro i h
    by_cases c : kd i = 1000
    · rw [gr_f_l c]; exact ih _ (hP i h c)
    · rw [gr_f_r c]; exact h
theorem gr_to_P {kd pa : Nat → Nat} {i r : Nat} (h : gr_to kd pa i r) (P : Nat → Prop) (hP : ∀ i, P i → kd i = 1000 → P (pa i)) (hi : P i) : P r := by
  obtain ⟨_, f, e⟩ := h
  rw [← e]
  exact gr_f_P P hP f i hi
theorem gr_f_Q {kd pa : Nat → Nat} (P : Nat → Prop) (hP : ∀ i, kd i = 1000 → P (pa i) → P i) : ∀ f i, P (gr_f kd pa f i) → P i := by
  intro f
  induction f with
  | zero => intro i h; exact h
  | succ f ih =>
    intro i h
    by_cases c : kd i = 1000
    · rw [gr_f_l c] at h; exact hP i c (ih _ h)
    · rw [gr_f_r c] at h; exact h
theorem gr_to_Q {kd pa : Nat → Nat} {i r : Nat} (h : gr_to kd pa i r) (P : Nat → Prop) (hP : ∀ i, kd i = 1000 → P (pa i) → P i) (hr : P r) : P i := by
  obtain ⟨_, f, e⟩ := h
  exact gr_f_Q P hP f i (e ▸ hr)
theorem gr_to_n {n : Nat} {kd pa pb : Nat → Nat} {i r : Nat} (W : gr_W n kd pa pb) (h : gr_to kd pa i r) (hi : i < n) : r < n := by
  have k := gr_to_P h (fun j => j < n) (fun j hj c => (W j hj).1 c) hi
  exact k
theorem gr_to_V {n : Nat} {kd pa pb : Nat → Nat} {ρ : Nat → tr_T} {i r : Nat} (W : gr_W n kd pa pb) (hV : gr_V n kd pa pb ρ) (h : gr_to kd pa i r) (hi : i < n) : ρ i = ρ r := by
  have k := gr_to_P h (fun j => j < n ∧ ρ i = ρ j) (fun j hj c => ⟨(W j hj.1).1 c, hj.2.trans (gr_Vl hV hj.1 c)⟩) ⟨hi, rfl⟩
  exact k.2
theorem gr_to_C {n : Nat} {kd pa pb : Nat → Nat} {S : Nat → Prop} {i r : Nat} (hS : gr_C n kd pa pb S) (h : gr_to kd pa i r) (hi : S i) : S r :=
  gr_to_P h S (fun j hj c => (hS j hj).2.1 c) hi
theorem gr_to_H {kd pa pb : Nat → Nat} {i r : Nat} (h : gr_to kd pa i r) (hr : ∃ f, gr_H kd pa pb f r) : ∃ f, gr_H kd pa pb f i :=
  gr_to_Q h (fun j => ∃ f, gr_H kd pa pb f j) (fun j c hj => gr_H_i (fun _ => hj) (fun z => by omega)) hr
