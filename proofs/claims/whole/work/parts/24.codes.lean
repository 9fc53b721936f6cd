/-! types written out: a tree's labels in the order in which node answers them (of a list or ref the part stands once); numbering by first occurrence; two graphs with the same values write the same -/
def tr_pre : tr_T → List Nat
  | .tag c (.append l r) => if c = 3 ∨ c = 4 then c :: tr_pre l else c :: (tr_pre l ++ tr_pre r)
  | .tag c _ => [c]
  | _ => []
theorem tr_pre_at (c : Nat) : tr_pre (tr_at c) = [c] := by
  unfold tr_at
  simp [tr_pre]
theorem tr_pre_con (c : Nat) (l r : tr_T) : tr_pre (tr_con c l r) = if c = 3 ∨ c = 4 then c :: tr_pre l else c :: (tr_pre l ++ tr_pre r) := by
  unfold tr_con
  simp [tr_pre]
/-- the valuation in which every free node is a label of its own -/
def gr_gen (n : Nat) (kd : Nat → Nat) (ρ : Nat → tr_T) : Prop := ∀ i, i < n → gr_fr (kd i) → ρ i = tr_at (1001 + i)
def cd_sub (ρ : Nat → tr_T) (c : Nat) : List Nat := if c < 1001 then [c] else tr_pre (ρ (c - 1001))
theorem cd_fac {n : Nat} {kd pa pb : Nat → Nat} {g ρ : Nat → tr_T} (W : gr_W n kd pa pb) (hk : ∀ i, i < n → kd i ≤ 1000) (hg : gr_V n kd pa pb g) (gg : gr_gen n kd g) (h : gr_V n kd pa pb ρ) : ∀ f i, i < n → gr_H kd pa pb f i → tr_pre (ρ i) = (tr_pre (g i)).flatMap (cd_sub ρ) := by
  intro f
  induction f with
  | zero => intro i _ z; exact z.elim
  | succ f ih =>
    intro i hi hf
    by_cases c1 : kd i = 1000
    · rw [gr_Vl h hi c1, gr_Vl hg hi c1]; exact ih _ ((W i hi).1 c1) (hf.1 c1)
    · by_cases c2 : gr_cn (kd i)
      · have w := (W i hi).2 c2
        rw [gr_Vc h hi c2, gr_Vc hg hi c2, tr_pre_con, tr_pre_con, ih _ w.1 (hf.2 c2).1, ih _ w.2 (hf.2 c2).2]
        have e : cd_sub ρ (kd i) = [kd i] := if_pos (by omega)
        by_cases c3 : kd i = 3 ∨ kd i = 4
        · rw [if_pos c3, if_pos c3, List.flatMap_cons, e]; rfl
        · rw [if_neg c3, if_neg c3, List.flatMap_cons, e, List.flatMap_append]; rfl
      · by_cases c3 : gr_fr (kd i)
        · rw [gg i hi c3, tr_pre_at]
          show _ = List.flatMap (cd_sub ρ) [1001 + i]
          rw [List.flatMap_cons, List.flatMap_nil, List.append_nil]
          unfold cd_sub
          rw [if_neg (by omega)]
          congr 2
          omega
        · rw [gr_Vt h hi c1 c2 c3, gr_Vt hg hi c1 c2 c3, tr_pre_at]
          show _ = List.flatMap (cd_sub ρ) [kd i]
          rw [List.flatMap_cons, List.flatMap_nil, List.append_nil]
          have := hk i hi
          exact (if_pos (by omega)).symm
theorem tr_pre_ne {n : Nat} {kd pa pb : Nat → Nat} {ρ : Nat → tr_T} (W : gr_W n kd pa pb) (h : gr_V n kd pa pb ρ) (hf : ∀ i, i < n → gr_fr (kd i) → tr_pre (ρ i) ≠ []) : ∀ f i, i < n → gr_H kd pa pb f i → tr_pre (ρ i) ≠ [] := by
  intro f
  induction f with
  | zero => intro i _ z; exact z.elim
  | succ f ih =>
    intro i hi hh
    by_cases c1 : kd i = 1000
    · rw [gr_Vl h hi c1]; exact ih _ ((W i hi).1 c1) (hh.1 c1)
    · by_cases c2 : gr_cn (kd i)
      · rw [gr_Vc h hi c2, tr_pre_con]
        by_cases c3 : kd i = 3 ∨ kd i = 4
        · rw [if_pos c3]; exact List.cons_ne_nil _ _
        · rw [if_neg c3]; exact List.cons_ne_nil _ _
      · by_cases c3 : gr_fr (kd i)
        · exact hf i hi c3
        · rw [gr_Vt h hi c1 c2 c3, tr_pre_at]; exact List.cons_ne_nil _ _
/-- replaced by lists that aren't empty, nothing gets shorter; if nothing gets longer, one label stands for one -/
theorem fm_len {σ : Nat → List Nat} : ∀ l : List Nat, (∀ c, c ∈ l → σ c ≠ []) → l.length ≤ (l.flatMap σ).length := by
  intro l
  induction l with
  | nil => intro _; exact Nat.le_refl 0
  | cons c l ih =>
    intro h
    rw [List.flatMap_cons, List.length_append, List.length_cons]
    have h1 := List.length_pos_iff.mpr (h c List.mem_cons_self)
    have h2 := ih (fun d hd => h d (List.mem_cons_of_mem _ hd))
    omega
theorem fm_map {σ : Nat → List Nat} : ∀ l : List Nat, (∀ c, c ∈ l → σ c ≠ []) → (l.flatMap σ).length ≤ l.length → ∀ c, c ∈ l → ∃ d, σ c = [d] := by
  intro l
  induction l with
  | nil => intro _ _ c h; cases h
  | cons c l ih =>
    intro h hl d hd
    rw [List.flatMap_cons, List.length_append, List.length_cons] at hl
    have h1 := List.length_pos_iff.mpr (h c List.mem_cons_self)
    have h2 := fm_len l (fun d hd => h d (List.mem_cons_of_mem _ hd))
    rcases List.mem_cons.mp hd with z | z
    · rw [z]
      have e : (σ c).length = 1 := by omega
      exact List.length_eq_one_iff.mp e
    · exact ih (fun d hd => h d (List.mem_cons_of_mem _ hd)) (by omega) d z
theorem fm_eq {σ : Nat → List Nat} : ∀ l : List Nat, (∀ c, c ∈ l → ∃ d, σ c = [d]) → l.flatMap σ = l.map (fun c => (σ c).headD 0) := by
  intro l
  induction l with
  | nil => intro _; rfl
  | cons c l ih =>
    intro h
    obtain ⟨d, e⟩ := h c List.mem_cons_self
    rw [List.flatMap_cons, List.map_cons, ih (fun d hd => h d (List.mem_cons_of_mem _ hd)), e]
    rfl
/-- the two lists of labels differ by names of free nodes alone -/
theorem fm_two {σ τ : Nat → List Nat} {L M : List Nat} (e1 : M = L.flatMap σ) (e2 : L = M.flatMap τ) (h1 : ∀ c, c ∈ L → σ c ≠ []) (h2 : ∀ c, c ∈ M → τ c ≠ []) : M = L.map (fun c => (σ c).headD 0) ∧ L = M.map (fun c => (τ c).headD 0) := by
  have l1 := fm_len L h1
  have l2 := fm_len M h2
  rw [← e1] at l1
  rw [← e2] at l2
  have q1 := fm_map L h1 (by rw [← e1]; exact l2)
  have q2 := fm_map M h2 (by rw [← e2]; exact l1)
  exact ⟨e1.trans (fm_eq L q1), e2.trans (fm_eq M q2)⟩
