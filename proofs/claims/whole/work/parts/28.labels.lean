/-! labels of types and the trees that they stand for -/
def lb_ev (w : Nat → tr_T) : List Nat → List tr_T
  | [] => []
  | c :: cs =>
    if 7 ≤ c then w c :: lb_ev w cs
    else if c < 3 then tr_at c :: lb_ev w cs
    else if c = 3 ∨ c = 4 then tr_con c ((lb_ev w cs).getD 0 (tr_at 0)) ((lb_ev w cs).getD 0 (tr_at 0)) :: (lb_ev w cs).drop 1
    else tr_con c ((lb_ev w cs).getD 0 (tr_at 0)) ((lb_ev w cs).getD 1 (tr_at 0)) :: (lb_ev w cs).drop 2
theorem lb_cd {ν γ : Nat → tr_T} : ∀ cs : List Nat, (∀ c, c ∈ cs → c < 7 ∨ 10 ≤ c) → cd_ev ν γ cs = lb_ev (fun c => if 100 ≤ c then ν (c - 100) else γ (c - 10)) cs := by
  intro cs
  induction cs with
  | nil => intro _; rfl
  | cons c cs ih =>
    intro h
    have hc := h c List.mem_cons_self
    have e := ih (fun d hd => h d (List.mem_cons_of_mem _ hd))
    unfold cd_ev lb_ev
    rw [e]
    by_cases c1 : 100 ≤ c
    · rw [if_pos c1, if_pos (by omega)]
      show _ = (if 100 ≤ c then _ else _) :: _
      rw [if_pos c1]
    · rw [if_neg c1]
      by_cases c2 : 10 ≤ c
      · rw [if_pos c2, if_pos (by omega)]
        show _ = (if 100 ≤ c then _ else _) :: _
        rw [if_neg c1]
      · rw [if_neg c2, if_neg (show ¬ 7 ≤ c by omega)]
theorem lb_map {w : Nat → tr_T} {π : Nat → Nat} : ∀ cs : List Nat, (∀ c, c ∈ cs → (c < 7 ∧ π c = c) ∨ (7 ≤ c ∧ 7 ≤ π c)) → lb_ev w (cs.map π) = lb_ev (fun c => w (π c)) cs := by
  intro cs
  induction cs with
  | nil => intro _; rfl
  | cons c cs ih =>
    intro h
    have e := ih (fun d hd => h d (List.mem_cons_of_mem _ hd))
    rw [List.map_cons]
    unfold lb_ev
    rw [e]
    rcases h c List.mem_cons_self with ⟨a, b⟩ | ⟨a, b⟩
    · rw [b, if_neg (show ¬ 7 ≤ c by omega)]
    · rw [if_pos a, if_pos b]
theorem lb_cg {w w' : Nat → tr_T} : ∀ cs : List Nat, (∀ c, c ∈ cs → 7 ≤ c → w c = w' c) → lb_ev w cs = lb_ev w' cs := by
  intro cs
  induction cs with
  | nil => intro _; rfl
  | cons c cs ih =>
    intro h
    have e := ih (fun d hd => h d (List.mem_cons_of_mem _ hd))
    unfold lb_ev
    rw [e]
    by_cases c1 : 7 ≤ c
    · rw [if_pos c1, if_pos c1, h c List.mem_cons_self c1]
    · rw [if_neg c1, if_neg c1]
theorem lb_7 {w : Nat → tr_T} {c : Nat} {cs : List Nat} (h : 7 ≤ c) : lb_ev w (c :: cs) = w c :: lb_ev w cs := if_pos h
theorem lb_0 {w : Nat → tr_T} {c : Nat} {cs : List Nat} (h : c < 3) : lb_ev w (c :: cs) = tr_at c :: lb_ev w cs := by
  conv => lhs; unfold lb_ev
  rw [if_neg (by omega), if_pos h]
theorem lb_1 {w : Nat → tr_T} {c : Nat} {cs : List Nat} {x : tr_T} {l : List tr_T} (h : c = 3 ∨ c = 4) (e : lb_ev w cs = x :: l) : lb_ev w (c :: cs) = tr_con c x x :: l := by
  conv => lhs; unfold lb_ev
  rw [if_neg (by omega), if_neg (by omega), if_pos h, e]
  rfl
theorem lb_2 {w : Nat → tr_T} {c : Nat} {cs : List Nat} {x y : tr_T} {l : List tr_T} (h : c = 5 ∨ c = 6) (e : lb_ev w cs = x :: y :: l) : lb_ev w (c :: cs) = tr_con c x y :: l := by
  conv => lhs; unfold lb_ev
  rw [if_neg (by omega), if_neg (by omega), if_neg (by omega), e]
  rfl
/-- the labels of a node's type, read with a valuation, give its value -/
theorem lb_val {n : Nat} {kd pa pb : Nat → Nat} {g ρ : Nat → tr_T} (W : gr_W n kd pa pb) (hk : ∀ i, i < n → kd i ≤ 1000) (hp : ∀ i, i < n → kd i = 3 ∨ kd i = 4 → pb i = pa i) (hg : gr_V n kd pa pb g) (gg : gr_gen n kd g) (h : gr_V n kd pa pb ρ) : ∀ f i m, i < n → gr_H kd pa pb f i → (∀ c, c ∈ tr_pre (g i) → c < 7 ∨ 1001 ≤ c) → lb_ev (fun c => ρ (c - 1001)) (tr_pre (g i) ++ m) = ρ i :: lb_ev (fun c => ρ (c - 1001)) m := by
  intro f
  induction f with
  | zero => intro i m _ z; exact z.elim
  | succ f ih =>
    intro i m hi hf hc
    by_cases c1 : kd i = 1000
    · rw [gr_Vl hg hi c1] at hc ⊢
      rw [gr_Vl h hi c1]; exact ih _ m ((W i hi).1 c1) (hf.1 c1) hc
    · by_cases c2 : gr_cn (kd i)
      · have w := (W i hi).2 c2
        rw [gr_Vc hg hi c2, tr_pre_con] at hc ⊢
        by_cases c3 : kd i = 3 ∨ kd i = 4
        · rw [if_pos c3] at hc ⊢
          have e := ih _ m w.1 (hf.2 c2).1 (fun c hc' => hc c (List.mem_cons_of_mem _ hc'))
          rw [List.cons_append, lb_1 c3 e, gr_Vc h hi c2, hp i hi c3]
        · rw [if_neg c3] at hc ⊢
          have e2 := ih _ m w.2 (hf.2 c2).2 (fun c hc' => hc c (List.mem_cons_of_mem _ (List.mem_append_right _ hc')))
          have e1 := ih _ (tr_pre (g (pb i)) ++ m) w.1 (hf.2 c2).1 (fun c hc' => hc c (List.mem_cons_of_mem _ (List.mem_append_left _ hc')))
          rw [e2] at e1
          rw [List.cons_append, List.append_assoc, lb_2 (by omega) e1, gr_Vc h hi c2]
      · by_cases c3 : gr_fr (kd i)
        · rw [gg i hi c3, tr_pre_at]
          show lb_ev _ ((1001 + i) :: m) = _
          rw [lb_7 (by omega)]
          show ρ (1001 + i - 1001) :: _ = _
          rw [Nat.add_sub_cancel_left]
        · rw [gr_Vt hg hi c1 c2 c3, tr_pre_at] at hc ⊢
          have hk' := hk i hi
          have hc' := hc (kd i) List.mem_cons_self
          rw [gr_Vt h hi c1 c2 c3]
          exact lb_0 (by omega)
theorem gr_Ca {n : Nat} {kd pa pb : Nat → Nat} (W : gr_W n kd pa pb) : gr_C n kd pa pb (fun i => i < n) := fun i hi => ⟨hi, (W i hi).1, (W i hi).2⟩
/-- all labels of a tree, both sides of lists and refs too -/
def tr_fl : tr_T → List Nat
  | .tag c (.append l r) => c :: (tr_fl l ++ tr_fl r)
  | .tag c _ => [c]
  | _ => []
theorem tr_fl_at (c : Nat) : tr_fl (tr_at c) = [c] := by
  unfold tr_at
  simp [tr_fl]
theorem tr_fl_con (c : Nat) (l r : tr_T) : tr_fl (tr_con c l r) = c :: (tr_fl l ++ tr_fl r) := by
  unfold tr_con
  simp [tr_fl]
/-- made of atoms and pairs alone -/
def tr_ok : tr_T → Prop
  | .tag _ (.append l r) => tr_ok l ∧ tr_ok r
  | .tag _ .nil => True
  | _ => False
theorem tr_ok_at (c : Nat) : tr_ok (tr_at c) := by
  unfold tr_at
  simp [tr_ok]
theorem tr_ok_con {c : Nat} {l r : tr_T} : tr_ok (tr_con c l r) ↔ tr_ok l ∧ tr_ok r := by
  unfold tr_con
  simp [tr_ok]
theorem tr_ok_i {x : tr_T} (h : tr_ok x) : (∃ c, x = tr_at c) ∨ ∃ c l r, x = tr_con c l r ∧ tr_ok l ∧ tr_ok r := by
  match x, h with
  | .tag c (.append l r), h => exact Or.inr ⟨c, l, r, rfl, by simpa [tr_ok] using h⟩
  | .tag c .nil, _ => exact Or.inl ⟨c, rfl⟩
theorem tr_ok_ne {x : tr_T} (h : tr_ok x) : tr_fl x ≠ [] := by
  rcases tr_ok_i h with ⟨c, e⟩ | ⟨c, l, r, e, _⟩
  · rw [e, tr_fl_at]; exact List.cons_ne_nil _ _
  · rw [e, tr_fl_con]; exact List.cons_ne_nil _ _
theorem tr_ok_one {x : tr_T} {d : Nat} (h : tr_ok x) (e : tr_fl x = [d]) : x = tr_at d := by
  rcases tr_ok_i h with ⟨c, e1⟩ | ⟨c, l, r, e1, h1, h2⟩
  · rw [e1, tr_fl_at] at e
    injection e with e
    rw [e1, e]
  · rw [e1, tr_fl_con] at e
    injection e with _ e
    have := tr_ok_ne h1
    exact (this (List.append_eq_nil_iff.mp e).1).elim
theorem tr_pre_fl {c : Nat} {x : tr_T} (h : tr_ok x) : c ∈ tr_pre x → c ∈ tr_fl x := by
  have key : ∀ f x, tr_sz x < f → tr_ok x → c ∈ tr_pre x → c ∈ tr_fl x := by
    intro f
    induction f with
    | zero => intro x hx; omega
    | succ f ih =>
      intro x hx h hc
      rcases tr_ok_i h with ⟨d, e⟩ | ⟨d, l, r, e, h1, h2⟩
      · rw [e, tr_pre_at] at hc
        rw [e, tr_fl_at]; exact hc
      · rw [e] at hx
        have s1 := tr_sz_l d l r
        have s2 := tr_sz_r d l r
        rw [e, tr_pre_con] at hc
        rw [e, tr_fl_con]
        by_cases c3 : d = 3 ∨ d = 4
        · rw [if_pos c3] at hc
          rcases List.mem_cons.mp hc with z | z
          · rw [z]; exact List.mem_cons_self
          · exact List.mem_cons_of_mem _ (List.mem_append_left _ (ih l (by omega) h1 z))
        · rw [if_neg c3] at hc
          rcases List.mem_cons.mp hc with z | z
          · rw [z]; exact List.mem_cons_self
          · rcases List.mem_append.mp z with z | z
            · exact List.mem_cons_of_mem _ (List.mem_append_left _ (ih l (by omega) h1 z))
            · exact List.mem_cons_of_mem _ (List.mem_append_right _ (ih r (by omega) h2 z))
  exact key _ x (Nat.lt_succ_self _) h
section
variable {n : Nat} {kd pa pb : Nat → Nat} {g ρ ρ' : Nat → tr_T}
/-- where the free labels of a type come from -/
theorem fl_in (hk : ∀ i, i < n → kd i ≤ 1000) (hg : gr_V n kd pa pb g) (gg : gr_gen n kd g) {S : Nat → Prop} (hS : gr_C n kd pa pb S) : ∀ f i, S i → gr_H kd pa pb f i → ∀ c, c ∈ tr_fl (g i) → c < 1000 ∨ ∃ j, c = 1001 + j ∧ S j ∧ gr_fr (kd j) := by
  intro f
  induction f with
  | zero => intro i _ z; exact z.elim
  | succ f ih =>
    intro i si hf c hc
    obtain ⟨hi, s1, s2⟩ := hS i si
    by_cases c1 : kd i = 1000
    · rw [gr_Vl hg hi c1] at hc
      exact ih _ (s1 c1) (hf.1 c1) c hc
    · by_cases c2 : gr_cn (kd i)
      · rw [gr_Vc hg hi c2, tr_fl_con] at hc
        rcases List.mem_cons.mp hc with z | z
        · exact Or.inl (by omega)
        · rcases List.mem_append.mp z with z | z
          · exact ih _ (s2 c2).1 (hf.2 c2).1 c z
          · exact ih _ (s2 c2).2 (hf.2 c2).2 c z
      · by_cases c3 : gr_fr (kd i)
        · rw [gg i hi c3, tr_fl_at] at hc
          exact Or.inr ⟨i, List.mem_singleton.mp hc, si, c3⟩
        · rw [gr_Vt hg hi c1 c2 c3, tr_fl_at] at hc
          have := hk i hi
          rw [List.mem_singleton.mp hc]
          exact Or.inl (by omega)
theorem fl_gok (W : gr_W n kd pa pb) (hg : gr_V n kd pa pb g) (gg : gr_gen n kd g) : ∀ f i, i < n → gr_H kd pa pb f i → tr_ok (g i) := by
  intro f
  induction f with
  | zero => intro i _ z; exact z.elim
  | succ f ih =>
    intro i hi hf
    by_cases c1 : kd i = 1000
    · rw [gr_Vl hg hi c1]; exact ih _ ((W i hi).1 c1) (hf.1 c1)
    · by_cases c2 : gr_cn (kd i)
      · have w := (W i hi).2 c2
        rw [gr_Vc hg hi c2]
        exact tr_ok_con.mpr ⟨ih _ w.1 (hf.2 c2).1, ih _ w.2 (hf.2 c2).2⟩
      · by_cases c3 : gr_fr (kd i)
        · rw [gg i hi c3]; exact tr_ok_at _
        · rw [gr_Vt hg hi c1 c2 c3]; exact tr_ok_at _
/-- of a type made of atoms and pairs the free labels are too -/
theorem fl_ok (W : gr_W n kd pa pb) (hk : ∀ i, i < n → kd i ≤ 1000) (hg : gr_V n kd pa pb g) (gg : gr_gen n kd g) (h : gr_V n kd pa pb ρ) : ∀ f i, i < n → gr_H kd pa pb f i → tr_ok (ρ i) → ∀ j, 1001 + j ∈ tr_fl (g i) → tr_ok (ρ j) := by
  intro f
  induction f with
  | zero => intro i _ z; exact z.elim
  | succ f ih =>
    intro i hi hf ok j hj
    by_cases c1 : kd i = 1000
    · rw [gr_Vl hg hi c1] at hj
      rw [gr_Vl h hi c1] at ok
      exact ih _ ((W i hi).1 c1) (hf.1 c1) ok j hj
    · by_cases c2 : gr_cn (kd i)
      · have w := (W i hi).2 c2
        rw [gr_Vc hg hi c2, tr_fl_con] at hj
        rw [gr_Vc h hi c2] at ok
        have ok' := tr_ok_con.mp ok
        rcases List.mem_cons.mp hj with z | z
        · omega
        · rcases List.mem_append.mp z with z | z
          · exact ih _ w.1 (hf.2 c2).1 ok'.1 j z
          · exact ih _ w.2 (hf.2 c2).2 ok'.2 j z
      · by_cases c3 : gr_fr (kd i)
        · rw [gg i hi c3, tr_fl_at] at hj
          have e : j = i := by have := List.mem_singleton.mp hj; omega
          rw [e]; exact ok
        · rw [gr_Vt hg hi c1 c2 c3, tr_fl_at] at hj
          have := List.mem_singleton.mp hj
          have := hk i hi
          omega
/-- valuations that agree on the labels agree -/
theorem fl_ag (W : gr_W n kd pa pb) (hg : gr_V n kd pa pb g) (gg : gr_gen n kd g) (h : gr_V n kd pa pb ρ) (h' : gr_V n kd pa pb ρ') : ∀ f i, i < n → gr_H kd pa pb f i → (∀ j, 1001 + j ∈ tr_fl (g i) → ρ j = ρ' j) → ρ i = ρ' i := by
  intro f
  induction f with
  | zero => intro i _ z; exact z.elim
  | succ f ih =>
    intro i hi hf ha
    by_cases c1 : kd i = 1000
    · rw [gr_Vl hg hi c1] at ha
      rw [gr_Vl h hi c1, gr_Vl h' hi c1]
      exact ih _ ((W i hi).1 c1) (hf.1 c1) ha
    · by_cases c2 : gr_cn (kd i)
      · have w := (W i hi).2 c2
        rw [gr_Vc hg hi c2, tr_fl_con] at ha
        rw [gr_Vc h hi c2, gr_Vc h' hi c2, ih _ w.1 (hf.2 c2).1 (fun j hj => ha j (List.mem_cons_of_mem _ (List.mem_append_left _ hj))), ih _ w.2 (hf.2 c2).2 (fun j hj => ha j (List.mem_cons_of_mem _ (List.mem_append_right _ hj)))]
      · by_cases c3 : gr_fr (kd i)
        · rw [gg i hi c3, tr_fl_at] at ha
          exact ha i List.mem_cons_self
        · rw [gr_Vt h hi c1 c2 c3, gr_Vt h' hi c1 c2 c3]
def cd_sf (ρ : Nat → tr_T) (c : Nat) : List Nat := if c < 1001 then [c] else tr_fl (ρ (c - 1001))
theorem fl_fac (W : gr_W n kd pa pb) (hk : ∀ i, i < n → kd i ≤ 1000) (hg : gr_V n kd pa pb g) (gg : gr_gen n kd g) (h : gr_V n kd pa pb ρ) : ∀ f i, i < n → gr_H kd pa pb f i → tr_fl (ρ i) = (tr_fl (g i)).flatMap (cd_sf ρ) := by
  intro f
  induction f with
  | zero => intro i _ z; exact z.elim
  | succ f ih =>
    intro i hi hf
    by_cases c1 : kd i = 1000
    · rw [gr_Vl h hi c1, gr_Vl hg hi c1]; exact ih _ ((W i hi).1 c1) (hf.1 c1)
    · by_cases c2 : gr_cn (kd i)
      · have w := (W i hi).2 c2
        rw [gr_Vc h hi c2, gr_Vc hg hi c2, tr_fl_con, tr_fl_con, ih _ w.1 (hf.2 c2).1, ih _ w.2 (hf.2 c2).2]
        have e : cd_sf ρ (kd i) = [kd i] := if_pos (by omega)
        rw [List.flatMap_cons, e, List.flatMap_append]; rfl
      · by_cases c3 : gr_fr (kd i)
        · rw [gg i hi c3, tr_fl_at]
          show _ = List.flatMap (cd_sf ρ) [1001 + i]
          rw [List.flatMap_cons, List.flatMap_nil, List.append_nil]
          unfold cd_sf
          rw [if_neg (by omega)]
          congr 2
          omega
        · rw [gr_Vt h hi c1 c2 c3, gr_Vt hg hi c1 c2 c3, tr_fl_at]
          show _ = List.flatMap (cd_sf ρ) [kd i]
          rw [List.flatMap_cons, List.flatMap_nil, List.append_nil]
          have := hk i hi
          exact (if_pos (by omega)).symm
/-- a valuation that gives the labels atoms renames them -/
theorem fl_ren (W : gr_W n kd pa pb) (hk : ∀ i, i < n → kd i ≤ 1000) (hg : gr_V n kd pa pb g) (gg : gr_gen n kd g) (h : gr_V n kd pa pb ρ) {s : Nat → Nat} (hs : ∀ c, c < 1001 → s c = c) {i : Nat} (hi : i < n) {f : Nat} (hf : gr_H kd pa pb f i) (ha : ∀ j, 1001 + j ∈ tr_fl (g i) → ρ j = tr_at (s (1001 + j))) : tr_pre (ρ i) = (tr_pre (g i)).map s := by
  rw [cd_fac W hk hg gg h f i hi hf]
  have key : ∀ l : List Nat, (∀ c, c ∈ l → c ∈ tr_fl (g i)) → l.flatMap (cd_sub ρ) = l.map s := by
    intro l
    induction l with
    | nil => intro _; rfl
    | cons c l ih =>
      intro hl
      rw [List.flatMap_cons, List.map_cons, ih (fun d hd => hl d (List.mem_cons_of_mem _ hd))]
      have hc := hl c List.mem_cons_self
      unfold cd_sub
      by_cases c1 : c < 1001
      · rw [if_pos c1, hs c c1]; rfl
      · rw [if_neg c1]
        have e : 1001 + (c - 1001) = c := by omega
        have := ha (c - 1001) (by rw [e]; exact hc)
        rw [this, e, tr_pre_at]; rfl
  exact key _ (fun c hc => tr_pre_fl (fl_gok W hg gg f i hi hf) hc)
end
