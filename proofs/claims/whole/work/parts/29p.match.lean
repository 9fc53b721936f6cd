/-! making equal with a type that holds no variable: no search for cycles is wanted -/
def mt_R (n : Nat) (kd pa kd0 : Nat → Nat) (x y : Nat) : Prop := x = y ∨ (x < n ∧ y < n ∧ ∃ a b, gr_to kd pa x a ∧ gr_to kd pa y b ∧ (a = b ∨ (kd0 a = kd0 b ∧ kd0 a ≠ 1000 ∧ ¬ gr_cn (kd0 a) ∧ kd0 a ≠ 7)))
theorem un_match {n K : Nat} {kd0 pa0 pb kd pa : Nat → Nat} {M Sp : Nat → Prop} {s t : Nat} (U : un_I n kd0 pa0 pb M s t kd pa []) (W0 : gr_W n kd0 pa0 pb) (A0 : gr_A n kd0 pa0 pb) (hK : gr_L n kd pa K) (hl : ∀ i, i < n → kd0 i ≠ 1000 ∧ kd0 i ≠ 8) (hS : gr_C n kd0 pa0 pb Sp) (h7 : ∀ i, Sp i → kd0 i ≠ 7) (hs : s < n) (ht : Sp t) : ∃ ρ, gr_V n kd0 pa0 pb ρ ∧ ρ s = ρ t := by
  obtain ⟨W, V, P, C, G, D, Q, Q2⟩ := U
  have k1 := (Q2 (fun _ _ => True) (fun _ => trivial) (fun _ _ _ => trivial) (fun _ _ _ _ _ => trivial) (fun _ _ _ _ _ _ _ _ => trivial) (fun _ _ _ => trivial) (fun _ _ => trivial)).2
  have rt : ∀ i, i < n → ∃ r, gr_to kd pa i r ∧ r < n := fun i hi => ⟨_, gr_L_to hK hi, gr_to_n W (gr_L_to hK hi) hi⟩
  have kr : ∀ i r, i < n → kd0 i ≠ 7 → gr_to kd pa i r → kd0 r = kd0 i := by
    intro i r hi h hr
    have q := gr_to_P hr (fun j => j < n ∧ kd0 j = kd0 i) (fun j hj c => ⟨(W j hj.1).1 c, ?_⟩) ⟨hi, rfl⟩
    · exact q.2
    · rw [(k1 j hj.1 c (hl j hj.1).1 (by rw [hj.2]; exact h)).1]; exact hj.2
  have r1 : ∀ x, mt_R n kd pa kd0 x x := fun x => Or.inl rfl
  have r2 : ∀ x y, mt_R n kd pa kd0 x y → mt_R n kd pa kd0 y x := by
    intro x y h
    rcases h with h | ⟨a1, a2, a, b, ha, hb, c⟩
    · exact Or.inl h.symm
    · refine Or.inr ⟨a2, a1, b, a, hb, ha, ?_⟩
      rcases c with c | ⟨c1, c2, c3, c4⟩
      · exact Or.inl c.symm
      · exact Or.inr ⟨c1.symm, by rw [← c1]; exact c2, by rw [← c1]; exact c3, by rw [← c1]; exact c4⟩
  have r3 : ∀ x y z, mt_R n kd pa kd0 x y → mt_R n kd pa kd0 y z → mt_R n kd pa kd0 x z := by
    intro x y z h h'
    rcases h with h | ⟨a1, a2, a, b, ha, hb, c⟩
    · rw [h]; exact h'
    · rcases h' with h' | ⟨a1', a2', b', d, hb', hd, c'⟩
      · rw [← h']; exact Or.inr ⟨a1, a2, a, b, ha, hb, c⟩
      · have e := gr_to_u hb hb'
        subst e
        refine Or.inr ⟨a1, a2', a, d, ha, hd, ?_⟩
        rcases c with c | ⟨c1, c2, c3, c4⟩
        · rw [c]; exact c'
        · rcases c' with c' | ⟨c1', _, _, _⟩
          · rw [← c']; exact Or.inr ⟨c1, c2, c3, c4⟩
          · exact Or.inr ⟨c1.trans c1', c2, c3, c4⟩
  have rf : ∀ i j, i < n → j < n → kd0 i = kd0 j → kd0 i ≠ 1000 → ¬ gr_cn (kd0 i) → kd0 i ≠ 7 → mt_R n kd pa kd0 i j := by
    intro i j hi hj e e1 e2 e3
    obtain ⟨a, ha, _⟩ := rt i hi
    obtain ⟨b, hb, _⟩ := rt j hj
    have ka := kr i a hi e3 ha
    have kb := kr j b hj (by rw [← e]; exact e3) hb
    exact Or.inr ⟨hi, hj, a, b, ha, hb, Or.inr ⟨by rw [ka, kb, e], by rw [ka]; exact e1, by rw [ka]; exact e2, by rw [ka]; exact e3⟩⟩
  have rl : ∀ i, i < n → kd i = 1000 → mt_R n kd pa kd0 i (pa i) := by
    intro i hi c
    have pn := (W i hi).1 c
    obtain ⟨b, hb, _⟩ := rt (pa i) pn
    exact Or.inr ⟨hi, pn, b, b, gr_to_l c hb, hb, Or.inl rfl⟩
  obtain ⟨q1, q2⟩ := Q2 _ r1 r2 r3 rf rl (fun p hp => by cases hp)
  -- along the links
  have ch : ∀ i r, i < n → kd0 i ≠ 7 → gr_to kd pa i r → gr_cn (kd0 i) → mt_R n kd pa kd0 (pa0 i) (pa0 r) ∧ mt_R n kd pa kd0 (pb i) (pb r) := by
    intro i r hi h hr hc
    have q := gr_to_P hr (fun j => j < n ∧ kd0 j = kd0 i ∧ mt_R n kd pa kd0 (pa0 i) (pa0 j) ∧ mt_R n kd pa kd0 (pb i) (pb j)) (fun j hj c => ?_) ⟨hi, rfl, r1 _, r1 _⟩
    · exact q.2.2
    · obtain ⟨z1, z2⟩ := q2 j hj.1 c (hl j hj.1).1 (by rw [hj.2.1]; exact h)
      have z3 := z2 (by rw [hj.2.1]; exact hc)
      exact ⟨(W j hj.1).1 c, by rw [z1]; exact hj.2.1, r3 _ _ _ hj.2.2.1 z3.1, r3 _ _ _ hj.2.2.2 z3.2⟩
  have cong : ∀ x y, x < n → y < n → kd0 x ≠ 7 → kd0 y ≠ 7 → mt_R n kd pa kd0 x y → kd0 x = kd0 y ∧ (gr_cn (kd0 x) → mt_R n kd pa kd0 (pa0 x) (pa0 y) ∧ mt_R n kd pa kd0 (pb x) (pb y)) := by
    intro x y hx hy x7 y7 h
    rcases h with h | ⟨a1, a2, a, b, ha, hb, c⟩
    · rw [h]; exact ⟨rfl, fun _ => ⟨r1 _, r1 _⟩⟩
    · have ka := kr x a hx x7 ha
      have kb := kr y b hy y7 hb
      rcases c with c | ⟨c1, c2, c3, c4⟩
      · subst c
        have e : kd0 x = kd0 y := by rw [← ka, ← kb]
        refine ⟨e, fun hc => ?_⟩
        have p := ch x a hx x7 ha hc
        have p' := ch y a hy y7 hb (e ▸ hc)
        exact ⟨r3 _ _ _ p.1 (r2 _ _ p'.1), r3 _ _ _ p.2 (r2 _ _ p'.2)⟩
      · exact ⟨by rw [← ka, ← kb]; exact c1, fun hc => (c3 (by rw [ka]; exact hc)).elim⟩
  obtain ⟨ρ0, v0, _⟩ := gr_ex A0 (fun _ => tr_at 0)
  have sp : ∀ f x y, Sp x → Sp y → gr_H kd0 pa0 pb f x → mt_R n kd pa kd0 x y → ρ0 x = ρ0 y := by
    intro f
    induction f with
    | zero => intro x y _ _ z; exact z.elim
    | succ f ih =>
      intro x y sx sy hf h
      have xn := (hS x sx).1
      have yn := (hS y sy).1
      obtain ⟨e, p⟩ := cong x y xn yn (h7 x sx) (h7 y sy) h
      by_cases c : gr_cn (kd0 x)
      · have px := (hS x sx).2.2 c
        have py := (hS y sy).2.2 (e ▸ c)
        rw [gr_Vc v0 xn c, gr_Vc v0 yn (e ▸ c), e, ih _ _ px.1 py.1 (hf.2 c).1 (p c).1, ih _ _ px.2 py.2 (hf.2 c).2 (p c).2]
      · have fr : ¬ gr_fr (kd0 x) := fun z => by
          have := h7 x sx
          have := hl x xn
          omega
        rw [gr_Vt v0 xn (hl x xn).1 c fr, gr_Vt v0 yn (hl y yn).1 (e ▸ c) (e ▸ fr), e]
  have sp' : ∀ x y, Sp x → Sp y → mt_R n kd pa kd0 x y → ρ0 x = ρ0 y := by
    intro x y sx sy h
    obtain ⟨f, hf⟩ := A0 x (hS x sx).1
    exact sp f x y sx sy hf h
  have ext : ∀ i, ∃ v : tr_T, ∀ y, Sp y → mt_R n kd pa kd0 i y → v = ρ0 y := by
    intro i
    by_cases h : ∃ y, Sp y ∧ mt_R n kd pa kd0 i y
    · obtain ⟨y, sy, ry⟩ := h
      exact ⟨ρ0 y, fun z sz rz => sp' y z sy sz (r3 _ _ _ (r2 _ _ ry) rz)⟩
    · exact ⟨tr_at 0, fun y sy ry => (h ⟨y, sy, ry⟩).elim⟩
  obtain ⟨θ, hθ⟩ := Classical.axiomOfChoice ext
  obtain ⟨ρ, v, a⟩ := gr_ex A0 θ
  have agr : ∀ y, Sp y → ρ y = ρ0 y := fun y sy => gr_agA A0 v v0 hS (fun j sj c => by
    have := h7 j sj
    have := hl j (hS j sj).1
    omega) sy
  have own : ∀ f x y, x < n → Sp y → gr_H kd0 pa0 pb f x → mt_R n kd pa kd0 x y → ρ x = ρ0 y := by
    intro f
    induction f with
    | zero => intro x y _ _ z; exact z.elim
    | succ f ih =>
      intro x y xn sy hf h
      have yn := (hS y sy).1
      by_cases x7 : kd0 x = 7
      · rw [a x xn (Or.inl x7)]; exact hθ x y sy h
      · obtain ⟨e, p⟩ := cong x y xn yn x7 (h7 y sy) h
        by_cases c : gr_cn (kd0 x)
        · have w := (W0 x xn).2 c
          have py := (hS y sy).2.2 (e ▸ c)
          rw [gr_Vc v xn c, gr_Vc v0 yn (e ▸ c), e, ih _ _ w.1 py.1 (hf.2 c).1 (p c).1, ih _ _ w.2 py.2 (hf.2 c).2 (p c).2]
        · have fr : ¬ gr_fr (kd0 x) := fun z => by
            have := hl x xn
            omega
          rw [gr_Vt v xn (hl x xn).1 c fr, gr_Vt v0 yn (hl y yn).1 (e ▸ c) (e ▸ fr), e]
  obtain ⟨f, hf⟩ := A0 s hs
  exact ⟨ρ, v, by rw [own f s t hs ht hf q1, agr t ht]⟩
/-- the labels of what codes stand for -/
def cd_lb (O : Nat → List Nat) (G : Nat → List Nat) (c : Nat) : List Nat := if 100 ≤ c then O (c - 100) else if 10 ≤ c then G (c - 10) else [c]
theorem cd_pre {oc : Nat} {ν γ : Nat → tr_T} : ∀ cs, cd_wf oc cs → (cd_ev ν γ cs).flatMap tr_pre = cs.flatMap (cd_lb (fun o => tr_pre (ν o)) (fun k => tr_pre (γ k))) := by
  intro cs
  induction cs with
  | nil => intro _; rfl
  | cons c cs ih =>
    intro h
    obtain ⟨h1, h2, h3⟩ := h
    have l := cd_ev_len (ν := ν) (γ := γ) cs h3
    have e := ih h3
    unfold cd_ev
    rw [List.flatMap_cons, ← e]
    unfold cd_lb
    by_cases c1 : 100 ≤ c
    · rw [if_pos c1, if_pos c1, List.flatMap_cons]
    · rw [if_neg c1, if_neg c1]
      by_cases c2 : 10 ≤ c
      · rw [if_pos c2, if_pos c2, List.flatMap_cons]
      · rw [if_neg c2, if_neg c2]
        unfold cd_ar at h2
        by_cases c3 : c < 3
        · rw [if_pos c3, List.flatMap_cons, tr_pre_at]
        · rw [if_neg c3]
          by_cases c4 : c = 3 ∨ c = 4
          · rw [if_pos c4, List.flatMap_cons, tr_pre_con, if_pos c4]
            rw [if_neg (by omega), if_pos c4] at h2
            cases hx : cd_ev ν γ cs with
            | nil => rw [hx] at l; simp at l; omega
            | cons x xs => simp
          · rw [if_neg c4, List.flatMap_cons, tr_pre_con, if_neg c4]
            rw [if_pos (by omega)] at h2
            cases hx : cd_ev ν γ cs with
            | nil => rw [hx] at l; simp at l; omega
            | cons x xs =>
              cases xs with
              | nil => rw [hx] at l; simp at l; omega
              | cons y ys => simp
/-- codes with what is open taken for labels that a type doesn't hold -/
theorem cd_fit {oc : Nat} {ν ν' : Nat → tr_T} {cs : List Nat} {T : tr_T} (hw : cd_wf oc cs) (h : ∀ o, o < oc → ∃ c, c ∈ tr_pre (ν o) ∧ c ∉ tr_pre T) : (∃ γ : Nat → tr_T, cd_ev ν γ cs = [T]) → (∀ c, c ∈ cs → c < 100) ∧ ∃ γ : Nat → tr_T, cd_ev ν' γ cs = [T] := by
  intro ⟨γ, e⟩
  have no : ∀ c, c ∈ cs → c < 100 := by
    intro c hc
    refine Nat.lt_of_not_le (fun h1 => ?_)
    have key : ∀ cs : List Nat, cd_wf oc cs → ∀ c, c ∈ cs → 100 ≤ c → c < 100 + oc := by
      intro cs
      induction cs with
      | nil => intro _ c hc; cases hc
      | cons d cs ih =>
        intro ⟨a, b, e⟩ c hc h1
        rcases List.mem_cons.mp hc with z | z
        · omega
        · exact ih e c z h1
    have lt := key cs hw c hc h1
    obtain ⟨x, hx, hn⟩ := h (c - 100) (by omega)
    have p := cd_pre (ν := ν) (γ := γ) cs hw
    rw [e, List.flatMap_cons, List.flatMap_nil, List.append_nil] at p
    refine hn ?_
    rw [p]
    refine List.mem_flatMap.mpr ⟨c, hc, ?_⟩
    unfold cd_lb
    rw [if_pos h1]; exact hx
  refine ⟨no, γ, ?_⟩
  rw [← e]
  exact cd_ev_c cs (fun c hc h1 => by have := no c hc; omega) (fun _ _ _ _ => rfl)
