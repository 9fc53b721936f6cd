/-! making equal with a type that holds no variable, general variables lying about -/
theorem un_match' {n K : Nat} {kd0 pa0 pb kd pa : Nat → Nat} {M M0 Sp : Nat → Prop} {s t : Nat} (U : un_I n kd0 pa0 pb M s t kd pa []) (W0 : gr_W n kd0 pa0 pb) (A0 : gr_A n kd0 pa0 pb) (hK : gr_L n kd pa K) (hl : ∀ i, i < n → kd0 i ≠ 1000) (hM0 : gr_C n kd0 pa0 pb M0) (h8 : ∀ i, M0 i → kd0 i ≠ 8) (hS : gr_C n kd0 pa0 pb Sp) (h7' : ∀ i, Sp i → kd0 i ≠ 7 ∧ kd0 i ≠ 8) (hs : M0 s) (ht : Sp t) : ∃ ρ, gr_V n kd0 pa0 pb ρ ∧ ρ s = ρ t := by
  obtain ⟨W, V, P, C, G, D, Q, Q2⟩ := U
  have h7 : ∀ i, Sp i → kd0 i ≠ 7 := fun i h => (h7' i h).1
  have k1 := (Q2 (fun _ _ => True) (fun _ => trivial) (fun _ _ _ => trivial) (fun _ _ _ _ _ => trivial) (fun _ _ _ _ _ _ _ _ => trivial) (fun _ _ _ => trivial) (fun _ _ => trivial)).2
  have rt : ∀ i, i < n → ∃ r, gr_to kd pa i r ∧ r < n := fun i hi => ⟨_, gr_L_to hK hi, gr_to_n W (gr_L_to hK hi) hi⟩
  have kr : ∀ i r, i < n → kd0 i ≠ 7 → gr_to kd pa i r → kd0 r = kd0 i := by
    intro i r hi h hr
    have q := gr_to_P hr (fun j => j < n ∧ kd0 j = kd0 i) (fun j hj c => ⟨(W j hj.1).1 c, ?_⟩) ⟨hi, rfl⟩
    · exact q.2
    · rw [(k1 j hj.1 c (hl j hj.1) (by rw [hj.2]; exact h)).1]; exact hj.2
  have r1 : ∀ x, mt_R n kd pa kd0 x x := fun x => Or.inl rfl
  have r2 : ∀ x y, mt_R n kd pa kd0 x y → mt_R n kd pa kd0 y x := by
    intro x y h
    rcases h with h | ⟨a1, a2, a, b, ha, hb, c⟩
    · exact Or.inl h.symm
    · refine Or.inr ⟨a2, a1, b, a, hb, ha, ?_⟩
      rcases c with c | ⟨c1, c2, c3, c4⟩
      · exact Or.inl c.symm
      · exact Or.inr ⟨c1.symm, by rw [← c1]; exact c2, by rw [← c1]; exact c3, by rw [← c1]; exact c4⟩
  have r3 : ∀ x y z, mt_R n kd pa kd0 x y → mt_R n kd pa kd0 y z → mt_R n kd pa kd0 x z := by
    intro x y z h h'
    rcases h with h | ⟨a1, a2, a, b, ha, hb, c⟩
    · rw [h]; exact h'
    · rcases h' with h' | ⟨a1', a2', b', d, hb', hd, c'⟩
      · rw [← h']; exact Or.inr ⟨a1, a2, a, b, ha, hb, c⟩
      · have e := gr_to_u hb hb'
        subst e
        refine Or.inr ⟨a1, a2', a, d, ha, hd, ?_⟩
        rcases c with c | ⟨c1, c2, c3, c4⟩
        · rw [c]; exact c'
        · rcases c' with c' | ⟨c1', _, _, _⟩
          · rw [← c']; exact Or.inr ⟨c1, c2, c3, c4⟩
          · exact Or.inr ⟨c1.trans c1', c2, c3, c4⟩
  have rf : ∀ i j, i < n → j < n → kd0 i = kd0 j → kd0 i ≠ 1000 → ¬ gr_cn (kd0 i) → kd0 i ≠ 7 → mt_R n kd pa kd0 i j := by
    intro i j hi hj e e1 e2 e3
    obtain ⟨a, ha, _⟩ := rt i hi
    obtain ⟨b, hb, _⟩ := rt j hj
    have ka := kr i a hi e3 ha
    have kb := kr j b hj (by rw [← e]; exact e3) hb
    exact Or.inr ⟨hi, hj, a, b, ha, hb, Or.inr ⟨by rw [ka, kb, e], by rw [ka]; exact e1, by rw [ka]; exact e2, by rw [ka]; exact e3⟩⟩
  have rl : ∀ i, i < n → kd i = 1000 → mt_R n kd pa kd0 i (pa i) := by
    intro i hi c
    have pn := (W i hi).1 c
    obtain ⟨b, hb, _⟩ := rt (pa i) pn
    exact Or.inr ⟨hi, pn, b, b, gr_to_l c hb, hb, Or.inl rfl⟩
  obtain ⟨q1, q2⟩ := Q2 _ r1 r2 r3 rf rl (fun p hp => by cases hp)
  -- along the links
  have ch : ∀ i r, i < n → kd0 i ≠ 7 → gr_to kd pa i r → gr_cn (kd0 i) → mt_R n kd pa kd0 (pa0 i) (pa0 r) ∧ mt_R n kd pa kd0 (pb i) (pb r) := by
    intro i r hi h hr hc
    have q := gr_to_P hr (fun j => j < n ∧ kd0 j = kd0 i ∧ mt_R n kd pa kd0 (pa0 i) (pa0 j) ∧ mt_R n kd pa kd0 (pb i) (pb j)) (fun j hj c => ?_) ⟨hi, rfl, r1 _, r1 _⟩
    · exact q.2.2
    · obtain ⟨z1, z2⟩ := q2 j hj.1 c (hl j hj.1) (by rw [hj.2.1]; exact h)
      have z3 := z2 (by rw [hj.2.1]; exact hc)
      exact ⟨(W j hj.1).1 c, by rw [z1]; exact hj.2.1, r3 _ _ _ hj.2.2.1 z3.1, r3 _ _ _ hj.2.2.2 z3.2⟩
  have cong : ∀ x y, x < n → y < n → kd0 x ≠ 7 → kd0 y ≠ 7 → mt_R n kd pa kd0 x y → kd0 x = kd0 y ∧ (gr_cn (kd0 x) → mt_R n kd pa kd0 (pa0 x) (pa0 y) ∧ mt_R n kd pa kd0 (pb x) (pb y)) := by
    intro x y hx hy x7 y7 h
    rcases h with h | ⟨a1, a2, a, b, ha, hb, c⟩
    · rw [h]; exact ⟨rfl, fun _ => ⟨r1 _, r1 _⟩⟩
    · have ka := kr x a hx x7 ha
      have kb := kr y b hy y7 hb
      rcases c with c | ⟨c1, c2, c3, c4⟩
      · subst c
        have e : kd0 x = kd0 y := by rw [← ka, ← kb]
        refine ⟨e, fun hc => ?_⟩
        have p := ch x a hx x7 ha hc
        have p' := ch y a hy y7 hb (e ▸ hc)
        exact ⟨r3 _ _ _ p.1 (r2 _ _ p'.1), r3 _ _ _ p.2 (r2 _ _ p'.2)⟩
      · exact ⟨by rw [← ka, ← kb]; exact c1, fun hc => (c3 (by rw [ka]; exact hc)).elim⟩
  obtain ⟨ρ0, v0, _⟩ := gr_ex A0 (fun _ => tr_at 0)
  have sp : ∀ f x y, Sp x → Sp y → gr_H kd0 pa0 pb f x → mt_R n kd pa kd0 x y → ρ0 x = ρ0 y := by
    intro f
    induction f with
    | zero => intro x y _ _ z; exact z.elim
    | succ f ih =>
      intro x y sx sy hf h
      have xn := (hS x sx).1
      have yn := (hS y sy).1
      obtain ⟨e, p⟩ := cong x y xn yn (h7 x sx) (h7 y sy) h
      by_cases c : gr_cn (kd0 x)
      · have px := (hS x sx).2.2 c
        have py := (hS y sy).2.2 (e ▸ c)
        rw [gr_Vc v0 xn c, gr_Vc v0 yn (e ▸ c), e, ih _ _ px.1 py.1 (hf.2 c).1 (p c).1, ih _ _ px.2 py.2 (hf.2 c).2 (p c).2]
      · have fr : ¬ gr_fr (kd0 x) := fun z => by
          have := h7' x sx
          omega
        rw [gr_Vt v0 xn (hl x xn) c fr, gr_Vt v0 yn (hl y yn) (e ▸ c) (e ▸ fr), e]
  have sp' : ∀ x y, Sp x → Sp y → mt_R n kd pa kd0 x y → ρ0 x = ρ0 y := by
    intro x y sx sy h
    obtain ⟨f, hf⟩ := A0 x (hS x sx).1
    exact sp f x y sx sy hf h
  have ext : ∀ i, ∃ v : tr_T, ∀ y, Sp y → mt_R n kd pa kd0 i y → v = ρ0 y := by
    intro i
    by_cases h : ∃ y, Sp y ∧ mt_R n kd pa kd0 i y
    · obtain ⟨y, sy, ry⟩ := h
      exact ⟨ρ0 y, fun z sz rz => sp' y z sy sz (r3 _ _ _ (r2 _ _ ry) rz)⟩
    · exact ⟨tr_at 0, fun y sy ry => (h ⟨y, sy, ry⟩).elim⟩
  obtain ⟨θ, hθ⟩ := Classical.axiomOfChoice ext
  obtain ⟨ρ, v, a⟩ := gr_ex A0 θ
  have agr : ∀ y, Sp y → ρ y = ρ0 y := fun y sy => gr_agA A0 v v0 hS (fun j sj c => by
    have := h7' j sj
    omega) sy
  have own : ∀ f x y, M0 x → Sp y → gr_H kd0 pa0 pb f x → mt_R n kd pa kd0 x y → ρ x = ρ0 y := by
    intro f
    induction f with
    | zero => intro x y _ _ z; exact z.elim
    | succ f ih =>
      intro x y mx sy hf h
      have xn := (hM0 x mx).1
      have yn := (hS y sy).1
      by_cases x7 : kd0 x = 7
      · rw [a x xn (Or.inl x7)]; exact hθ x y sy h
      · obtain ⟨e, p⟩ := cong x y xn yn x7 (h7 y sy) h
        by_cases c : gr_cn (kd0 x)
        · have w := (hM0 x mx).2.2 c
          have py := (hS y sy).2.2 (e ▸ c)
          rw [gr_Vc v xn c, gr_Vc v0 yn (e ▸ c), e, ih _ _ w.1 py.1 (hf.2 c).1 (p c).1, ih _ _ w.2 py.2 (hf.2 c).2 (p c).2]
        · have fr : ¬ gr_fr (kd0 x) := fun z => by
            have := h8 x mx
            omega
          rw [gr_Vt v xn (hl x xn) c fr, gr_Vt v0 yn (hl y yn) (e ▸ c) (e ▸ fr), e]
  obtain ⟨f, hf⟩ := A0 s (hM0 s hs).1
  exact ⟨ρ, v, by rw [own f s t hs ht hf q1, agr t ht]⟩
/-! spelled types: nodes b .. n - 1 hold no variable -/
def sp_I (b n : Nat) (kd pa pb : Nat → Nat) (stk : List Nat) (st : List tr_T) : Prop :=
  b ≤ n ∧ gr_W n kd pa pb ∧ gr_A n kd pa pb ∧ (∀ i, b ≤ i → i < n → (kd i < 7 ∨ (10 ≤ kd i ∧ kd i < 14)) ∧ (gr_cn (kd i) → b ≤ pa i ∧ b ≤ pb i)) ∧ (∀ x, x ∈ stk → b ≤ x ∧ x < n) ∧ (∀ ρ, gr_V n kd pa pb ρ → stk.map ρ = st)
theorem sp_add {b n k x y d : Nat} {kd pa pb : Nat → Nat} {stk : List Nat} {st : List tr_T} {τ : tr_T} (I : sp_I b n kd pa pb stk st) (hk : k < 7 ∨ (10 ≤ k ∧ k < 14)) (hc : gr_cn k → x ∈ stk ∧ y ∈ stk) (hτ : ∀ ρ : Nat → tr_T, stk.map ρ = st → (gr_cn k → tr_con k (ρ x) (ρ y) = τ) ∧ (¬ gr_cn k → tr_at k = τ)) :
    sp_I b (n + 1) (gr_u kd n k) (gr_u pa n x) (gr_u pb n y) (n :: stk.drop d) (τ :: st.drop d) := by
  obtain ⟨i1, W, A, i4, i5, i6⟩ := I
  have hp : gr_cn k → x < n ∧ y < n := fun c => ⟨(i5 x (hc c).1).2, (i5 y (hc c).2).2⟩
  have k1 : k ≠ 1000 := by omega
  refine ⟨by omega, gr_W_new W k1 hp, gr_A_new W A k1 hp, fun i h1 h2 => ?_, fun z hz => ?_, fun ρ h => ?_⟩
  · by_cases c : i = n
    · subst c
      rw [gr_us, gr_us, gr_us]
      exact ⟨hk, fun c => ⟨(i5 x (hc c).1).1, (i5 y (hc c).2).1⟩⟩
    · rw [gr_un c, gr_un c, gr_un c]
      exact i4 i h1 (by omega)
  · rcases List.mem_cons.mp hz with e | e
    · rw [e]; omega
    · have := i5 z (List.mem_of_mem_drop e)
      omega
  · obtain ⟨v, e⟩ := gr_V_new h
    have m := i6 ρ v
    rw [List.map_cons, List.map_drop, m]
    congr 1
    obtain ⟨t1, t2⟩ := hτ ρ m
    by_cases c : gr_cn k
    · rw [e, gr_ev_c c]; exact t1 c
    · rw [e, gr_ev_t k1 c (by omega)]; exact t2 c
theorem sp_len {b n : Nat} {kd pa pb : Nat → Nat} {stk : List Nat} {st : List tr_T} (I : sp_I b n kd pa pb stk st) : stk.length = st.length := by
  obtain ⟨i1, W, A, i4, i5, i6⟩ := I
  obtain ⟨ρ, v, _⟩ := gr_ex A (fun _ => tr_at 0)
  rw [← i6 ρ v, List.length_map]
/-- a leaf -/
theorem sp_80 {b n p : Nat} {K N : Nat → Nat} {kd pa pb : Nat → Nat} {stk : List Nat} {st : List tr_T} {x y : Nat} (I : sp_I b n kd pa pb stk st) (hp : (31 ≤ K p ∧ K p ≤ 33) ∨ K p = 35) (hN : K p = 35 → N p < 4) :
    sp_I b (n + 1) (gr_u kd n (if K p = 35 then 10 + N p else K p - 31)) (gr_u pa n x) (gr_u pb n y) (n :: stk) (ts_1 K N st 80 p) := by
  have nc : ¬ gr_cn (if K p = 35 then 10 + N p else K p - 31) := by
    by_cases c : K p = 35
    · rw [if_pos c]; omega
    · rw [if_neg c]; omega
  have q := sp_add (x := x) (y := y) (d := 0) (τ := tr_at (if K p = 35 then 10 + N p else K p - 31)) I (k := if K p = 35 then 10 + N p else K p - 31) (by
    by_cases c : K p = 35
    · rw [if_pos c]; have := hN c; omega
    · rw [if_neg c]; omega) (fun c => (nc c).elim) (fun ρ _ => ⟨fun c => (nc c).elim, fun _ => rfl⟩)
  exact q
/-- list and reference -/
theorem sp_34 {b n p k t : Nat} {K N : Nat → Nat} {kd pa pb : Nat → Nat} {r : List Nat} {st : List tr_T} (I : sp_I b n kd pa pb (t :: r) st) (hp : (K p = 34 ∧ k = 3) ∨ (K p = 23 ∧ k = 4)) :
    sp_I b (n + 1) (gr_u kd n k) (gr_u pa n t) (gr_u pb n t) (n :: r) (ts_1 K N st 83 p) := by
  have e : ts_1 K N st 83 p = tr_con k (st.getD 0 (tr_at 0)) (st.getD 0 (tr_at 0)) :: st.drop 1 := by
    unfold ts_1
    rw [if_neg (by decide)]
    rcases hp with ⟨c, e⟩ | ⟨c, e⟩
    · rw [if_pos c, e]
    · rw [if_neg (by omega), if_pos c, e]
  rw [e]
  refine sp_add (d := 1) I (by omega) (fun _ => ⟨List.mem_cons_self, List.mem_cons_self⟩) (fun ρ m => ⟨fun _ => ?_, fun c => (c (by omega)).elim⟩)
  rw [← m]; rfl
theorem sp_36 {b n p k t u : Nat} {K N : Nat → Nat} {kd pa pb : Nat → Nat} {r : List Nat} {st : List tr_T} (I : sp_I b n kd pa pb (t :: u :: r) st) (hp : (K p = 36 ∧ k = 5) ∨ (K p = 37 ∧ k = 6)) :
    sp_I b (n + 1) (gr_u kd n k) (gr_u pa n u) (gr_u pb n t) (n :: r) (ts_1 K N st 83 p) := by
  have e : ts_1 K N st 83 p = tr_con k (st.getD 1 (tr_at 0)) (st.getD 0 (tr_at 0)) :: st.drop 2 := by
    unfold ts_1
    rw [if_neg (by decide), if_neg (by omega), if_neg (by omega)]
    rcases hp with ⟨c, e⟩ | ⟨c, e⟩
    · rw [if_pos c, e]
    · rw [if_neg (by omega), e]
  rw [e]
  refine sp_add (d := 2) I (by omega) (fun _ => ⟨List.mem_cons_of_mem _ List.mem_cons_self, List.mem_cons_self⟩) (fun ρ m => ⟨fun _ => ?_, fun c => (c (by omega)).elim⟩)
  rw [← m]; rfl
