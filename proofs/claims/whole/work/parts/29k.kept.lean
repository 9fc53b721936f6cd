/-! the declared types as a graph that is kept, and the codes that stand for them -/
theorem cd_ar_0 {c : Nat} (h : c < 3 ∨ 7 ≤ c) : cd_ar c = 0 := by
  unfold cd_ar
  rw [if_neg (by omega), if_neg (by omega)]
theorem nd_get {x : Nat} : ∀ {l : List Nat} {i j : Nat}, l.Nodup → l[i]? = some x → l[j]? = some x → i = j := by
  intro l
  induction l with
  | nil => intro i j _ h; cases h
  | cons y l ih =>
    intro i j nd h1 h2
    obtain ⟨n1, n2⟩ := List.nodup_cons.mp nd
    cases i with
    | zero =>
      cases j with
      | zero => rfl
      | succ j =>
        rw [List.getElem?_cons_succ] at h2
        rw [List.getElem?_cons_zero] at h1
        injection h1 with h1
        exact (n1 (h1 ▸ List.mem_of_getElem? h2)).elim
    | succ i =>
      rw [List.getElem?_cons_succ] at h1
      cases j with
      | zero =>
        rw [List.getElem?_cons_zero] at h2
        injection h2 with h2
        exact (n1 (h2 ▸ List.mem_of_getElem? h1)).elim
      | succ j =>
        rw [List.getElem?_cons_succ] at h2
        rw [ih n2 h1 h2]
theorem cd_n_c (c : Nat) (cs : List Nat) : cd_n (c :: cs) = cd_n cs + 1 - cd_ar c := rfl
theorem pre_wf {n oc : Nat} {kd pa pb : Nat → Nat} {g : Nat → tr_T} {π : Nat → Nat} (W : gr_W n kd pa pb) (hg : gr_V n kd pa pb g) (gg : gr_gen n kd g) : ∀ f i m, i < n → gr_H kd pa pb f i → (∀ c, c ∈ tr_pre (g i) → (π c < 7 ∨ (10 ≤ π c ∧ π c < 22) ∨ (100 ≤ π c ∧ π c < 100 + oc)) ∧ cd_ar (π c) = cd_ar c) → (∀ j, j < n → kd j < 9 ∨ kd j = 1000) → cd_wf oc (m.map π) → cd_wf oc ((tr_pre (g i) ++ m).map π) ∧ cd_n ((tr_pre (g i) ++ m).map π) = cd_n (m.map π) + 1 := by
  intro f
  induction f with
  | zero => intro i m _ z; exact z.elim
  | succ f ih =>
    intro i m hi hf hc hk hm
    by_cases c1 : kd i = 1000
    · rw [gr_Vl hg hi c1] at hc ⊢
      exact ih _ m ((W i hi).1 c1) (hf.1 c1) hc hk hm
    · by_cases c2 : gr_cn (kd i)
      · have w := (W i hi).2 c2
        rw [gr_Vc hg hi c2, tr_pre_con] at hc ⊢
        by_cases c3 : kd i = 3 ∨ kd i = 4
        · rw [if_pos c3] at hc ⊢
          obtain ⟨a, b⟩ := ih _ m w.1 (hf.2 c2).1 (fun c hc' => hc c (List.mem_cons_of_mem _ hc')) hk hm
          obtain ⟨h1, h2⟩ := hc (kd i) List.mem_cons_self
          have ar : cd_ar (kd i) = 1 := by
            unfold cd_ar
            rw [if_neg (by omega), if_pos c3]
          rw [List.cons_append, List.map_cons]
          have e := cd_n_c (π (kd i)) ((tr_pre (g (pa i)) ++ m).map π)
          rw [h2, ar, b] at e
          exact ⟨⟨h1, by omega, a⟩, by omega⟩
        · rw [if_neg c3] at hc ⊢
          obtain ⟨a2, b2⟩ := ih _ m w.2 (hf.2 c2).2 (fun c hc' => hc c (List.mem_cons_of_mem _ (List.mem_append_right _ hc'))) hk hm
          obtain ⟨a1, b1⟩ := ih _ (tr_pre (g (pb i)) ++ m) w.1 (hf.2 c2).1 (fun c hc' => hc c (List.mem_cons_of_mem _ (List.mem_append_left _ hc'))) hk a2
          obtain ⟨h1, h2⟩ := hc (kd i) List.mem_cons_self
          have ar : cd_ar (kd i) = 2 := by
            unfold cd_ar
            rw [if_pos (by omega)]
          rw [List.cons_append, List.append_assoc, List.map_cons]
          have e := cd_n_c (π (kd i)) ((tr_pre (g (pa i)) ++ (tr_pre (g (pb i)) ++ m)).map π)
          rw [h2, ar, b1, b2] at e
          exact ⟨⟨h1, by omega, a1⟩, by omega⟩
      · have one : ∀ x, tr_pre (g i) = [x] → cd_ar x = 0 → cd_wf oc ((tr_pre (g i) ++ m).map π) ∧ cd_n ((tr_pre (g i) ++ m).map π) = cd_n (m.map π) + 1 := by
          intro x e ar
          rw [e] at hc ⊢
          obtain ⟨h1, h2⟩ := hc x List.mem_cons_self
          show cd_wf oc (π x :: m.map π) ∧ cd_n (π x :: m.map π) = _
          have e := cd_n_c (π x) (m.map π)
          rw [h2, ar] at e
          exact ⟨⟨h1, by omega, hm⟩, by omega⟩
        by_cases c3 : gr_fr (kd i)
        · refine one (1001 + i) ?_ (cd_ar_0 (by omega))
          rw [gg i hi c3, tr_pre_at]
        · refine one (kd i) ?_ (cd_ar_0 (by have := hk i hi; omega))
          rw [gr_Vt hg hi c1 c2 c3, tr_pre_at]
def ky_L (rt : Nat → Nat) (g : Nat → tr_T) (v : Nat) : List Nat := if rt v = 0 then [] else tr_pre (g (rt v - 1))
def ky_c (kk : Nat → Nat) (c : Nat) : Bool := decide (kk (c - 1001) = 8)
def ky_o (kk rt : Nat → Nat) (g : Nat → tr_T) : List Nat := (nm_S (ky_c kk) (ky_L rt g) 12).map (fun c => c - 1001)
def ky_g (kk rt : Nat → Nat) (g : Nat → tr_T) (v k : Nat) : Nat := (nm_sg (ky_c kk) [] (ky_L rt g v)).getD k 0 - 1001
def ky_d (kk rt : Nat → Nat) (g : Nat → tr_T) (v : Nat) : List Nat := nm_d (ky_c kk) (ky_L rt g) v
def ky_K (kc : Nat) (kk ka kb rt lo hi : Nat → Nat) (g : Nat → tr_T) : Prop :=
  gr_W kc kk ka kb ∧ gr_A kc kk ka kb ∧ (∀ i, i < kc → kk i < 9) ∧ (∀ i, i < kc → kk i = 3 ∨ kk i = 4 → kb i = ka i) ∧ gr_V kc kk ka kb g ∧ gr_gen kc kk g ∧ kc ≤ 144 ∧
  (∀ v, v < 12 → rt v ≤ kc ∧ hi v ≤ lo v + 12 ∧ hi v ≤ kc ∧ (ky_L rt g v).length ≤ 12 ∧ (rt v ≠ 0 → kk (rt v - 1) = 7 ∨ (lo v ≤ rt v - 1 ∧ rt v - 1 < hi v)) ∧ ∀ i, lo v ≤ i → i < hi v → gr_cn (kk i) → (kk (ka i) = 7 ∨ (lo v ≤ ka i ∧ ka i < hi v)) ∧ (kk (kb i) = 7 ∨ (lo v ≤ kb i ∧ kb i < hi v))) ∧
  (∀ S : Nat → Prop, gr_C kc kk ka kb S → (∀ v, v < 12 → rt v ≠ 0 → S (rt v - 1)) → ∀ i, i < kc → S i)
section
variable {kc : Nat} {kk ka kb rt lo hi : Nat → Nat} {g : Nat → tr_T}
theorem ky_in (H : ky_K kc kk ka kb rt lo hi g) {v c : Nat} (hv : v < 12) (hc : c ∈ ky_L rt g v) : c < 7 ∨ ∃ j, c = 1001 + j ∧ j < kc ∧ gr_fr (kk j) := by
  obtain ⟨W, A, k9, kp, hg, gg, k144, hr, reach⟩ := H
  unfold ky_L at hc
  by_cases z : rt v = 0
  · rw [if_pos z] at hc; cases hc
  · rw [if_neg z] at hc
    have rn : rt v - 1 < kc := by have := (hr v hv).1; omega
    obtain ⟨f, hf⟩ := A _ rn
    have key : ∀ f i, i < kc → gr_H kk ka kb f i → ∀ c, c ∈ tr_pre (g i) → c < 7 ∨ ∃ j, c = 1001 + j ∧ j < kc ∧ gr_fr (kk j) := by
      intro f
      induction f with
      | zero => intro i _ z; exact z.elim
      | succ f ih =>
        intro i hi hf c hc
        have := k9 i hi
        by_cases c2 : gr_cn (kk i)
        · have w := (W i hi).2 c2
          rw [gr_Vc hg hi c2, tr_pre_con] at hc
          by_cases c3 : kk i = 3 ∨ kk i = 4
          · rw [if_pos c3] at hc
            rcases List.mem_cons.mp hc with z | z
            · exact Or.inl (by omega)
            · exact ih _ w.1 (hf.2 c2).1 c z
          · rw [if_neg c3] at hc
            rcases List.mem_cons.mp hc with z | z
            · exact Or.inl (by omega)
            · rcases List.mem_append.mp z with z | z
              · exact ih _ w.1 (hf.2 c2).1 c z
              · exact ih _ w.2 (hf.2 c2).2 c z
        · by_cases c3 : gr_fr (kk i)
          · rw [gg i hi c3, tr_pre_at] at hc
            exact Or.inr ⟨i, List.mem_singleton.mp hc, hi, c3⟩
          · rw [gr_Vt hg hi (by omega) c2 c3, tr_pre_at] at hc
            rw [List.mem_singleton.mp hc]
            exact Or.inl (by omega)
    exact key f _ rn hf c hc
theorem ky_pre_ne (H : ky_K kc kk ka kb rt lo hi g) : ∀ i, i < kc → tr_pre (g i) ≠ [] := by
  obtain ⟨W, A, k9, kp, hg, gg, k144, hr, reach⟩ := H
  intro i hi
  obtain ⟨f, hf⟩ := A i hi
  exact tr_pre_ne W hg (fun j hj c => by rw [gg j hj c, tr_pre_at]; exact List.cons_ne_nil _ _) f i hi hf
theorem ky_nil (H : ky_K kc kk ka kb rt lo hi g) {v : Nat} (hv : v < 12) : ky_d kk rt g v = [] ↔ rt v = 0 := by
  have e : (ky_d kk rt g v).length = (ky_L rt g v).length := nm_l_len _ _ _
  by_cases z : rt v = 0
  · refine ⟨fun _ => z, fun _ => ?_⟩
    refine List.eq_nil_of_length_eq_zero ?_
    rw [e]
    unfold ky_L
    rw [if_pos z]; rfl
  · refine ⟨fun q => ?_, fun q => (z q).elim⟩
    rw [q] at e
    unfold ky_L at e
    rw [if_neg z] at e
    have rn : rt v - 1 < kc := by have := (H.2.2.2.2.2.2.2.1 v hv).1; omega
    exact (ky_pre_ne H _ rn (List.eq_nil_of_length_eq_zero e.symm)).elim
theorem ky_len {v : Nat} : (ky_d kk rt g v).length = (ky_L rt g v).length := nm_l_len _ _ _
/-- the labels behind the codes -/
theorem ky_code (H : ky_K kc kk ka kb rt lo hi g) {v x : Nat} (hv : v < 12) (hx : x ∈ ky_L rt g v) :
    (x < 7 ∧ nm_c (ky_c kk) (nm_S (ky_c kk) (ky_L rt g) 12) (nm_sg (ky_c kk) [] (ky_L rt g v)) x = x) ∨
    (∃ j k, x = 1001 + j ∧ j < kc ∧ kk j = 7 ∧ nm_c (ky_c kk) (nm_S (ky_c kk) (ky_L rt g) 12) (nm_sg (ky_c kk) [] (ky_L rt g v)) x = 100 + k ∧ (ky_o kk rt g)[k]? = some j) ∨
    (∃ j k, x = 1001 + j ∧ j < kc ∧ kk j = 8 ∧ nm_c (ky_c kk) (nm_S (ky_c kk) (ky_L rt g) 12) (nm_sg (ky_c kk) [] (ky_L rt g v)) x = 10 + k ∧ ky_g kk rt g v k = j ∧ k < 12 ∧ (nm_sg (ky_c kk) [] (ky_L rt g v))[k]? = some x) := by
  rcases ky_in H hv hx with z | ⟨j, e, hj, c⟩
  · refine Or.inl ⟨z, ?_⟩
    unfold nm_c
    rw [if_pos z]
  · have ej : x - 1001 = j := by omega
    unfold nm_c
    rw [if_neg (by omega)]
    rcases c with c | c
    · have cf : ky_c kk x = false := by
        unfold ky_c
        rw [ej, c]; rfl
      have xm : x ∈ nm_S (ky_c kk) (ky_L rt g) 12 := (nm_S_mem 12).mpr ⟨v, hv, hx, by omega, cf⟩
      refine Or.inr (Or.inl ⟨j, ix_of x (nm_S (ky_c kk) (ky_L rt g) 12), e, hj, c, ?_, ?_⟩)
      · rw [cf, if_neg (by decide)]
      · unfold ky_o
        rw [List.getElem?_map, ix_get xm, Option.map_some, ej]
    · have cf : ky_c kk x = true := by
        unfold ky_c
        rw [ej, c]; rfl
      have xm : x ∈ nm_sg (ky_c kk) [] (ky_L rt g v) := (nm_sg_mem _ _).mpr (Or.inr ⟨hx, by omega, cf⟩)
      have il := ix_lt.mpr xm
      have ll : (nm_sg (ky_c kk) [] (ky_L rt g v)).length ≤ (ky_L rt g v).length := by
        have key : ∀ (l s : List Nat), (nm_sg (ky_c kk) s l).length ≤ s.length + l.length := by
          intro l
          induction l with
          | nil => intro s; exact Nat.le_refl _
          | cons y l ih =>
            intro s
            have q := ih (nm_g (ky_c kk) s y)
            have : (nm_g (ky_c kk) s y).length ≤ s.length + 1 := by
              unfold nm_g ix_add
              by_cases c1 : y < 7 ∨ ky_c kk y = false
              · rw [if_pos c1]; omega
              · rw [if_neg c1]
                by_cases c2 : y ∈ s
                · rw [if_pos c2]; omega
                · rw [if_neg c2, List.length_append]; exact Nat.le_refl _
            show (nm_sg (ky_c kk) (nm_g (ky_c kk) s y) l).length ≤ _
            rw [List.length_cons]
            omega
        have := key (ky_L rt g v) []
        simpa using this
      have l12 := (H.2.2.2.2.2.2.2.1 v hv).2.2.2.1
      refine Or.inr (Or.inr ⟨j, ix_of x (nm_sg (ky_c kk) [] (ky_L rt g v)), e, hj, c, ?_, ?_, by omega, ix_get xm⟩)
      · rw [cf, if_pos rfl]
      · unfold ky_g
        rw [List.getD_eq_getElem?_getD, ix_get xm]; exact ej
theorem ky_dfin {v : Nat} (hv : v < 12) : ky_d kk rt g v = (ky_L rt g v).map (nm_c (ky_c kk) (nm_S (ky_c kk) (ky_L rt g) 12) (nm_sg (ky_c kk) [] (ky_L rt g v))) := nm_d_fin hv
/-- codes that are general -/
theorem ky_gen (H : ky_K kc kk ka kb rt lo hi g) {v c : Nat} (hv : v < 12) (hc : c ∈ ky_d kk rt g v) (h1 : 10 ≤ c) (h2 : c < 100) : c < 22 ∧ ky_g kk rt g v (c - 10) < kc ∧ kk (ky_g kk rt g v (c - 10)) = 8 ∧ ∀ d, d ∈ ky_d kk rt g v → 10 ≤ d → d < 100 → ky_g kk rt g v (d - 10) = ky_g kk rt g v (c - 10) → d = c := by
  have one : ∀ c, c ∈ ky_d kk rt g v → 10 ≤ c → c < 100 → ∃ j, c < 22 ∧ ky_g kk rt g v (c - 10) = j ∧ j < kc ∧ kk j = 8 ∧ (nm_sg (ky_c kk) [] (ky_L rt g v))[c - 10]? = some (1001 + j) := by
    intro c hc h1 h2
    rw [ky_dfin hv] at hc
    obtain ⟨x, hx, e⟩ := List.mem_map.mp hc
    rcases ky_code H hv hx with z | ⟨j, k, e1, hj, c7, e2, e3⟩ | ⟨j, k, e1, hj, c8, e2, e3, k12, e4⟩
    · omega
    · omega
    · have ek : c - 10 = k := by omega
      rw [ek]
      exact ⟨j, by omega, e3, hj, c8, by rw [e4, e1]⟩
  obtain ⟨j, a, b, c1, d1, e1⟩ := one c hc h1 h2
  refine ⟨a, by rw [b]; exact c1, by rw [b]; exact d1, fun d hd q1 q2 q => ?_⟩
  obtain ⟨j', a', b', c1', d1', e1'⟩ := one d hd q1 q2
  have ej : j' = j := by rw [← b', ← b]; exact q
  rw [ej] at e1'
  have nd := nm_sg_nd (cl := ky_c kk) (ky_L rt g v) [] List.Pairwise.nil
  have := nd_get nd e1' e1
  omega
/-- what the codes stand for -/
theorem ky_ev (H : ky_K kc kk ka kb rt lo hi g) {v : Nat} (hv : v < 12) (h0 : rt v ≠ 0) {ρ : Nat → tr_T} (h : gr_V kc kk ka kb ρ) : cd_ev (fun o => ρ ((ky_o kk rt g).getD o 0)) (fun k => ρ (ky_g kk rt g v k)) (ky_d kk rt g v) = [ρ (rt v - 1)] := by
  have code := fun x => ky_code H hv (x := x)
  have inn := fun c => ky_in H hv (c := c)
  obtain ⟨W, A, k9, kp, hg, gg, k144, hr, reach⟩ := H
  have rn : rt v - 1 < kc := by have := (hr v hv).1; omega
  obtain ⟨f, hf⟩ := A _ rn
  have eL : ky_L rt g v = tr_pre (g (rt v - 1)) := if_neg h0
  rw [ky_dfin hv]
  rw [lb_cd, lb_map]
  · have val := lb_val W (fun i hi => by have := k9 i hi; omega) kp hg gg h f (rt v - 1) [] rn hf (fun c hc => by
      rcases inn c (by rw [eL]; exact hc) with z | ⟨j, e, _⟩
      · exact Or.inl z
      · exact Or.inr (by omega))
    rw [List.append_nil] at val
    rw [← eL] at val
    have e2 : lb_ev (fun c => ρ (c - 1001)) [] = [] := rfl
    rw [e2] at val
    rw [← val]
    refine lb_cg _ (fun x hx h7 => ?_)
    rcases code x hx with z | ⟨j, k, e1, hj, c7, e2, e3⟩ | ⟨j, k, e1, hj, c8, e2, e3, k12, e4⟩
    · omega
    · rw [e2, if_pos (by omega), Nat.add_sub_cancel_left, List.getD_eq_getElem?_getD, e3, e1, Nat.add_sub_cancel_left]; rfl
    · rw [e2, if_neg (by omega), Nat.add_sub_cancel_left, e3, e1, Nat.add_sub_cancel_left]
  · intro x hx
    rcases code x hx with z | ⟨j, k, e1, hj, c7, e2, e3⟩ | ⟨j, k, e1, hj, c8, e2, e3, k12, e4⟩
    · exact Or.inl z
    · exact Or.inr ⟨by omega, by omega⟩
    · exact Or.inr ⟨by omega, by omega⟩
  · intro c hc
    obtain ⟨x, hx, e⟩ := List.mem_map.mp hc
    rcases code x hx with z | ⟨j, k, e1, hj, c7, e2, e3⟩ | ⟨j, k, e1, hj, c8, e2, e3, k12, e4⟩
    · exact Or.inl (by omega)
    · exact Or.inr (by omega)
    · exact Or.inr (by omega)
/-- what the table of the declared types is asked to be -/
theorem ky_wf (H : ky_K kc kk ka kb rt lo hi g) {v : Nat} (hv : v < 12) (h0 : ky_d kk rt g v ≠ []) : cd_wf (ky_o kk rt g).length (ky_d kk rt g v) ∧ cd_n (ky_d kk rt g v) = 1 := by
  have z0 : rt v ≠ 0 := fun z => h0 ((ky_nil H hv).mpr z)
  have code := fun x => ky_code H hv (x := x)
  obtain ⟨W, A, k9, kp, hg, gg, k144, hr, reach⟩ := H
  have rn : rt v - 1 < kc := by have := (hr v hv).1; omega
  obtain ⟨f, hf⟩ := A _ rn
  have eL : ky_L rt g v = tr_pre (g (rt v - 1)) := if_neg z0
  have q := pre_wf (oc := (ky_o kk rt g).length) (π := nm_c (ky_c kk) (nm_S (ky_c kk) (ky_L rt g) 12) (nm_sg (ky_c kk) [] (ky_L rt g v))) W hg gg f (rt v - 1) [] rn hf (fun x hx => ?_) (fun j hj => Or.inl (k9 j hj)) trivial
  · rw [List.append_nil, ← eL] at q
    rw [ky_dfin hv]; exact q
  · rw [← eL] at hx
    rcases code x hx with z | ⟨j, k, e1, hj, c7, e2, e3⟩ | ⟨j, k, e1, hj, c8, e2, e3, k12, e4⟩
    · exact ⟨Or.inl (by omega), by rw [z.2]⟩
    · have := (List.getElem?_eq_some_iff.mp e3).1
      exact ⟨Or.inr (Or.inr (by omega)), by rw [e2, cd_ar_0 (by omega), cd_ar_0 (by omega)]⟩
    · exact ⟨Or.inr (Or.inl (by omega)), by rw [e2, cd_ar_0 (by omega), cd_ar_0 (by omega)]⟩
/-- the open variables are the nodes of kind 7 -/
theorem ky_op (H : ky_K kc kk ka kb rt lo hi g) (i : Nat) : i ∈ ky_o kk rt g ↔ i < kc ∧ kk i = 7 := by
  have inn := fun v c hv => ky_in H (v := v) hv (c := c)
  obtain ⟨W, A, k9, kp, hg, gg, k144, hr, reach⟩ := H
  unfold ky_o
  rw [List.mem_map]
  constructor
  · rintro ⟨c, hc, e⟩
    obtain ⟨v, hv, hL, h7, cf⟩ := (nm_S_mem 12).mp hc
    rcases inn v c hv hL with z | ⟨j, e1, hj, c1⟩
    · omega
    · have : i = j := by omega
      rw [this]
      refine ⟨hj, ?_⟩
      unfold ky_c at cf
      rw [show c - 1001 = j by omega] at cf
      rcases c1 with c1 | c1
      · exact c1
      · rw [c1] at cf; cases cf
  · rintro ⟨hi, c7⟩
    refine ⟨1001 + i, (nm_S_mem 12).mpr ?_, by omega⟩
    have := reach (fun k => k < kc ∧ ∀ c, c ∈ tr_pre (g k) → ∃ v, v < 12 ∧ c ∈ ky_L rt g v) (fun k hk => ?_) (fun v hv z => ⟨by have := (hr v hv).1; omega, fun c hc => ⟨v, hv, by unfold ky_L; rw [if_neg z]; exact hc⟩⟩) i hi
    · obtain ⟨v, hv, hm⟩ := this.2 (1001 + i) (by rw [gg i hi (Or.inl c7), tr_pre_at]; exact List.mem_cons_self)
      refine ⟨v, hv, hm, by omega, ?_⟩
      unfold ky_c
      rw [show 1001 + i - 1001 = i by omega, c7]; rfl
    · refine ⟨hk.1, fun z => by have := k9 k hk.1; omega, fun z => ?_⟩
      have w := (W k hk.1).2 z
      have hk2 := hk.2
      rw [gr_Vc hg hk.1 z, tr_pre_con] at hk2
      by_cases c3 : kk k = 3 ∨ kk k = 4
      · rw [if_pos c3] at hk2
        have a := fun c hc => hk2 c (List.mem_cons_of_mem _ hc)
        refine ⟨⟨w.1, a⟩, w.2, ?_⟩
        rw [kp k hk.1 c3]; exact a
      · rw [if_neg c3] at hk2
        exact ⟨⟨w.1, fun c hc => hk2 c (List.mem_cons_of_mem _ (List.mem_append_left _ hc))⟩, w.2, fun c hc => hk2 c (List.mem_cons_of_mem _ (List.mem_append_right _ hc))⟩
theorem ky_ond (H : ky_K kc kk ka kb rt lo hi g) : (ky_o kk rt g).Nodup := by
  have inn := fun v c hv => ky_in H (v := v) hv (c := c)
  unfold ky_o
  have nd := nm_S_nd (cl := ky_c kk) (L := ky_L rt g) 12
  refine List.pairwise_map.mpr (List.Pairwise.imp_of_mem (fun {a b} ha hb ne e => ne ?_) nd)
  obtain ⟨v, hv, hL, h7, _⟩ := (nm_S_mem 12).mp ha
  obtain ⟨w, hw, hL', h7', _⟩ := (nm_S_mem 12).mp hb
  rcases inn v a hv hL with z | ⟨j, e1, _⟩
  · omega
  · rcases inn w b hw hL' with z | ⟨j', e1', _⟩
    · omega
    · omega
end
