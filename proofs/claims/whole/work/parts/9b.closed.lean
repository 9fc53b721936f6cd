/-! the worlds know no constants but the language's own: another name for a constant leaves them as they are -/
def tr_r (c : Nat) : Nat := if c < 7 then c else if c < 1001 then c + 5000 else c
def tr_m : tr_T → tr_T
  | .tag c (.append l r) => .tag c (.append (tr_m l) (tr_m r))
  | .tag c t => .tag (tr_r c) t
  | t => t
theorem tr_m_at (c : Nat) : tr_m (tr_at c) = tr_at (tr_r c) := by
  unfold tr_at
  simp [tr_m]
theorem tr_m_con (c : Nat) (l r : tr_T) : tr_m (tr_con c l r) = tr_con c (tr_m l) (tr_m r) := by
  unfold tr_con
  simp [tr_m]
theorem tr_m_0 : tr_m (tr_at 0) = tr_at 0 := tr_m_at 0
theorem tr_m_1 : tr_m (tr_at 1) = tr_at 1 := tr_m_at 1
theorem tr_m_2 : tr_m (tr_at 2) = tr_at 2 := tr_m_at 2
def dv_st (V : dv_W) : Prop := ∀ ν st E, V ν st E → V (ν.map tr_m) (st.map tr_m) (E.map tr_m)
theorem ds_psh {P : List tr_T → List tr_T → tr_T → Prop} {V : dv_W} (h : dv_st V) (hP : ∀ ν E τ, P ν E τ → P (ν.map tr_m) (E.map tr_m) (tr_m τ)) : dv_st (dv_psh P V) := by
  intro ν st E ⟨τ, st0, e, v, p⟩
  exact ⟨tr_m τ, st0.map tr_m, by rw [e]; rfl, h _ _ _ v, hP _ _ _ p⟩
theorem ds_tr {γ : Type} {inp out : γ → List tr_T} {V : dv_W} (h : dv_st V) (m : γ → γ) (h1 : ∀ c, (inp c).map tr_m = inp (m c)) (h2 : ∀ c, (out c).map tr_m = out (m c)) : dv_st (dv_tr inp out V) := by
  intro ν st E ⟨c, st0, e, v⟩
  refine ⟨m c, st0.map tr_m, by rw [e, List.map_append, h2], ?_⟩
  have := h _ _ _ v
  rw [List.map_append, h1] at this
  exact this
theorem ds_arr : ∀ (xs : List tr_T) (c : tr_T), tr_m (dv_arr xs c) = dv_arr (xs.map tr_m) (tr_m c) := by
  intro xs
  induction xs with
  | nil => intro c; rfl
  | cons x xs ih => intro c; show tr_m (dv_arr xs (tr_con 6 x c)) = dv_arr (xs.map tr_m) (tr_con 6 (tr_m x) (tr_m c)); rw [ih, tr_m_con]
theorem ds_fun {m : Nat} {V : dv_W} (h : dv_st V) : dv_st (dv_fun m V) := by
  intro ν st E ⟨f, st0, xs, c, e, l, ef, v⟩
  refine ⟨tr_m f, st0.map tr_m, xs.map tr_m, tr_m c, by rw [e]; rfl, by rw [List.length_map]; exact l, by rw [ef, ds_arr], ?_⟩
  have := h _ _ _ v
  rw [List.map_append] at this
  exact this
theorem ds_bind {V : dv_W} (h : dv_st V) : dv_st (dv_bind V) := by
  intro ν st E ⟨τ, E0, e, v⟩
  exact ⟨tr_m τ, E0.map tr_m, by rw [e]; rfl, h _ _ _ v⟩
theorem ds_lams {m : Nat} {V : dv_W} (h : dv_st V) : dv_st (dv_lams m V) := by
  intro ν st E ⟨xs, E0, e, l, v⟩
  exact ⟨xs.map tr_m, E0.map tr_m, by rw [e, List.map_append], by rw [List.length_map]; exact l, h _ _ _ v⟩
theorem ds_cs {t : Nat} {τ : tr_T} (h : cs_T t τ) : cs_T t (tr_m τ) := by
  obtain ⟨h1, h2, h3, h4, h5, h6, h7, h8, h9, h10⟩ := h
  refine ⟨fun z => by rw [h1 z]; exact tr_m_0, fun z => by rw [h2 z]; exact tr_m_1, fun z => ?_, fun z => ?_, fun z => ?_, fun z => ?_, fun z => ?_, fun z => ?_, fun z => ?_, fun z => ?_⟩
  · obtain ⟨a, e⟩ := h3 z
    exact ⟨tr_m a, by rw [e, tr_m_con]⟩
  · obtain ⟨a, e⟩ := h4 z
    exact ⟨tr_m a, by rw [e, tr_m_con, tr_m_con]⟩
  · obtain ⟨a, e⟩ := h5 z
    exact ⟨tr_m a, by rw [e, tr_m_con, tr_m_con]⟩
  · obtain ⟨a, e⟩ := h6 z
    exact ⟨tr_m a, by rw [e, tr_m_con, tr_m_con]⟩
  · obtain ⟨a, e⟩ := h7 z
    exact ⟨tr_m a, by rw [e, tr_m_con, tr_m_con]⟩
  · obtain ⟨a, e⟩ := h8 z
    exact ⟨tr_m a, by rw [e, tr_m_con, tr_m_con, tr_m_1]⟩
  · obtain ⟨a, b, e⟩ := h9 z
    exact ⟨tr_m a, tr_m b, by rw [e, tr_m_con, tr_m_con]⟩
  · obtain ⟨a, b, e⟩ := h10 z
    exact ⟨tr_m a, tr_m b, by rw [e, tr_m_con, tr_m_con]⟩
theorem ds_name {N : Nat → Nat} {Dc : Nat → List tr_T → tr_T → Prop} {bs : List (Nat × Bool)} {V : dv_W} {nm : Nat} (h : dv_st V) (hD : ∀ nm ν τ, Dc nm ν τ → Dc nm (ν.map tr_m) (tr_m τ)) (ν E : List tr_T) (τ : tr_T) (p : dd_name N Dc bs V nm ν E τ) : dd_name N Dc bs V nm (ν.map tr_m) (E.map tr_m) (tr_m τ) := by
  unfold dd_name at p ⊢
  cases c : bx_ix N bs nm with
  | none => rw [c] at p; exact hD _ _ _ p
  | some j =>
    rw [c] at p
    dsimp only at p ⊢
    by_cases c1 : (bs[j]?).map Prod.snd = some true
    · rw [if_pos c1] at p ⊢
      obtain ⟨st2, E2, v, e1, e2⟩ := p
      refine ⟨st2.map tr_m, E2.map tr_m, h _ _ _ v, ?_, by rw [List.getElem?_map, e2]; rfl⟩
      rw [← List.map_drop, ← List.map_drop, mo_map, mo_map, e1]
    · rw [if_neg c1] at p ⊢
      show (E.map tr_m)[j]? = some (tr_m τ)
      rw [List.getElem?_map, show E[j]? = some τ from p]; rfl
theorem ds_dd {K N mq : Nat → Nat} {Dc : Nat → List tr_T → tr_T → Prop} {bs : List (Nat × Bool)} {V : dv_W} {s p : Nat} (h : dv_st V) (hD : ∀ nm ν τ, Dc nm ν τ → Dc nm (ν.map tr_m) (tr_m τ)) : dv_st (dd_V K N mq Dc bs V s p) := by
  unfold dd_V
  split
  · split
    · exact ds_psh h (ds_name h hD)
    · exact ds_psh h (fun _ _ _ q => ds_cs q)
  split
  · exact ds_psh h (fun _ _ _ q => by rw [q]; exact tr_m_2)
  split
  · exact ds_tr h (fun c => (tr_m c.1, tr_m c.2)) (fun c => by simp [tr_m_con]) (fun c => rfl)
  split
  · split
    · exact ds_tr h (fun c => (tr_m c.1, tr_m c.2)) (fun c => rfl) (fun c => by simp [tr_m_con])
    split
    · exact ds_tr h (fun c => tr_m c) (fun c => by simp [tr_m_con]) (fun c => by simp [tr_m_con])
    split
    · exact ds_tr h (fun c => tr_m c) (fun c => by simp [tr_m_con]) (fun c => by simp [tr_m_2])
    split
    · exact ds_tr h (fun c => c) (fun c => by simp [tr_m_0]) (fun c => by simp [tr_m_1])
    · exact ds_tr h (fun c => c) (fun c => by simp [tr_m_0]) (fun c => by simp [tr_m_0])
  split
  · exact ds_tr h (fun c => tr_m c) (fun c => by simp [tr_m_1]) (fun c => rfl)
  split
  · exact ds_lams h
  split
  · intro ν st E ⟨x, c, st0, e, v⟩
    exact ⟨tr_m x, tr_m c, st0.map tr_m, by rw [e, List.map_cons, tr_m_con], h _ _ _ v⟩
  split
  · exact ds_lams h
  split
  · exact ds_bind (ds_fun h)
  split
  · exact ds_bind h
  · intro ν st E ⟨x, v⟩
    exact ⟨tr_m x, h _ _ _ v⟩
theorem ds_E {K N mq : Nat → Nat} {Dc : Nat → List tr_T → tr_T → Prop} (hD : ∀ nm ν τ, Dc nm ν τ → Dc nm (ν.map tr_m) (tr_m τ)) : ∀ (sp : pm_L) (bs : List (Nat × Bool)) (fl : List Bool) (V : dv_W), dv_st V → dv_st (gd_E K N mq Dc sp bs fl V).2.2 := by
  intro sp
  induction sp with
  | nil => intro bs fl V h; exact h
  | cons y sp ih => obtain ⟨s, p⟩ := y; intro bs fl V h; exact ih _ _ _ (ds_dd h hD)
theorem ds_gD (i : Nat) (l : List tr_T) : (l.map tr_m).getD i (tr_at 0) = tr_m (l.getD i (tr_at 0)) := by
  rw [List.getD_eq_getElem?_getD, List.getD_eq_getElem?_getD, List.getElem?_map]
  cases l[i]? with
  | none => exact tr_m_0.symm
  | some x => rfl
theorem ds_cd {ν γ : Nat → tr_T} : ∀ cs : List Nat, cd_ev (fun o => tr_m (ν o)) (fun k => tr_m (γ k)) cs = (cd_ev ν γ cs).map tr_m := by
  intro cs
  induction cs with
  | nil => rfl
  | cons c cs ih =>
    unfold cd_ev
    rw [ih]
    split
    · rfl
    split
    · rfl
    split
    · rw [List.map_cons, tr_m_at]
      unfold tr_r
      rw [if_pos (by omega)]
    split
    · rw [List.map_cons, tr_m_con, ds_gD, List.map_drop]
    · rw [List.map_cons, tr_m_con, ds_gD, ds_gD, List.map_drop]
theorem ds_Dc {dc : Nat → List Nat} (nm : Nat) (ν : List tr_T) (τ : tr_T) (h : Dc_U dc nm ν τ) : Dc_U dc nm (ν.map tr_m) (tr_m τ) := by
  obtain ⟨γ, e⟩ := h
  refine ⟨fun k => tr_m (γ k), ?_⟩
  have q := ds_cd (ν := fun o => ls_g o ν) (γ := γ) (dc nm)
  rw [e] at q
  have : (fun o => ls_g o (ν.map tr_m)) = (fun o => tr_m (ls_g o ν)) := by
    funext o
    exact ds_gD o ν
  rw [this]
  exact q
theorem ds_lab {n : Nat} {kd pa pb : Nat → Nat} {g ρ : Nat → tr_T} (W : gr_W n kd pa pb) (hk : ∀ i, i < n → kd i ≤ 1000) (hg : gr_V n kd pa pb g) (gg : gr_gen n kd g) (h : gr_V n kd pa pb ρ) : ∀ f i, i < n → gr_H kd pa pb f i → ρ i = tr_m (g i) → ∀ c, c ∈ tr_pre (g i) → c < 7 ∨ 1001 ≤ c := by
  intro f
  induction f with
  | zero => intro i _ z; exact z.elim
  | succ f ih =>
    intro i hi hf e c hc
    by_cases c1 : kd i = 1000
    · rw [gr_Vl hg hi c1] at hc e
      rw [gr_Vl h hi c1] at e
      exact ih _ ((W i hi).1 c1) (hf.1 c1) e c hc
    · by_cases c2 : gr_cn (kd i)
      · have w := (W i hi).2 c2
        rw [gr_Vc hg hi c2, gr_Vc h hi c2, tr_m_con] at e
        obtain ⟨_, e1, e2⟩ := tr_con_inj e
        rw [gr_Vc hg hi c2, tr_pre_con] at hc
        have k1 := ih _ w.1 (hf.2 c2).1 e1 c
        have k2 := ih _ w.2 (hf.2 c2).2 e2 c
        by_cases c3 : kd i = 3 ∨ kd i = 4
        · rw [if_pos c3] at hc
          rcases List.mem_cons.mp hc with z | z
          · exact Or.inl (by omega)
          · exact k1 z
        · rw [if_neg c3] at hc
          rcases List.mem_cons.mp hc with z | z
          · exact Or.inl (by omega)
          · rcases List.mem_append.mp z with z | z
            · exact k1 z
            · exact k2 z
      · by_cases c3 : gr_fr (kd i)
        · rw [gg i hi c3, tr_pre_at] at hc
          have := List.mem_singleton.mp hc
          exact Or.inr (by omega)
        · rw [gr_Vt hg hi c1 c2 c3, tr_pre_at] at hc
          have ec := List.mem_singleton.mp hc
          rw [gr_Vt h hi c1 c2 c3, gr_Vt hg hi c1 c2 c3, tr_m_at] at e
          have er := tr_at_inj e
          have hki := hk i hi
          unfold tr_r at er
          by_cases z : kd i < 7
          · exact Or.inl (by omega)
          · rw [if_neg z, if_pos (by omega)] at er
            omega
/-- the labels of a declaration's types are the language's or variables -/
theorem ds_rp {b0 nl n : Nat} {kd pa pb : Nat → Nat} {op : List Nat} {t nm : Nat} {fl : Bool} {V : dv_W} {g : Nat → tr_T} (I : rp_I b0 nl n kd pa pb op [] [t] [(nm, fl)] V) (hV : dv_st V) (hk : ∀ i, i < n → kd i ≤ 1000) (hg : gr_V n kd pa pb g) (gg : gr_gen n kd g) :
    (∀ c, c ∈ tr_pre (g t) → c < 7 ∨ 1001 ≤ c) ∧ ∀ x, x ∈ op → ∀ c, c ∈ tr_pre (g x) → c < 7 ∨ 1001 ≤ c := by
  obtain ⟨W, A, ⟨M, E, ⟨hM, gM, oM, sM, eM⟩, cE, mE, eE, bE⟩, en, hl, hP, hVV⟩ := I
  obtain ⟨ρ, v, o, _, q⟩ := (hVV _ _ _).mp (hV _ _ _ ((hVV (op.map g) [] [g t]).mpr ⟨g, hg, rfl, rfl, rfl⟩))
  refine ⟨fun c hc => ?_, fun x hx c hc => ?_⟩
  · have tn : t < n := en t List.mem_cons_self
    obtain ⟨f, hf⟩ := A t tn
    have qt : ρ t = tr_m (g t) := by simpa using q
    exact ds_lab W hk hg gg v f t tn hf qt c hc
  · have xn := (hM x (oM x hx)).1
    obtain ⟨f, hf⟩ := A x xn
    rw [List.map_map] at o
    have qx : ρ x = tr_m (g x) := List.map_inj_left.mp o x hx
    exact ds_lab W hk hg gg v f x xn hf qx c hc
