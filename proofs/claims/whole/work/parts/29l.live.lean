/-! a graph at work that began as the kept one -/
def yl_D (kc : Nat) (kk ka kb : Nat → Nat) (op : List Nat) (i : Nat) : Prop := ∀ ρ ρ', gr_V kc kk ka kb ρ → gr_V kc kk ka kb ρ' → op.map ρ = op.map ρ' → ρ i = ρ' i
def yl_L (kc : Nat) (kk ka kb : Nat → Nat) (op : List Nat) (n : Nat) (kd pa pb : Nat → Nat) : Prop :=
  kc ≤ n ∧ (∀ ρ, gr_V n kd pa pb ρ → gr_V kc kk ka kb ρ) ∧ (∀ i, i < n → kd i < 9 ∨ kd i = 1000) ∧
  ∀ i, i < kc → (kd i = kk i ∧ pa i = ka i ∧ pb i = kb i) ∨ yl_D kc kk ka kb op i
section
variable {kc : Nat} {kk ka kb rt lo hi : Nat → Nat} {g : Nat → tr_T} {n : Nat} {kd pa pb : Nat → Nat}
theorem yl_0 (H : ky_K kc kk ka kb rt lo hi g) {op : List Nat} : yl_L kc kk ka kb op kc kk ka kb :=
  ⟨Nat.le_refl _, fun _ h => h, fun i hi => Or.inl (H.2.2.1 i hi), fun i _ => Or.inl ⟨rfl, rfl, rfl⟩⟩
/-- a general variable isn't settled by what is open -/
theorem yl_D8 (H : ky_K kc kk ka kb rt lo hi g) {i : Nat} (hi' : i < kc) (h : yl_D kc kk ka kb (ky_o kk rt g) i) : kk i ≠ 8 := by
  intro c
  have ho := ky_op H
  obtain ⟨W, A, k9, kp, hg, gg, k144, hr, reach⟩ := H
  obtain ⟨ρ, r, a⟩ := gr_ex A (fun _ => tr_at 0)
  obtain ⟨ρ', r', a'⟩ := gr_ex A (fun j => if j = i then tr_at 1 else tr_at 0)
  have e := h ρ ρ' r r' (mp_i fun x hx => by
    obtain ⟨x1, x2⟩ := (ho x).mp hx
    rw [a x x1 (Or.inl x2), a' x x1 (Or.inl x2)]
    have : x ≠ i := fun q => by rw [q] at x2; omega
    exact (if_neg this).symm)
  rw [a i hi' (Or.inr c), a' i hi' (Or.inr c)] at e
  have e' : tr_at 0 = tr_at 1 := by
    rw [e]; exact if_pos rfl
  exact absurd (tr_at_inj e') (by decide)
theorem yl_8 (H : ky_K kc kk ka kb rt lo hi g) (L : yl_L kc kk ka kb (ky_o kk rt g) n kd pa pb) {i : Nat} (hi' : i < kc) (c : kk i = 8) : kd i = 8 := by
  rcases L.2.2.2 i hi' with z | z
  · rw [z.1]; exact c
  · exact (yl_D8 H hi' z c).elim
/-- what holds no general variable is settled by what is open -/
theorem yl_M (H : ky_K kc kk ka kb rt lo hi g) (L : yl_L kc kk ka kb (ky_o kk rt g) n kd pa pb) {M : Nat → Prop} (C : gr_C n kd pa pb M) (G : ∀ i, M i → kd i ≠ 8) : ∀ f i, i < kc → gr_H kk ka kb f i → M i → yl_D kc kk ka kb (ky_o kk rt g) i := by
  have ho := ky_op H
  obtain ⟨W, A, k9, kp, hg, gg, k144, hr, reach⟩ := H
  intro f
  induction f with
  | zero => intro i _ z; exact z.elim
  | succ f ih =>
    intro i hi hf mi
    rcases L.2.2.2 i hi with ⟨e1, e2, e3⟩ | z
    · intro ρ ρ' r r' eo
      have k := k9 i hi
      by_cases c2 : gr_cn (kk i)
      · have w := (W i hi).2 c2
        have mm := (C i mi).2.2 (by rw [e1]; exact c2)
        rw [e2, e3] at mm
        rw [gr_Vc r hi c2, gr_Vc r' hi c2, ih _ w.1 (hf.2 c2).1 mm.1 ρ ρ' r r' eo, ih _ w.2 (hf.2 c2).2 mm.2 ρ ρ' r r' eo]
      · by_cases c3 : gr_fr (kk i)
        · rcases c3 with c3 | c3
          · exact mp_e eo i ((ho i).mpr ⟨hi, c3⟩)
          · exact (G i mi (by rw [e1]; exact c3)).elim
        · rw [gr_Vt r hi (by omega) c2 c3, gr_Vt r' hi (by omega) c2 c3]
    · exact z
theorem yl_un (H : ky_K kc kk ka kb rt lo hi g) (L : yl_L kc kk ka kb (ky_o kk rt g) n kd pa pb) {M : Nat → Prop} (C : gr_C n kd pa pb M) (G : ∀ i, M i → kd i ≠ 8) {s t : Nat} {kd' pa' : Nat → Nat} (U : un_I n kd pa pb M s t kd' pa' []) : yl_L kc kk ka kb (ky_o kk rt g) n kd' pa' pb := by
  obtain ⟨_, V, _, _, _, D, _⟩ := U
  refine ⟨L.1, fun ρ h => L.2.1 ρ ((V ρ).mpr ⟨h, fun p hp => by cases hp⟩).1, fun i hi => ?_, fun i hi => ?_⟩
  · rcases D i hi with z | z
    · rw [z.1]; exact L.2.2.1 i hi
    · exact Or.inr z.1
  · rcases D i (by have := L.1; omega) with z | z
    · rw [z.1, z.2]; exact L.2.2.2 i hi
    · obtain ⟨f, hf⟩ := H.2.1 i hi
      exact Or.inr (yl_M H L C G f i hi hf z.2.2)
theorem yl_gen {op : List Nat} {kd' : Nat → Nat} (L : yl_L kc kk ka kb op n kd pa pb) (h : ∀ i, i < n → kd' i = kd i ∨ gr_fr (kd' i) ∧ gr_fr (kd i)) (hk : ∀ i, i < kc → kd' i = kd i) : yl_L kc kk ka kb op n kd' pa pb := by
  refine ⟨L.1, fun ρ r => L.2.1 ρ ((gr_V_78 h ρ).mp r), fun i hi => ?_, fun i hi => ?_⟩
  · rcases h i hi with z | z
    · rw [z]; exact L.2.2.1 i hi
    · exact Or.inl (by omega)
  · rw [hk i hi]; exact L.2.2.2 i hi
theorem yl_ext {op : List Nat} {n' : Nat} {kd' pa' pb' : Nat → Nat} (L : yl_L kc kk ka kb op n kd pa pb) (hn : n ≤ n') (s : gr_same n kd pa pb kd' pa' pb') (hk : ∀ i, n ≤ i → i < n' → kd' i < 9 ∨ kd' i = 1000) : yl_L kc kk ka kb op n' kd' pa' pb' := by
  have := L.1
  refine ⟨by omega, fun ρ r => L.2.1 ρ ((gr_V_s s).mp (fun i hi => r i (by omega))), fun i hi => ?_, fun i hi => ?_⟩
  · by_cases c : i < n
    · rw [(s i c).1]; exact L.2.2.1 i c
    · exact hk i (by omega) hi
  · obtain ⟨e1, e2, e3⟩ := s i (by omega)
    rw [e1, e2, e3]; exact L.2.2.2 i hi
theorem yl_ic {op : List Nat} {n' : Nat} {kd' pa' pb' : Nat → Nat} {R : Nat → Prop} {cp : Nat → Nat} (L : yl_L kc kk ka kb op n kd pa pb) (I : ic_I n n' kd pa pb kd' pa' pb' R cp) : yl_L kc kk ka kb op n' kd' pa' pb' := by
  refine yl_ext L I.1 I.2.1 (fun i h1 h2 => ?_)
  obtain ⟨r, hr, e, z⟩ := ic_new I h1 h2
  rcases z with z | z
  · exact Or.inl (by omega)
  · exact Or.inl (by have := z.2.1; have := z.1; omega)
/-- the sets that the copy of a declared type asks for -/
theorem yl_E (H : ky_K kc kk ka kb rt lo hi g) (L : yl_L kc kk ka kb (ky_o kk rt g) n kd pa pb) (W : gr_W n kd pa pb) (A : gr_A n kd pa pb) {M0 : Nat → Prop} (C0 : gr_C n kd pa pb M0) (G0 : ∀ i, M0 i → kd i ≠ 8) (o0 : ∀ x, x ∈ ky_o kk rt g → M0 x) {v : Nat} (hv : v < 12) (h0 : rt v ≠ 0) : ∃ M E : Nat → Prop, gr_C n kd pa pb M ∧ (∀ i, M i → kd i ≠ 8) ∧ gr_C n kd pa pb E ∧ (∀ i, E i → ¬ M i → lo v ≤ i ∧ i < hi v) ∧ E (rt v - 1) := by
  have ho := ky_op H
  have d8 := fun i => yl_D8 H (i := i)
  obtain ⟨KW, KA, k9, kp, hg, gg, k144, hr, reach⟩ := H
  obtain ⟨h1, h2, h3, h4, h5, h6⟩ := hr v hv
  have ln := L.1
  refine ⟨fun i => i < n ∧ ∀ ρ ρ', gr_V n kd pa pb ρ → gr_V n kd pa pb ρ' → (ky_o kk rt g).map ρ = (ky_o kk rt g).map ρ' → ρ i = ρ' i, fun i => (i < n ∧ ∀ ρ ρ', gr_V n kd pa pb ρ → gr_V n kd pa pb ρ' → (ky_o kk rt g).map ρ = (ky_o kk rt g).map ρ' → ρ i = ρ' i) ∨ (lo v ≤ i ∧ i < hi v), ?_, ?_, ?_, ?_, ?_⟩
  · intro i ⟨hi, hd⟩
    refine ⟨hi, fun z => ⟨(W i hi).1 z, fun ρ ρ' r r' eo => ?_⟩, fun z => ⟨⟨((W i hi).2 z).1, fun ρ ρ' r r' eo => ?_⟩, ((W i hi).2 z).2, fun ρ ρ' r r' eo => ?_⟩⟩
    · rw [← gr_Vl r hi z, ← gr_Vl r' hi z]; exact hd ρ ρ' r r' eo
    · have e := hd ρ ρ' r r' eo
      rw [gr_Vc r hi z, gr_Vc r' hi z] at e
      exact (tr_con_inj e).2.1
    · have e := hd ρ ρ' r r' eo
      rw [gr_Vc r hi z, gr_Vc r' hi z] at e
      exact (tr_con_inj e).2.2
  · intro i ⟨hi, hd⟩ c
    obtain ⟨ρ, r, a⟩ := gr_ex A (fun _ => tr_at 0)
    obtain ⟨ρ', r', a'⟩ := gr_ex A (fun j => if j = i then tr_at 1 else tr_at 0)
    have e := hd ρ ρ' r r' (mp_i fun x hx => gr_agA A r r' C0 (fun j hj cj => by
      rw [a j (C0 j hj).1 cj, a' j (C0 j hj).1 cj]
      have : j ≠ i := fun q => G0 j hj (q ▸ c)
      exact (if_neg this).symm) (o0 x hx))
    rw [a i hi (Or.inr c), a' i hi (Or.inr c)] at e
    have e' : tr_at 0 = tr_at 1 := by
      rw [e]; exact if_pos rfl
    exact absurd (tr_at_inj e') (by decide)
  · intro i hE
    by_cases m : i < n ∧ ∀ ρ ρ', gr_V n kd pa pb ρ → gr_V n kd pa pb ρ' → (ky_o kk rt g).map ρ = (ky_o kk rt g).map ρ' → ρ i = ρ' i
    · obtain ⟨hi, hd⟩ := m
      refine ⟨hi, fun z => Or.inl ⟨(W i hi).1 z, fun ρ ρ' r r' eo => ?_⟩, fun z => ⟨Or.inl ⟨((W i hi).2 z).1, fun ρ ρ' r r' eo => ?_⟩, Or.inl ⟨((W i hi).2 z).2, fun ρ ρ' r r' eo => ?_⟩⟩⟩
      · rw [← gr_Vl r hi z, ← gr_Vl r' hi z]; exact hd ρ ρ' r r' eo
      · have e := hd ρ ρ' r r' eo
        rw [gr_Vc r hi z, gr_Vc r' hi z] at e
        exact (tr_con_inj e).2.1
      · have e := hd ρ ρ' r r' eo
        rw [gr_Vc r hi z, gr_Vc r' hi z] at e
        exact (tr_con_inj e).2.2
    · have q := hE.resolve_left m
      have ik : i < kc := by omega
      rcases L.2.2.2 i ik with ⟨e1, e2, e3⟩ | z
      · have k := k9 i ik
        have inop : ∀ x, x < kc → (kk x = 7 ∨ (lo v ≤ x ∧ x < hi v)) → (x < n ∧ ∀ ρ ρ', gr_V n kd pa pb ρ → gr_V n kd pa pb ρ' → (ky_o kk rt g).map ρ = (ky_o kk rt g).map ρ' → ρ x = ρ' x) ∨ (lo v ≤ x ∧ x < hi v) := by
          intro x hx c
          rcases c with c | c
          · exact Or.inl ⟨by omega, fun ρ ρ' r r' eo => mp_e eo x ((ho x).mpr ⟨hx, c⟩)⟩
          · exact Or.inr c
        refine ⟨by omega, fun z => ?_, fun z => ?_⟩
        · rw [e1] at z; omega
        · rw [e1] at z
          rw [e2, e3]
          have w := (KW i ik).2 z
          have p := h6 i q.1 q.2 z
          exact ⟨inop _ w.1 p.1, inop _ w.2 p.2⟩
      · exact (m ⟨by omega, fun ρ ρ' r r' eo => z ρ ρ' (L.2.1 ρ r) (L.2.1 ρ' r') eo⟩).elim
  · intro i hE m
    exact hE.resolve_left m
  · have rn : rt v - 1 < kc := by omega
    rcases h5 h0 with c | c
    · exact Or.inl ⟨by omega, fun ρ ρ' r r' eo => mp_e eo _ ((ho _).mpr ⟨rn, c⟩)⟩
    · exact Or.inr c
/-- what the use of a declared name means -/
theorem yl_u {b0 nl : Nat} {stk env : List Nat} {bs : List (Nat × Bool)} {V : List tr_T → List tr_T → List tr_T → Prop} (H : ky_K kc kk ka kb rt lo hi g) (L : yl_L kc kk ka kb (ky_o kk rt g) n kd pa pb) (I : rp_I b0 nl n kd pa pb (ky_o kk rt g) stk env bs V) {v : Nat} (hv : v < 12) (h0 : rt v ≠ 0) :
    (∀ ρ ρ2, gr_V n kd pa pb ρ → gr_V n kd pa pb ρ2 → (∀ i, i < n → kd i = 7 → ρ2 i = ρ i) → ∃ γ : Nat → tr_T, cd_ev (fun o => ((ky_o kk rt g).map ρ).getD o (tr_at 0)) γ (ky_d kk rt g v) = [ρ2 (rt v - 1)]) ∧
    (∀ ρ τ, gr_V n kd pa pb ρ → (∃ γ : Nat → tr_T, cd_ev (fun o => ((ky_o kk rt g).map ρ).getD o (tr_at 0)) γ (ky_d kk rt g v) = [τ]) → ∃ ρ2, gr_V n kd pa pb ρ2 ∧ (∀ i, i < n → kd i = 7 → ρ2 i = ρ i) ∧ ρ2 (rt v - 1) = τ) := by
  obtain ⟨W, A, ⟨M, E, ⟨hM, gM, oM, sM, eM⟩, cE, mE, eE, bE⟩, en, hl, hP, hV⟩ := I
  have wf := ky_wf H hv (fun z => h0 ((ky_nil H hv).mp z))
  have opd : ∀ (ρ ρ2 : Nat → tr_T) c, c ∈ ky_d kk rt g v → 100 ≤ c → (∀ x, x ∈ ky_o kk rt g → ρ2 x = ρ x) → ρ2 ((ky_o kk rt g).getD (c - 100) 0) = ((ky_o kk rt g).map ρ).getD (c - 100) (tr_at 0) := by
    intro ρ ρ2 c hc h1 ha
    have lt : c - 100 < (ky_o kk rt g).length := by
      have key : ∀ cs : List Nat, cd_wf (ky_o kk rt g).length cs → ∀ c, c ∈ cs → 100 ≤ c → c < 100 + (ky_o kk rt g).length := by
        intro cs
        induction cs with
        | nil => intro _ c hc; cases hc
        | cons d cs ih =>
          intro ⟨a, b, e⟩ c hc h1
          rcases List.mem_cons.mp hc with z | z
          · omega
          · exact ih e c z h1
      have := key _ wf.1 c hc h1
      omega
    rw [List.getD_eq_getElem?_getD, List.getD_eq_getElem?_getD, List.getElem?_map, List.getElem?_eq_getElem lt]
    exact ha _ (List.getElem_mem lt)
  refine ⟨fun ρ ρ2 r r2 ha => ⟨fun k => ρ2 (ky_g kk rt g v k), ?_⟩, fun ρ τ r ⟨γ, e⟩ => ?_⟩
  · rw [← ky_ev H hv h0 (L.2.1 ρ2 r2)]
    refine cd_ev_c _ (fun c hc h1 => ?_) (fun _ _ _ _ => rfl)
    exact (opd ρ ρ2 c hc h1 (fun x hx => rp_mono7 A hM gM r r2 ha (oM x hx))).symm
  · obtain ⟨ρ2, r2, a2⟩ := gr_ex A (fun i => if kd i = 8 then γ ((ky_d kk rt g v).find? (fun c => decide (10 ≤ c) && decide (c < 100) && decide (ky_g kk rt g v (c - 10) = i)) |>.map (fun c => c - 10) |>.getD 0) else ρ i)
    have ha : ∀ i, i < n → kd i = 7 → ρ2 i = ρ i := fun i hi c => by rw [a2 i hi (Or.inl c), if_neg (by omega)]
    refine ⟨ρ2, r2, ha, ?_⟩
    have ev := ky_ev H hv h0 (L.2.1 ρ2 r2)
    have : [ρ2 (rt v - 1)] = [τ] := by
      rw [← ev, ← e]
      refine cd_ev_c _ (fun c hc h1 => opd ρ ρ2 c hc h1 (fun x hx => rp_mono7 A hM gM r r2 ha (oM x hx))) (fun c hc h1 h2 => ?_)
      obtain ⟨q1, q2, q3, q4⟩ := ky_gen H hv hc h1 h2
      have c8 := yl_8 H L q2 q3
      rw [a2 _ (by have := L.1; omega) (Or.inr c8), if_pos c8]
      congr 1
      cases hf : (ky_d kk rt g v).find? (fun d => decide (10 ≤ d) && decide (d < 100) && decide (ky_g kk rt g v (d - 10) = ky_g kk rt g v (c - 10))) with
      | none =>
        have := List.find?_eq_none.mp hf c hc
        simp [h1, h2] at this
      | some d =>
        have p := List.find?_some hf
        have dm := List.mem_of_find?_eq_some hf
        simp at p
        have := q4 d dm p.1.1 p.1.2 p.2
        rw [this]; rfl
    injection this
/-- the beginning -/
theorem yl_rp (H : ky_K kc kk ka kb rt lo hi g) : rp_I kc 0 kc kk ka kb (ky_o kk rt g) [] [] [] (fun ν st E => ν.length = (ky_o kk rt g).length ∧ st = [] ∧ E = []) := by
  have ho := ky_op H
  have nd := ky_ond H
  obtain ⟨W, A, k9, kp, hg, gg, k144, hr, reach⟩ := H
  have C : gr_C kc kk ka kb (fun i => i < kc ∧ kk i = 7) := fun i hi => ⟨hi.1, fun z => by omega, fun z => by omega⟩
  refine ⟨W, A, ⟨fun i => i < kc ∧ kk i = 7, fun i => i < kc ∧ kk i = 7, ⟨C, fun i h => by omega, fun x hx => (ho x).mp hx, fun x hx => (by cases hx), fun x hx => (by cases hx)⟩, C, fun i h => h, fun x hx => (by cases hx), fun i h h' => (h' h).elim⟩, fun x hx => (by cases hx), rfl, trivial, fun ν st E => ?_⟩
  constructor
  · intro ⟨e1, e2, e3⟩
    obtain ⟨ρ, r, a⟩ := gr_ex A (fun i => ν.getD (ix_of i (ky_o kk rt g)) (tr_at 0))
    refine ⟨ρ, r, ?_, by rw [e2]; rfl, by rw [e3]; rfl⟩
    refine List.ext_getElem? (fun k => ?_)
    rw [List.getElem?_map]
    by_cases hk : k < (ky_o kk rt g).length
    · have ek := List.getElem?_eq_getElem hk
      have em := List.getElem_mem hk
      generalize (ky_o kk rt g)[k] = x at ek em
      obtain ⟨x1, x2⟩ := (ho x).mp em
      have ei := nd_get nd (ix_get em) ek
      rw [ek, Option.map_some, a x x1 (Or.inl x2), ei, List.getD_eq_getElem?_getD, List.getElem?_eq_getElem (by omega)]
      rfl
    · rw [List.getElem?_eq_none (by omega), List.getElem?_eq_none (by omega)]; rfl
  · intro ⟨ρ, r, e1, e2, e3⟩
    exact ⟨by rw [← e1, List.length_map], e2.symm, e3.symm⟩
/-- the roots and what is kept -/
theorem yl_kr (H : ky_K kc kk ka kb rt lo hi g) (L : yl_L kc kk ka kb (ky_o kk rt g) n kd pa pb) {v : Nat} (hv : v < 12) (h0 : rt v ≠ 0) : rt v - 1 < n ∧ ∀ ρ ρ', gr_V n kd pa pb ρ → gr_V n kd pa pb ρ' → (ky_o kk rt g).map ρ = (ky_o kk rt g).map ρ' → (∀ i, i < n → kd i = 8 → ρ i = ρ' i) → ρ (rt v - 1) = ρ' (rt v - 1) := by
  have rn : rt v - 1 < kc := by have := (H.2.2.2.2.2.2.2.1 v hv).1; omega
  have ho := ky_op H
  have h8 := fun i => yl_8 H L (i := i)
  have ln := L.1
  refine ⟨by omega, fun ρ ρ' r r' eo e8 => ?_⟩
  refine gr_agA H.2.1 (L.2.1 ρ r) (L.2.1 ρ' r') (gr_Ca H.1) (fun j hj c => ?_) rn
  rcases c with c | c
  · exact mp_e eo j ((ho j).mpr ⟨hj, c⟩)
  · exact e8 j (by have : j < kc := hj; omega) (h8 j hj c)
theorem yl_kb (H : ky_K kc kk ka kb rt lo hi g) (L : yl_L kc kk ka kb (ky_o kk rt g) n kd pa pb) {ρ ρ' : Nat → tr_T} (r : gr_V n kd pa pb ρ) (r' : gr_V n kd pa pb ρ') (he : ∀ v, v < 12 → rt v ≠ 0 → ρ (rt v - 1) = ρ' (rt v - 1)) : (ky_o kk rt g).map ρ = (ky_o kk rt g).map ρ' ∧ ∀ i, i < kc → ρ i = ρ' i := by
  have ho := ky_op H
  have all : ∀ i, i < kc → ρ i = ρ' i := fun i hi => (H.2.2.2.2.2.2.2.2 _ (gr_agC H.1 (L.2.1 ρ r) (L.2.1 ρ' r')) (fun v hv h0 => ⟨by have := (H.2.2.2.2.2.2.2.1 v hv).1; omega, he v hv h0⟩) i hi).2
  exact ⟨mp_i fun x hx => all x ((ho x).mp hx).1, all⟩
end
