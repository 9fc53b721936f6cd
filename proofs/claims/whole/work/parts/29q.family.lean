/-! the codes of all names, from two graphs -/
theorem fam_new {clX clY : Nat → Bool} {s : Nat → Nat} {Lb : Nat → Prop} {LY : List Nat} (hO : ∀ x, x ∈ LY → (x < 7 ∧ s x = x) ∨ (7 ≤ x ∧ Lb x ∧ 7 ≤ s x ∧ clX (s x) = clY x)) (inj : ∀ x y, Lb x → Lb y → s x = s y → x = y) {soY soX : List Nat} (h : ix_R (fun x x' => Lb x ∧ x' = s x) soY soX) :
    nm_l clX soX [] (LY.map s) = nm_l clY soY [] LY ∧ ix_R (fun x x' => Lb x ∧ x' = s x) (nm_so clY soY LY) (nm_so clX soX (LY.map s)) := by
  have D : ∀ x x' z z', (Lb x ∧ x' = s x) → (Lb z ∧ z' = s z) → (x = z ↔ x' = z') := by
    intro x x' z z' ⟨a1, a2⟩ ⟨b1, b2⟩
    rw [a2, b2]
    exact ⟨fun e => by rw [e], inj x z a1 b1⟩
  have q := nm_l_i (cl := clY) (cl' := clX) (π := s) (Do := fun x x' => Lb x ∧ x' = s x) (Dg := fun x x' => Lb x ∧ x' = s x) D D LY soY [] soX [] (fun x hx => ?_) h ix_R_0
  · exact ⟨q.1, q.2.1⟩
  · rcases hO x hx with z | ⟨a, b, c, d⟩
    · exact Or.inl z
    · exact Or.inr ⟨a, c, d, fun _ => ⟨b, rfl⟩, fun _ => ⟨b, rfl⟩⟩
theorem fam_old {clX clY : Nat → Bool} {s : Nat → Nat} {Lb : Nat → Prop} {OX OY : Nat → List Nat} {GX GY : Nat → Nat} {oc : Nat} {cs : List Nat} (hw : cd_wf oc cs) (sO : ∀ o, o < oc → OX o = (OY o).map s) (hs7 : ∀ x, x < 7 → s x = x)
    (hO : ∀ o, o < oc → ∀ x, x ∈ OY o → x < 7 ∨ (7 ≤ x ∧ Lb x ∧ clY x = false ∧ 7 ≤ s x ∧ clX (s x) = false)) (inj : ∀ x y, Lb x → Lb y → s x = s y → x = y)
    (hG : ∀ c, c ∈ cs → 10 ≤ c → c < 100 → 7 ≤ GY (c - 10) ∧ clY (GY (c - 10)) = true ∧ 7 ≤ GX (c - 10) ∧ clX (GX (c - 10)) = true)
    (gY : ∀ c d, c ∈ cs → d ∈ cs → 10 ≤ c → c < 100 → 10 ≤ d → d < 100 → GY (c - 10) = GY (d - 10) → c = d) (gX : ∀ c d, c ∈ cs → d ∈ cs → 10 ≤ c → c < 100 → 10 ≤ d → d < 100 → GX (c - 10) = GX (d - 10) → c = d)
    {soY soX : List Nat} (h : ix_R (fun x x' => Lb x ∧ x' = s x) soY soX) :
    nm_l clX soX [] (cs.flatMap (cd_lb OX (fun k => [GX k]))) = nm_l clY soY [] (cs.flatMap (cd_lb OY (fun k => [GY k]))) ∧ ix_R (fun x x' => Lb x ∧ x' = s x) (nm_so clY soY (cs.flatMap (cd_lb OY (fun k => [GY k])))) (nm_so clX soX (cs.flatMap (cd_lb OX (fun k => [GX k])))) := by
  have D : ∀ x x' z z', (Lb x ∧ x' = s x) → (Lb z ∧ z' = s z) → (x = z ↔ x' = z') := by
    intro x x' z z' ⟨a1, a2⟩ ⟨b1, b2⟩
    rw [a2, b2]
    exact ⟨fun e => by rw [e], inj x z a1 b1⟩
  have Dg : ∀ x x' z z', (∃ c, c ∈ cs ∧ 10 ≤ c ∧ c < 100 ∧ x = GY (c - 10) ∧ x' = GX (c - 10)) → (∃ c, c ∈ cs ∧ 10 ≤ c ∧ c < 100 ∧ z = GY (c - 10) ∧ z' = GX (c - 10)) → (x = z ↔ x' = z') := by
    intro x x' z z' ⟨c, a1, a2, a3, a4, a5⟩ ⟨d, b1, b2, b3, b4, b5⟩
    rw [a4, a5, b4, b5]
    exact ⟨fun e => by rw [gY c d a1 b1 a2 a3 b2 b3 e], fun e => by rw [gX c d a1 b1 a2 a3 b2 b3 e]⟩
  have ex : ∀ x, ∃ y, (∀ c, c ∈ cs → 10 ≤ c → c < 100 → GY (c - 10) = x → y = GX (c - 10)) ∧ ((¬ ∃ c, c ∈ cs ∧ 10 ≤ c ∧ c < 100 ∧ GY (c - 10) = x) → y = s x) := by
    intro x
    by_cases q : ∃ c, c ∈ cs ∧ 10 ≤ c ∧ c < 100 ∧ GY (c - 10) = x
    · obtain ⟨c, a1, a2, a3, a4⟩ := q
      exact ⟨GX (c - 10), fun d b1 b2 b3 b4 => by rw [gY c d a1 b1 a2 a3 b2 b3 (a4.trans b4.symm)], fun n => (n ⟨c, a1, a2, a3, a4⟩).elim⟩
    · exact ⟨s x, fun c a1 a2 a3 a4 => (q ⟨c, a1, a2, a3, a4⟩).elim, fun _ => rfl⟩
  obtain ⟨π, hπ⟩ := Classical.axiomOfChoice ex
  have pg : ∀ c, c ∈ cs → 10 ≤ c → c < 100 → π (GY (c - 10)) = GX (c - 10) := fun c a1 a2 a3 => (hπ _).1 c a1 a2 a3 rfl
  have ps : ∀ x, (x < 7 ∨ clY x = false) → π x = s x := by
    intro x hx
    refine (hπ x).2 (fun ⟨c, a1, a2, a3, a4⟩ => ?_)
    have g := hG c a1 a2 a3
    rcases hx with hx | hx
    · omega
    · rw [a4, hx] at g; cases g.2.1
  have rng : ∀ cs : List Nat, cd_wf oc cs → ∀ c, c ∈ cs → c < 7 ∨ (10 ≤ c ∧ c < 22) ∨ (100 ≤ c ∧ c < 100 + oc) := by
    intro cs
    induction cs with
    | nil => intro _ c hc; cases hc
    | cons d cs ih =>
      intro ⟨a, b, e⟩ c hc
      rcases List.mem_cons.mp hc with z | z
      · rw [z]; exact a
      · exact ih e c z
  have emap : ∀ l : List Nat, (∀ c, c ∈ l → c ∈ cs) → l.flatMap (cd_lb OX (fun k => [GX k])) = (l.flatMap (cd_lb OY (fun k => [GY k]))).map π := by
    intro l
    induction l with
    | nil => intro _; rfl
    | cons c l ih =>
      intro hl
      have hc := hl c List.mem_cons_self
      rw [List.flatMap_cons, List.flatMap_cons, List.map_append, ih (fun d hd => hl d (List.mem_cons_of_mem _ hd))]
      congr 1
      unfold cd_lb
      by_cases c1 : 100 ≤ c
      · rw [if_pos c1, if_pos c1]
        have lt : c - 100 < oc := by have := rng cs hw c hc; omega
        rw [sO _ lt]
        refine List.map_congr_left (fun x hx => (ps x ?_).symm)
        rcases hO _ lt x hx with z | z
        · exact Or.inl z
        · exact Or.inr z.2.2.1
      · rw [if_neg c1, if_neg c1]
        by_cases c2 : 10 ≤ c
        · rw [if_pos c2, if_pos c2]
          show [GX (c - 10)] = [π (GY (c - 10))]
          rw [pg c hc c2 (by omega)]
        · rw [if_neg c2, if_neg c2]
          show [c] = [π c]
          have c7 : c < 7 := by have := rng cs hw c hc; omega
          rw [ps c (Or.inl c7), hs7 c c7]
  have q := nm_l_i (cl := clY) (cl' := clX) (π := π) (Do := fun x x' => Lb x ∧ x' = s x) (Dg := fun x x' => ∃ c, c ∈ cs ∧ 10 ≤ c ∧ c < 100 ∧ x = GY (c - 10) ∧ x' = GX (c - 10)) D Dg (cs.flatMap (cd_lb OY (fun k => [GY k]))) soY [] soX [] (fun x hx => ?_) h ix_R_0
  · rw [emap cs (fun c hc => hc)]; exact ⟨q.1, q.2.1⟩
  · obtain ⟨c, hc, hx⟩ := List.mem_flatMap.mp hx
    unfold cd_lb at hx
    by_cases c1 : 100 ≤ c
    · rw [if_pos c1] at hx
      have lt : c - 100 < oc := by have := rng cs hw c hc; omega
      rcases hO _ lt x hx with z | ⟨a, b, d, e, f⟩
      · exact Or.inl ⟨z, by rw [ps x (Or.inl z), hs7 x z]⟩
      · rw [ps x (Or.inr d)]
        exact Or.inr ⟨a, e, by rw [f, d], fun _ => ⟨b, rfl⟩, fun z => by rw [d] at z; cases z⟩
    · rw [if_neg c1] at hx
      by_cases c2 : 10 ≤ c
      · rw [if_pos c2] at hx
        rw [List.mem_singleton.mp hx, pg c hc c2 (by omega)]
        obtain ⟨a, b, d, e⟩ := hG c hc c2 (by omega)
        exact Or.inr ⟨a, d, by rw [b, e], fun z => (by rw [b] at z; cases z), fun _ => ⟨c, hc, c2, by omega, rfl, rfl⟩⟩
      · rw [if_neg c2] at hx
        have c7 : c < 7 := by have := rng cs hw c hc; omega
        rw [List.mem_singleton.mp hx, ps c (Or.inl c7)]
        exact Or.inl ⟨c7, hs7 c c7⟩
/-! writing out: the labels of what waits -/
def wk_L (g : Nat → tr_T) (S : List Nat) : List Nat := S.flatMap (fun i => tr_pre (g i))
theorem wk_0 {g : Nat → tr_T} {i : Nat} {S : List Nat} : wk_L g (i :: S) = tr_pre (g i) ++ wk_L g S := List.flatMap_cons
theorem wk_1 {n : Nat} {kd pa pb : Nat → Nat} {g : Nat → tr_T} (W : gr_W n kd pa pb) (hg : gr_V n kd pa pb g) (gg : gr_gen n kd g) {i r : Nat} {S : List Nat} (hi : i < n) (h : gr_to kd pa i r) :
    (gr_fr (kd r) → wk_L g (i :: S) = (1001 + r) :: wk_L g S) ∧
    (kd r = 3 ∨ kd r = 4 → wk_L g (i :: S) = kd r :: wk_L g (pa r :: S)) ∧
    (kd r = 5 ∨ kd r = 6 → wk_L g (i :: S) = kd r :: wk_L g (pa r :: pb r :: S)) ∧
    (¬ gr_cn (kd r) → ¬ gr_fr (kd r) → wk_L g (i :: S) = kd r :: wk_L g S) := by
  have rn := gr_to_n W h hi
  have e := gr_to_V W hg h hi
  refine ⟨fun c => ?_, fun c => ?_, fun c => ?_, fun c1 c2 => ?_⟩
  · rw [wk_0, e, gg r rn c, tr_pre_at]; rfl
  · rw [wk_0, e, gr_Vc hg rn (by omega), tr_pre_con, if_pos c, wk_0]; rfl
  · rw [wk_0, e, gr_Vc hg rn (by omega), tr_pre_con, if_neg (by omega), wk_0, wk_0, List.cons_append, List.append_assoc]
  · rw [wk_0, e, gr_Vt hg rn h.1 c1 c2, tr_pre_at]; rfl
