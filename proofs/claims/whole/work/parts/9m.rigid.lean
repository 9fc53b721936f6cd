/-! open variables that may not be settled: each a constant of its own -/
def rg (kd : Nat → Nat) (j i : Nat) : Nat := if i < j ∧ kd i = 7 then 14 + i else kd i
theorem rg_0 {kd : Nat → Nat} {j i : Nat} (h : ¬ (i < j ∧ kd i = 7)) : rg kd j i = kd i := if_neg h
theorem rg_1 {kd : Nat → Nat} {j i : Nat} (h : i < j ∧ kd i = 7) : rg kd j i = 14 + i := if_pos h
theorem rg_c {kd : Nat → Nat} {j i n : Nat} (hj : j ≤ 144) (hi : i < n) : (gr_cn (rg kd j i) → gr_cn (kd i)) ∧ (rg kd j i = 1000 → kd i = 1000) := by
  by_cases c : i < j ∧ kd i = 7
  · rw [rg_1 c]
    exact ⟨fun z => by omega, fun z => by omega⟩
  · rw [rg_0 c]; exact ⟨id, id⟩
theorem rg_W {kd pa pb : Nat → Nat} {j n : Nat} (hj : j ≤ 144) (W : gr_W n kd pa pb) : gr_W n (rg kd j) pa pb := fun i hi => ⟨fun z => (W i hi).1 ((rg_c hj hi).2 z), fun z => (W i hi).2 ((rg_c hj hi).1 z)⟩
theorem rg_A {kd pa pb : Nat → Nat} {j n : Nat} (hj : j ≤ 144) (W : gr_W n kd pa pb) (A : gr_A n kd pa pb) : gr_A n (rg kd j) pa pb := by
  have key : ∀ f i, i < n → gr_H kd pa pb f i → gr_H (rg kd j) pa pb f i := by
    intro f
    induction f with
    | zero => intro i _ h; exact h.elim
    | succ f ih =>
      intro i hi h
      have q := rg_c (kd := kd) hj hi
      exact ⟨fun z => ih _ ((W i hi).1 (q.2 z)) (h.1 (q.2 z)), fun z => ⟨ih _ ((W i hi).2 (q.1 z)).1 (h.2 (q.1 z)).1, ih _ ((W i hi).2 (q.1 z)).2 (h.2 (q.1 z)).2⟩⟩
  intro i hi
  obtain ⟨f, h⟩ := A i hi
  exact ⟨f, key f i hi h⟩
theorem rg_V {kd pa pb : Nat → Nat} {j n : Nat} {ρ : Nat → tr_T} (h : gr_V n (rg kd j) pa pb ρ) : gr_V n kd pa pb ρ := by
  intro i hi
  have e := h i hi
  by_cases c : i < j ∧ kd i = 7
  · rw [c.2, gr_ev_f (Or.inl rfl)]
  · rw [rg_0 c] at e; exact e
section
variable {kc : Nat} {kk ka kb rt lo hi : Nat → Nat} {g : Nat → tr_T} {n : Nat} {kd pa pb : Nat → Nat}
theorem rg_o {ρ : Nat → tr_T} (s : gr_same kc kk ka kb kd pa pb) (hn : kc ≤ n) (k144 : kc ≤ 144) (h : gr_V n (rg kd kc) pa pb ρ) {i : Nat} (hi' : i < kc) (c : kk i = 7) : ρ i = tr_at (14 + i) := by
  have e : rg kd kc i = 14 + i := rg_1 ⟨hi', by rw [(s i hi').1]; exact c⟩
  have q := gr_Vt h (i := i) (by omega) (by omega) (by omega) (by omega)
  rw [e] at q; exact q
theorem yf_og (H : ky_K kc kk ka kb rt lo hi g) {o : Nat} (ho : o < (ky_o kk rt g).length) : (ky_o kk rt g).getD o 0 < kc ∧ kk ((ky_o kk rt g).getD o 0) = 7 := by
  rw [List.getD_eq_getElem?_getD, List.getElem?_eq_getElem ho]
  exact (ky_op H _).mp (List.getElem_mem ho)
theorem yf_1 (H : ky_K kc kk ka kb rt lo hi g) {tS m : Nat} {T : tr_T} (I : sp_I kc n kd pa pb [tS] [T]) (s : gr_same kc kk ka kb kd pa pb) (hm : m < 12) (h0 : rt m ≠ 0) {ρ : Nat → tr_T} (v : gr_V n (rg kd kc) pa pb ρ) (e : ρ (rt m - 1) = T) : ∃ γ : Nat → tr_T, cd_ev (fun o => tr_at (14 + (ky_o kk rt g).getD o 0)) γ (ky_d kk rt g m) = [T] := by
  have k144 := H.2.2.2.2.2.2.1
  have vk : gr_V kc kk ka kb ρ := (gr_V_s s).mp (fun i hi => rg_V v i (by have := I.1; omega))
  have q := ky_ev H hm h0 vk
  have wf := (ky_wf H hm (fun z => h0 ((ky_nil H hm).mp z))).1
  refine ⟨fun k => ρ (ky_g kk rt g m k), ?_⟩
  rw [← e, ← q]
  refine cd_ev_c _ (fun cc hc h100 => ?_) (fun _ _ _ _ => rfl)
  have o := yf_og H (cd_wf_op _ wf cc hc h100)
  exact (rg_o s I.1 k144 v o.1 o.2).symm
theorem yf_2 {V : dv_W} {stk env : List Nat} {bs : List (Nat × Bool)} {b0 nl : Nat} (H : ky_K kc kk ka kb rt lo hi g) (J : rp_I b0 nl kc kk ka kb (ky_o kk rt g) stk env bs V) {tS m : Nat} {T : tr_T} (I : sp_I kc n kd pa pb [tS] [T]) (s : gr_same kc kk ka kb kd pa pb) (hm : m < 12) (h0 : rt m ≠ 0) (hγ : ∃ γ : Nat → tr_T, cd_ev (fun o => tr_at (14 + (ky_o kk rt g).getD o 0)) γ (ky_d kk rt g m) = [T]) : ∃ ρ, gr_V n (rg kd kc) pa pb ρ ∧ ρ (rt m - 1) = T := by
  obtain ⟨KW, KA, k9, kp, hg, gg, k144, hr, reach⟩ := id H
  obtain ⟨i1, W, A, i4, i5, i6⟩ := I
  obtain ⟨ρ0, v0, a0⟩ := gr_ex KA (fun i => tr_at (14 + i))
  have wf := (ky_wf H hm (fun z => h0 ((ky_nil H hm).mp z))).1
  obtain ⟨γ, e⟩ := hγ
  obtain ⟨ρ2, v2, a2, e2⟩ := (yl_u H (yl_0 H) J hm h0).2 ρ0 T v0 ⟨γ, by
    rw [← e]
    refine cd_ev_c _ (fun cc hc h100 => ?_) (fun _ _ _ _ => rfl)
    have ho := cd_wf_op _ wf cc hc h100
    have o := yf_og H ho
    show ((ky_o kk rt g).map ρ0).getD (cc - 100) (tr_at 0) = tr_at (14 + (ky_o kk rt g).getD (cc - 100) 0)
    rw [← a0 _ o.1 (Or.inl o.2), List.getD_eq_getElem?_getD, List.getElem?_map, List.getD_eq_getElem?_getD, List.getElem?_eq_getElem ho]
    rfl⟩
  obtain ⟨ρs, vs, _⟩ := gr_ex (rg_A k144 W A) (fun _ => tr_at 0)
  have rm := (hr m hm).1
  refine ⟨fun i => if i < kc then ρ2 i else ρs i, fun i hi' => ?_, ?_⟩
  · by_cases c : i < kc
    · show (if i < kc then ρ2 i else ρs i) = gr_ev (rg kd kc i) (if pa i < kc then ρ2 (pa i) else ρs (pa i)) (if pb i < kc then ρ2 (pb i) else ρs (pb i)) (if i < kc then ρ2 i else ρs i)
      rw [if_pos c]
      obtain ⟨e1, e2', e3⟩ := s i c
      have e := v2 i c
      have k9i := k9 i c
      by_cases c7 : kk i = 7
      · rw [rg_1 ⟨c, by rw [e1]; exact c7⟩, gr_ev_t (by omega) (by omega) (by omega), a2 i c c7, a0 i c (Or.inl c7)]
      · rw [rg_0 (by rw [e1]; omega), e1, e2', e3]
        by_cases cc : gr_cn (kk i)
        · have w := (KW i c).2 cc
          rw [if_pos w.1, if_pos w.2]; exact e
        · by_cases c8 : gr_fr (kk i)
          · rw [gr_ev_f c8]
          · rw [gr_ev_t (by omega) cc c8]
            rw [gr_ev_t (by omega) cc c8] at e; exact e
    · show (if i < kc then ρ2 i else ρs i) = gr_ev (rg kd kc i) (if pa i < kc then ρ2 (pa i) else ρs (pa i)) (if pb i < kc then ρ2 (pb i) else ρs (pb i)) (if i < kc then ρ2 i else ρs i)
      rw [if_neg c]
      have e := vs i hi'
      obtain ⟨q1, q2⟩ := i4 i (by omega) hi'
      have er : rg kd kc i = kd i := rg_0 (by omega)
      rw [er] at e ⊢
      by_cases cc : gr_cn (kd i)
      · have w := q2 cc
        rw [if_neg (by omega), if_neg (by omega)]; exact e
      · rw [gr_ev_t (by omega) cc (by omega)] at e ⊢
        exact e
  · show (if rt m - 1 < kc then ρ2 (rt m - 1) else ρs (rt m - 1)) = T
    rw [if_pos (by omega)]; exact e2
end
