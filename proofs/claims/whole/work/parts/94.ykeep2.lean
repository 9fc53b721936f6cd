/-! keeping, node by node -/
/-- a copy asked for: it is there (a variable), or it is new -/
def kp_SA (kd : Nat → Nat) (m : Nat) (kk src : Nat → Nat) (r m' : Nat) (kk' src' : Nat → Nat) (a : Nat) : Prop :=
  (m' = m ∧ kk' = kk ∧ src' = src ∧ a < m ∧ src a = r ∧ gr_fr (kd r)) ∨ (m' = m + 1 ∧ a = m ∧ kk' = gr_u kk m (kd r) ∧ src' = gr_u src m r ∧ (gr_fr (kd r) → ∀ k, k < m → src k ≠ r))
section
variable {kd pa pb : Nat → Nat} {n m : Nat} {g : Nat → tr_T} {kk ka kb src : Nat → Nat}
theorem kp_SAi {P : List Nat} {r m' a : Nat} {kk' src' : Nat → Nat} (I : kp_I n kd pa pb m kk ka kb src P) (s : kp_SA kd m kk src r m' kk' src' a) (hr : r < n) (h1 : kd r ≠ 1000) : ∃ Q, kp_I n kd pa pb m' kk' ka kb src' Q ∧ (∀ j, j ∈ Q → j ∈ P ∨ j = a) ∧ (∀ j, j ∈ P → j ∈ Q) ∧ a < m' ∧ src' a = r ∧ kk' a = kd r ∧ m ≤ m' ∧ m' ≤ m + 1 ∧ (∀ j, j < m → kk' j = kk j ∧ src' j = src j) ∧ (∀ j, m ≤ j → j < m' → j = a) ∧ (a < m → gr_fr (kk' a)) := by
  rcases s with ⟨e1, e2, e3, h2, h3, h4⟩ | ⟨e1, e2, e3, e4, h2⟩
  · subst e1 e2 e3
    have q := (I.1 a h2).2.2
    rw [h3] at q
    exact ⟨P, I, fun j hj => Or.inl hj, fun j hj => hj, h2, h3, q, Nat.le_refl _, by omega, fun j _ => ⟨rfl, rfl⟩, fun j h5 h6 => by omega, fun _ => by rw [q]; exact h4⟩
  · subst e1 e2 e3 e4
    refine ⟨a :: P, kp_new I hr h1 h2, fun j hj => (List.mem_cons.mp hj).elim Or.inr Or.inl, fun j hj => List.mem_cons_of_mem _ hj, by omega, gr_us, gr_us, by omega, Nat.le_refl _, fun j hj => ⟨gr_un (by omega), gr_un (by omega)⟩, fun j h5 h6 => by omega, fun z => by omega⟩
theorem kq_two {Lb : Nat → Prop} {lo r0 s0 T q k t ra rb m1 m2 a b : Nat} {PP : List (Nat × Nat)} {kk1 src1 kk2 src2 kk0 ka0 kb0 src0 : Nat → Nat} (W : gr_W n kd pa pb) (hg : gr_V n kd pa pb g) (gg : gr_gen n kd g) (I : kq_I n kd pa pb g Lb lo r0 s0 T q m kk ka kb src ((t, k) :: PP) kk0 ka0 kb0 src0) (hc : gr_cn (kk k)) (h5 : 5 ≤ kk k) (sa : kp_SA kd m kk src ra m1 kk1 src1 a) (sb : kp_SA kd m1 kk1 src1 rb m2 kk2 src2 b) (ta : gr_to kd pa (pa t) ra) (tb : gr_to kd pa (pb t) rb) :
    kq_I n kd pa pb g Lb lo r0 s0 T (q + 1) m2 kk2 (gr_u ka k a) (gr_u kb k b) src2 ((rb, b) :: (ra, a) :: PP) kk0 ka0 kb0 src0 := by
  obtain ⟨i1, i2, i3, i4, i5, i6, i7, i8, i9⟩ := I
  obtain ⟨p1, p2, p3⟩ := i3 (t, k) List.mem_cons_self
  have p1 : src k = t := p1
  have p2 : k < m := p2
  obtain ⟨u1, u2, u3⟩ := i1.1 k p2
  rw [p1] at u1 u2 u3
  have hct : gr_cn (kd t) := u3 ▸ hc
  have w := (W t u1).2 hct
  have ran := gr_to_n W ta w.1
  have rbn := gr_to_n W tb w.2
  obtain ⟨Q1, q1, q2, q3, q4, q5, q6, q7, q8, q9, q10, q11⟩ := kp_SAi i1 sa ran ta.1
  obtain ⟨Q2, z1, z2, z3, z4, z5, z6, z7, z8, z9, z10, z11⟩ := kp_SAi q1 sb rbn tb.1
  obtain ⟨nd1, nd2⟩ := List.pairwise_cons.mp i4
  have kP : k ∉ PP.map Prod.snd := fun z => nd1 k z rfl hc
  have ka2 : kk2 a = kd ra := by rw [(z9 a q4).1, q6]
  have sa2 : src2 a = ra := by rw [(z9 a q4).2, q5]
  have fa : a < m → gr_fr (kk2 a) := fun z => by rw [(z9 a q4).1]; exact q11 z
  have fb : b < m → gr_fr (kk2 b) := fun z => z11 (by omega)
  have kk2k : ∀ j, j < m → kk2 j = kk j := fun j hj => by rw [(z9 j (by omega)).1, (q9 j hj).1]
  have src2k : ∀ j, j < m → src2 j = src j := fun j hj => by rw [(z9 j (by omega)).2, (q9 j hj).2]
  have ka' : k ≠ a := fun e => by
    have f := fa (by omega)
    rw [← e, kk2k k p2] at f
    omega
  have kb' : k ≠ b := fun e => by
    have f := fb (by omega)
    rw [← e, kk2k k p2] at f
    omega
  -- general variables stay within the name
  have t34 : ¬ (kd t = 3 ∨ kd t = 4) := by omega
  have epre : tr_pre (g t) = kd t :: (tr_pre (g (pa t)) ++ tr_pre (g (pb t))) := by rw [gr_Vc hg u1 hct, tr_pre_con, if_neg t34]
  have lba : ∀ c, c ∈ tr_pre (g ra) → Lb c := fun c hcc => p3 c (by
    show c ∈ tr_pre (g t)
    rw [epre]
    refine List.mem_cons_of_mem _ (List.mem_append_left _ ?_)
    rw [gr_to_V W hg ta w.1]; exact hcc)
  have lbb : ∀ c, c ∈ tr_pre (g rb) → Lb c := fun c hcc => p3 c (by
    show c ∈ tr_pre (g t)
    rw [epre]
    refine List.mem_cons_of_mem _ (List.mem_append_right _ ?_)
    rw [gr_to_V W hg tb w.2]; exact hcc)
  have lo' := i2.2.1
  have own : ∀ j r, r < n → (j < m → gr_fr (kk2 j)) → src2 j = r → kk2 j = kd r → (∀ c, c ∈ tr_pre (g r) → Lb c) → kk2 j = 7 ∨ lo ≤ j := by
    intro j r rn f e1 e2 e3
    by_cases z : lo ≤ j
    · exact Or.inr z
    · have jm : j < m := by omega
      rcases f jm with c7 | c8
      · exact Or.inl c7
      · refine (i7 j (by omega) (by rw [← kk2k j jm]; exact c8) ?_).elim
        rw [← src2k j jm, e1]
        refine e3 _ ?_
        rw [gg r rn (Or.inr (by rw [← e2]; exact c8)), tr_pre_at]
        exact List.mem_cons_self
  have oa := own a ra ran fa sa2 ka2 lba
  have ob := own b rb rbn fb z5 z6 lbb
  have Pm : ∀ j, j ∈ PP.map Prod.snd → j < m := fun j hj => i1.2.2.2 j (List.mem_cons_of_mem _ hj)
  have newj : ∀ j, m ≤ j → j < m2 → j = a ∨ j = b := fun j j1 j2 => by
    by_cases z : j < m1
    · exact Or.inl (q10 j j1 z)
    · exact Or.inr (z10 j (by omega) j2)
  have nP : k ∉ b :: a :: PP.map Prod.snd := fun z => by
    rcases List.mem_cons.mp z with e | e
    · exact kb' e
    · rcases List.mem_cons.mp e with e | e
      · exact ka' e
      · exact kP e
  refine ⟨?_, ?_, fun p hp => ?_, ?_, ?_, ?_, fun j hj => ?_, fun j hj => ?_, by rw [src2k r0 i2.1.1]; exact i9⟩
  · refine kp_set (P := b :: a :: PP.map Prod.snd) z1 (fun j hj => ?_) (by omega) nP (by omega) z4 (by rw [src2k k p2, p1, sa2]; exact ta) (by rw [src2k k p2, p1, z5]; exact tb) (fun e => by rw [kk2k k p2] at e; omega) (fun j hj => ?_)
    · rcases z2 j hj with e | e
      · rcases q2 j e with e | e
        · rcases List.mem_cons.mp e with e | e
          · exact Or.inl e
          · exact Or.inr (Or.inl (List.mem_cons_of_mem _ (List.mem_cons_of_mem _ e)))
        · exact Or.inr (Or.inl (by rw [e]; exact List.mem_cons_of_mem _ List.mem_cons_self))
      · exact Or.inr (Or.inl (by rw [e]; exact List.mem_cons_self))
    · rcases List.mem_cons.mp hj with e | e
      · omega
      · rcases List.mem_cons.mp e with e | e
        · omega
        · have := Pm j e; omega
  · refine kp_Nset (P' := b :: a :: PP.map Prod.snd) i2 (by omega) kk2k p2 hc nP (fun j hj => List.mem_cons_of_mem _ (List.mem_cons_of_mem _ hj)) (fun j hj => ?_) Pm (fun j j1 j2 => ⟨newj j j1 j2, ?_⟩) oa ob (fun z y => by have := fa z; omega) (fun z y => by have := fb z; omega)
    · rcases List.mem_cons.mp hj with e | e
      · exact Or.inr (Or.inr e)
      · rcases List.mem_cons.mp e with e | e
        · exact Or.inr (Or.inl e)
        · exact Or.inl e
    · rcases newj j j1 j2 with e | e
      · rw [e]; exact List.mem_cons_of_mem _ List.mem_cons_self
      · rw [e]; exact List.mem_cons_self
  · rcases List.mem_cons.mp hp with e | e
    · rw [e]; exact ⟨z5, z4, lbb⟩
    · rcases List.mem_cons.mp e with e | e
      · rw [e]; exact ⟨sa2, by show a < m2; omega, lba⟩
      · obtain ⟨y1, y2, y3⟩ := i3 p (List.mem_cons_of_mem _ e)
        exact ⟨by rw [src2k _ y2]; exact y1, by omega, y3⟩
  · have base : ∀ y z, y ∈ PP.map Prod.snd → (y = z → ¬ gr_cn (kk y)) → (y = z → ¬ gr_cn (kk2 y)) := fun y z hy h e => by rw [kk2k y (Pm y hy)]; exact h e
    refine List.pairwise_cons.mpr ⟨fun y hy e c => ?_, List.pairwise_cons.mpr ⟨fun y hy e c => ?_, nd2.imp_of_mem (fun {y z} hy _ h => base y z hy h)⟩⟩
    · have c : gr_cn (kk2 b) := c
      have e : b = y := e
      have bm : ¬ b < m := fun z => by have := fb z; omega
      rcases List.mem_cons.mp hy with e' | e'
      · have e2 : b = a := e.trans e'
        by_cases z : b < m1
        · have := z11 z; omega
        · omega
      · have := Pm y e'; omega
    · have c : gr_cn (kk2 a) := c
      have e : a = y := e
      have am : ¬ a < m := fun z => by have := fa z; omega
      have := Pm y hy
      omega
  · rw [List.length_cons, List.length_cons]
    rw [List.length_cons] at i5
    omega
  · have e1 : kz g ((t, k) :: PP) = (tr_pre (g t)).length + kz g PP := rfl
    have e2 : kz g ((rb, b) :: (ra, a) :: PP) = (tr_pre (g rb)).length + ((tr_pre (g ra)).length + kz g PP) := rfl
    rw [e1, epre, List.length_cons, List.length_append] at i6
    rw [e2, ← gr_to_V W hg ta w.1, ← gr_to_V W hg tb w.2]
    omega
  · intro c8
    rw [kk2k j (by omega)] at c8
    rw [src2k j (by omega)]
    exact i7 j hj c8
  · have klo : ¬ k < lo := fun z => by
      rcases i2.2.2.1 k (by simp) with e | e
      · omega
      · omega
    rw [kk2k j (by omega), src2k j (by omega), gr_un (by omega), gr_un (by omega)]
    exact i8 j hj
theorem kq_one {Lb : Nat → Prop} {lo r0 s0 T q k t ra m1 a : Nat} {PP : List (Nat × Nat)} {kk1 src1 kk0 ka0 kb0 src0 : Nat → Nat} (W : gr_W n kd pa pb) (hp34 : pb t = pa t) (hg : gr_V n kd pa pb g) (gg : gr_gen n kd g) (I : kq_I n kd pa pb g Lb lo r0 s0 T q m kk ka kb src ((t, k) :: PP) kk0 ka0 kb0 src0) (hc : gr_cn (kk k)) (h5 : kk k ≤ 4) (sa : kp_SA kd m kk src ra m1 kk1 src1 a) (ta : gr_to kd pa (pa t) ra) :
    kq_I n kd pa pb g Lb lo r0 s0 T (q + 1) m1 kk1 (gr_u ka k a) (gr_u kb k a) src1 ((ra, a) :: PP) kk0 ka0 kb0 src0 := by
  obtain ⟨i1, i2, i3, i4, i5, i6, i7, i8, i9⟩ := I
  obtain ⟨p1, p2, p3⟩ := i3 (t, k) List.mem_cons_self
  have p1 : src k = t := p1
  have p2 : k < m := p2
  obtain ⟨u1, u2, u3⟩ := i1.1 k p2
  rw [p1] at u1 u2 u3
  have hct : gr_cn (kd t) := u3 ▸ hc
  have w := (W t u1).2 hct
  have ran := gr_to_n W ta w.1
  obtain ⟨Q1, q1, q2, q3, q4, q5, q6, q7, q8, q9, q10, q11⟩ := kp_SAi i1 sa ran ta.1
  obtain ⟨nd1, nd2⟩ := List.pairwise_cons.mp i4
  have kP : k ∉ PP.map Prod.snd := fun z => nd1 k z rfl hc
  have fa : a < m → gr_fr (kk1 a) := q11
  have ka' : k ≠ a := fun e => by
    have f := fa (by omega)
    rw [← e, (q9 k p2).1] at f
    omega
  have t34 : kd t = 3 ∨ kd t = 4 := by omega
  have epre : tr_pre (g t) = kd t :: tr_pre (g (pa t)) := by rw [gr_Vc hg u1 hct, tr_pre_con, if_pos t34]
  have lba : ∀ c, c ∈ tr_pre (g ra) → Lb c := fun c hcc => p3 c (by
    show c ∈ tr_pre (g t)
    rw [epre]
    refine List.mem_cons_of_mem _ ?_
    rw [gr_to_V W hg ta w.1]; exact hcc)
  have lo' := i2.2.1
  have oa : kk1 a = 7 ∨ lo ≤ a := by
    by_cases z : lo ≤ a
    · exact Or.inr z
    · have jm : a < m := by omega
      rcases fa jm with c7 | c8
      · exact Or.inl c7
      · refine (i7 a (by omega) (by rw [← (q9 a jm).1]; exact c8) ?_).elim
        rw [← (q9 a jm).2, q5]
        refine lba _ ?_
        rw [gg ra ran (Or.inr (by rw [← q6]; exact c8)), tr_pre_at]
        exact List.mem_cons_self
  have Pm : ∀ j, j ∈ PP.map Prod.snd → j < m := fun j hj => i1.2.2.2 j (List.mem_cons_of_mem _ hj)
  have nP : k ∉ a :: PP.map Prod.snd := fun z => by
    rcases List.mem_cons.mp z with e | e
    · exact ka' e
    · exact kP e
  refine ⟨?_, ?_, fun p hp => ?_, ?_, ?_, ?_, fun j hj => ?_, fun j hj => ?_, by rw [(q9 r0 i2.1.1).2]; exact i9⟩
  · refine kp_set (P := a :: PP.map Prod.snd) q1 (fun j hj => ?_) (by omega) nP q4 q4 (by rw [(q9 k p2).2, p1, q5]; exact ta) (by rw [(q9 k p2).2, p1, q5, hp34]; exact ta) (fun _ => rfl) (fun j hj => ?_)
    · rcases q2 j hj with e | e
      · rcases List.mem_cons.mp e with e | e
        · exact Or.inl e
        · exact Or.inr (Or.inl (List.mem_cons_of_mem _ e))
      · exact Or.inr (Or.inl (by rw [e]; exact List.mem_cons_self))
    · rcases List.mem_cons.mp hj with e | e
      · omega
      · have := Pm j e; omega
  · refine kp_Nset (P' := a :: PP.map Prod.snd) i2 (by omega) (fun j hj => (q9 j hj).1) p2 hc nP (fun j hj => List.mem_cons_of_mem _ hj) (fun j hj => ?_) Pm (fun j j1 j2 => ⟨Or.inl (q10 j j1 j2), by rw [q10 j j1 j2]; exact List.mem_cons_self⟩) oa oa (fun z y => by have := fa z; omega) (fun z y => by have := fa z; omega)
    rcases List.mem_cons.mp hj with e | e
    · exact Or.inr (Or.inl e)
    · exact Or.inl e
  · rcases List.mem_cons.mp hp with e | e
    · rw [e]; exact ⟨q5, q4, lba⟩
    · obtain ⟨y1, y2, y3⟩ := i3 p (List.mem_cons_of_mem _ e)
      exact ⟨by rw [(q9 _ y2).2]; exact y1, by omega, y3⟩
  · have base : ∀ y z, y ∈ PP.map Prod.snd → (y = z → ¬ gr_cn (kk y)) → (y = z → ¬ gr_cn (kk1 y)) := fun y z hy h e => by rw [(q9 y (Pm y hy)).1]; exact h e
    refine List.pairwise_cons.mpr ⟨fun y hy e c => ?_, nd2.imp_of_mem (fun {y z} hy _ h => base y z hy h)⟩
    have c : gr_cn (kk1 a) := c
    have e : a = y := e
    have am : ¬ a < m := fun z => by have := fa z; omega
    have := Pm y hy
    omega
  · rw [List.length_cons]
    rw [List.length_cons] at i5
    omega
  · have e1 : kz g ((t, k) :: PP) = (tr_pre (g t)).length + kz g PP := rfl
    have e2 : kz g ((ra, a) :: PP) = (tr_pre (g ra)).length + kz g PP := rfl
    rw [e1, epre, List.length_cons] at i6
    rw [e2, ← gr_to_V W hg ta w.1]
    omega
  · intro c8
    rw [(q9 j (by omega)).1] at c8
    rw [(q9 j (by omega)).2]
    exact i7 j hj c8
  · have klo : ¬ k < lo := fun z => by
      rcases i2.2.2.1 k (by simp) with e | e
      · omega
      · omega
    rw [(q9 j (by omega)).1, (q9 j (by omega)).2, gr_un (by omega), gr_un (by omega)]
    exact i8 j hj
theorem kq_done {Lb : Nat → Prop} {lo r0 s0 T q k t : Nat} {PP : List (Nat × Nat)} {kk0 ka0 kb0 src0 : Nat → Nat} (hz : 1 ≤ (tr_pre (g t)).length) (I : kq_I n kd pa pb g Lb lo r0 s0 T q m kk ka kb src ((t, k) :: PP) kk0 ka0 kb0 src0) (hc : ¬ gr_cn (kk k)) : kq_I n kd pa pb g Lb lo r0 s0 T (q + 1) m kk ka kb src PP kk0 ka0 kb0 src0 := by
  obtain ⟨i1, i2, i3, i4, i5, i6, i7, i8, i9⟩ := I
  refine ⟨kp_done i1 hc, kp_Ndone i2 hc, fun p hp => i3 p (List.mem_cons_of_mem _ hp), (List.pairwise_cons.mp i4).2, ?_, ?_, i7, i8, i9⟩
  · rw [List.length_cons] at i5; omega
  · have e1 : kz g ((t, k) :: PP) = (tr_pre (g t)).length + kz g PP := rfl
    rw [e1] at i6
    omega
end
