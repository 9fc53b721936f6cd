/-! keeping: a graph copied out of another one, src the node that each copy stands for -/
def kp_F (n : Nat) (kd pa pb : Nat → Nat) (m : Nat) (kk ka kb src : Nat → Nat) : Prop :=
  (∀ k, k < m → src k < n ∧ kd (src k) ≠ 1000 ∧ kk k = kd (src k)) ∧
  (∀ k, k < m → gr_cn (kk k) → ka k < m ∧ kb k < m ∧ gr_to kd pa (pa (src k)) (src (ka k)) ∧ gr_to kd pa (pb (src k)) (src (kb k)) ∧ (kk k ≤ 4 → kb k = ka k)) ∧
  (∀ k k', k < m → k' < m → gr_fr (kk k) → src k = src k' → k = k')
def kp_c (kd : Nat → Nat) (c : Nat) : Bool := decide (kd (c - 1001) = 8)
def kp_p (src : Nat → Nat) (c : Nat) : Nat := if c < 1001 then c else 1001 + src (c - 1001)
def kp_L (rt src : Nat → Nat) (g : Nat → tr_T) (v : Nat) : List Nat := if rt v = 0 then [] else tr_pre (g (src (rt v - 1)))
section
variable {n m : Nat} {kd pa pb kk ka kb src rt lo hi : Nat → Nat} {g : Nat → tr_T}
theorem kp_W (F : kp_F n kd pa pb m kk ka kb src) : gr_W m kk ka kb := by
  intro k hk
  obtain ⟨f1, f2, f3⟩ := F
  refine ⟨fun z => ?_, fun z => ?_⟩
  · have := f1 k hk
    omega
  · have := f2 k hk z
    exact ⟨this.1, this.2.1⟩
theorem kp_H (F : kp_F n kd pa pb m kk ka kb src) : ∀ f k, k < m → gr_H kd pa pb f (src k) → gr_H kk ka kb f k := by
  intro f
  induction f with
  | zero => intro k _ z; exact z
  | succ f ih =>
    intro k hk h
    obtain ⟨f1, f2, f3⟩ := id F
    obtain ⟨a1, a2, a3⟩ := f1 k hk
    refine ⟨fun z => ?_, fun z => ?_⟩
    · omega
    · obtain ⟨b1, b2, b3, b4, _⟩ := f2 k hk z
      rw [a3] at z
      exact ⟨ih _ b1 (gr_H_to b3 (h.2 z).1), ih _ b2 (gr_H_to b4 (h.2 z).2)⟩
theorem kp_A (F : kp_F n kd pa pb m kk ka kb src) (A : gr_A n kd pa pb) : gr_A m kk ka kb := by
  intro k hk
  obtain ⟨f, h⟩ := A _ (F.1 k hk).1
  exact ⟨f, kp_H F f k hk h⟩
theorem kp_V (F : kp_F n kd pa pb m kk ka kb src) (W : gr_W n kd pa pb) {ρ : Nat → tr_T} (h : gr_V n kd pa pb ρ) : gr_V m kk ka kb (fun k => ρ (src k)) := by
  obtain ⟨f1, f2, f3⟩ := F
  refine gr_Vi fun k hk => ?_
  obtain ⟨a1, a2, a3⟩ := f1 k hk
  refine ⟨fun z => by omega, fun z => ?_, fun z1 z2 z3 => ?_⟩
  · obtain ⟨b1, b2, b3, b4, _⟩ := f2 k hk z
    rw [a3] at z ⊢
    have w := (W _ a1).2 z
    show ρ (src k) = tr_con (kd (src k)) (ρ (src (ka k))) (ρ (src (kb k)))
    rw [gr_Vc h a1 z, gr_to_V W h b3 w.1, gr_to_V W h b4 w.2]
  · rw [a3] at z1 z2 z3 ⊢
    exact gr_Vt h a1 z1 z2 z3
theorem kp_ren (F : kp_F n kd pa pb m kk ka kb src) (W : gr_W n kd pa pb) (A : gr_A n kd pa pb) (hk : ∀ i, i < n → kd i < 9 ∨ kd i = 1000) (hg : gr_V n kd pa pb g) (gg : gr_gen n kd g) {gK : Nat → tr_T} (hK : gr_V m kk ka kb gK) (gK' : gr_gen m kk gK) {k : Nat} (hm : k < m) : tr_pre (g (src k)) = (tr_pre (gK k)).map (kp_p src) := by
  have k9 : ∀ i, i < m → kk i ≤ 1000 := fun i hi => by
    obtain ⟨a1, a2, a3⟩ := F.1 i hi
    have := hk _ a1
    omega
  obtain ⟨f, hf⟩ := kp_A F A k hm
  refine fl_ren (ρ := fun k => g (src k)) (kp_W F) k9 hK gK' (kp_V F W hg) (fun c h => if_pos h) hm hf (fun j hj => ?_)
  show g (src j) = tr_at (kp_p src (1001 + j))
  have e : kp_p src (1001 + j) = 1001 + src j := by
    unfold kp_p
    rw [if_neg (by omega), Nat.add_sub_cancel_left]
  rw [e]
  rcases fl_in k9 hK gK' (gr_Ca (kp_W F)) f k hm hf _ hj with z | ⟨j', e', hj', c⟩
  · omega
  · have : j' = j := by omega
    rw [this] at hj' c
    obtain ⟨a1, a2, a3⟩ := F.1 j hj'
    rw [a3] at c
    exact gg _ a1 c
/-- what is kept, and its codes -/
theorem kp_K (F : kp_F n kd pa pb m kk ka kb src) (W : gr_W n kd pa pb) (A : gr_A n kd pa pb) (hk : ∀ i, i < n → kd i < 9 ∨ kd i = 1000) (hg : gr_V n kd pa pb g) (gg : gr_gen n kd g) (h144 : m ≤ 144)
    (hv : ∀ v, v < 12 → rt v ≤ m ∧ hi v ≤ lo v + 12 ∧ hi v ≤ m ∧ (kp_L rt src g v).length ≤ 12 ∧ (rt v ≠ 0 → kk (rt v - 1) = 7 ∨ (lo v ≤ rt v - 1 ∧ rt v - 1 < hi v)) ∧ ∀ i, lo v ≤ i → i < hi v → gr_cn (kk i) → (kk (ka i) = 7 ∨ (lo v ≤ ka i ∧ ka i < hi v)) ∧ (kk (kb i) = 7 ∨ (lo v ≤ kb i ∧ kb i < hi v)))
    (reach : ∀ S : Nat → Prop, gr_C m kk ka kb S → (∀ v, v < 12 → rt v ≠ 0 → S (rt v - 1)) → ∀ i, i < m → S i) :
    ∃ gK, ky_K m kk ka kb rt lo hi gK ∧ (∀ v, v < 12 → ky_d kk rt gK v = nm_d (kp_c kd) (kp_L rt src g) v) ∧ (ky_o kk rt gK).length = (nm_S (kp_c kd) (kp_L rt src g) 12).length ∧ ∀ v, v < 12 → kp_L rt src g v = (ky_L rt gK v).map (kp_p src) := by
  have KW := kp_W F
  have KA := kp_A F A
  obtain ⟨gK, hK, gK'⟩ := gr_ex KA (fun i => tr_at (1001 + i))
  have k9 : ∀ i, i < m → kk i < 9 := fun i hi => by
    obtain ⟨a1, a2, a3⟩ := F.1 i hi
    have := hk _ a1
    omega
  have ren := fun k (hm : k < m) => kp_ren F W A hk hg gg hK gK' hm
  have eL : ∀ v, v < 12 → kp_L rt src g v = (ky_L rt gK v).map (kp_p src) := by
    intro v h12
    unfold kp_L ky_L
    by_cases z : rt v = 0
    · rw [if_pos z, if_pos z]; rfl
    · rw [if_neg z, if_neg z]
      exact ren _ (by have := (hv v h12).1; omega)
  have H : ky_K m kk ka kb rt lo hi gK := by
    refine ⟨KW, KA, k9, fun i hi c => ?_, hK, gK', h144, fun v h12 => ?_, reach⟩
    · exact (F.2.1 i hi (by omega)).2.2.2.2 (by omega)
    · obtain ⟨h1, h2, h3, h4, h5⟩ := hv v h12
      refine ⟨h1, h2, h3, ?_, h5⟩
      rw [eL v h12, List.length_map] at h4
      exact h4
  have inn := fun v c (h12 : v < 12) hc => ky_in H (v := v) (c := c) h12 hc
  have pv : ∀ j, kp_p src (1001 + j) = 1001 + src j := by
    intro j
    unfold kp_p
    rw [if_neg (by omega), Nat.add_sub_cancel_left]
  have cls : ∀ v, v < 12 → ∀ x, x ∈ ky_L rt gK v → (x < 7 ∧ kp_p src x = x) ∨ (7 ≤ x ∧ 7 ≤ kp_p src x ∧ kp_c kd (kp_p src x) = ky_c kk x) := by
    intro v h12 x hx
    rcases inn v x h12 hx with z | ⟨j, e, hj, c⟩
    · exact Or.inl ⟨z, if_pos (by omega)⟩
    · refine Or.inr ⟨by omega, ?_, ?_⟩
      · rw [e, pv]; omega
      · rw [e, pv]
        unfold kp_c ky_c
        rw [Nat.add_sub_cancel_left, Nat.add_sub_cancel_left, (F.1 j hj).2.2]
  have inj : ∀ v w, v < 12 → w < 12 → ∀ x y, x ∈ ky_L rt gK v → y ∈ ky_L rt gK w → 7 ≤ x → 7 ≤ y → kp_p src x = kp_p src y → x = y := by
    intro v w h12 h12' x y hx hy h7 h7' e
    rcases inn v x h12 hx with z | ⟨j, e1, hj, c⟩
    · omega
    · rcases inn w y h12' hy with z | ⟨j', e1', hj', c'⟩
      · omega
      · rw [e1, e1', pv, pv] at e
        have := F.2.2 j j' hj hj' c (by omega)
        omega
  have q := nm_inv (cl := ky_c kk) (cl' := kp_c kd) (L := ky_L rt gK) (L' := kp_L rt src g) (π := fun _ => kp_p src) (N := 12) eL cls (fun v h12 x y hx hy h7 h7' _ _ e => inj v v h12 h12 x y hx hy h7 h7' e) (fun v w h12 h12' x y hx hy h7 h7' _ _ => ⟨fun e => by rw [e], fun e => inj v w h12 h12' x y hx hy h7 h7' e⟩)
  refine ⟨gK, H, fun v h12 => (q.1 v h12).symm, ?_, eL⟩
  unfold ky_o
  rw [List.length_map, q.2]
end
/-! while it is being made: P the copies whose parts are still to come -/
def kp_I (n : Nat) (kd pa pb : Nat → Nat) (m : Nat) (kk ka kb src : Nat → Nat) (P : List Nat) : Prop :=
  (∀ k, k < m → src k < n ∧ kd (src k) ≠ 1000 ∧ kk k = kd (src k)) ∧
  (∀ k, k < m → k ∉ P → gr_cn (kk k) → ka k < m ∧ kb k < m ∧ gr_to kd pa (pa (src k)) (src (ka k)) ∧ gr_to kd pa (pb (src k)) (src (kb k)) ∧ (kk k ≤ 4 → kb k = ka k)) ∧
  (∀ k k', k < m → k' < m → gr_fr (kk k) → src k = src k' → k = k') ∧ ∀ k, k ∈ P → k < m
/-- within one name: r its root, lo its first copy -/
def kp_N (lo r m : Nat) (kk ka kb : Nat → Nat) (P : List Nat) : Prop :=
  (r < m ∧ (kk r = 7 ∨ lo ≤ r)) ∧ lo ≤ m ∧ (∀ k, k ∈ P → kk k = 7 ∨ lo ≤ k) ∧
  (∀ k, lo ≤ k → k < m → k ∉ P → gr_cn (kk k) → (kk (ka k) = 7 ∨ lo ≤ ka k) ∧ (kk (kb k) = 7 ∨ lo ≤ kb k)) ∧
  (∀ S : Nat → Prop, S r → (∀ k, k < m → k ∉ P → gr_cn (kk k) → S k → S (ka k) ∧ S (kb k)) → ∀ k, (lo ≤ k ∧ k < m) ∨ k ∈ P → S k)
section
variable {n m : Nat} {kd pa pb kk ka kb src : Nat → Nat} {P : List Nat}
/-- a new copy -/
theorem kp_new (I : kp_I n kd pa pb m kk ka kb src P) {r : Nat} (hr : r < n) (h1 : kd r ≠ 1000) (hf : gr_fr (kd r) → ∀ k, k < m → src k ≠ r) : kp_I n kd pa pb (m + 1) (gr_u kk m (kd r)) ka kb (gr_u src m r) (m :: P) := by
  obtain ⟨i1, i2, i3, i4⟩ := I
  refine ⟨fun k hk => ?_, fun k hk hP hc => ?_, fun k k' hk hk' hc e => ?_, fun k hk => ?_⟩
  · by_cases c : k = m
    · rw [c, gr_us, gr_us]; exact ⟨hr, h1, rfl⟩
    · rw [gr_un c, gr_un c]; exact i1 k (by omega)
  · have c : k ≠ m := fun e => hP (by rw [e]; exact List.mem_cons_self)
    rw [gr_un c] at hc ⊢
    rw [gr_un c]
    obtain ⟨b1, b2, b3, b4, b5⟩ := i2 k (by omega) (fun z => hP (List.mem_cons_of_mem _ z)) hc
    rw [gr_un (by omega), gr_un (by omega)]
    exact ⟨by omega, by omega, b3, b4, b5⟩
  · by_cases c : k = m
    · by_cases c' : k' = m
      · omega
      · rw [c, gr_us] at hc
        rw [c, gr_us, gr_un c'] at e
        exact (hf hc k' (by omega) e.symm).elim
    · by_cases c' : k' = m
      · rw [gr_un c] at hc
        rw [c', gr_us, gr_un c] at e
        have := i1 k (by omega)
        rw [this.2.2, e] at hc
        exact (hf hc k (by omega) e).elim
      · rw [gr_un c] at hc
        rw [gr_un c, gr_un c'] at e
        exact i3 k k' (by omega) (by omega) hc e
  · rcases List.mem_cons.mp hk with z | z
    · omega
    · have := i4 k z
      omega
/-- one that needs no parts is done -/
theorem kp_done {k : Nat} (I : kp_I n kd pa pb m kk ka kb src (k :: P)) (hc : ¬ gr_cn (kk k)) : kp_I n kd pa pb m kk ka kb src P := by
  obtain ⟨i1, i2, i3, i4⟩ := I
  refine ⟨i1, fun j hj hP h => ?_, i3, fun j hj => i4 j (List.mem_cons_of_mem _ hj)⟩
  by_cases c : j = k
  · rw [c] at h; exact (hc h).elim
  · exact i2 j hj (fun z => (List.mem_cons.mp z).elim c hP) h
/-- its parts are there -/
theorem kp_set {k a b : Nat} {Q : List Nat} (I : kp_I n kd pa pb m kk ka kb src Q) (hQ : ∀ j, j ∈ Q → j = k ∨ j ∈ P ∨ ¬ gr_cn (kk j)) (hk : k < m) (hkP : k ∉ P) (ha : a < m) (hb : b < m) (ta : gr_to kd pa (pa (src k)) (src a)) (tb : gr_to kd pa (pb (src k)) (src b)) (he : kk k ≤ 4 → b = a) (hP : ∀ j, j ∈ P → j < m) : kp_I n kd pa pb m kk (gr_u ka k a) (gr_u kb k b) src P := by
  obtain ⟨i1, i2, i3, i4⟩ := I
  refine ⟨i1, fun j hj hjP h => ?_, i3, hP⟩
  by_cases c : j = k
  · rw [c, gr_us, gr_us]; exact ⟨ha, hb, ta, tb, he⟩
  · rw [gr_un c, gr_un c]
    exact i2 j hj (fun z => (hQ j z).elim c (fun z => z.elim hjP (fun z => z h))) h
theorem kp_fin (I : kp_I n kd pa pb m kk ka kb src []) : kp_F n kd pa pb m kk ka kb src :=
  ⟨I.1, fun k hk hc => I.2.1 k hk (by simp) hc, I.2.2.1⟩
theorem kp_Ndone {lo r k : Nat} (N : kp_N lo r m kk ka kb (k :: P)) (hc : ¬ gr_cn (kk k)) : kp_N lo r m kk ka kb P := by
  obtain ⟨n1, n2, n3, n4, n5⟩ := N
  refine ⟨n1, n2, fun j hj => n3 j (List.mem_cons_of_mem _ hj), fun j h1 h2 hP h => ?_, fun S s0 cl j hj => ?_⟩
  · by_cases c : j = k
    · rw [c] at h; exact (hc h).elim
    · exact n4 j h1 h2 (fun z => (List.mem_cons.mp z).elim c hP) h
  · refine n5 S s0 (fun i hi hP h => cl i hi (fun z => hP (List.mem_cons_of_mem _ z)) h) j (hj.elim Or.inl (fun z => Or.inr (List.mem_cons_of_mem _ z)))
theorem kp_Nset {lo r k a b m2 : Nat} {kk2 : Nat → Nat} {P' : List Nat} (N : kp_N lo r m kk ka kb (k :: P)) (hm : m ≤ m2) (hkk : ∀ j, j < m → kk2 j = kk j) (hk : k < m) (hc : gr_cn (kk k)) (hkP : k ∉ P') (hP1 : ∀ j, j ∈ P → j ∈ P') (hP2 : ∀ j, j ∈ P' → j ∈ P ∨ j = a ∨ j = b) (hP3 : ∀ j, j ∈ P → j < m) (hnew : ∀ j, m ≤ j → j < m2 → (j = a ∨ j = b) ∧ j ∈ P') (ha : kk2 a = 7 ∨ lo ≤ a) (hb : kk2 b = 7 ∨ lo ≤ b) (ca : a < m → ¬ gr_cn (kk2 a)) (cb : b < m → ¬ gr_cn (kk2 b)) : kp_N lo r m2 kk2 (gr_u ka k a) (gr_u kb k b) P' := by
  obtain ⟨⟨n1, n1'⟩, n2, n3, n4, n5⟩ := N
  refine ⟨⟨by omega, ?_⟩, by omega, fun j hj => ?_, fun j h1 h2 hP h => ?_, fun S s0 cl => ?_⟩
  · rw [hkk r n1]; exact n1'
  · rcases hP2 j hj with z | z | z
    · rw [hkk j (hP3 j z)]; exact n3 j (List.mem_cons_of_mem _ z)
    · rw [z]; exact ha
    · rw [z]; exact hb
  · by_cases c : j = k
    · rw [c, gr_us, gr_us]; exact ⟨ha, hb⟩
    · rw [gr_un c, gr_un c]
      have jm : j < m := Classical.byContradiction fun q => hP (hnew j (by omega) h2).2
      rw [hkk j jm] at h
      have q := n4 j h1 jm (fun z => (List.mem_cons.mp z).elim c (fun z => hP (hP1 j z))) h
      have tr : ∀ x, (kk x = 7 ∨ lo ≤ x) → (kk2 x = 7 ∨ lo ≤ x) := by
        intro x hx
        rcases hx with hx | hx
        · by_cases xm : x < m
          · rw [hkk x xm]; exact Or.inl hx
          · exact Or.inr (by omega)
        · exact Or.inr hx
      exact ⟨tr _ q.1, tr _ q.2⟩
  · have old : ∀ j, (lo ≤ j ∧ j < m) ∨ j ∈ k :: P → S j := by
      refine n5 S s0 (fun j hj hP h sj => ?_)
      have c : j ≠ k := fun e => hP (by rw [e]; exact List.mem_cons_self)
      have q := cl j (by omega) (fun z => ?_) (by rw [hkk j hj]; exact h) sj
      · rw [gr_un c, gr_un c] at q; exact q
      · rcases hP2 j z with y | y | y
        · exact hP (List.mem_cons_of_mem _ y)
        · rw [y] at hj h
          exact ca hj (by rw [hkk a hj]; exact h)
        · rw [y] at hj h
          exact cb hj (by rw [hkk b hj]; exact h)
    have sk := old k (Or.inr List.mem_cons_self)
    have q := cl k (by omega) hkP (by rw [hkk k hk]; exact hc) sk
    rw [gr_us, gr_us] at q
    intro j hj
    have inP : j ∈ P' → S j := fun z => by
      rcases hP2 j z with y | y | y
      · exact old j (Or.inr (List.mem_cons_of_mem _ y))
      · rw [y]; exact q.1
      · rw [y]; exact q.2
    rcases hj with hj | hj
    · by_cases c : j < m
      · exact old j (Or.inl ⟨hj.1, c⟩)
      · exact inP (hnew j (by omega) hj.2).2
    · exact inP hj
end
