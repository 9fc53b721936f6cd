/-! making two nodes equal: what stays true while pairs wait -/
def gr_u (f : Nat → Nat) (a v : Nat) : Nat → Nat := fun j => if j = a then v else f j
theorem gr_us {f : Nat → Nat} {a v : Nat} : gr_u f a v a = v := if_pos rfl
theorem gr_un {f : Nat → Nat} {a v j : Nat} (h : j ≠ a) : gr_u f a v j = f j := if_neg h
/-- every node below n comes to its end within K links -/
def gr_L (n : Nat) (kd pa : Nat → Nat) (K : Nat) : Prop := ∀ i, i < n → kd (gr_f kd pa K i) ≠ 1000
theorem gr_L_to {n K : Nat} {kd pa : Nat → Nat} (h : gr_L n kd pa K) {i : Nat} (hi : i < n) : gr_to kd pa i (gr_f kd pa K i) := ⟨h i hi, K, rfl⟩
theorem gr_f_u {kd pa : Nat → Nat} {a b : Nat} (ha : kd a ≠ 1000) (hb : kd b ≠ 1000) (hab : a ≠ b) : ∀ f i r, gr_f kd pa f i = r → kd r ≠ 1000 → gr_f (gr_u kd a 1000) (gr_u pa a b) (f + 1) i = if r = a then b else r := by
  have base : ∀ f r, kd r ≠ 1000 → gr_f (gr_u kd a 1000) (gr_u pa a b) (f + 1) r = if r = a then b else r := by
    intro f r hr
    by_cases c : r = a
    · rw [if_pos c, c, gr_f_l gr_us, gr_us, gr_f_r (by rw [gr_un (Ne.symm hab)]; exact hb)]
    · rw [if_neg c, gr_f_r (by rw [gr_un c]; exact hr)]
  intro f
  induction f with
  | zero => intro i r h hr; cases h; exact base 0 _ hr
  | succ f ih =>
    intro i r h hr
    by_cases c : kd i = 1000
    · have hia : i ≠ a := fun z => ha (z ▸ c)
      rw [gr_f_l c] at h
      rw [gr_f_l (by rw [gr_un hia]; exact c), gr_un hia]
      exact ih _ _ h hr
    · rw [gr_f_r c] at h
      cases h
      exact base _ _ hr
theorem gr_L_u {n K : Nat} {kd pa : Nat → Nat} {a b : Nat} (h : gr_L n kd pa K) (ha : kd a ≠ 1000) (hb : kd b ≠ 1000) (hab : a ≠ b) : gr_L n (gr_u kd a 1000) (gr_u pa a b) (K + 1) := by
  intro i hi
  rw [gr_f_u ha hb hab K i _ rfl (h i hi)]
  by_cases c : gr_f kd pa K i = a
  · rw [if_pos c, gr_un (Ne.symm hab)]; exact hb
  · rw [if_neg c, gr_un c]; exact h i hi
theorem gr_to_u' {kd pa : Nat → Nat} {a b : Nat} (ha : kd a ≠ 1000) (hb : kd b ≠ 1000) (hab : a ≠ b) {i r : Nat} (h : gr_to kd pa i r) : gr_to (gr_u kd a 1000) (gr_u pa a b) i (if r = a then b else r) := by
  obtain ⟨hr, f, e⟩ := h
  refine ⟨?_, f + 1, gr_f_u ha hb hab f i r e hr⟩
  by_cases c : r = a
  · rw [if_pos c, gr_un (Ne.symm hab)]; exact hb
  · rw [if_neg c, gr_un c]; exact hr
/-- the nodes that stand for themselves, counted -/
def gr_nr (kd : Nat → Nat) : Nat → Nat
  | 0 => 0
  | n + 1 => gr_nr kd n + (if kd n = 1000 then 0 else 1)
theorem gr_nr_c {kd kd' : Nat → Nat} : ∀ n, (∀ i, i < n → kd i = kd' i) → gr_nr kd n = gr_nr kd' n := by
  intro n
  induction n with
  | zero => intro _; rfl
  | succ n ih =>
    intro h
    unfold gr_nr
    rw [ih (fun i hi => h i (by omega)), h n (by omega)]
theorem gr_nr_le {kd : Nat → Nat} : ∀ n, gr_nr kd n ≤ n := by
  intro n
  induction n with
  | zero => exact Nat.le_refl 0
  | succ n ih =>
    unfold gr_nr
    by_cases c : kd n = 1000
    · rw [if_pos c]; omega
    · rw [if_neg c]; omega
theorem gr_nr_u {kd : Nat → Nat} {a : Nat} : ∀ n, a < n → kd a ≠ 1000 → gr_nr (gr_u kd a 1000) n + 1 = gr_nr kd n := by
  intro n
  induction n with
  | zero => intro h; omega
  | succ n ih =>
    intro h ha
    unfold gr_nr
    by_cases c : a = n
    · subst c
      rw [gr_us, if_pos rfl, if_neg ha, gr_nr_c a (kd := gr_u kd a 1000) (kd' := kd) (fun i hi => gr_un (by omega))]
    · rw [gr_un (Ne.symm c)]
      have := ih (by omega) ha
      omega
/-- sets that hold with a node what it stands for, and the other way, and parts, and all leaves -/
def un_S (n : Nat) (kd pa pb : Nat → Nat) (S : Nat → Prop) : Prop :=
  ∀ i, i < n → (kd i = 1000 → (S i ↔ S (pa i))) ∧ (gr_cn (kd i) → S i → S (pa i) ∧ S (pb i)) ∧ (kd i ≠ 1000 → ¬ gr_cn (kd i) → kd i ≠ 7 → S i)
def un_I (n : Nat) (kd0 pa0 pb : Nat → Nat) (M : Nat → Prop) (s t : Nat) (kd pa : Nat → Nat) (L : List (Nat × Nat)) : Prop :=
  gr_W n kd pa pb ∧
  (∀ ρ, (gr_V n kd0 pa0 pb ρ ∧ ρ s = ρ t) ↔ (gr_V n kd pa pb ρ ∧ ∀ p, p ∈ L → ρ p.1 = ρ p.2)) ∧
  (∀ p, p ∈ L → M p.1 ∧ M p.2) ∧ gr_C n kd pa pb M ∧ (∀ i, M i → kd i ≠ 8) ∧
  (∀ i, i < n → kd i = kd0 i ∧ pa i = pa0 i ∨ kd i = 1000 ∧ kd0 i ≠ 1000 ∧ M i) ∧
  (∀ S : Nat → Prop, un_S n kd pa pb S → (∀ p, p ∈ L → (S p.1 ↔ S p.2)) → (S s ∨ S t) → (∀ p, p ∈ L → S p.1) ∧ (∀ i, i < n → kd i ≠ kd0 i → S i) ∧ S s ∧ S t) ∧
  (∀ R : Nat → Nat → Prop, (∀ x, R x x) → (∀ x y, R x y → R y x) → (∀ x y z, R x y → R y z → R x z) → (∀ i j, i < n → j < n → kd0 i = kd0 j → kd0 i ≠ 1000 → ¬ gr_cn (kd0 i) → kd0 i ≠ 7 → R i j) → (∀ i, i < n → kd i = 1000 → R i (pa i)) → (∀ p, p ∈ L → R p.1 p.2) → R s t ∧ ∀ i, i < n → kd i = 1000 → kd0 i ≠ 1000 → kd0 i ≠ 7 → kd0 (pa i) = kd0 i ∧ (gr_cn (kd0 i) → R (pa0 i) (pa0 (pa i)) ∧ R (pb i) (pb (pa i))))
theorem un_Rto {n : Nat} {kd pa pb : Nat → Nat} {R : Nat → Nat → Prop} (W : gr_W n kd pa pb) (r1 : ∀ x, R x x) (r3 : ∀ x y z, R x y → R y z → R x z) (rl : ∀ i, i < n → kd i = 1000 → R i (pa i)) {i r : Nat} (h : gr_to kd pa i r) (hi : i < n) : R i r := by
  have k := gr_to_P h (fun j => j < n ∧ R i j) (fun j hj c => ⟨(W j hj.1).1 c, r3 _ _ _ hj.2 (rl j hj.1 c)⟩) ⟨hi, r1 i⟩
  exact k.2
theorem un_0 {n : Nat} {kd pa pb : Nat → Nat} {M : Nat → Prop} {s t : Nat} (W : gr_W n kd pa pb) (C : gr_C n kd pa pb M) (G : ∀ i, M i → kd i ≠ 8) (hs : M s) (ht : M t) : un_I n kd pa pb M s t kd pa [(s, t)] := by
  refine ⟨W, fun ρ => ?_, fun p hp => ?_, C, G, fun i hi => Or.inl ⟨rfl, rfl⟩, fun S hS hL h0 => ?_, fun R r1 r2 r3 rf rl hR => ⟨hR (s, t) (List.mem_singleton.mpr rfl), fun i hi c c' => (c' c).elim⟩⟩
  · constructor
    · intro h
      refine ⟨h.1, fun p hp => ?_⟩
      rw [List.mem_singleton] at hp
      rw [hp]; exact h.2
    · intro h
      exact ⟨h.1, h.2 (s, t) (List.mem_singleton.mpr rfl)⟩
  · rw [List.mem_singleton] at hp
    rw [hp]; exact ⟨hs, ht⟩
  · have e := hL (s, t) (List.mem_singleton.mpr rfl)
    have es : S s := h0.elim id e.mpr
    refine ⟨fun p hp => ?_, fun i hi z => (z rfl).elim, es, e.mp es⟩
    rw [List.mem_singleton] at hp
    rw [hp]; exact es
/-- the order of the pairs doesn't matter, nor which of a pair is first -/
theorem un_L {n : Nat} {kd0 pa0 pb : Nat → Nat} {M : Nat → Prop} {s t : Nat} {kd pa : Nat → Nat} {L L' : List (Nat × Nat)} (I : un_I n kd0 pa0 pb M s t kd pa L) (h : ∀ p, p ∈ L' → p ∈ L ∨ (p.2, p.1) ∈ L) (h' : ∀ p, p ∈ L → p ∈ L' ∨ (p.2, p.1) ∈ L') : un_I n kd0 pa0 pb M s t kd pa L' := by
  obtain ⟨W, V, P, C, G, D, Q, Q2⟩ := I
  refine ⟨W, fun ρ => (V ρ).trans ?_, fun p hp => ?_, C, G, D, fun S hS hL h0 => ?_, fun R r1 r2 r3 rf rl hR => Q2 R r1 r2 r3 rf rl (fun p hp => (h' p hp).elim (hR p) (fun z => r2 _ _ (hR _ z)))⟩
  · constructor
    · intro k
      refine ⟨k.1, fun p hp => ?_⟩
      rcases h p hp with z | z
      · exact k.2 p z
      · exact (k.2 _ z).symm
    · intro k
      refine ⟨k.1, fun p hp => ?_⟩
      rcases h' p hp with z | z
      · exact k.2 p z
      · exact (k.2 _ z).symm
  · rcases h p hp with z | z
    · exact P p z
    · exact ⟨(P _ z).2, (P _ z).1⟩
  · have hL' : ∀ p, p ∈ L → (S p.1 ↔ S p.2) := fun p hp => by
      rcases h' p hp with z | z
      · exact hL p z
      · exact (hL _ z).symm
    obtain ⟨q1, q2⟩ := Q S hS hL' h0
    refine ⟨fun p hp => ?_, q2⟩
    rcases h p hp with z | z
    · exact q1 p z
    · exact (hL' _ z).mp (q1 _ z)
theorem un_Sto {n : Nat} {kd pa pb : Nat → Nat} {S : Nat → Prop} (W : gr_W n kd pa pb) (hS : un_S n kd pa pb S) {i r : Nat} (h : gr_to kd pa i r) (hi : i < n) : S i ↔ S r := by
  have k := gr_to_P h (fun j => j < n ∧ (S i ↔ S j)) (fun j hj c => ⟨(W j hj.1).1 c, hj.2.trans ((hS j hj.1).1 c)⟩) ⟨hi, Iff.rfl⟩
  exact k.2
/-- a pair whose two stand for one node falls away -/
theorem un_drop {n : Nat} {kd0 pa0 pb : Nat → Nat} {M : Nat → Prop} {s t : Nat} {kd pa : Nat → Nat} {L : List (Nat × Nat)} {p q a : Nat} (I : un_I n kd0 pa0 pb M s t kd pa ((p, q) :: L)) (hp : gr_to kd pa p a) (hq : gr_to kd pa q a) : un_I n kd0 pa0 pb M s t kd pa L := by
  obtain ⟨W, V, P, C, G, D, Q, Q2⟩ := I
  have mp := P (p, q) List.mem_cons_self
  have pn := (C p mp.1).1
  have qn := (C q mp.2).1
  refine ⟨W, fun ρ => (V ρ).trans ?_, fun x hx => P x (List.mem_cons_of_mem _ hx), C, G, D, fun S hS hL h0 => ?_, fun R r1 r2 r3 rf rl hR => Q2 R r1 r2 r3 rf rl (fun x hx => ?_)⟩
  · constructor
    · intro k
      exact ⟨k.1, fun x hx => k.2 x (List.mem_cons_of_mem _ hx)⟩
    · intro k
      refine ⟨k.1, fun x hx => ?_⟩
      rcases List.mem_cons.mp hx with z | z
      · rw [z]; exact (gr_to_V W k.1 hp pn).trans (gr_to_V W k.1 hq qn).symm
      · exact k.2 x z
  · have hL' : ∀ x, x ∈ (p, q) :: L → (S x.1 ↔ S x.2) := fun x hx => by
      rcases List.mem_cons.mp hx with z | z
      · rw [z]; exact (un_Sto W hS hp pn).trans (un_Sto W hS hq qn).symm
      · exact hL x z
    obtain ⟨q1, q2⟩ := Q S hS hL' h0
    exact ⟨fun x hx => q1 x (List.mem_cons_of_mem _ hx), q2⟩
  · rcases List.mem_cons.mp hx with z | z
    · rw [z]; exact r3 _ _ _ (un_Rto W r1 r3 rl hp pn) (r2 _ _ (un_Rto W r1 r3 rl hq qn))
    · exact hR x z
/-- a pair of equal leaves falls away -/
theorem un_same {n : Nat} {kd0 pa0 pb : Nat → Nat} {M : Nat → Prop} {s t : Nat} {kd pa : Nat → Nat} {L : List (Nat × Nat)} {p q a b : Nat} (I : un_I n kd0 pa0 pb M s t kd pa ((p, q) :: L)) (hp : gr_to kd pa p a) (hq : gr_to kd pa q b) (hk : kd a = kd b) (hc : ¬ gr_cn (kd a)) (h7 : kd a ≠ 7) : un_I n kd0 pa0 pb M s t kd pa L := by
  obtain ⟨W, V, P, C, G, D, Q, Q2⟩ := I
  have mp := P (p, q) List.mem_cons_self
  have pn := (C p mp.1).1
  have qn := (C q mp.2).1
  have an := gr_to_n W hp pn
  have bn := gr_to_n W hq qn
  have fr : ¬ gr_fr (kd a) := fun z => by
    have := G a (gr_to_C C hp mp.1)
    omega
  refine ⟨W, fun ρ => (V ρ).trans ?_, fun x hx => P x (List.mem_cons_of_mem _ hx), C, G, D, fun S hS hL h0 => ?_, fun R r1 r2 r3 rf rl hR => Q2 R r1 r2 r3 rf rl (fun x hx => ?_)⟩
  · constructor
    · intro k
      exact ⟨k.1, fun x hx => k.2 x (List.mem_cons_of_mem _ hx)⟩
    · intro k
      refine ⟨k.1, fun x hx => ?_⟩
      rcases List.mem_cons.mp hx with z | z
      · rw [z]
        show ρ p = ρ q
        rw [gr_to_V W k.1 hp pn, gr_to_V W k.1 hq qn, gr_Vt k.1 an hp.1 hc fr, gr_Vt k.1 bn hq.1 (hk ▸ hc) (hk ▸ fr), hk]
      · exact k.2 x z
  · have hL' : ∀ x, x ∈ (p, q) :: L → (S x.1 ↔ S x.2) := fun x hx => by
      rcases List.mem_cons.mp hx with z | z
      · rw [z]
        exact ⟨fun _ => (un_Sto W hS hq qn).mpr ((hS b bn).2.2 hq.1 (hk ▸ hc) (hk ▸ h7)), fun _ => (un_Sto W hS hp pn).mpr ((hS a an).2.2 hp.1 hc h7)⟩
      · exact hL x z
    obtain ⟨q1, q2⟩ := Q S hS hL' h0
    exact ⟨fun x hx => q1 x (List.mem_cons_of_mem _ hx), q2⟩
  · rcases List.mem_cons.mp hx with z | z
    · rw [z]
      have e1 : kd a = kd0 a := (D a an).elim (fun z => z.1) (fun z => (hp.1 z.1).elim)
      have e2 : kd b = kd0 b := (D b bn).elim (fun z => z.1) (fun z => (hq.1 z.1).elim)
      refine r3 _ _ _ (un_Rto W r1 r3 rl hp pn) (r3 _ _ _ (rf a b an bn ?_ ?_ ?_ ?_) (r2 _ _ (un_Rto W r1 r3 rl hq qn)))
      · rw [← e1, ← e2]; exact hk
      · rw [← e1]; exact hp.1
      · rw [← e1]; exact hc
      · rw [← e1]; exact h7
    · exact hR x z
/-- a link from a to b: what every case shares -/
theorem un_W {n : Nat} {kd pa pb : Nat → Nat} {a b : Nat} (W : gr_W n kd pa pb) (hb : b < n) : gr_W n (gr_u kd a 1000) (gr_u pa a b) pb := by
  intro i hi
  by_cases c : i = a
  · rw [c, gr_us, gr_us]; exact ⟨fun _ => hb, fun z => by omega⟩
  · rw [gr_un c, gr_un c]; exact W i hi
theorem un_C {n : Nat} {kd pa pb : Nat → Nat} {M : Nat → Prop} {a b : Nat} (C : gr_C n kd pa pb M) (hb : M b) : gr_C n (gr_u kd a 1000) (gr_u pa a b) pb M := by
  intro i hi
  by_cases c : i = a
  · rw [c, gr_us, gr_us]; exact ⟨c ▸ (C i hi).1, fun _ => hb, fun z => by omega⟩
  · rw [gr_un c, gr_un c]; exact C i hi
theorem un_link {n : Nat} {kd0 pa0 pb : Nat → Nat} {M : Nat → Prop} {s t : Nat} {kd pa : Nat → Nat} {L : List (Nat × Nat)} {p q a b : Nat} (I : un_I n kd0 pa0 pb M s t kd pa ((p, q) :: L)) (hp : gr_to kd pa p a) (hq : gr_to kd pa q b) (hab : a ≠ b) (hk : kd a = 7 ∨ kd a = kd b ∧ ¬ gr_cn (kd a)) : un_I n kd0 pa0 pb M s t (gr_u kd a 1000) (gr_u pa a b) L := by
  obtain ⟨W, V, P, C, G, D, Q, Q2⟩ := I
  have mp := P (p, q) List.mem_cons_self
  have pn := (C p mp.1).1
  have qn := (C q mp.2).1
  have ma := gr_to_C C hp mp.1
  have mb := gr_to_C C hq mp.2
  have an := (C a ma).1
  have bn := (C b mb).1
  have ka : kd a ≠ 1000 := hp.1
  have kb : kd b ≠ 1000 := hq.1
  have kc : ¬ gr_cn (kd a) := by rcases hk with z | z
                                 · omega
                                 · exact z.2
  have vv : ∀ ρ, gr_V n (gr_u kd a 1000) (gr_u pa a b) pb ρ ↔ gr_V n kd pa pb ρ ∧ ρ a = ρ b := by
    intro ρ
    constructor
    · intro h
      have e : ρ a = ρ b := by
        have z := gr_Vl h an gr_us
        rw [gr_us] at z; exact z
      refine ⟨gr_Vi fun i hi => ?_, e⟩
      by_cases c : i = a
      · rw [c]
        refine ⟨fun z => (ka z).elim, fun z => (kc z).elim, fun z1 z2 z3 => ?_⟩
        rcases hk with z | z
        · exact (z3 (Or.inl z)).elim
        · rw [e, z.1]
          have z4 := gr_Vt h bn (by rw [gr_un (Ne.symm hab)]; exact kb) (by rw [gr_un (Ne.symm hab), ← z.1]; exact z2) (by rw [gr_un (Ne.symm hab), ← z.1]; exact z3)
          rw [gr_un (Ne.symm hab)] at z4; exact z4
      · have z := h i hi
        rw [gr_un c, gr_un c] at z
        refine ⟨fun c1 => ?_, fun c2 => ?_, fun c1 c2 c3 => ?_⟩
        · rw [gr_ev_l c1] at z; exact z
        · rw [gr_ev_c c2] at z; exact z
        · rw [gr_ev_t c1 c2 c3] at z; exact z
    · intro ⟨h, e⟩ i hi
      by_cases c : i = a
      · rw [c, gr_us, gr_us, gr_ev_l rfl]; exact e
      · rw [gr_un c, gr_un c]; exact h i hi
  refine ⟨un_W W bn, fun ρ => (V ρ).trans ?_, fun x hx => P x (List.mem_cons_of_mem _ hx), un_C C mb, fun i hi => ?_, fun i hi => ?_, fun S hS hL h0 => ?_, fun R r1 r2 r3 rf rl hR => ?_⟩
  · rw [vv]
    constructor
    · intro k
      refine ⟨⟨k.1, ?_⟩, fun x hx => k.2 x (List.mem_cons_of_mem _ hx)⟩
      have z := k.2 (p, q) List.mem_cons_self
      rw [← gr_to_V W k.1 hp pn, ← gr_to_V W k.1 hq qn]; exact z
    · intro k
      refine ⟨k.1.1, fun x hx => ?_⟩
      rcases List.mem_cons.mp hx with z | z
      · rw [z]
        show ρ p = ρ q
        rw [gr_to_V W k.1.1 hp pn, gr_to_V W k.1.1 hq qn]; exact k.1.2
      · exact k.2 x z
  · by_cases c : i = a
    · rw [c, gr_us]; omega
    · rw [gr_un c]; exact G i hi
  · by_cases c : i = a
    · refine Or.inr ⟨by rw [c, gr_us], ?_, c ▸ ma⟩
      rcases D i hi with z | z
      · rw [← z.1, c]; exact ka
      · exact z.2.1
    · rw [gr_un c, gr_un c]; exact D i hi
  · have hS'' : S a ↔ S b := by
      have z := (hS a an).1 gr_us
      rw [gr_us] at z; exact z
    have hS' : un_S n kd pa pb S := by
      intro i hi
      by_cases c : i = a
      · rw [c]
        refine ⟨fun z => (ka z).elim, fun z => (kc z).elim, fun _ _ z => hS''.mpr ?_⟩
        have w := (hS b bn).2.2
        rw [gr_un (Ne.symm hab)] at w
        rcases hk with k7 | ⟨ke, _⟩
        · exact (z k7).elim
        · rw [← ke] at w
          exact w ka kc z
      · have z := hS i hi
        rw [gr_un c, gr_un c] at z; exact z
    have hL' : ∀ x, x ∈ (p, q) :: L → (S x.1 ↔ S x.2) := fun x hx => by
      rcases List.mem_cons.mp hx with z | z
      · rw [z]; exact (un_Sto W hS' hp pn).trans (hS''.trans (un_Sto W hS' hq qn).symm)
      · exact hL x z
    obtain ⟨q1, q2, q3⟩ := Q S hS' hL' h0
    refine ⟨fun x hx => q1 x (List.mem_cons_of_mem _ hx), fun i hi z => ?_, q3⟩
    by_cases c : i = a
    · rw [c]; exact (un_Sto W hS' hp pn).mp (q1 (p, q) List.mem_cons_self)
    · rw [gr_un c] at z; exact q2 i hi z
  · have ab : R a b := by
      have z := rl a an gr_us
      rw [gr_us] at z; exact z
    have rl' : ∀ i, i < n → kd i = 1000 → R i (pa i) := fun i hi c => by
      have ne : i ≠ a := fun e => ka (e ▸ c)
      have z := rl i hi (by rw [gr_un ne]; exact c)
      rw [gr_un ne] at z; exact z
    obtain ⟨q1, q2⟩ := Q2 R r1 r2 r3 rf rl' (fun x hx => by
      rcases List.mem_cons.mp hx with z | z
      · rw [z]; exact r3 _ _ _ (un_Rto W r1 r3 rl' hp pn) (r3 _ _ _ ab (r2 _ _ (un_Rto W r1 r3 rl' hq qn)))
      · exact hR x z)
    refine ⟨q1, fun i hi c c0 c7 => ?_⟩
    by_cases e : i = a
    · subst e
      have e1 : kd i = kd0 i := (D i an).elim (fun z => z.1) (fun z => (ka z.1).elim)
      have e2 : kd b = kd0 b := (D b bn).elim (fun z => z.1) (fun z => (kb z.1).elim)
      rw [gr_us]
      rcases hk with z | z
      · exact (c7 (e1 ▸ z)).elim
      · exact ⟨by rw [← e1, ← e2]; exact z.1.symm, fun y => (z.2 (by rw [e1]; exact y)).elim⟩
    · rw [gr_un e] at c ⊢
      exact q2 i hi c c0 c7
/-- two nodes of one kind with parts: a link, and the parts wait -/
theorem un_con {n : Nat} {kd0 pa0 pb : Nat → Nat} {M : Nat → Prop} {s t : Nat} {kd pa : Nat → Nat} {L : List (Nat × Nat)} {p q a b : Nat} (I : un_I n kd0 pa0 pb M s t kd pa ((p, q) :: L)) (hp : gr_to kd pa p a) (hq : gr_to kd pa q b) (hab : a ≠ b) (hk : kd a = kd b) (hc : gr_cn (kd a)) : un_I n kd0 pa0 pb M s t (gr_u kd a 1000) (gr_u pa a b) ((pa a, pa b) :: (pb a, pb b) :: L) := by
  obtain ⟨W, V, P, C, G, D, Q, Q2⟩ := I
  have mp := P (p, q) List.mem_cons_self
  have pn := (C p mp.1).1
  have qn := (C q mp.2).1
  have ma := gr_to_C C hp mp.1
  have mb := gr_to_C C hq mp.2
  have an := (C a ma).1
  have bn := (C b mb).1
  have ka : kd a ≠ 1000 := hp.1
  have kb : kd b ≠ 1000 := hq.1
  have hcb : gr_cn (kd b) := hk ▸ hc
  have ca := (C a ma).2.2 hc
  have cb := (C b mb).2.2 hcb
  have vv : ∀ ρ, (gr_V n (gr_u kd a 1000) (gr_u pa a b) pb ρ ∧ ρ (pa a) = ρ (pa b) ∧ ρ (pb a) = ρ (pb b)) ↔ gr_V n kd pa pb ρ ∧ ρ a = ρ b := by
    intro ρ
    constructor
    · intro ⟨h, e1, e2⟩
      have e : ρ a = ρ b := by
        have z := gr_Vl h an gr_us
        rw [gr_us] at z; exact z
      have eb : ρ b = tr_con (kd b) (ρ (pa b)) (ρ (pb b)) := by
        have z := gr_Vc h bn (by rw [gr_un (Ne.symm hab)]; exact hcb)
        rw [gr_un (Ne.symm hab), gr_un (Ne.symm hab)] at z; exact z
      refine ⟨gr_Vi fun i hi => ?_, e⟩
      by_cases c : i = a
      · rw [c]
        refine ⟨fun z => (ka z).elim, fun z => ?_, fun z1 z2 z3 => (z2 hc).elim⟩
        rw [e, eb, e1, e2, hk]
      · have z := h i hi
        rw [gr_un c, gr_un c] at z
        refine ⟨fun c1 => ?_, fun c2 => ?_, fun c1 c2 c3 => ?_⟩
        · rw [gr_ev_l c1] at z; exact z
        · rw [gr_ev_c c2] at z; exact z
        · rw [gr_ev_t c1 c2 c3] at z; exact z
    · intro ⟨h, e⟩
      have z := e
      rw [gr_Vc h an hc, gr_Vc h bn hcb] at z
      obtain ⟨_, e1, e2⟩ := tr_con_inj z
      refine ⟨fun i hi => ?_, e1, e2⟩
      by_cases c : i = a
      · rw [c, gr_us, gr_us, gr_ev_l rfl]; exact e
      · rw [gr_un c, gr_un c]; exact h i hi
  refine ⟨un_W W bn, fun ρ => (V ρ).trans ?_, fun x hx => ?_, un_C C mb, fun i hi => ?_, fun i hi => ?_, fun S hS hL h0 => ?_, fun R r1 r2 r3 rf rl hR => ?_⟩
  · constructor
    · intro k
      have z := k.2 (p, q) List.mem_cons_self
      have e : ρ a = ρ b := by rw [← gr_to_V W k.1 hp pn, ← gr_to_V W k.1 hq qn]; exact z
      obtain ⟨h1, h2, h3⟩ := (vv ρ).mpr ⟨k.1, e⟩
      refine ⟨h1, fun x hx => ?_⟩
      rcases List.mem_cons.mp hx with z | hx
      · rw [z]; exact h2
      · rcases List.mem_cons.mp hx with z | hx
        · rw [z]; exact h3
        · exact k.2 x (List.mem_cons_of_mem _ hx)
    · intro k
      have e1 := k.2 (pa a, pa b) List.mem_cons_self
      have e2 := k.2 (pb a, pb b) (List.mem_cons_of_mem _ List.mem_cons_self)
      obtain ⟨h, e⟩ := (vv ρ).mp ⟨k.1, e1, e2⟩
      refine ⟨h, fun x hx => ?_⟩
      rcases List.mem_cons.mp hx with z | z
      · rw [z]
        show ρ p = ρ q
        rw [gr_to_V W h hp pn, gr_to_V W h hq qn]; exact e
      · exact k.2 x (List.mem_cons_of_mem _ (List.mem_cons_of_mem _ z))
  · rcases List.mem_cons.mp hx with z | hx
    · rw [z]; exact ⟨ca.1, cb.1⟩
    · rcases List.mem_cons.mp hx with z | hx
      · rw [z]; exact ⟨ca.2, cb.2⟩
      · exact P x (List.mem_cons_of_mem _ hx)
  · by_cases c : i = a
    · rw [c, gr_us]; omega
    · rw [gr_un c]; exact G i hi
  · by_cases c : i = a
    · refine Or.inr ⟨by rw [c, gr_us], ?_, c ▸ ma⟩
      rcases D i hi with z | z
      · rw [← z.1, c]; exact ka
      · exact z.2.1
    · rw [gr_un c, gr_un c]; exact D i hi
  · have l1 := hL (pa a, pa b) List.mem_cons_self
    have l2 := hL (pb a, pb b) (List.mem_cons_of_mem _ List.mem_cons_self)
    have hS'' : S a ↔ S b := by
      have z := (hS a an).1 gr_us
      rw [gr_us] at z; exact z
    have hb' : S b → S (pa b) ∧ S (pb b) := by
      have z := (hS b bn).2.1
      rw [gr_un (Ne.symm hab), gr_un (Ne.symm hab)] at z
      exact z hcb
    have ha' : S a → S (pa a) ∧ S (pb a) := fun z => ⟨l1.mpr (hb' (hS''.mp z)).1, l2.mpr (hb' (hS''.mp z)).2⟩
    have hS' : un_S n kd pa pb S := by
      intro i hi
      by_cases c : i = a
      · rw [c]; exact ⟨fun z => (ka z).elim, fun _ => ha', fun _ z => (z hc).elim⟩
      · have z := hS i hi
        rw [gr_un c, gr_un c] at z; exact z
    have hL' : ∀ x, x ∈ (p, q) :: L → (S x.1 ↔ S x.2) := fun x hx => by
      rcases List.mem_cons.mp hx with z | z
      · rw [z]; exact (un_Sto W hS' hp pn).trans (hS''.trans (un_Sto W hS' hq qn).symm)
      · exact hL x (List.mem_cons_of_mem _ (List.mem_cons_of_mem _ z))
    obtain ⟨q1, q2, q3⟩ := Q S hS' hL' h0
    have sa : S a := (un_Sto W hS' hp pn).mp (q1 (p, q) List.mem_cons_self)
    refine ⟨fun x hx => ?_, fun i hi z => ?_, q3⟩
    · rcases List.mem_cons.mp hx with z | hx
      · rw [z]; exact (ha' sa).1
      · rcases List.mem_cons.mp hx with z | hx
        · rw [z]; exact (ha' sa).2
        · exact q1 x (List.mem_cons_of_mem _ hx)
    · by_cases c : i = a
      · rw [c]; exact sa
      · rw [gr_un c] at z; exact q2 i hi z
  · have ab : R a b := by
      have z := rl a an gr_us
      rw [gr_us] at z; exact z
    have rl' : ∀ i, i < n → kd i = 1000 → R i (pa i) := fun i hi c => by
      have ne : i ≠ a := fun e => ka (e ▸ c)
      have z := rl i hi (by rw [gr_un ne]; exact c)
      rw [gr_un ne] at z; exact z
    obtain ⟨q1, q2⟩ := Q2 R r1 r2 r3 rf rl' (fun x hx => by
      rcases List.mem_cons.mp hx with z | z
      · rw [z]; exact r3 _ _ _ (un_Rto W r1 r3 rl' hp pn) (r3 _ _ _ ab (r2 _ _ (un_Rto W r1 r3 rl' hq qn)))
      · exact hR x (List.mem_cons_of_mem _ (List.mem_cons_of_mem _ z)))
    refine ⟨q1, fun i hi c c0 c7 => ?_⟩
    by_cases e : i = a
    · subst e
      have e1 : kd i = kd0 i ∧ pa i = pa0 i := (D i an).elim id (fun z => (ka z.1).elim)
      have e2 : kd b = kd0 b ∧ pa b = pa0 b := (D b bn).elim id (fun z => (kb z.1).elim)
      rw [gr_us]
      refine ⟨by rw [← e1.1, ← e2.1]; exact hk.symm, fun _ => ⟨?_, hR _ (List.mem_cons_of_mem _ List.mem_cons_self)⟩⟩
      rw [← e1.2, ← e2.2]
      exact hR _ List.mem_cons_self
    · rw [gr_un e] at c ⊢
      exact q2 i hi c c0 c7
/-- two kinds that nothing makes equal -/
theorem un_fail {n : Nat} {kd0 pa0 pb : Nat → Nat} {M : Nat → Prop} {s t : Nat} {kd pa : Nat → Nat} {L : List (Nat × Nat)} {p q a b : Nat} (I : un_I n kd0 pa0 pb M s t kd pa ((p, q) :: L)) (hp : gr_to kd pa p a) (hq : gr_to kd pa q b) (hk : kd a ≠ kd b) (ha : kd a ≠ 7) (hb : kd b ≠ 7) : ∀ ρ, gr_V n kd0 pa0 pb ρ → ρ s ≠ ρ t := by
  intro ρ h0 e0
  obtain ⟨W, V, P, C, G, D, Q, Q2⟩ := I
  have mp := P (p, q) List.mem_cons_self
  have pn := (C p mp.1).1
  have qn := (C q mp.2).1
  have ma := gr_to_C C hp mp.1
  have mb := gr_to_C C hq mp.2
  have an := (C a ma).1
  have bn := (C b mb).1
  obtain ⟨h, k⟩ := (V ρ).mp ⟨h0, e0⟩
  have e : ρ a = ρ b := by rw [← gr_to_V W h hp pn, ← gr_to_V W h hq qn]; exact k (p, q) List.mem_cons_self
  have fa : ¬ gr_fr (kd a) := fun z => by rcases z with z | z
                                          · exact ha z
                                          · exact G a ma z
  have fb : ¬ gr_fr (kd b) := fun z => by rcases z with z | z
                                          · exact hb z
                                          · exact G b mb z
  by_cases ca : gr_cn (kd a)
  · by_cases cb : gr_cn (kd b)
    · rw [gr_Vc h an ca, gr_Vc h bn cb] at e
      exact hk (tr_con_inj e).1
    · rw [gr_Vc h an ca, gr_Vt h bn hq.1 cb fb] at e
      exact tr_at_con e.symm
  · by_cases cb : gr_cn (kd b)
    · rw [gr_Vt h an hp.1 ca fa, gr_Vc h bn cb] at e
      exact tr_at_con e
    · rw [gr_Vt h an hp.1 ca fa, gr_Vt h bn hq.1 cb fb] at e
      exact hk (tr_at_inj e)
/-- what a search for a node that contains itself has seen when it has found none -/
def ck_R (n : Nat) (kd pa pb : Nat → Nat) (S : Nat → Prop) : Prop :=
  ∀ r, S r → r < n ∧ kd r ≠ 1000 ∧ (∃ f, gr_H kd pa pb f r) ∧ (gr_cn (kd r) → (∀ x, gr_to kd pa (pa r) x → S x) ∧ ∀ x, gr_to kd pa (pb r) x → S x)
theorem un_end {n K : Nat} {kd0 pa0 pb : Nat → Nat} {M : Nat → Prop} {s t : Nat} {kd pa : Nat → Nat} (I : un_I n kd0 pa0 pb M s t kd pa []) (W0 : gr_W n kd0 pa0 pb) (A : gr_A n kd0 pa0 pb) (hK : gr_L n kd pa K) {S : Nat → Prop} (hS : ck_R n kd pa pb S) (h0 : (∀ x, gr_to kd pa s x → S x) ∨ ∀ x, gr_to kd pa t x → S x) : gr_A n kd pa pb := by
  obtain ⟨W, V, P, C, G, D, Q, Q2⟩ := I
  have hT : un_S n kd pa pb (fun i => ∀ x, gr_to kd pa i x → S x ∨ ¬ gr_cn (kd x)) := by
    intro i hi
    refine ⟨fun c => ⟨fun h x hx => h x (gr_to_l c hx), fun h x hx => ?_⟩, fun c h => ?_, fun c1 c2 _ x hx => ?_⟩
    · obtain ⟨y, hy⟩ : ∃ y, gr_to kd pa (pa i) y := ⟨_, gr_L_to hK ((W i hi).1 c)⟩
      have e := gr_to_u hx (gr_to_l c hy)
      exact e ▸ h y hy
    · rcases h i (gr_to_r (by omega)) with si | si
      · exact ⟨fun x hx => Or.inl (((hS i si).2.2.2 c).1 x hx), fun x hx => Or.inl (((hS i si).2.2.2 c).2 x hx)⟩
      · exact (si c).elim
    · rw [gr_to_u hx (gr_to_r c1)]; exact Or.inr c2
  obtain ⟨_, q2, _⟩ := Q _ hT (fun p hp => by cases hp) (h0.imp (fun h x hx => Or.inl (h x hx)) (fun h x hx => Or.inl (h x hx)))
  have ch : ∀ i, i < n → kd i ≠ kd0 i → ∃ f, gr_H kd pa pb f i := by
    intro i hi z
    have t := gr_L_to hK hi
    rcases q2 i hi z _ t with y | y
    · exact gr_to_H t (hS _ y).2.2.1
    · exact gr_to_H t (gr_H_i (fun c => (t.1 c).elim) (fun c => (y c).elim))
  have all : ∀ f i, i < n → gr_H kd0 pa0 pb f i → ∃ f, gr_H kd pa pb f i := by
    intro f
    induction f with
    | zero => intro i _ h; exact h.elim
    | succ f ih =>
      intro i hi h
      by_cases c : kd i = kd0 i
      · rcases D i hi with z | z
        · refine gr_H_i (fun c1 => ?_) (fun c2 => ?_)
          · rw [z.1] at c1
            rw [z.2]; exact ih _ ((W0 i hi).1 c1) (h.1 c1)
          · rw [z.1] at c2
            rw [z.2]; exact ⟨ih _ ((W0 i hi).2 c2).1 (h.2 c2).1, ih _ ((W0 i hi).2 c2).2 (h.2 c2).2⟩
        · exact ((z.2.1) (c ▸ z.1)).elim
      · exact ch i hi c
  intro i hi
  obtain ⟨f, h⟩ := A i hi
  exact all f i hi h
