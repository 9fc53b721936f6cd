/-! the reference's instance -/
def yi_cp (nt tw : Nat → Nat) (x : Nat) : Nat := if nt x = 2 then x else tw x - 1
/-- v is the copy of what p stands for -/
def yi_c (kd pa nt tw : Nat → Nat) (p : Nat) (v : Int32) : Prop := ∃ x, gr_to kd pa p x ∧ (nt x = 2 ∨ tw x ≠ 0) ∧ v = nI (yi_cp nt tw x)
def yi_R (kd pa pb nt tw pend : Nat → Nat) (r m : Nat) (wh pA pB : Nat → Int32) : Prop :=
  wh m = nI (kd r) ∧ (pend m = 1 → pA m = nI (pa r)) ∧ (pend m ≠ 1 → yi_c kd pa nt tw (pa r) (pA m)) ∧ (5 ≤ kd r → (pend m ≠ 0 → pB m = nI (pb r)) ∧ (pend m = 0 → yi_c kd pa nt tw (pb r) (pB m)))
def yi_S (n bd : Nat) (kd pa pb nt : Nat → Nat) (r0 n' : Nat) (tw pend : Nat → Nat) (wh pA pB twin : Nat → Int32) : Prop :=
  yg_G n wh pA pB kd pa pb ∧ (∀ i, i < n → twin i = mk_v' (tw i)) ∧ n ≤ n' ∧
  (∀ r, r < n → tw r ≠ 0 → nt r = 3 ∧ n < tw r ∧ tw r ≤ n') ∧ (∀ r r', r < n → r' < n → tw r ≠ 0 → tw r = tw r' → r = r') ∧ (∀ m, n ≤ m → m < n' → ∃ r, r < n ∧ tw r = m + 1) ∧
  (∀ r, r < n → tw r ≠ 0 → (kd r = 8 → wh (tw r - 1) = 7 ∧ pA (tw r - 1) = -1) ∧ (gr_cn (kd r) → yi_R kd pa pb nt tw pend r (tw r - 1) wh pA pB)) ∧ r0 = r0 ∧
  n' + ct_n (fun i => decide (nt i = 3) && decide (tw i = 0)) n ≤ bd
section
variable {n bd n' r0 : Nat} {kd pa pb nt tw pend : Nat → Nat} {wh pA pB twin : Nat → Int32}
theorem yg_ge {m : Nat} {x y z : Int32} (hG : yg_G n wh pA pB kd pa pb) (hm : n ≤ m) : yg_G n (upd wh m x) (upd pA m y) (upd pB m z) kd pa pb := by
  intro i hi
  rw [pk_un (by omega), pk_un (by omega), pk_un (by omega)]; exact hG i hi
theorem yg_geA {m : Nat} {y : Int32} (hG : yg_G n wh pA pB kd pa pb) (hm : n ≤ m) : yg_G n wh (upd pA m y) pB kd pa pb := by
  intro i hi
  rw [pk_un (by omega)]; exact hG i hi
theorem yg_geB {m : Nat} {y : Int32} (hG : yg_G n wh pA pB kd pa pb) (hm : n ≤ m) : yg_G n wh pA (upd pB m y) kd pa pb := by
  intro i hi
  rw [pk_un (by omega)]; exact hG i hi
theorem yi_c_u {x v p : Nat} {w : Int32} (h0 : tw x = 0) (hx : nt x = 3) (h : yi_c kd pa nt tw p w) : yi_c kd pa nt (gr_u tw x v) p w := by
  obtain ⟨y, h1, h2, h3⟩ := h
  refine ⟨y, h1, ?_, ?_⟩
  · rcases h2 with z | z
    · exact Or.inl z
    · refine Or.inr ?_
      rw [gr_un (fun e => z (by rw [e]; exact h0))]; exact z
  · rw [h3]
    unfold yi_cp
    by_cases e : nt y = 2
    · rw [if_pos e, if_pos e]
    · rw [if_neg e, if_neg e]
      rcases h2 with z | z
      · exact (e z).elim
      · rw [gr_un (fun e => z (by rw [e]; exact h0))]
/-- a new copy, of x -/
theorem yi_new {x : Nat} {a b c : Int32} (S : yi_S n bd kd pa pb nt r0 n' tw pend wh pA pB twin) (xn : x < n) (x3 : nt x = 3) (x0 : tw x = 0) (hl : n' < 2 ^ 15) (h8 : kd x = 8 → a = 7 ∧ b = -1) (hc : gr_cn (kd x) → a = nI (kd x) ∧ b = nI (pa x) ∧ (5 ≤ kd x → c = nI (pb x))) (t : Int32) (ht : t = nI n') : yi_S n bd kd pa pb nt r0 (n' + 1) (gr_u tw x (n' + 1)) (gr_u pend n' 1) (upd wh n' a) (upd pA n' b) (upd pB n' c) (upd twin x t) := by
  obtain ⟨s1, s2, s3, s4, s5, s6, s7, s8, s9⟩ := S
  have hct := ct_u (p := fun i => decide (nt i = 3) && decide (tw i = 0)) (q := fun i => decide (nt i = 3) && decide (gr_u tw x (n' + 1) i = 0)) (a := x) (by rw [x3, x0]; rfl) (by rw [gr_us]; simp) (fun i hi => by rw [gr_un hi]) n xn
  refine ⟨yg_ge s1 s3, fun i hi => ?_, by omega, fun r hr h => ?_, fun r r' hr hr' h e => ?_, fun m h1 h2 => ?_, fun r hr h => ?_, rfl, by omega⟩
  · by_cases e : i = x
    · subst e
      rw [pk_us, gr_us, ht]
      unfold mk_v'
      rw [if_neg (by omega)]; rfl
    · rw [pk_un e, gr_un e]; exact s2 i hi
  · by_cases e : r = x
    · subst e
      rw [gr_us]; exact ⟨x3, by omega, by omega⟩
    · rw [gr_un e] at h ⊢
      have := s4 r hr h
      exact ⟨this.1, this.2.1, by omega⟩
  · by_cases e1 : r = x
    · by_cases e2 : r' = x
      · rw [e1, e2]
      · rw [e1, gr_us, gr_un e2] at e
        have := s4 r' hr' (by omega)
        omega
    · by_cases e2 : r' = x
      · rw [e2, gr_us, gr_un e1] at e
        have := s4 r hr (by omega)
        omega
      · rw [gr_un e1] at h
        rw [gr_un e1, gr_un e2] at e
        exact s5 r r' hr hr' h e
  · by_cases e : m = n'
    · exact ⟨x, xn, by rw [gr_us, e]⟩
    · obtain ⟨r, hr, h⟩ := s6 m h1 (by omega)
      refine ⟨r, hr, ?_⟩
      rw [gr_un (fun q => by rw [q] at h; omega)]; exact h
  · by_cases e : r = x
    · subst e
      rw [gr_us, Nat.add_sub_cancel, pk_us, pk_us]
      refine ⟨h8, fun c1 => ?_⟩
      obtain ⟨q1, q2, q3⟩ := hc c1
      refine ⟨by rw [pk_us]; exact q1, fun _ => by rw [pk_us]; exact q2, fun z => ?_, fun c5 => ⟨fun _ => by rw [pk_us]; exact q3 c5, fun z => ?_⟩⟩
      · rw [gr_us] at z; exact (z rfl).elim
      · rw [gr_us] at z; omega
    · rw [gr_un e] at h ⊢
      have b := s4 r hr h
      have m : tw r - 1 ≠ n' := by omega
      rw [pk_un m, pk_un m]
      refine ⟨(s7 r hr h).1, fun c1 => ?_⟩
      obtain ⟨q1, q2, q3, q4⟩ := (s7 r hr h).2 c1
      refine ⟨by rw [pk_un m]; exact q1, fun z => ?_, fun z => ?_, fun c5 => ⟨fun z => ?_, fun z => ?_⟩⟩
      · rw [gr_un m] at z; rw [pk_un m]; exact q2 z
      · rw [gr_un m] at z; rw [pk_un m]; exact yi_c_u x0 x3 (q3 z)
      · rw [gr_un m] at z; rw [pk_un m]; exact (q4 c5).1 z
      · rw [gr_un m] at z; rw [pk_un m]; exact yi_c_u x0 x3 ((q4 c5).2 z)
/-- the first part of a copy is set -/
theorem yi_a {c : Nat} {v : Int32} (S : yi_S n bd kd pa pb nt r0 n' tw pend wh pA pB twin) (hc : n ≤ c) (h1 : pend c = 1) (hv : ∀ r, r < n → tw r = c + 1 → gr_cn (kd r) ∧ yi_c kd pa nt tw (pa r) v) : yi_S n bd kd pa pb nt r0 n' tw (gr_u pend c 2) wh (upd pA c v) pB twin := by
  obtain ⟨s1, s2, s3, s4, s5, s6, s7, s8, s9⟩ := S
  refine ⟨yg_geA s1 hc, s2, s3, s4, s5, s6, fun r hr h => ?_, s8, s9⟩
  have b := s4 r hr h
  by_cases e : tw r - 1 = c
  · obtain ⟨k1, k2⟩ := hv r hr (by omega)
    refine ⟨fun z => absurd k1 (by omega), fun c1 => ?_⟩
    obtain ⟨q1, q2, q3, q4⟩ := (s7 r hr h).2 c1
    rw [e] at q1 q2 q3 q4 ⊢
    refine ⟨q1, fun z => ?_, fun z => by rw [pk_us]; exact k2, fun c5 => ⟨fun _ => (q4 c5).1 (by omega), fun z => ?_⟩⟩
    · rw [gr_us] at z; omega
    · rw [gr_us] at z; omega
  · refine ⟨fun z => ⟨((s7 r hr h).1 z).1, by rw [pk_un e]; exact ((s7 r hr h).1 z).2⟩, fun c1 => ?_⟩
    obtain ⟨q1, q2, q3, q4⟩ := (s7 r hr h).2 c1
    refine ⟨q1, fun z => ?_, fun z => ?_, fun c5 => ⟨fun z => ?_, fun z => ?_⟩⟩
    · rw [gr_un e] at z; rw [pk_un e]; exact q2 z
    · rw [gr_un e] at z; rw [pk_un e]; exact q3 z
    · rw [gr_un e] at z; exact (q4 c5).1 z
    · rw [gr_un e] at z; exact (q4 c5).2 z
/-- a copy is done: the second part is set, or there is none -/
theorem yi_b {c : Nat} {w : Nat → Int32} (S : yi_S n bd kd pa pb nt r0 n' tw pend wh pA pB twin) (hc : n ≤ c) (h2 : pend c = 2) (hw : ∀ i, i ≠ c → w i = pB i) (hv : ∀ r, r < n → tw r = c + 1 → 5 ≤ kd r → kd r ≤ 6 → yi_c kd pa nt tw (pb r) (w c)) : yi_S n bd kd pa pb nt r0 n' tw (gr_u pend c 0) wh pA w twin := by
  obtain ⟨s1, s2, s3, s4, s5, s6, s7, s8, s9⟩ := S
  refine ⟨fun i hi => by rw [hw i (by omega)]; exact s1 i hi, s2, s3, s4, s5, s6, fun r hr h => ?_, s8, s9⟩
  have b := s4 r hr h
  refine ⟨(s7 r hr h).1, fun c1 => ?_⟩
  obtain ⟨q1, q2, q3, q4⟩ := (s7 r hr h).2 c1
  by_cases e : tw r - 1 = c
  · rw [e] at q1 q2 q3 q4 ⊢
    refine ⟨q1, fun z => ?_, fun _ => q3 (by omega), fun c5 => ⟨fun z => ?_, fun _ => hv r hr (by omega) c5 c1.2⟩⟩
    · rw [gr_us] at z; omega
    · rw [gr_us] at z; exact (z rfl).elim
  · refine ⟨q1, fun z => ?_, fun z => ?_, fun c5 => ⟨fun z => ?_, fun z => ?_⟩⟩
    · rw [gr_un e] at z; exact q2 z
    · rw [gr_un e] at z; exact q3 z
    · rw [gr_un e] at z; rw [hw _ e]; exact (q4 c5).1 z
    · rw [gr_un e] at z; rw [hw _ e]; exact (q4 c5).2 z
/-- a copy without parts is done -/
theorem yi_v {c : Nat} (S : yi_S n bd kd pa pb nt r0 n' tw pend wh pA pB twin) (hv : ∀ r, r < n → tw r = c + 1 → ¬ gr_cn (kd r)) : yi_S n bd kd pa pb nt r0 n' tw (gr_u pend c 0) wh pA pB twin := by
  obtain ⟨s1, s2, s3, s4, s5, s6, s7, s8, s9⟩ := S
  refine ⟨s1, s2, s3, s4, s5, s6, fun r hr h => ?_, s8, s9⟩
  have b := s4 r hr h
  refine ⟨(s7 r hr h).1, fun c1 => ?_⟩
  have e : tw r - 1 ≠ c := fun e => hv r hr (by omega) c1
  obtain ⟨q1, q2, q3, q4⟩ := (s7 r hr h).2 c1
  refine ⟨q1, fun z => ?_, fun z => ?_, fun c5 => ⟨fun z => ?_, fun z => ?_⟩⟩
  · rw [gr_un e] at z; exact q2 z
  · rw [gr_un e] at z; exact q3 z
  · rw [gr_un e] at z; exact (q4 c5).1 z
  · rw [gr_un e] at z; exact (q4 c5).2 z
/-- the copy as a graph -/
theorem yi_end {E : Nat → Prop} {t K : Nat} (W : gr_W n kd pa pb) (hL : gr_L n kd pa K) (hn : n' ≤ 2000) (Z : yz_I n kd pa pb nt E t) (S : yi_S n bd kd pa pb nt r0 n' tw pend wh pA pB twin) (hp : ∀ m, n ≤ m → m < n' → pend m = 0) : ∃ kd' pa' pb', ic_I n n' kd pa pb kd' pa' pb' (fun i => i < n ∧ (nt i = 2 ∨ tw i ≠ 0)) (yi_cp nt tw) ∧ yg_G n' wh pA pB kd' pa' pb' ∧ ∀ m, n ≤ m → m < n' → kd' m ≠ 1000 := by
  obtain ⟨s1, s2, s3, s4, s5, s6, s7, s8, s9⟩ := S
  obtain ⟨z1, z2, z3⟩ := Z
  obtain ⟨org, ho⟩ : ∃ org : Nat → Nat, ∀ m, n ≤ m → m < n' → org m < n ∧ tw (org m) = m + 1 := by
    have key : ∀ m, ∃ r, n ≤ m → m < n' → r < n ∧ tw r = m + 1 := fun m => by
      by_cases h : n ≤ m ∧ m < n'
      · obtain ⟨r, hr⟩ := s6 m h.1 h.2
        exact ⟨r, fun _ _ => hr⟩
      · exact ⟨0, fun a b => (h ⟨a, b⟩).elim⟩
    obtain ⟨f, hf⟩ := Classical.axiomOfChoice key
    exact ⟨f, hf⟩
  -- what a copy is
  have nt23 : ∀ r, r < n → tw r ≠ 0 → kd r = 8 ∨ gr_cn (kd r) := fun r hr h => by
    have b := s4 r hr h
    by_cases c : gr_cn (kd r)
    · exact Or.inr c
    · exact Or.inl (((z1 r hr (by omega)).1 c).mp b.1)
  have cpn : ∀ x, x < n → (nt x = 2 ∨ tw x ≠ 0) → yi_cp nt tw x < n' := fun x hx h => by
    unfold yi_cp
    by_cases e : nt x = 2
    · rw [if_pos e]; omega
    · rw [if_neg e]
      have := s4 x hx (h.resolve_left e)
      omega
  have cp2 : ∀ x, nt x = 2 → yi_cp nt tw x = x := fun x h => if_pos h
  have cp3 : ∀ x, x < n → tw x ≠ 0 → yi_cp nt tw x = tw x - 1 := fun x hx h => if_neg (by have := s4 x hx h; omega)
  -- parts of a copy
  have prt : ∀ m, n ≤ m → m < n' → gr_cn (kd (org m)) → wh m = nI (kd (org m)) ∧ yi_c kd pa nt tw (pa (org m)) (pA m) ∧ (5 ≤ kd (org m) → yi_c kd pa nt tw (pb (org m)) (pB m)) := fun m h1 h2 c => by
    obtain ⟨o1, o2⟩ := ho m h1 h2
    obtain ⟨q1, q2, q3, q4⟩ := (s7 _ o1 (by omega)).2 c
    rw [o2, Nat.add_sub_cancel] at q1 q2 q3 q4
    have p0 := hp m h1 h2
    exact ⟨q1, q3 (by omega), fun c5 => (q4 c5).2 p0⟩
  have vn : ∀ m, n ≤ m → m < n' → ∀ p (v : Int32), p < n → yi_c kd pa nt tw p v → v.toNatClampNeg < n' ∧ v = nI v.toNatClampNeg := fun m h1 h2 p v hpn ⟨x, tx, hx, e⟩ => by
    have := cpn x (gr_to_n W tx hpn) hx
    rw [e, nI_clamp (by omega)]
    exact ⟨this, rfl⟩
  generalize hkd : (fun m => if m < n then kd m else if kd (org m) = 8 then 7 else kd (org m)) = kd'
  generalize hpa : (fun m => if m < n then pa m else (pA m).toNatClampNeg) = pa'
  generalize hpb : (fun m => if m < n then pb m else if kd (org m) ≤ 4 then (pA m).toNatClampNeg else (pB m).toNatClampNeg) = pb'
  have ekd : ∀ m, kd' m = if m < n then kd m else if kd (org m) = 8 then 7 else kd (org m) := fun m => by rw [← hkd]
  have epa : ∀ m, pa' m = if m < n then pa m else (pA m).toNatClampNeg := fun m => by rw [← hpa]
  have epb : ∀ m, pb' m = if m < n then pb m else if kd (org m) ≤ 4 then (pA m).toNatClampNeg else (pB m).toNatClampNeg := fun m => by rw [← hpb]
  have okd : ∀ m, n ≤ m → m < n' → (kd (org m) = 8 ∧ kd' m = 7) ∨ (gr_cn (kd (org m)) ∧ kd' m = kd (org m)) := fun m h1 h2 => by
    obtain ⟨o1, o2⟩ := ho m h1 h2
    rw [ekd, if_neg (by omega)]
    rcases nt23 _ o1 (by omega) with z | z
    · exact Or.inl ⟨z, if_pos z⟩
    · exact Or.inr ⟨z, if_neg (by omega)⟩
  refine ⟨kd', pa', pb', ⟨s3, fun i hi => by rw [ekd, epa, epb, if_pos hi, if_pos hi, if_pos hi]; exact ⟨rfl, rfl, rfl⟩, fun r hr => ?_, fun r r' hr hr' h e => ?_, fun m h1 h2 => ?_⟩, fun m hm => ?_, fun m h1 h2 => ?_⟩
  · obtain ⟨rn, hr⟩ := hr
    have r2 : 2 ≤ nt r := by
      rcases hr with z | z
      · omega
      · have := s4 r rn z; omega
    have zr := z2 r rn (by omega)
    refine ⟨rn, zr.2.2.2, fun k8 => ?_, fun c => ?_, fun k8 c => ?_⟩
    · have n3 : nt r = 3 := ((z1 r rn r2).1 (by omega)).mpr k8
      have t0 : tw r ≠ 0 := hr.resolve_left (by omega)
      have b := s4 r rn t0
      rw [cp3 r rn t0]
      obtain ⟨o1, o2⟩ := ho (tw r - 1) (by omega) (by omega)
      have e : org (tw r - 1) = r := s5 _ _ o1 rn (by omega) (by omega)
      refine ⟨by omega, by omega, ?_⟩
      rw [ekd, if_neg (by omega), e, if_pos k8]
    · have w := (W r rn).2 c
      have t1 := gr_L_to hL w.1
      have t2 := gr_L_to hL w.2
      generalize e1 : gr_f kd pa K (pa r) = x at t1
      generalize e2 : gr_f kd pa K (pb r) = y at t2
      obtain ⟨m1, m2, m3⟩ := (z1 r rn r2).2 c x y t1 t2
      have xn := gr_to_n W t1 w.1
      have yn := gr_to_n W t2 w.2
      have x23 := z2 x xn (by omega)
      have y23 := z2 y yn (by omega)
      by_cases n3 : nt r = 3
      · have t0 : tw r ≠ 0 := hr.resolve_left (by omega)
        have b := s4 r rn t0
        obtain ⟨o1, o2⟩ := ho (tw r - 1) (by omega) (by omega)
        have e : org (tw r - 1) = r := s5 _ _ o1 rn (by omega) (by omega)
        obtain ⟨p1, ⟨x', tx', kx, ex⟩, p3⟩ := prt (tw r - 1) (by omega) (by omega) (by rw [e]; exact c)
        rw [e] at tx' p3
        have exx := gr_to_u tx' t1
        subst exx
        have lx := cpn x' xn kx
        have k4 : nI (yi_cp nt tw x') = pA (tw r - 1) := ex.symm
        by_cases l4 : kd r ≤ 4
        · have eb : pb r = pa r := by
            obtain ⟨_, _, _, _, g5, _⟩ := yg_r s1 rn zr.2.2.2
            exact (g5 c).2.2 l4
          rw [eb] at t2
          have eyy := gr_to_u t2 t1
          subst eyy
          refine ⟨y, y, t1, by rw [eb]; exact t2, ⟨xn, kx⟩, ⟨xn, kx⟩, Or.inr ?_⟩
          rw [cp3 r rn t0]
          refine ⟨by omega, by omega, by rw [ekd, if_neg (by omega), e, if_neg (by omega)], by rw [epa, if_neg (by omega), ex, nI_clamp (by omega)], by rw [epb, if_neg (by omega), e, if_pos l4, ex, nI_clamp (by omega)]⟩
        · obtain ⟨y', ty', ky, ey⟩ := p3 (by omega)
          have eyy := gr_to_u ty' t2
          subst eyy
          have ly := cpn y' yn ky
          refine ⟨x', y', t1, t2, ⟨xn, kx⟩, ⟨yn, ky⟩, Or.inr ?_⟩
          rw [cp3 r rn t0]
          refine ⟨by omega, by omega, by rw [ekd, if_neg (by omega), e, if_neg (by omega)], by rw [epa, if_neg (by omega), ex, nI_clamp (by omega)], by rw [epb, if_neg (by omega), e, if_neg l4, ey, nI_clamp (by omega)]⟩
      · have n2 : nt r = 2 := by omega
        have x2 : nt x = 2 := by
          have : ¬ nt x = 3 := fun z => n3 (m3.mpr (Or.inl z))
          omega
        have y2 : nt y = 2 := by
          have : ¬ nt y = 3 := fun z => n3 (m3.mpr (Or.inr z))
          omega
        exact ⟨x, y, t1, t2, ⟨xn, Or.inl x2⟩, ⟨yn, Or.inl y2⟩, Or.inl ⟨cp2 r n2, cp2 x x2, cp2 y y2⟩⟩
    · refine cp2 r ?_
      have : ¬ nt r = 3 := fun z => k8 (((z1 r rn r2).1 c).mp z)
      omega
  · obtain ⟨rn, hr⟩ := hr
    obtain ⟨rn', hr'⟩ := hr'
    have t0 : tw r ≠ 0 := by
      refine hr.resolve_left (fun z => ?_)
      rw [cp2 r z] at h; omega
    have b := s4 r rn t0
    rw [cp3 r rn t0] at h e
    have t0' : tw r' ≠ 0 := by
      refine hr'.resolve_left (fun z => ?_)
      rw [cp2 r' z] at e; omega
    have b' := s4 r' rn' t0'
    rw [cp3 r' rn' t0'] at e
    exact s5 r r' rn rn' t0 (by omega)
  · obtain ⟨r, rn, h⟩ := s6 m h1 h2
    exact ⟨r, ⟨rn, Or.inr (by omega)⟩, by rw [cp3 r rn (by omega)]; omega⟩
  · by_cases l : m < n
    · rw [ekd, epa, epb, if_pos l, if_pos l, if_pos l]
      rcases s1 m l with z | z
      · exact Or.inl ⟨z.1, by omega, z.2.2⟩
      · exact Or.inr z
    · obtain ⟨o1, o2⟩ := ho m (by omega) hm
      rcases okd m (by omega) hm with ⟨z1, z2⟩ | ⟨z1, z2⟩
      · have q := (s7 _ o1 (by omega)).1 z1
        rw [o2, Nat.add_sub_cancel] at q
        rw [z2]
        exact Or.inr ⟨by omega, by omega, q.1, fun _ => q.2, fun z => absurd z (by omega), fun z => absurd z (by omega)⟩
      · obtain ⟨p1, p2, p3⟩ := prt m (by omega) hm z1
        have w := (W _ o1).2 z1
        have va := vn m (by omega) hm _ _ w.1 p2
        rw [z2, epa, epb, if_neg l, if_neg l]
        refine Or.inr ⟨by omega, by omega, by rw [p1, yk_l (by omega)], fun z => absurd z (by omega), fun _ => ⟨va.2, fun c5 => ?_, fun c4 => if_pos c4⟩, fun z => absurd z (by omega)⟩
        rw [if_neg (by omega)]
        exact (vn m (by omega) hm _ _ w.2 (p3 c5)).2
  · rcases okd m h1 h2 with ⟨_, z⟩ | ⟨z, z'⟩
    · omega
    · omega
end
