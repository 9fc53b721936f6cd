/-! the copy of a type with new variables for its general ones -/
theorem gr_H_to {kd pa pb : Nat → Nat} {f i r : Nat} (h : gr_to kd pa i r) (hf : gr_H kd pa pb f i) : gr_H kd pa pb f r := by
  refine gr_to_P h (fun j => gr_H kd pa pb f j) (fun j hj c => ?_) hf
  cases f with
  | zero => exact hj.elim
  | succ f => exact gr_H_s f _ (hj.1 c)
theorem gr_to_p {kd pa : Nat → Nat} {i r : Nat} (c : kd i = 1000) (h : gr_to kd pa i r) : gr_to kd pa (pa i) r := by
  obtain ⟨hr, f, e⟩ := h
  cases f with
  | zero => exact (hr (by rw [← e]; exact c)).elim
  | succ f => rw [gr_f_l c] at e; exact ⟨hr, f, e⟩
def ic_I (n n' : Nat) (kd pa pb kd' pa' pb' : Nat → Nat) (R : Nat → Prop) (cp : Nat → Nat) : Prop :=
  n ≤ n' ∧ (∀ i, i < n → kd' i = kd i ∧ pa' i = pa i ∧ pb' i = pb i) ∧
  (∀ r, R r → r < n ∧ kd r ≠ 1000 ∧ (kd r = 8 → n ≤ cp r ∧ cp r < n' ∧ kd' (cp r) = 7) ∧
    (gr_cn (kd r) → ∃ x y, gr_to kd pa (pa r) x ∧ gr_to kd pa (pb r) y ∧ R x ∧ R y ∧ ((cp r = r ∧ cp x = x ∧ cp y = y) ∨ (n ≤ cp r ∧ cp r < n' ∧ kd' (cp r) = kd r ∧ pa' (cp r) = cp x ∧ pb' (cp r) = cp y))) ∧
    (kd r ≠ 8 → ¬ gr_cn (kd r) → cp r = r)) ∧
  (∀ r r', R r → R r' → n ≤ cp r → cp r = cp r' → r = r') ∧ (∀ m, n ≤ m → m < n' → ∃ r, R r ∧ cp r = m)
section
variable {n n' : Nat} {kd pa pb kd' pa' pb' : Nat → Nat} {R : Nat → Prop} {cp : Nat → Nat}
theorem ic_lt (I : ic_I n n' kd pa pb kd' pa' pb' R cp) {r : Nat} (hr : R r) : cp r < n' ∧ (cp r = r ∨ n ≤ cp r) := by
  obtain ⟨h1, h2, h3, h4, h5⟩ := I
  obtain ⟨a, b, c, d, e⟩ := h3 r hr
  by_cases k : kd r = 8
  · exact ⟨(c k).2.1, Or.inr (c k).1⟩
  · by_cases q : gr_cn (kd r)
    · obtain ⟨x, y, _, _, _, _, z⟩ := d q
      rcases z with z | z
      · exact ⟨by omega, Or.inl z.1⟩
      · exact ⟨z.2.1, Or.inr z.1⟩
    · exact ⟨by rw [e k q]; omega, Or.inl (e k q)⟩
/-- what a new node is -/
theorem ic_new (I : ic_I n n' kd pa pb kd' pa' pb' R cp) {m : Nat} (h : n ≤ m) (h' : m < n') : ∃ r, R r ∧ cp r = m ∧ (kd r = 8 ∧ kd' m = 7 ∨ gr_cn (kd r) ∧ kd' m = kd r ∧ ∃ x y, gr_to kd pa (pa r) x ∧ gr_to kd pa (pb r) y ∧ R x ∧ R y ∧ pa' m = cp x ∧ pb' m = cp y) := by
  obtain ⟨h1, h2, h3, h4, h5⟩ := I
  obtain ⟨r, hr, e⟩ := h5 m h h'
  obtain ⟨a, b, c, d, g⟩ := h3 r hr
  refine ⟨r, hr, e, ?_⟩
  by_cases k : kd r = 8
  · exact Or.inl ⟨k, e ▸ (c k).2.2⟩
  · by_cases q : gr_cn (kd r)
    · obtain ⟨x, y, t1, t2, rx, ry, z⟩ := d q
      rcases z with z | z
      · omega
      · rw [e] at z
        exact Or.inr ⟨q, z.2.2.1, x, y, t1, t2, rx, ry, z.2.2.2.1, z.2.2.2.2⟩
    · have := g k q
      omega
theorem ic_W (I : ic_I n n' kd pa pb kd' pa' pb' R cp) (W : gr_W n kd pa pb) : gr_W n' kd' pa' pb' := by
  intro i hi
  by_cases c : i < n
  · have h1 := I.1
    obtain ⟨e1, e2, e3⟩ := I.2.1 i c
    rw [e1, e2, e3]
    have w := W i c
    exact ⟨fun z => by have := w.1 z; omega, fun z => by have := w.2 z; omega⟩
  · obtain ⟨r, hr, e, z⟩ := ic_new I (by omega) hi
    rcases z with z | ⟨z1, z2, x, y, _, _, rx, ry, p1, p2⟩
    · rw [z.2]; exact ⟨fun q => by omega, fun q => by omega⟩
    · rw [p1, p2]
      exact ⟨fun q => by omega, fun _ => ⟨(ic_lt I rx).1, (ic_lt I ry).1⟩⟩
theorem ic_V (I : ic_I n n' kd pa pb kd' pa' pb' R cp) {ρ : Nat → tr_T} (h : gr_V n' kd' pa' pb' ρ) : gr_V n kd pa pb ρ := by
  intro i hi
  have h1 := I.1
  obtain ⟨e1, e2, e3⟩ := I.2.1 i hi
  have e := h i (by omega)
  rw [e1, e2, e3] at e
  exact e
theorem ic_Ho (I : ic_I n n' kd pa pb kd' pa' pb' R cp) (W : gr_W n kd pa pb) : ∀ f i, i < n → gr_H kd pa pb f i → gr_H kd' pa' pb' f i := by
  intro f
  induction f with
  | zero => intro i _ h; exact h.elim
  | succ f ih =>
    intro i hi h
    obtain ⟨e1, e2, e3⟩ := I.2.1 i hi
    unfold gr_H
    rw [e1, e2, e3]
    exact ⟨fun c => ih _ ((W i hi).1 c) (h.1 c), fun c => ⟨ih _ ((W i hi).2 c).1 (h.2 c).1, ih _ ((W i hi).2 c).2 (h.2 c).2⟩⟩
theorem ic_Hn (I : ic_I n n' kd pa pb kd' pa' pb' R cp) (W : gr_W n kd pa pb) : ∀ f r, R r → gr_H kd pa pb f r → ∃ g, gr_H kd' pa' pb' g (cp r) := by
  intro f
  induction f with
  | zero => intro i _ h; exact h.elim
  | succ f ih =>
    intro r hr h
    have hn := (I.2.2.1 r hr).1
    obtain ⟨l1, l2⟩ := ic_lt I hr
    rcases l2 with l2 | l2
    · rw [l2]; exact ⟨f + 1, ic_Ho I W _ _ hn h⟩
    · obtain ⟨r', hr', e, z⟩ := ic_new I l2 l1
      have er : r = r' := I.2.2.2.1 r r' hr hr' l2 e.symm
      subst er
      rcases z with z | ⟨z1, z2, x, y, t1, t2, rx, ry, p1, p2⟩
      · exact gr_H_i (fun q => by omega) (fun q => by omega)
      · refine gr_H_i (fun q => by omega) (fun _ => ?_)
        rw [p1, p2]
        exact ⟨ih x rx (gr_H_to t1 (h.2 z1).1), ih y ry (gr_H_to t2 (h.2 z1).2)⟩
theorem ic_A (I : ic_I n n' kd pa pb kd' pa' pb' R cp) (W : gr_W n kd pa pb) (A : gr_A n kd pa pb) : gr_A n' kd' pa' pb' := by
  intro i hi
  by_cases c : i < n
  · obtain ⟨f, h⟩ := A i c
    exact ⟨f, ic_Ho I W f i c h⟩
  · obtain ⟨r, hr, e⟩ := I.2.2.2.2 i (by omega) hi
    obtain ⟨f, h⟩ := A r (I.2.2.1 r hr).1
    rw [← e]
    exact ic_Hn I W f r hr h
/-- a valuation of the copy is one of the original -/
theorem ic_2 (I : ic_I n n' kd pa pb kd' pa' pb' R cp) (W : gr_W n kd pa pb) (A : gr_A n kd pa pb) {ρ : Nat → tr_T} (h : gr_V n' kd' pa' pb' ρ) : ∃ ρ2, gr_V n kd pa pb ρ2 ∧ (∀ i, i < n → kd i = 7 → ρ2 i = ρ i) ∧ ∀ r, R r → ρ2 r = ρ (cp r) := by
  obtain ⟨ρ2, h2, a2⟩ := gr_ex A (fun i => if kd i = 8 then ρ (cp i) else ρ i)
  have h0 := ic_V I h
  refine ⟨ρ2, h2, fun i hi c => ?_, ?_⟩
  · rw [a2 i hi (Or.inl c), if_neg (by omega)]
  · have key : ∀ f r, R r → gr_H kd pa pb f r → ρ2 r = ρ (cp r) := by
      intro f
      induction f with
      | zero => intro r _ z; exact z.elim
      | succ f ih =>
        intro r hr hf
        obtain ⟨hn, k0, k8, kc, ko⟩ := I.2.2.1 r hr
        by_cases c8 : kd r = 8
        · rw [a2 r hn (Or.inr c8), if_pos c8]
        · by_cases cc : gr_cn (kd r)
          · obtain ⟨x, y, t1, t2, rx, ry, z⟩ := kc cc
            have w := (W r hn).2 cc
            rw [gr_Vc h2 hn cc, gr_to_V W h2 t1 w.1, gr_to_V W h2 t2 w.2, ih x rx (gr_H_to t1 (hf.2 cc).1), ih y ry (gr_H_to t2 (hf.2 cc).2)]
            rcases z with z | z
            · rw [z.1, z.2.1, z.2.2, gr_Vc h0 hn cc, gr_to_V W h0 t1 w.1, gr_to_V W h0 t2 w.2]
            · have e := gr_Vc h z.2.1 (by rw [z.2.2.1]; exact cc)
              rw [e, z.2.2.1, z.2.2.2.1, z.2.2.2.2]
          · rw [ko c8 cc]
            by_cases c7 : kd r = 7
            · rw [a2 r hn (Or.inl c7), if_neg c8]
            · have cf : ¬ gr_fr (kd r) := by omega
              rw [gr_Vt h2 hn k0 cc cf, gr_Vt h0 hn k0 cc cf]
    intro r hr
    obtain ⟨f, hf⟩ := A r (I.2.2.1 r hr).1
    exact key f r hr hf
/-- nodes that are their own copies hold no general variable -/
theorem ic_own (I : ic_I n n' kd pa pb kd' pa' pb' R cp) (W : gr_W n kd pa pb) {ρ ρ2 : Nat → tr_T} (h : gr_V n kd pa pb ρ) (h2 : gr_V n kd pa pb ρ2) (ha : ∀ i, i < n → kd i = 7 → ρ2 i = ρ i) : ∀ f r, R r → gr_H kd pa pb f r → cp r = r → ρ2 r = ρ r := by
  intro f
  induction f with
  | zero => intro r _ z; exact z.elim
  | succ f ih =>
    intro r hr hf e
    obtain ⟨hn, k0, k8, kc, ko⟩ := I.2.2.1 r hr
    by_cases c8 : kd r = 8
    · have := k8 c8; omega
    · by_cases cc : gr_cn (kd r)
      · obtain ⟨x, y, t1, t2, rx, ry, z⟩ := kc cc
        have w := (W r hn).2 cc
        rcases z with z | z
        · rw [gr_Vc h2 hn cc, gr_Vc h hn cc, gr_to_V W h2 t1 w.1, gr_to_V W h2 t2 w.2, gr_to_V W h t1 w.1, gr_to_V W h t2 w.2, ih x rx (gr_H_to t1 (hf.2 cc).1) z.2.1, ih y ry (gr_H_to t2 (hf.2 cc).2) z.2.2]
        · omega
      · by_cases c7 : kd r = 7
        · exact ha r hn c7
        · have cf : ¬ gr_fr (kd r) := by omega
          rw [gr_Vt h2 hn k0 cc cf, gr_Vt h hn k0 cc cf]
/-- and every one of the original makes one of the copy -/
theorem ic_3 (I : ic_I n n' kd pa pb kd' pa' pb' R cp) (W : gr_W n kd pa pb) (A : gr_A n kd pa pb) {ρ ρ2 : Nat → tr_T} (h : gr_V n kd pa pb ρ) (h2 : gr_V n kd pa pb ρ2) (ha : ∀ i, i < n → kd i = 7 → ρ2 i = ρ i) : ∃ ρ', gr_V n' kd' pa' pb' ρ' ∧ (∀ i, i < n → ρ' i = ρ i) ∧ ∀ r, R r → ρ' (cp r) = ρ2 r := by
  have ex : ∃ ρ' : Nat → tr_T, (∀ i, i < n → ρ' i = ρ i) ∧ ∀ r, R r → n ≤ cp r → ρ' (cp r) = ρ2 r := by
    have key : ∀ m, ∃ x : tr_T, (m < n → x = ρ m) ∧ ∀ r, R r → n ≤ cp r → cp r = m → x = ρ2 r := by
      intro m
      by_cases c : m < n
      · exact ⟨ρ m, fun _ => rfl, fun r hr hn e => by omega⟩
      · by_cases q : ∃ r, R r ∧ cp r = m
        · obtain ⟨r, hr, e⟩ := q
          refine ⟨ρ2 r, fun z => (c z).elim, fun r' hr' hn e' => ?_⟩
          rw [I.2.2.2.1 r' r hr' hr hn (e'.trans e.symm)]
        · exact ⟨ρ m, fun _ => rfl, fun r hr _ e => (q ⟨r, hr, e⟩).elim⟩
    obtain ⟨ρ', h'⟩ := Classical.axiomOfChoice key
    exact ⟨ρ', fun i hi => (h' i).1 hi, fun r hr hn => (h' (cp r)).2 r hr hn rfl⟩
  obtain ⟨ρ', p1, p2⟩ := ex
  have p3 : ∀ r, R r → ρ' (cp r) = ρ2 r := by
    intro r hr
    rcases (ic_lt I hr).2 with z | z
    · obtain ⟨f, hf⟩ := A r (I.2.2.1 r hr).1
      rw [z, p1 r (I.2.2.1 r hr).1]
      exact (ic_own I W h h2 ha f r hr hf z).symm
    · exact p2 r hr z
  refine ⟨ρ', fun i hi => ?_, p1, p3⟩
  by_cases c : i < n
  · obtain ⟨e1, e2, e3⟩ := I.2.1 i c
    have e := h i c
    rw [e1, e2, e3, p1 i c]
    by_cases c1 : kd i = 1000
    · rw [gr_ev_l c1] at e ⊢
      rw [p1 _ ((W i c).1 c1)]; exact e
    · by_cases c2 : gr_cn (kd i)
      · rw [gr_ev_c c2] at e ⊢
        rw [p1 _ ((W i c).2 c2).1, p1 _ ((W i c).2 c2).2]; exact e
      · by_cases c3 : gr_fr (kd i)
        · rw [gr_ev_f c3]
        · rw [gr_ev_t c1 c2 c3] at e ⊢; exact e
  · obtain ⟨r, hr, e, z⟩ := ic_new I (by omega) hi
    rcases z with z | ⟨z1, z2, x, y, t1, t2, rx, ry, q1, q2⟩
    · rw [gr_ev_f (Or.inl z.2)]
    · have hn := (I.2.2.1 r hr).1
      have w := (W r hn).2 z1
      have cc : gr_cn (kd' i) := by rw [z2]; exact z1
      rw [gr_ev_c cc, q1, q2, p3 x rx, p3 y ry, ← e, p3 r hr, gr_Vc h2 hn z1, gr_to_V W h2 t1 w.1, gr_to_V W h2 t2 w.2, e, z2]
theorem ic_M (I : ic_I n n' kd pa pb kd' pa' pb' R cp) {M : Nat → Prop} (C : gr_C n kd pa pb M) (G : ∀ i, M i → kd i ≠ 8) (W : gr_W n kd pa pb) : ∃ M' : Nat → Prop, gr_C n' kd' pa' pb' M' ∧ (∀ i, M' i → kd' i ≠ 8) ∧ (∀ i, M i → M' i) ∧ ∀ r, R r → M' (cp r) := by
  have h1 := I.1
  have put : ∀ r, R r → (M (cp r) ∨ (cp r < n ∧ ∃ r', gr_to kd pa (cp r) r' ∧ R r' ∧ cp r' = r') ∨ (n ≤ cp r ∧ cp r < n')) := by
    intro r hr
    obtain ⟨l1, l2⟩ := ic_lt I hr
    rcases l2 with l2 | l2
    · exact Or.inr (Or.inl ⟨by rw [l2]; exact (I.2.2.1 r hr).1, r, by rw [l2]; exact gr_to_r (I.2.2.1 r hr).2.1, hr, l2⟩)
    · exact Or.inr (Or.inr ⟨l2, l1⟩)
  refine ⟨fun i => M i ∨ (i < n ∧ ∃ r, gr_to kd pa i r ∧ R r ∧ cp r = r) ∨ (n ≤ i ∧ i < n'), fun i hi => ?_, fun i hi => ?_, fun i hi => Or.inl hi, put⟩
  · rcases hi with hi | ⟨hi, r, t, hr, e⟩ | ⟨hi, hi'⟩
    · obtain ⟨a, b, c⟩ := C i hi
      obtain ⟨e1, e2, e3⟩ := I.2.1 i a
      rw [e1, e2, e3]
      exact ⟨by omega, fun z => Or.inl (b z), fun z => ⟨Or.inl (c z).1, Or.inl (c z).2⟩⟩
    · obtain ⟨e1, e2, e3⟩ := I.2.1 i hi
      rw [e1, e2, e3]
      refine ⟨by omega, fun z => Or.inr (Or.inl ⟨(W i hi).1 z, r, gr_to_p z t, hr, e⟩), fun z => ?_⟩
      have er := gr_to_u (gr_to_r (by omega)) t
      subst er
      obtain ⟨x, y, t1, t2, rx, ry, q⟩ := (I.2.2.1 i hr).2.2.2.1 z
      have w := (W i hi).2 z
      rcases q with q | q
      · exact ⟨Or.inr (Or.inl ⟨w.1, x, t1, rx, q.2.1⟩), Or.inr (Or.inl ⟨w.2, y, t2, ry, q.2.2⟩)⟩
      · omega
    · refine ⟨hi', ?_⟩
      obtain ⟨r, hr, e, z⟩ := ic_new I hi hi'
      rcases z with z | ⟨z1, z2, x, y, t1, t2, rx, ry, q1, q2⟩
      · rw [z.2]; exact ⟨fun q => by omega, fun q => by omega⟩
      · rw [q1, q2]
        exact ⟨fun q => by omega, fun _ => ⟨put x rx, put y ry⟩⟩
  · rcases hi with hi | ⟨hi, r, t, hr, e⟩ | ⟨hi, hi'⟩
    · rw [(I.2.1 i (C i hi).1).1]; exact G i hi
    · rw [(I.2.1 i hi).1]
      intro z
      have er := gr_to_u (gr_to_r (by omega)) t
      subst er
      have := (I.2.2.1 i hr).2.2.1 z
      omega
    · obtain ⟨r, hr, e, z⟩ := ic_new I hi hi'
      rcases z with z | z
      · omega
      · rw [z.2.1]; omega
/-- the use of a name: its type's copy is put upon what waits -/
theorem rp_use {b0 nl : Nat} {op stk env : List Nat} {bs : List (Nat × Bool)} {V : List tr_T → List tr_T → List tr_T → Prop} {U : List tr_T → List tr_T → tr_T → Prop} {t r0 : Nat}
    (J : rp_I b0 nl n kd pa pb op stk env bs V) (I : ic_I n n' kd pa pb kd' pa' pb' R cp) (ht : t < n) (h0 : gr_to kd pa t r0) (hr : R r0)
    (u1 : ∀ ρ ρ2, gr_V n kd pa pb ρ → gr_V n kd pa pb ρ2 → (∀ i, i < n → kd i = 7 → ρ2 i = ρ i) → U (op.map ρ) (env.map ρ) (ρ2 t))
    (u2 : ∀ ρ τ, gr_V n kd pa pb ρ → U (op.map ρ) (env.map ρ) τ → ∃ ρ2, gr_V n kd pa pb ρ2 ∧ (∀ i, i < n → kd i = 7 → ρ2 i = ρ i) ∧ ρ2 t = τ) :
    rp_I b0 nl n' kd' pa' pb' op (cp r0 :: stk) env bs (fun ν st E => ∃ τ st0, st = τ :: st0 ∧ V ν st0 E ∧ U ν E τ) := by
  obtain ⟨W, A, ⟨M, E, ⟨hM, gM, oM, sM, eM⟩, cE, mE, eE, bE⟩, en, hl, hP, hV⟩ := J
  obtain ⟨M', hM', gM', mM', cM'⟩ := ic_M I hM gM W
  refine ⟨ic_W I W, ic_A I W A, ⟨M', fun i => E i ∨ M' i, ⟨hM', gM', fun x hx => mM' x (oM x hx), fun x hx => ?_, fun x hx => mM' x (eM x hx)⟩, fun i hi => ?_, fun i hi => Or.inr hi, fun x hx => Or.inl (eE x hx), fun i hi nm => ?_⟩, fun x hx => ?_, hl, ?_, fun ν st E => ?_⟩
  · rcases List.mem_cons.mp hx with z | z
    · rw [z]; exact cM' r0 hr
    · exact mM' x (sM x z)
  · rcases hi with hi | hi
    · obtain ⟨a, b, c⟩ := cE i hi
      obtain ⟨e1, e2, e3⟩ := I.2.1 i a
      rw [e1, e2, e3]
      exact ⟨by have := I.1; omega, fun z => Or.inl (b z), fun z => ⟨Or.inl (c z).1, Or.inl (c z).2⟩⟩
    · obtain ⟨a, b, c⟩ := hM' i hi
      exact ⟨a, fun z => Or.inr (b z), fun z => ⟨Or.inr (c z).1, Or.inr (c z).2⟩⟩
  · rcases hi with hi | hi
    · exact bE i hi (fun z => nm (mM' i z))
    · exact (nm hi).elim
  · have := I.1
    have := en x hx
    omega
  · exact rp_P_mono (fun ρ h => ic_V I h) (fun i hi c => ⟨by have := I.1; omega, by rw [(I.2.1 i hi).1]; exact c⟩) bs env hP
  · constructor
    · intro ⟨τ, st0, e, v, u⟩
      obtain ⟨ρ, h, e1, e2, e3⟩ := (hV _ _ _).mp v
      rw [← e1, ← e3] at u
      obtain ⟨ρ2, h2, a2, e4⟩ := u2 ρ τ h u
      obtain ⟨ρ', h', a', c'⟩ := ic_3 I W A h h2 a2
      refine ⟨ρ', h', ?_, ?_, ?_⟩
      · rw [← e1]; exact mp_i fun x hx => a' x (hM x (oM x hx)).1
      · rw [List.map_cons, c' r0 hr, ← gr_to_V W h2 h0 ht, e4, e, ← e2]
        congr 1
        exact mp_i fun x hx => a' x (hM x (sM x hx)).1
      · rw [← e3]; exact mp_i fun x hx => a' x (en x hx)
    · intro ⟨ρ, h, e1, e2, e3⟩
      obtain ⟨ρ2, h2, a2, c2⟩ := ic_2 I W A h
      have h0' := ic_V I h
      refine ⟨ρ (cp r0), stk.map ρ, by rw [← e2, List.map_cons], (hV _ _ _).mpr ⟨ρ, h0', e1, rfl, e3⟩, ?_⟩
      have u := u1 ρ ρ2 h0' h2 a2
      rw [gr_to_V W h2 h0 ht, c2 r0 hr, e1, e3] at u
      exact u
end
/-- agreement on the variables is agreement on what holds no general one -/
theorem rp_mono7 {n : Nat} {kd pa pb : Nat → Nat} {M : Nat → Prop} {ρ ρ2 : Nat → tr_T} (A : gr_A n kd pa pb) (C : gr_C n kd pa pb M) (G : ∀ i, M i → kd i ≠ 8) (h : gr_V n kd pa pb ρ) (h2 : gr_V n kd pa pb ρ2) (ha : ∀ i, i < n → kd i = 7 → ρ2 i = ρ i) {i : Nat} (hi : M i) : ρ2 i = ρ i := by
  refine gr_agA A h2 h C (fun j hj c => ?_) hi
  rcases c with c | c
  · exact ha j (C j hj).1 c
  · exact (G j hj c).elim
theorem mo_drop {α : Type} : ∀ (j : Nat) (bs : List (Nat × Bool)) (E : List α) (x : α), x ∈ mo_l (bs.drop j) (E.drop j) → x ∈ mo_l bs E := by
  intro j
  induction j with
  | zero => intro bs E x h; exact h
  | succ j ih =>
    intro bs E x h
    cases bs with
    | nil => rw [List.drop_nil] at h; cases h
    | cons b bs =>
      cases E with
      | nil => rw [List.drop_nil] at h
               cases hd : List.drop (j + 1) (b :: bs) with
               | nil => rw [hd] at h; cases h
               | cons b' bs' => rw [hd] at h; cases h
      | cons e E =>
        rw [List.drop_succ_cons, List.drop_succ_cons] at h
        have := ih bs E x h
        obtain ⟨m, p⟩ := b
        cases p with
        | true => rw [mo_t]; exact this
        | false => rw [mo_f]; exact List.mem_cons_of_mem _ this
theorem rp_P_at {n : Nat} {kd pa pb : Nat → Nat} {op : List Nat} : ∀ (j : Nat) (bs : List (Nat × Bool)) (env : List Nat) (m e : Nat), rp_P n kd pa pb op bs env → bs[j]? = some (m, true) → env[j]? = some e → ∀ ρ ρ', gr_V n kd pa pb ρ → gr_V n kd pa pb ρ' → op.map ρ = op.map ρ' → (mo_l (bs.drop (j + 1)) (env.drop (j + 1))).map ρ = (mo_l (bs.drop (j + 1)) (env.drop (j + 1))).map ρ' → (∀ i, i < n → kd i = 8 → ρ i = ρ' i) → ρ e = ρ' e := by
  intro j
  induction j with
  | zero =>
    intro bs env m e h hb he
    cases bs with
    | nil => cases hb
    | cons b bs =>
      cases env with
      | nil => cases he
      | cons e' env =>
        simp at hb he
        subst hb he
        exact h.1 rfl
  | succ j ih =>
    intro bs env m e h hb he
    cases bs with
    | nil => cases hb
    | cons b bs =>
      cases env with
      | nil => cases he
      | cons e' env =>
        rw [List.getElem?_cons_succ] at hb he
        rw [List.drop_succ_cons, List.drop_succ_cons]
        exact ih bs env m e h.2 hb he
/-- the use of a binding that isn't general -/
theorem rp_um {b0 nl n : Nat} {kd pa pb : Nat → Nat} {op stk env : List Nat} {bs : List (Nat × Bool)} {V : List tr_T → List tr_T → List tr_T → Prop} {j t : Nat} (J : rp_I b0 nl n kd pa pb op stk env bs V) (ht : env[j]? = some t) (hm : t ∈ mo_l bs env) :
    (∀ ρ ρ2, gr_V n kd pa pb ρ → gr_V n kd pa pb ρ2 → (∀ i, i < n → kd i = 7 → ρ2 i = ρ i) → (env.map ρ)[j]? = some (ρ2 t)) ∧
    (∀ ρ τ, gr_V n kd pa pb ρ → (env.map ρ)[j]? = some τ → ∃ ρ2, gr_V n kd pa pb ρ2 ∧ (∀ i, i < n → kd i = 7 → ρ2 i = ρ i) ∧ ρ2 t = τ) := by
  obtain ⟨W, A, ⟨M, E, ⟨hM, gM, oM, sM, eM⟩, cE, mE, eE, bE⟩, en, hl, hP, hV⟩ := J
  refine ⟨fun ρ ρ2 h h2 ha => ?_, fun ρ τ h e => ⟨ρ, h, fun _ _ _ => rfl, ?_⟩⟩
  · rw [List.getElem?_map, ht, rp_mono7 A hM gM h h2 ha (eM t hm)]; rfl
  · rw [List.getElem?_map, ht] at e
    simpa using e
/-- the use of a general binding -/
theorem rp_ug {b0 nl n : Nat} {kd pa pb : Nat → Nat} {op stk env : List Nat} {bs : List (Nat × Bool)} {V : List tr_T → List tr_T → List tr_T → Prop} {j t m : Nat} (J : rp_I b0 nl n kd pa pb op stk env bs V) (ht : env[j]? = some t) (hb : bs[j]? = some (m, true)) :
    (∀ ρ ρ2, gr_V n kd pa pb ρ → gr_V n kd pa pb ρ2 → (∀ i, i < n → kd i = 7 → ρ2 i = ρ i) → ∃ st2 E2, V (op.map ρ) st2 E2 ∧ mo_l (bs.drop (j + 1)) (E2.drop (j + 1)) = mo_l (bs.drop (j + 1)) ((env.map ρ).drop (j + 1)) ∧ E2[j]? = some (ρ2 t)) ∧
    (∀ ρ τ, gr_V n kd pa pb ρ → (∃ st2 E2, V (op.map ρ) st2 E2 ∧ mo_l (bs.drop (j + 1)) (E2.drop (j + 1)) = mo_l (bs.drop (j + 1)) ((env.map ρ).drop (j + 1)) ∧ E2[j]? = some τ) → ∃ ρ2, gr_V n kd pa pb ρ2 ∧ (∀ i, i < n → kd i = 7 → ρ2 i = ρ i) ∧ ρ2 t = τ) := by
  obtain ⟨W, A, ⟨M, E, ⟨hM, gM, oM, sM, eM⟩, cE, mE, eE, bE⟩, en, hl, hP, hV⟩ := J
  refine ⟨fun ρ ρ2 h h2 ha => ?_, fun ρ τ h ⟨st2, E2, v, em, ej⟩ => ?_⟩
  · refine ⟨stk.map ρ2, env.map ρ2, (hV _ _ _).mpr ⟨ρ2, h2, mp_i fun x hx => rp_mono7 A hM gM h h2 ha (oM x hx), rfl, rfl⟩, ?_, ?_⟩
    · rw [← List.map_drop, ← List.map_drop, mo_map, mo_map]
      exact mp_i fun x hx => rp_mono7 A hM gM h h2 ha (eM x (mo_drop _ _ _ _ hx))
    · rw [List.getElem?_map, ht]; rfl
  · obtain ⟨ρ2, h2, e1, e2, e3⟩ := (hV _ _ _).mp v
    obtain ⟨ρ3, h3, a3⟩ := gr_ex A (fun i => if kd i = 8 then ρ2 i else ρ i)
    have ha : ∀ i, i < n → kd i = 7 → ρ3 i = ρ i := fun i hi c => by rw [a3 i hi (Or.inl c), if_neg (by omega)]
    refine ⟨ρ3, h3, ha, ?_⟩
    have e4 : ρ2 t = τ := by
      rw [← e3, List.getElem?_map, ht] at ej
      simpa using ej
    rw [← e4]
    refine rp_P_at j bs env m t hP hb ht ρ3 ρ2 h3 h2 ?_ ?_ (fun i hi c => by rw [a3 i hi (Or.inr c), if_pos c])
    · rw [e1]; exact mp_i fun x hx => rp_mono7 A hM gM h h3 ha (oM x hx)
    · rw [← e3, ← List.map_drop, ← List.map_drop, mo_map, mo_map] at em
      rw [em]; exact mp_i fun x hx => rp_mono7 A hM gM h h3 ha (eM x (mo_drop _ _ _ _ hx))
