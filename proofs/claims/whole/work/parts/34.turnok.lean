/-! one turn of the parser: the discipline goes on, and at most one step is written, whose conditions hold -/
def pd_Q (K N mq : Nat → Nat) (Dc : Nat → List tr_T → tr_T → Prop) (c a' : Nat) (l w ss : pm_L) (bs : List (Nat × Bool)) (fl : List Bool) (V : dv_W) : Prop :=
  ∃ h2 el2 fs2, pd_ok K mq c (l ++ ss) h2 el2 fs2 ∧ ((w = [] ∧ di_I h2 el2 fs2 bs fl V ∧ ∀ x, x ∈ bs → x.1 < a') ∨ ∃ s' p', w = [(s', p')] ∧ dd_pre K mq c bs fl V s' p' ∧ di_I h2 el2 fs2 (dd_bs mq bs fl s' p') (dd_fl K fl s' p') (dd_V K N mq Dc bs V s' p') ∧ ∀ x, x ∈ dd_bs mq bs fl s' p' → x.1 < a')
section
variable {K mq N : Nat → Nat} {Dc : Nat → List tr_T → tr_T → Prop} {c h a a' : Nat} {el : List (Nat × Bool)} {fs : pd_L} {l w ss : pm_L} {bs : List (Nat × Bool)} {fl : List Bool} {V : dv_W}
theorem di_len (D : di_I h el fs bs fl V) : dv_len fl.length bs.length V := by
  obtain ⟨d1, d2, d3, d4, d5⟩ := D
  rw [d1, d2]; exact d4
theorem dp_80 {p : Nat} (hp : p < c) (hl : dv_len fl.length bs.length V) (hk : pm_alone (K p) = true) : dd_pre K mq c bs fl V 80 p :=
  ⟨hp, hl, by decide, by decide, fun _ => hk, fun z => absurd z (by decide), fun z => absurd z (by decide), fun z => absurd z (by decide), fun z => absurd z (by decide), fun z => absurd z (by decide), fun z => absurd z (by decide), fun z => absurd z (by decide), fun z => absurd z (by decide), fun z => absurd z (by decide)⟩
theorem dp_81 {p : Nat} (hp : p < c) (hl : dv_len fl.length bs.length V)  : dd_pre K mq c bs fl V 81 p :=
  ⟨hp, hl, by decide, by decide, fun z => absurd z (by decide), fun z => absurd z (by decide), fun z => absurd z (by decide), fun z => absurd z (by decide), fun z => absurd z (by decide), fun z => absurd z (by decide), fun z => absurd z (by decide), fun z => absurd z (by decide), fun z => absurd z (by decide), fun z => absurd z (by decide)⟩
theorem dp_82 {p : Nat} (hp : p < c) (hl : dv_len fl.length bs.length V) (hf : 2 ≤ fl.length) : dd_pre K mq c bs fl V 82 p :=
  ⟨hp, hl, by decide, by decide, fun z => absurd z (by decide), fun _ => hf, fun z => absurd z (by decide), fun z => absurd z (by decide), fun z => absurd z (by decide), fun z => absurd z (by decide), fun z => absurd z (by decide), fun z => absurd z (by decide), fun z => absurd z (by decide), fun z => absurd z (by decide)⟩
theorem dp_83 {p : Nat} (hp : p < c) (hl : dv_len fl.length bs.length V) (hf : 2 ≤ fl.length) (hk : K p = 17 ∨ K p = 18 ∨ K p = 19 ∨ K p = 20 ∨ K p = 21 ∨ K p = 25) : dd_pre K mq c bs fl V 83 p :=
  ⟨hp, hl, by decide, by decide, fun z => absurd z (by decide), fun z => absurd z (by decide), fun _ => ⟨hf, hk⟩, fun z => absurd z (by decide), fun z => absurd z (by decide), fun z => absurd z (by decide), fun z => absurd z (by decide), fun z => absurd z (by decide), fun z => absurd z (by decide), fun z => absurd z (by decide)⟩
theorem dp_84 {p : Nat} (hp : p < c) (hl : dv_len fl.length bs.length V) (hf : 3 ≤ fl.length) : dd_pre K mq c bs fl V 84 p :=
  ⟨hp, hl, by decide, by decide, fun z => absurd z (by decide), fun z => absurd z (by decide), fun z => absurd z (by decide), fun _ => hf, fun z => absurd z (by decide), fun z => absurd z (by decide), fun z => absurd z (by decide), fun z => absurd z (by decide), fun z => absurd z (by decide), fun z => absurd z (by decide)⟩
theorem dp_85 {p : Nat} (hp : p < c) (hl : dv_len fl.length bs.length V) (hq : p + 1 < c) (hk : K (p + 1) = 3) (hx : ∀ x, x ∈ bs → x.1 ≤ p) : dd_pre K mq c bs fl V 85 p :=
  ⟨hp, hl, by decide, by decide, fun z => absurd z (by decide), fun z => absurd z (by decide), fun z => absurd z (by decide), fun z => absurd z (by decide), fun _ => ⟨hq, hk, hx⟩, fun z => absurd z (by decide), fun z => absurd z (by decide), fun z => absurd z (by decide), fun z => absurd z (by decide), fun z => absurd z (by decide)⟩
theorem dp_86 {p : Nat} (hp : p < c) (hl : dv_len fl.length bs.length V) (hf : 1 ≤ fl.length) (hq : p + 1 < c) (hb : ∃ bs0, bs = (p + 1, false) :: bs0) : dd_pre K mq c bs fl V 86 p :=
  ⟨hp, hl, by decide, by decide, fun z => absurd z (by decide), fun z => absurd z (by decide), fun z => absurd z (by decide), fun z => absurd z (by decide), fun z => absurd z (by decide), fun _ => ⟨hf, hq, hb⟩, fun z => absurd z (by decide), fun z => absurd z (by decide), fun z => absurd z (by decide), fun z => absurd z (by decide)⟩
theorem dp_87 {p : Nat} (hp : p < c) (hl : dv_len fl.length bs.length V) (hf : pd_fn K mq p) (hq : p + mq p + 1 < c) (hx : ∀ x, x ∈ bs → x.1 ≤ p) : dd_pre K mq c bs fl V 87 p :=
  ⟨hp, hl, by decide, by decide, fun z => absurd z (by decide), fun z => absurd z (by decide), fun z => absurd z (by decide), fun z => absurd z (by decide), fun z => absurd z (by decide), fun z => absurd z (by decide), fun _ => ⟨hf, hq, hx⟩, fun z => absurd z (by decide), fun z => absurd z (by decide), fun z => absurd z (by decide)⟩
theorem dp_88 {p : Nat} (hp : p < c) (hl : dv_len fl.length bs.length V) (hg : pd_fn K mq p) (hq : p + mq p + 1 < c) (hf : 1 ≤ fl.length) (hb : ∃ bs0, bs = pd_ns p (mq p) ++ bs0 ∧ dv_CI (fl.length - 1) bs0.length V ∧ ∀ x, x ∈ bs0 → x.1 ≤ p) : dd_pre K mq c bs fl V 88 p :=
  ⟨hp, hl, by decide, by decide, fun z => absurd z (by decide), fun z => absurd z (by decide), fun z => absurd z (by decide), fun z => absurd z (by decide), fun z => absurd z (by decide), fun z => absurd z (by decide), fun z => absurd z (by decide), fun _ => ⟨hg, hq, hf, hb⟩, fun z => absurd z (by decide), fun z => absurd z (by decide)⟩
theorem dp_89 {p : Nat} (hp : p < c) (hl : dv_len fl.length bs.length V) (hq : p + 1 < c) (hk : K (p + 1) = 3) (hf : 1 ≤ fl.length) (hC : dv_CI (fl.length - 1) bs.length V) (hx : ∀ x, x ∈ bs → x.1 ≤ p) : dd_pre K mq c bs fl V 89 p :=
  ⟨hp, hl, by decide, by decide, fun z => absurd z (by decide), fun z => absurd z (by decide), fun z => absurd z (by decide), fun z => absurd z (by decide), fun z => absurd z (by decide), fun z => absurd z (by decide), fun z => absurd z (by decide), fun z => absurd z (by decide), fun _ => ⟨hq, hk, hf, hC, hx⟩, fun z => absurd z (by decide)⟩
theorem dp_90 {p : Nat} (hp : p < c) (hl : dv_len fl.length bs.length V) (hf : 1 ≤ fl.length) (hb : bs ≠ []) : dd_pre K mq c bs fl V 90 p :=
  ⟨hp, hl, by decide, by decide, fun z => absurd z (by decide), fun z => absurd z (by decide), fun z => absurd z (by decide), fun z => absurd z (by decide), fun z => absurd z (by decide), fun z => absurd z (by decide), fun z => absurd z (by decide), fun z => absurd z (by decide), fun z => absurd z (by decide), fun _ => ⟨hf, hb⟩⟩
theorem pd_atom_ok (hK : ∀ i, c ≤ i → K i = 99) (ht : pm_atom K a = (a', some (l, w))) (hx : ∀ x, x ∈ bs → x.1 < a) (D : di_I h el fs bs fl V) (h1 : pd_k fs ≤ h) (h2 : pd_b fs ≤ el.length) (ok : pd_ok K mq c ss (h + 1) el fs) : pd_Q K N mq Dc c a' l w ss bs fl V := by
  have hl := di_len D
  unfold pm_atom at ht
  by_cases c1 : pm_alone (K a) = true
  · rw [if_pos c1] at ht
    have q := pm_alone_lt hK c1
    simp at ht
    obtain ⟨rfl, rfl, rfl⟩ := ht
    refine ⟨h + 1, el, fs, ok, Or.inr ⟨80, a, rfl, ?_, ?_, fun x q => by have := hx x q; omega⟩⟩
    · exact dp_80 q hl c1
    · unfold dd_bs dd_fl dd_V
      simp
      by_cases k : K a = 3
      · rw [if_pos k]; exact dk_psh D h1 h2
      · rw [if_neg k]; exact dk_psh D h1 h2
  · rw [if_neg c1] at ht
    by_cases c2 : K a = 15
    · rw [if_pos c2] at ht
      by_cases c3 : K (a + 1) = 16
      · rw [if_pos c3] at ht
        have q := pm_lt hK c3 (by decide)
        simp at ht
        obtain ⟨rfl, rfl, rfl⟩ := ht
        refine ⟨h + 1, el, fs, ok, Or.inr ⟨81, a + 1, rfl, ?_, ?_, fun x q => by have := hx x q; omega⟩⟩
        · exact dp_81 q hl
        · unfold dd_bs dd_fl dd_V
          simp
          exact dk_psh D h1 h2
      · rw [if_neg c3] at ht
        simp at ht
        obtain ⟨rfl, rfl, rfl⟩ := ht
        exact ⟨h, el, fs, ⟨_, _, _, pd_42 h1 h2, _, _, _, pd_44 (by omega) (by omega) h2, ok⟩, Or.inl ⟨rfl, D, fun x q => by have := hx x q; omega⟩⟩
    · rw [if_neg c2] at ht
      by_cases c3 : K a = 6
      · rw [if_pos c3] at ht
        have q := pm_lt hK c3 (by decide)
        simp at ht
        obtain ⟨rfl, rfl, rfl⟩ := ht
        exact ⟨h, el, fs, ⟨_, _, _, pd_40 h1 h2, _, _, _, pd_46 q h1 h2, ok⟩, Or.inl ⟨rfl, D, fun x q => by have := hx x q; omega⟩⟩
      · rw [if_neg c3] at ht
        simp at ht
theorem pm_atom_lt (hK : ∀ i, c ≤ i → K i = 99) (ht : pm_atom K a = (a', some (l, w))) : a < c := by
  unfold pm_atom at ht
  by_cases c1 : pm_alone (K a) = true
  · exact pm_alone_lt hK c1
  · rw [if_neg c1] at ht
    by_cases c2 : K a = 15
    · exact pm_lt hK c2 (by decide)
    · rw [if_neg c2] at ht
      by_cases c3 : K a = 6
      · exact pm_lt hK c3 (by decide)
      · rw [if_neg c3] at ht
        simp at ht
theorem pd_apl_ok (hK : ∀ i, c ≤ i → K i = 99) (ht : pm_apl K a = (a', some (l, w))) (hx : ∀ x, x ∈ bs → x.1 < a) (D : di_I h el fs bs fl V) (h1 : pd_k fs < h) (h2 : pd_b fs ≤ el.length) (ok : pd_ok K mq c ss h el fs) : pd_Q K N mq Dc c a' l w ss bs fl V := by
  unfold pm_apl at ht
  cases e : (pm_atom K a).2 with
  | none =>
    rw [e] at ht
    simp at ht
    obtain ⟨rfl, rfl, rfl⟩ := ht
    exact ⟨h, el, fs, ok, Or.inl ⟨rfl, D, fun x q => by have := hx x q; omega⟩⟩
  | some x =>
    obtain ⟨l0, w0⟩ := x
    rw [e] at ht
    simp at ht
    obtain ⟨rfl, rfl, rfl⟩ := ht
    have e' : pm_atom K a = ((pm_atom K a).1, some (l0, w0)) := by rw [← e]
    have q := pm_atom_lt hK e'
    have z := pd_atom_ok (N := N) (Dc := Dc) (mq := mq) (ss := (82, a) :: (54, 0) :: ss) hK e' hx D (by omega) h2 ⟨_, _, _, pd_82 q (by omega) h2, _, _, _, pd_44 (by omega) h1 h2, ok⟩
    obtain ⟨h3, el3, fs3, z1, z2⟩ := z
    exact ⟨h3, el3, fs3, by simpa using z1, z2⟩
theorem pd_ns_lt (p : Nat) : ∀ (m : Nat) (x : Nat × Bool), x ∈ pd_ns p m → p < x.1 ∧ x.1 ≤ p + m := by
  intro m
  induction m with
  | zero => intro x hx; cases hx
  | succ m ih =>
    intro x hx
    rcases List.mem_cons.mp hx with z | z
    · rw [z]; show p < p + 1 + m ∧ p + 1 + m ≤ p + (m + 1); omega
    · have := ih x z; omega
theorem pd_ns_self (p : Nat) : ∀ m, (p + 1, false) ∈ pd_ns p (m + 1) := by
  intro m
  induction m with
  | zero => exact List.mem_cons_self
  | succ m ih => exact List.mem_cons_of_mem _ ih
theorem pd_decl_ok (hK : ∀ i, c ≤ i → K i = 99) (hm : ∀ q, mq q = pm_nq K 24 (q + 3) - (q + 1)) (ht : pm_decl K a = (a', some (l, w))) (hx : ∀ x, x ∈ bs → x.1 < a) (D : di_I h el fs bs fl V) (h1 : pd_k fs ≤ h) (h2 : pd_b fs ≤ el.length) (ok : pd_ok K mq c ss h ((0, true) :: el) fs) : pd_Q K N mq Dc c a' l w ss bs fl V := by
  have hl := di_len D
  unfold pm_decl at ht
  by_cases c1 : K a = 7
  · rw [if_pos c1] at ht
    by_cases c2 : K (a + 1) = 3
    · rw [if_pos c2] at ht
      have q := pm_lt hK c2 (by decide)
      by_cases c3 : K (a + 2) = 9
      · rw [if_pos c3] at ht
        simp at ht
        obtain ⟨rfl, rfl, rfl⟩ := ht
        exact ⟨h, el, (h, el.length, a) :: fs, ⟨_, _, _, pd_42 (by simp [pd_k]) (by simp [pd_b]), _, _, _, pd_89 q c2, ok⟩, Or.inl ⟨rfl, dk_new D hx, fun x q => by have := hx x q; omega⟩⟩
      · rw [if_neg c3] at ht
        simp at ht
    · rw [if_neg c2] at ht
      simp at ht
  · rw [if_neg c1] at ht
    by_cases c4 : K a = 8
    · rw [if_pos c4] at ht
      by_cases c5 : K (a + 1) = 3
      · rw [if_pos c5] at ht
        by_cases c6 : K (a + 2) = 3
        · rw [if_pos c6] at ht
          by_cases c7 : K (pm_nq K 24 (a + 3)) = 9
          · rw [if_pos c7] at ht
            have q := pm_lt hK c7 (by decide)
            have g := (pm_nq_ge (K := K) 24 (a + 3)).1
            have gi := pm_nq_in (K := K) 24 (a + 3)
            have em := hm a
            simp at ht
            obtain ⟨rfl, rfl, rfl⟩ := ht
            generalize eq : pm_nq K 24 (a + 3) = r at q g gi em c7
            have hf : pd_fn K mq a := by
              refine ⟨by omega, c4, fun i i1 i2 => ?_, ?_⟩
              · by_cases z1 : i = a + 1
                · rw [z1]; exact c5
                · by_cases z2 : i = a + 2
                  · rw [z2]; exact c6
                  · exact gi i (by omega) (by omega)
              · have : a + mq a + 1 = r := by omega
                rw [this]; exact c7
            have hp : a + mq a + 1 < c := by omega
            refine ⟨h, pd_ns a (mq a) ++ el, (h, el.length, a) :: fs, ⟨_, _, _, pd_42 (by simp [pd_k]) (by simp [pd_b]), _, _, _, pd_88 hf hp, ok⟩, Or.inr ⟨87, a, rfl, ?_, ?_, fun x q => ?_⟩⟩
            · exact dp_87 (by omega) hl hf hp (fun x q => Nat.le_of_lt (hx x q))
            · unfold dd_bs dd_fl dd_V
              simp
              exact dk_lams (dk_new D hx) (by simp [pd_k]) (by simp [pd_b])
            · unfold dd_bs at q
              simp at q
              rcases q with q | q
              · have := pd_ns_lt a (mq a) x q
                omega
              · have := hx x q
                omega
          · rw [if_neg c7] at ht
            simp at ht
        · rw [if_neg c6] at ht
          simp at ht
      · rw [if_neg c5] at ht
        simp at ht
    · rw [if_neg c4] at ht
      simp at ht
theorem pd_expr_ok (hK : ∀ i, c ≤ i → K i = 99) (ht : pm_expr K a = (a', some (l, w))) (hx : ∀ x, x ∈ bs → x.1 < a) (D : di_I h el fs bs fl V) (h1 : pd_k fs ≤ h) (h2 : pd_b fs ≤ el.length) (ok : pd_ok K mq c ss (h + 1) el fs) : pd_Q K N mq Dc c a' l w ss bs fl V := by
  have hl := di_len D
  unfold pm_expr at ht
  by_cases c1 : K a = 4
  · rw [if_pos c1] at ht
    by_cases c2 : K (a + 1) = 3
    · rw [if_pos c2] at ht
      have q := pm_lt hK c2 (by decide)
      by_cases c3 : K (a + 2) = 5
      · rw [if_pos c3] at ht
        simp at ht
        obtain ⟨rfl, rfl, rfl⟩ := ht
        refine ⟨h, (a + 1, false) :: el, fs, ⟨_, _, _, pd_42 h1 (by rw [List.length_cons]; omega), _, _, _, pd_86 q (by omega) h2, ok⟩, Or.inr ⟨85, a, rfl, ?_, ?_, fun x q => ?_⟩⟩
        · exact dp_85 (by omega) hl q c2 (fun x q => Nat.le_of_lt (hx x q))
        · unfold dd_bs dd_fl dd_V
          simp
          exact dk_lam D h1 h2
        · unfold dd_bs at q
          simp at q
          rcases q with q | q
          · rw [q]; show a + 1 < a + 3; omega
          · have := hx x q
            omega
      · rw [if_neg c3] at ht
        simp at ht
    · rw [if_neg c2] at ht
      simp at ht
  · rw [if_neg c1] at ht
    by_cases c4 : K a = 12
    · rw [if_pos c4] at ht
      have q := pm_lt hK c4 (by decide)
      simp at ht
      obtain ⟨rfl, rfl, rfl⟩ := ht
      exact ⟨h, el, fs, ⟨_, _, _, pd_42 h1 h2, _, _, _, pd_38 (by omega) (by omega) h2, _, _, _, pd_42 (by omega) h2, _, _, _, pd_38 (by omega) (by omega) h2, _, _, _, pd_42 (by omega) h2, _, _, _, pd_84 (h := h + 1) q (by omega) h2, ok⟩, Or.inl ⟨rfl, D, fun x q => by have := hx x q; omega⟩⟩
    · rw [if_neg c4] at ht
      simp at ht
      obtain ⟨rfl, rfl, rfl⟩ := ht
      exact ⟨h, el, fs, pd_e6 h1 h2 ok, Or.inl ⟨rfl, D, fun x q => by have := hx x q; omega⟩⟩
theorem pd_s80 {s : Nat} (rs : s < 38 ∨ s = 40 ∨ s = 42 ∨ s = 44 ∨ s = 46 ∨ s = 47 ∨ s = 50 ∨ s = 51 ∨ s = 52 ∨ s = 53 ∨ s = 54 ∨ s = 55 ∨ s = 82 ∨ s = 83 ∨ s = 84 ∨ s = 86 ∨ s = 88 ∨ s = 89) (hs : 80 ≤ s) : s = 82 ∨ s = 83 ∨ s = 84 ∨ s = 86 ∨ s = 88 ∨ s = 89 := by omega
theorem pd_s40 {s : Nat} (rs : s < 38 ∨ s = 40 ∨ s = 42 ∨ s = 44 ∨ s = 46 ∨ s = 47 ∨ s = 50 ∨ s = 51 ∨ s = 52 ∨ s = 53 ∨ s = 54 ∨ s = 55 ∨ s = 82 ∨ s = 83 ∨ s = 84 ∨ s = 86 ∨ s = 88 ∨ s = 89) (hs : ¬ 80 ≤ s) (h38 : ¬ s < 38) : s = 40 ∨ s = 42 ∨ s = 44 ∨ s = 46 ∨ s = 47 ∨ s = 50 ∨ s = 51 ∨ s = 52 ∨ s = 53 ∨ s = 54 ∨ s = 55 := by omega
section
variable {s p h' : Nat} {el' : List (Nat × Bool)} {fs' : pd_L}
theorem pi_38 (R : pd_R K mq c s p h el fs h' el' fs') : s < 38 → h' = h ∧ el' = el ∧ fs' = fs := R.2.2.2.2.1
theorem pi_40 (R : pd_R K mq c s p h el fs h' el' fs') : s = 40 → h' = h ∧ el' = (0, true) :: el ∧ fs' = fs := R.2.2.2.2.2.1
theorem pi_42 (R : pd_R K mq c s p h el fs h' el' fs') : s = 42 ∨ s = 55 → h' = h + 1 ∧ el' = el ∧ fs' = fs := R.2.2.2.2.2.2.1
theorem pi_44 (R : pd_R K mq c s p h el fs h' el' fs') : s = 44 ∨ s = 50 ∨ s = 51 ∨ s = 52 ∨ s = 53 ∨ s = 54 → pd_k fs < h ∧ h' = h ∧ el' = el ∧ fs' = fs := R.2.2.2.2.2.2.2.1
theorem pi_46 (R : pd_R K mq c s p h el fs h' el' fs') : s = 46 → pd_b fs < el.length ∧ el = (0, true) :: el' ∧ h' = h + 1 ∧ fs' = fs := R.2.2.2.2.2.2.2.2.1
theorem pi_47 (R : pd_R K mq c s p h el fs h' el' fs') : s = 47 → pd_k fs < h ∧ pd_b fs < el.length ∧ el = (0, true) :: el' ∧ h' = h ∧ fs' = fs := R.2.2.2.2.2.2.2.2.2.1
theorem pi_82 (R : pd_R K mq c s p h el fs h' el' fs') : s = 82 ∨ s = 83 → pd_k fs + 2 ≤ h ∧ h = h' + 1 ∧ el' = el ∧ fs' = fs := R.2.2.2.2.2.2.2.2.2.2.1
theorem pi_84 (R : pd_R K mq c s p h el fs h' el' fs') : s = 84 → pd_k fs + 3 ≤ h ∧ h = h' + 2 ∧ el' = el ∧ fs' = fs := R.2.2.2.2.2.2.2.2.2.2.2.1
theorem pi_86 (R : pd_R K mq c s p h el fs h' el' fs') : s = 86 → pd_k fs < h ∧ pd_b fs < el.length ∧ el = (p + 1, false) :: el' ∧ h' = h ∧ fs' = fs := R.2.2.2.2.2.2.2.2.2.2.2.2.1
theorem pi_88 (R : pd_R K mq c s p h el fs h' el' fs') : s = 88 → ∃ el0, fs = (h', el0.length, p) :: fs' ∧ h = h' + 1 ∧ el = pd_ns p (mq p) ++ el0 ∧ el' = (0, true) :: el0 := R.2.2.2.2.2.2.2.2.2.2.2.2.2.1
theorem pi_89 (R : pd_R K mq c s p h el fs h' el' fs') : s = 89 → fs = (h', el.length, p) :: fs' ∧ h = h' + 1 ∧ el' = (0, true) :: el := R.2.2.2.2.2.2.2.2.2.2.2.2.2.2
end
/-- a step that waited is written -/
theorem pd_step_ok {s p h' : Nat} {el' : List (Nat × Bool)} {fs' : pd_L} (hs : 80 ≤ s) (hpa : s = 89 → p + 1 < a) (R : pd_R K mq c s p h el fs h' el' fs') (hx : ∀ x, x ∈ bs → x.1 < a) (D : di_I h el fs bs fl V) (ok : pd_ok K mq c ss h' el' fs') : pd_Q K N mq Dc c a [] [(s, p)] ss bs fl V := by
  have hl := di_len D
  have d1 := D.1
  have r1 := R.1
  have r2 := R.2.1
  have hs' := pd_s80 R.2.2.1 hs
  refine ⟨h', el', fs', ok, Or.inr ⟨s, p, rfl, ?_⟩⟩
  rcases hs' with rfl | rfl | rfl | rfl | rfl | rfl
  · obtain ⟨q1, q2, rfl, rfl⟩ := pi_82 R (Or.inl rfl)
    obtain ⟨h0, rfl⟩ : ∃ k, h = k + 2 := ⟨h - 2, by omega⟩
    have e : h' = h0 + 1 := by omega
    subst e
    have q := R.2.2.2.1.1 (Or.inl rfl)
    refine ⟨dp_82 q hl (by omega), ?_, fun x z => hx x z⟩
    · unfold dd_bs dd_fl dd_V
      simp
      exact dk_tr (i := 2) (fun _ => rfl) (fun _ => rfl) (by simp [d1]) D (by omega) r2
  · obtain ⟨q1, q2, rfl, rfl⟩ := pi_82 R (Or.inr rfl)
    obtain ⟨h0, rfl⟩ : ∃ k, h = k + 2 := ⟨h - 2, by omega⟩
    have e : h' = h0 + 1 := by omega
    subst e
    obtain ⟨q, qk⟩ := R.2.2.2.1.2.1 rfl
    refine ⟨dp_83 q hl (by omega) qk, ?_, fun x z => hx x z⟩
    · unfold dd_bs dd_fl dd_V
      simp
      have hf : ∀ b : Bool, (b :: List.drop 2 fl).length = h0 + 1 := fun b => by simp [d1]
      by_cases k1 : K p = 17
      · simp [k1]
        exact dk_tr (i := 2) (fun _ => rfl) (fun _ => rfl) (hf _) D (by omega) r2
      · by_cases k2 : K p = 18
        · simp [k1, k2]
          exact dk_tr (i := 2) (fun _ => rfl) (fun _ => rfl) (hf _) D (by omega) r2
        · by_cases k3 : K p = 25
          · simp [k1, k2, k3]
            exact dk_tr (i := 2) (fun _ => rfl) (fun _ => rfl) (hf _) D (by omega) r2
          · by_cases k4 : K p = 21
            · simp [k1, k2, k3, k4]
              exact dk_tr (i := 2) (fun _ => rfl) (fun _ => rfl) (hf _) D (by omega) r2
            · simp [k1, k2, k3, k4]
              exact dk_tr (i := 2) (fun _ => rfl) (fun _ => rfl) (hf _) D (by omega) r2
  · obtain ⟨q1, q2, rfl, rfl⟩ := pi_84 R rfl
    obtain ⟨h0, rfl⟩ : ∃ k, h = k + 3 := ⟨h - 3, by omega⟩
    have e : h' = h0 + 1 := by omega
    subst e
    have q := R.2.2.2.1.1 (Or.inr (Or.inl rfl))
    refine ⟨dp_84 q hl (by omega), ?_, fun x z => hx x z⟩
    · unfold dd_bs dd_fl dd_V
      simp
      exact dk_tr (i := 3) (fun _ => rfl) (fun _ => rfl) (by simp [d1]) D (by omega) r2
  · obtain ⟨q1, q2, rfl, rfl, rfl⟩ := pi_86 R rfl
    obtain ⟨h0, rfl⟩ : ∃ k, h' = k + 1 := ⟨h' - 1, by omega⟩
    have q := R.2.2.2.1.2.2.1 rfl
    rw [List.length_cons] at q2
    obtain ⟨bs0, e, D'⟩ := dk_fn (fl' := true :: fl.drop 1) D (by omega) (by omega) (by simp [d1])
    refine ⟨dp_86 (by omega) hl (by omega) q ⟨bs0, e⟩, ?_, fun x z => hx x (List.mem_of_mem_drop z)⟩
    · unfold dd_bs dd_fl dd_V
      simp [e] at D' ⊢
      exact D'
  · obtain ⟨el0, rfl, rfl, rfl, rfl⟩ := pi_88 R rfl
    obtain ⟨hf, hp⟩ := R.2.2.2.1.2.2.2.1 rfl
    obtain ⟨m, em⟩ : ∃ m, mq p = m + 1 := ⟨mq p - 1, by have := hf.1; omega⟩
    rw [em] at D
    obtain ⟨bs0, e, l0, ci, cx, D'⟩ := dk_fun (b := (p + 1, true)) (fl' := fl.drop 1) D (by simp [d1])
    refine ⟨dp_88 (by omega) hl hf hp (by omega) ⟨bs0, by rw [em]; exact e, by rw [d1, l0]; exact ci, cx⟩, ?_, fun x z => ?_⟩
    · unfold dd_bs dd_fl dd_V
      simp
      have ed : List.drop (mq p) bs = bs0 := by
        rw [e, em]
        exact List.drop_left' (pd_ns_len p (m + 1))
      rw [ed, em]
      simpa using D'
    · unfold dd_bs at z
      simp at z
      rcases z with z | z
      · rw [z]
        exact hx (p + 1, false) (by rw [e]; exact List.mem_append_left _ (pd_ns_self p m))
      · exact hx x (List.mem_of_mem_drop z)
  · obtain ⟨rfl, rfl, rfl⟩ := pi_89 R rfl
    obtain ⟨q, qk⟩ := R.2.2.2.1.2.2.2.2 rfl
    obtain ⟨ci, cx, D'⟩ := dk_val (b := (p + 1, fl.headD false)) (fl' := fl.drop 1) D (by simp [d1])
    have d2 := D.2.1
    refine ⟨dp_89 (by omega) hl q qk (by omega) (by rw [d1, d2]; exact ci) cx, ?_, fun x z => ?_⟩
    · unfold dd_bs dd_fl dd_V
      simp
      simpa using D'
    · unfold dd_bs at z
      simp at z
      rcases z with z | z
      · rw [z]; exact hpa rfl
      · exact hx x z
theorem pd_turn {s p : Nat} (hK : ∀ i, c ≤ i → K i = 99) (hm : ∀ q, mq q = pm_nq K 24 (q + 3) - (q + 1)) (hpa : s = 89 → p + 1 < a) (ht : pm_turn K s p a = (a', some (l, w))) (hx : ∀ x, x ∈ bs → x.1 < a) (D : di_I h el fs bs fl V) (ok : pd_ok K mq c ((s, p) :: ss) h el fs) : pd_Q K N mq Dc c a' l w ss bs fl V := by
  obtain ⟨h', el', fs', R, ok⟩ := ok
  unfold pm_turn at ht
  by_cases s0 : 80 ≤ s
  · rw [if_pos s0] at ht
    simp at ht
    obtain ⟨rfl, rfl, rfl⟩ := ht
    exact pd_step_ok s0 (hpa) R hx D ok
  have hl := di_len D
  have d1 := D.1
  have r1 := R.1
  have r2 := R.2.1
  rw [if_neg s0] at ht
  by_cases s1 : s < 38
  · rw [if_pos s1] at ht
    obtain ⟨rfl, rfl, rfl⟩ := pi_38 R s1
    by_cases k : K a = s
    · rw [if_pos k] at ht
      simp at ht
      obtain ⟨rfl, rfl, rfl⟩ := ht
      exact ⟨_, _, _, ok, Or.inl ⟨rfl, D, fun x q => by have := hx x q; omega⟩⟩
    · rw [if_neg k] at ht
      simp at ht
  rw [if_neg s1] at ht
  have s2 := pd_s40 R.2.2.1 s0 s1
  rcases s2 with rfl | rfl | rfl | rfl | rfl | rfl | rfl | rfl | rfl | rfl | rfl
  · obtain ⟨rfl, rfl, rfl⟩ := pi_40 R rfl
    simp at ht
    exact pd_decl_ok hK hm ht hx D r1 r2 ok
  · obtain ⟨rfl, rfl, rfl⟩ := pi_42 R (Or.inl rfl)
    simp at ht
    exact pd_expr_ok hK ht hx D r1 r2 ok
  · obtain ⟨q, rfl, rfl, rfl⟩ := pi_44 R (by decide)
    simp at ht
    by_cases k : K a = 17
    · rw [if_pos k] at ht
      have qa := pm_lt hK k (by decide)
      simp at ht
      obtain ⟨rfl, rfl, rfl⟩ := ht
      exact ⟨_, _, _, ⟨_, _, _, pd_42 (by omega) r2, _, _, _, pd_38 (by omega) (by omega) r2, _, _, _, pd_83 qa (by omega) (by omega) r2, ok⟩, Or.inl ⟨rfl, D, fun x q => by have := hx x q; omega⟩⟩
    · rw [if_neg k] at ht
      by_cases k2 : K a = 16
      · rw [if_pos k2] at ht
        simp at ht
        obtain ⟨rfl, rfl, rfl⟩ := ht
        exact ⟨_, _, _, ok, Or.inl ⟨rfl, D, fun x q => by have := hx x q; omega⟩⟩
      · rw [if_neg k2] at ht
        simp at ht
  · obtain ⟨q, rfl, rfl, rfl⟩ := pi_46 R rfl
    simp at ht
    by_cases k : K a = 10
    · rw [if_pos k] at ht
      simp at ht
      obtain ⟨rfl, rfl, rfl⟩ := ht
      rw [List.length_cons] at q
      exact ⟨_, _, _, ⟨_, _, _, pd_42 r1 r2, _, _, _, pd_47 (R.2.2.2.1.1 (by decide)) (by omega) (by omega), ok⟩, Or.inl ⟨rfl, D, fun x q => by have := hx x q; omega⟩⟩
    · rw [if_neg k] at ht
      simp at ht
  · obtain ⟨q, q2, rfl, rfl, rfl⟩ := pi_47 R rfl
    simp at ht
    by_cases k : K a = 11
    · rw [if_pos k] at ht
      simp at ht
      obtain ⟨rfl, rfl, rfl⟩ := ht
      rw [List.length_cons] at q2
      obtain ⟨b, bs0, e, D'⟩ := dk_let (fl' := false :: fl.drop 1) D r1 (by omega) (by simp [d1]; omega)
      have pc := R.2.2.2.1.1 (by decide)
      refine ⟨_, _, _, ok, Or.inr ⟨90, p, rfl, dp_90 pc hl (by omega) (by rw [e]; exact List.cons_ne_nil _ _), ?_, fun x z => by have := hx x (List.mem_of_mem_drop z); omega⟩⟩
      · unfold dd_bs dd_fl dd_V
        simp [e] at D' ⊢
        exact D'
    · rw [if_neg k] at ht
      simp at ht
  · obtain ⟨q, rfl, rfl, rfl⟩ := pi_44 R (by decide)
    simp at ht
    by_cases k : K a = 25
    · rw [if_pos k] at ht
      have qa := pm_lt hK k (by decide)
      simp at ht
      obtain ⟨rfl, rfl, rfl⟩ := ht
      exact ⟨_, _, _, pd_e6 (by omega) r2 ⟨_, _, _, pd_83 qa (by omega) (by omega) r2, ok⟩, Or.inl ⟨rfl, D, fun x q => by have := hx x q; omega⟩⟩
    · rw [if_neg k] at ht
      simp at ht
      obtain ⟨rfl, rfl, rfl⟩ := ht
      exact ⟨_, _, _, ok, Or.inl ⟨rfl, D, fun x q => by have := hx x q; omega⟩⟩
  · obtain ⟨q, rfl, rfl, rfl⟩ := pi_44 R (by decide)
    simp at ht
    by_cases k : K a = 18
    · rw [if_pos k] at ht
      have qa := pm_lt hK k (by decide)
      simp at ht
      obtain ⟨rfl, rfl, rfl⟩ := ht
      exact ⟨_, _, _, ⟨_, _, _, pd_55 (by omega) r2, _, _, _, pd_44 (by omega) (by omega) r2, _, _, _, pd_44 (by omega) (by omega) r2, _, _, _, pd_44 (by omega) (by omega) r2, _, _, _, pd_44 (by omega) (by omega) r2, _, _, _, pd_83 qa (by omega) (by omega) r2, ok⟩, Or.inl ⟨rfl, D, fun x q => by have := hx x q; omega⟩⟩
    · rw [if_neg k] at ht
      simp at ht
      obtain ⟨rfl, rfl, rfl⟩ := ht
      exact ⟨_, _, _, ok, Or.inl ⟨rfl, D, fun x q => by have := hx x q; omega⟩⟩
  · obtain ⟨q, rfl, rfl, rfl⟩ := pi_44 R (by decide)
    simp at ht
    by_cases k : K a = 21
    · rw [if_pos k] at ht
      have qa := pm_lt hK k (by decide)
      simp at ht
      obtain ⟨rfl, rfl, rfl⟩ := ht
      exact ⟨_, _, _, ⟨_, _, _, pd_55 (by omega) r2, _, _, _, pd_44 (by omega) (by omega) r2, _, _, _, pd_44 (by omega) (by omega) r2, _, _, _, pd_83 qa (by omega) (by omega) r2, _, _, _, pd_44 (by omega) q r2, ok⟩, Or.inl ⟨rfl, D, fun x q => by have := hx x q; omega⟩⟩
    · rw [if_neg k] at ht
      simp at ht
      obtain ⟨rfl, rfl, rfl⟩ := ht
      exact ⟨_, _, _, ok, Or.inl ⟨rfl, D, fun x q => by have := hx x q; omega⟩⟩
  · obtain ⟨q, rfl, rfl, rfl⟩ := pi_44 R (by decide)
    simp at ht
    by_cases k : K a = 19 ∨ K a = 20
    · rw [if_pos k] at ht
      have qa : a < c := by
        rcases k with k | k
        · exact pm_lt hK k (by decide)
        · exact pm_lt hK k (by decide)
      simp at ht
      obtain ⟨rfl, rfl, rfl⟩ := ht
      exact ⟨_, _, _, ⟨_, _, _, pd_55 (by omega) r2, _, _, _, pd_44 (by omega) (by omega) r2, _, _, _, pd_83 qa (by omega) (by omega) r2, _, _, _, pd_44 (by omega) q r2, ok⟩, Or.inl ⟨rfl, D, fun x q => by have := hx x q; omega⟩⟩
    · rw [if_neg k] at ht
      simp at ht
      obtain ⟨rfl, rfl, rfl⟩ := ht
      exact ⟨_, _, _, ok, Or.inl ⟨rfl, D, fun x q => by have := hx x q; omega⟩⟩
  · obtain ⟨q, rfl, rfl, rfl⟩ := pi_44 R (by decide)
    simp at ht
    exact pd_apl_ok hK ht hx D q r2 ok
  · obtain ⟨rfl, rfl, rfl⟩ := pi_42 R (Or.inr rfl)
    simp at ht
    exact pd_atom_ok hK ht hx D r1 r2 ok
end
