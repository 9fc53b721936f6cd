section
/-! rows of the kit's PURE-ROWS, pasted -/
theorem pk_us {f : Nat → Int32} {k : Nat} {x : Int32} : upd f k x k = x := if_pos rfl
theorem pk_un {f : Nat → Int32} {k j : Nat} {x : Int32} (h : j ≠ k) : upd f k x j = f j := if_neg h
theorem pk_sub {a b : Nat} (h : b ≤ a) : nI a - nI b = nI (a - b) := by
  obtain ⟨c, rfl⟩ : ∃ c, a = c + b := ⟨a - b, by omega⟩
  rw [← nI_add, Int32.add_sub_cancel, Nat.add_sub_cancel]
theorem pk_m1 (n : Nat) : nI (n + 1) + (-1) = nI n := by
  rw [← nI_1, Int32.add_assoc, show (1 : Int32) + (-1) = 0 from rfl, Int32.add_zero]
theorem pk_mul (a b : Nat) : nI a * nI b = nI (a * b) := (Int32.ofNat_mul a b).symm
theorem pk_ix (x : Int32) {n : Nat} (hn : n < 2 ^ 31) : x < 0 ∨ nI n ≤ x ∨ ∃ j : Nat, j < n ∧ x = nI j := by
  by_cases h : x < 0
  · exact Or.inl h
  · obtain ⟨j, hj, rfl⟩ := nI_of h
    by_cases h2 : j < n
    · exact Or.inr (Or.inr ⟨j, h2, rfl⟩)
    · exact Or.inr (Or.inl (nI_le (by omega) hj))
theorem pk_le {x y : Int32} {A B : Prop} (a b : Nat) (f : a ≤ b → A) (g : b < a → B) (hx : x = nI a := by rfl) (hy : y = nI b := by rfl) (ha : a < 2 ^ 31 := by omega) (hb : b < 2 ^ 31 := by omega) : (x ≤ y → A) ∧ (¬ x ≤ y → B) := by
  subst hx hy
  rw [nI_leI ha hb]
  exact ⟨f, fun z => g (by omega)⟩
theorem pk_lt {x y : Int32} {A B : Prop} (a b : Nat) (f : a < b → A) (g : b ≤ a → B) (hx : x = nI a := by rfl) (hy : y = nI b := by rfl) (ha : a < 2 ^ 31 := by omega) (hb : b < 2 ^ 31 := by omega) : (x < y → A) ∧ (¬ x < y → B) := by
  subst hx hy
  rw [nI_ltI ha hb]
  exact ⟨f, fun z => g (by omega)⟩
theorem pk_eq {x y : Int32} {A B : Prop} (a b : Nat) (f : a = b → A) (g : a ≠ b → B) (hx : x = nI a := by rfl) (hy : y = nI b := by rfl) (ha : a < 2 ^ 31 := by omega) (hb : b < 2 ^ 31 := by omega) : (x = y → A) ∧ (¬ x = y → B) := by
  subst hx hy
  rw [nI_eq ha hb]
  exact ⟨f, g⟩
theorem pk_in {x : Int32} (n N : Nat) (h : n < N) (hx : x = nI n := by rfl) (hN : N < 2 ^ 31 := by omega) : vp_in x N := by
  subst hx
  exact vp_in_nI h hN
theorem pk_cl {x : Int32} (n : Nat) (hx : x = nI n := by rfl) (h : n < 2 ^ 31 := by omega) : x.toNatClampNeg = n := by
  subst hx
  exact nI_clamp h
theorem pk_tn {n : Nat} (h : n < 2 ^ 32) : (nI n).toBitVec.toNat = n := Nat.mod_eq_of_lt h
theorem pk_and (x : Int32) {m : Int32} (k : Nat) (hm : m.toBitVec.toNat = 2 ^ k - 1) : x &&& m = nI (x.toBitVec.toNat % 2 ^ k) := by
  apply Int32.toBitVec_inj.mp
  apply BitVec.eq_of_toNat_eq
  rw [Int32.toBitVec_and, BitVec.toNat_and, hm, Nat.and_two_pow_sub_one_eq_mod]
  show _ = (BitVec.ofNat 32 _).toNat
  rw [BitVec.toNat_ofNat]
  exact (Nat.mod_eq_of_lt (Nat.lt_of_le_of_lt (Nat.mod_le _ _) x.toBitVec.isLt)).symm
theorem pk_andN {n : Nat} (h : n < 2 ^ 32) {m : Int32} (k : Nat) (hm : m.toBitVec.toNat = 2 ^ k - 1) : nI n &&& m = nI (n % 2 ^ k) := by
  rw [pk_and _ k hm, pk_tn h]
theorem pk_shl (a s : Int32) (k : Nat) (hs : (s.toBitVec.smod 32).toNat = k) : (a <<< s).toBitVec.toNat = a.toBitVec.toNat * 2 ^ k % 2 ^ 32 := by
  show (a.toBitVec <<< (s.toBitVec.smod 32).toNat).toNat = _
  rw [hs, BitVec.toNat_shiftLeft, Nat.shiftLeft_eq]
theorem pk_shlN {n : Nat} (s : Int32) (k : Nat) (hs : (s.toBitVec.smod 32).toNat = k) (h : n * 2 ^ k < 2 ^ 32) : nI n <<< s = nI (n * 2 ^ k) := by
  apply Int32.toBitVec_inj.mp
  apply BitVec.eq_of_toNat_eq
  have hn : n < 2 ^ 32 := Nat.lt_of_le_of_lt (Nat.le_mul_of_pos_right n (Nat.two_pow_pos k)) h
  rw [pk_shl _ _ k hs, pk_tn hn, pk_tn h, Nat.mod_eq_of_lt h]
theorem pk_shr (a s : Int32) (k : Nat) (hs : (s.toBitVec.smod 32).toNat = k) : (a >>> s).toInt = a.toInt >>> k := by
  show (a.toBitVec.sshiftRight (s.toBitVec.smod 32).toNat).toInt = _
  rw [hs, BitVec.toInt_sshiftRight]
  rfl
theorem pk_shrN {n : Nat} (h : n < 2 ^ 31) (s : Int32) (k : Nat) (hs : (s.toBitVec.smod 32).toNat = k) : nI n >>> s = nI (n / 2 ^ k) := by
  apply Int32.toInt_inj.mp
  have h2 : n / 2 ^ k ≤ n := Nat.div_le_self _ _
  rw [pk_shr _ _ k hs, nI_toInt h, nI_toInt (by omega), Int.shiftRight_eq_div_pow]
  rfl
theorem pk_nb (z : Int32) : narrow .byte (.int z.toInt8.toInt32) = .int z.toInt8.toInt32 := congrArg Value.int (by simp)
theorem pk_ns (z : Int32) : narrow .short (.int z.toInt16.toInt32) = .int z.toInt16.toInt32 := congrArg Value.int (by simp)
theorem pk_fb (r : Int32) : fits .byte (.int r.toInt8.toInt32) = true := by
  have ⟨a, b⟩ := lg_i2b_range r
  have h1 : (-128 : Int32).toInt = -128 := by decide
  have h2 : (127 : Int32).toInt = 127 := by decide
  simp only [fits, Bool.and_eq_true, decide_eq_true_eq, Int32.le_iff_toInt_le, h1, h2]
  omega
theorem pk_fs (r : Int32) : fits .short (.int r.toInt16.toInt32) = true := by
  have ⟨a, b⟩ := lg_i2s_range r
  have h1 : (-32768 : Int32).toInt = -32768 := by decide
  have h2 : (32767 : Int32).toInt = 32767 := by decide
  simp only [fits, Bool.and_eq_true, decide_eq_true_eq, Int32.le_iff_toInt_le, h1, h2]
  omega
theorem pk_vb (z : Int32) : vp_nar .byte z.toInt8.toInt32 = z.toInt8.toInt32 := by rw [vp_nar_byte]; simp
theorem pk_vs (z : Int32) : vp_nar .short z.toInt16.toInt32 = z.toInt16.toInt32 := by rw [vp_nar_short]; simp
theorem pk_loop {σ : Type} (W : Nat → Nat → σ → Prop) (I : Nat → σ → Prop) (e i0 : Nat) (s : σ) (hi : i0 ≤ e) (h0 : I i0 s) (hx : ∀ n s, I e s → W (n + 1) e s)
    (hs : ∀ n i s, i < e → I i s → (∀ s', I (i + 1) s' → W n (i + 1) s') → W (n + 1) i s) : ∃ n, W n i0 s :=
  ⟨e + 1, loop_i W I e hx hs (e + 1) i0 s hi (by omega) h0⟩
theorem pk_loopD {σ : Type} (W : Nat → Nat → σ → Prop) (I : Nat → σ → Prop) (hx : ∀ n s, I 0 s → W (n + 1) 0 s)
    (hs : ∀ n i s, I (i + 1) s → (∀ s', I i s' → W n i s') → W (n + 1) (i + 1) s) : ∀ (e : Nat) (s : σ), I e s → W (e + 1) e s := by
  intro e
  induction e with
  | zero => exact fun s h => hx 0 s h
  | succ e ih => exact fun s h => hs (e + 1) e s h (fun s' h' => ih s' h')
theorem pk_least (P : Nat → Prop) (h : ∃ k, P k) : ∃ k, P k ∧ ∀ j, j < k → ¬ P j := by
  obtain ⟨k, hk⟩ := h
  induction k using Nat.strongRecOn with
  | ind k ih =>
    by_cases e : ∃ j, j < k ∧ P j
    · obtain ⟨j, hj, pj⟩ := e
      exact ih j hj pj
    · exact ⟨k, hk, fun j hj pj => e ⟨j, hj, pj⟩⟩
end
section
/-! trees, graphs of types and their valuations. A graph: kinds kd, parts pa, pb of the nodes below n.
Kind 1000: the node stands for node pa; 3 .. 6: parts pa and pb; 7, 8: free; all others: leaves -/
abbrev tr_T : Type := Std.Format
def tr_at (c : Nat) : tr_T := Std.Format.tag c Std.Format.nil
def tr_con (c : Nat) (l r : tr_T) : tr_T := Std.Format.tag c (Std.Format.append l r)
theorem tr_at_inj {c d : Nat} (h : tr_at c = tr_at d) : c = d := by
  unfold tr_at at h
  injection h
theorem tr_con_inj {c d : Nat} {l r l' r' : tr_T} (h : tr_con c l r = tr_con d l' r') : c = d ∧ l = l' ∧ r = r' := by
  unfold tr_con at h
  injection h with h1 h2
  injection h2 with h3 h4
  exact ⟨h1, h3, h4⟩
theorem tr_at_con {c d : Nat} {l r : tr_T} (h : tr_at c = tr_con d l r) : False := by
  unfold tr_at tr_con at h
  injection h with h1 h2
  injection h2
noncomputable def tr_sz (t : tr_T) : Nat := SizeOf.sizeOf t
theorem tr_sz_l (c : Nat) (l r : tr_T) : tr_sz l < tr_sz (tr_con c l r) := by
  unfold tr_sz tr_con
  simp
  omega
theorem tr_sz_r (c : Nat) (l r : tr_T) : tr_sz r < tr_sz (tr_con c l r) := by
  unfold tr_sz tr_con
  simp
  omega
abbrev gr_cn (k : Nat) : Prop := 3 ≤ k ∧ k ≤ 6
abbrev gr_fr (k : Nat) : Prop := k = 7 ∨ k = 8
def gr_ev (k : Nat) (x y z : tr_T) : tr_T :=
  if k = 1000 then x else if 3 ≤ k ∧ k ≤ 6 then tr_con k x y else if k = 7 ∨ k = 8 then z else tr_at k
theorem gr_ev_l {k : Nat} {x y z : tr_T} (h : k = 1000) : gr_ev k x y z = x := by
  unfold gr_ev
  rw [if_pos h]
theorem gr_ev_c {k : Nat} {x y z : tr_T} (h : gr_cn k) : gr_ev k x y z = tr_con k x y := by
  unfold gr_ev
  rw [if_neg (by omega), if_pos h]
theorem gr_ev_f {k : Nat} {x y z : tr_T} (h : gr_fr k) : gr_ev k x y z = z := by
  unfold gr_ev
  rw [if_neg (by omega), if_neg (by omega), if_pos h]
theorem gr_ev_t {k : Nat} {x y z : tr_T} (h1 : k ≠ 1000) (h2 : ¬ gr_cn k) (h3 : ¬ gr_fr k) : gr_ev k x y z = tr_at k := by
  unfold gr_ev
  rw [if_neg h1, if_neg h2, if_neg h3]
def gr_V (n : Nat) (kd pa pb : Nat → Nat) (ρ : Nat → tr_T) : Prop :=
  ∀ i, i < n → ρ i = gr_ev (kd i) (ρ (pa i)) (ρ (pb i)) (ρ i)
def gr_W (n : Nat) (kd pa pb : Nat → Nat) : Prop :=
  ∀ i, i < n → (kd i = 1000 → pa i < n) ∧ (gr_cn (kd i) → pa i < n ∧ pb i < n)
def gr_H (kd pa pb : Nat → Nat) : Nat → Nat → Prop
  | 0, _ => False
  | f + 1, i => (kd i = 1000 → gr_H kd pa pb f (pa i)) ∧ (gr_cn (kd i) → gr_H kd pa pb f (pa i) ∧ gr_H kd pa pb f (pb i))
/-- no node contains itself -/
def gr_A (n : Nat) (kd pa pb : Nat → Nat) : Prop := ∀ i, i < n → ∃ f, gr_H kd pa pb f i
/-- a set of nodes that holds the parts of its nodes -/
def gr_C (n : Nat) (kd pa pb : Nat → Nat) (S : Nat → Prop) : Prop :=
  ∀ i, S i → i < n ∧ (kd i = 1000 → S (pa i)) ∧ (gr_cn (kd i) → S (pa i) ∧ S (pb i))
theorem gr_H_s {kd pa pb : Nat → Nat} : ∀ f i, gr_H kd pa pb f i → gr_H kd pa pb (f + 1) i := by
  intro f
  induction f with
  | zero => intro i h; exact h.elim
  | succ f ih =>
    intro i h
    exact ⟨fun z => ih _ (h.1 z), fun z => ⟨ih _ (h.2 z).1, ih _ (h.2 z).2⟩⟩
theorem gr_H_m {kd pa pb : Nat → Nat} {f g i : Nat} (h : f ≤ g) (hf : gr_H kd pa pb f i) : gr_H kd pa pb g i := by
  induction g with
  | zero => cases Nat.le_zero.mp h; exact hf
  | succ g ih =>
    by_cases e : f = g + 1
    · rw [← e]; exact hf
    · exact gr_H_s g i (ih (by omega))
/-- heights of the parts give one of the whole -/
theorem gr_H_i {kd pa pb : Nat → Nat} {i : Nat} (h1 : kd i = 1000 → ∃ f, gr_H kd pa pb f (pa i))
    (h2 : gr_cn (kd i) → (∃ f, gr_H kd pa pb f (pa i)) ∧ ∃ f, gr_H kd pa pb f (pb i)) : ∃ f, gr_H kd pa pb f i := by
  by_cases c1 : kd i = 1000
  · obtain ⟨f, hf⟩ := h1 c1
    exact ⟨f + 1, fun _ => hf, fun z => by omega⟩
  · by_cases c2 : gr_cn (kd i)
    · obtain ⟨⟨f, hf⟩, g, hg⟩ := h2 c2
      exact ⟨f + g + 1, fun z => (c1 z).elim, fun _ => ⟨gr_H_m (by omega) hf, gr_H_m (by omega) hg⟩⟩
    · exact ⟨1, fun z => (c1 z).elim, fun z => (c2 z).elim⟩
def gr_e (kd pa pb : Nat → Nat) (θ : Nat → tr_T) : Nat → Nat → tr_T
  | 0, i => θ i
  | f + 1, i => gr_ev (kd i) (gr_e kd pa pb θ f (pa i)) (gr_e kd pa pb θ f (pb i)) (θ i)
theorem gr_e_s {kd pa pb : Nat → Nat} {θ : Nat → tr_T} : ∀ f i, gr_H kd pa pb f i → ∀ g, f ≤ g → gr_e kd pa pb θ g i = gr_e kd pa pb θ f i := by
  intro f
  induction f with
  | zero => intro i h; exact h.elim
  | succ f ih =>
    intro i h g hg
    obtain ⟨g, rfl⟩ : ∃ k, g = k + 1 := ⟨g - 1, by omega⟩
    unfold gr_e
    by_cases c1 : kd i = 1000
    · rw [gr_ev_l c1, gr_ev_l c1]; exact ih _ (h.1 c1) g (by omega)
    · by_cases c2 : gr_cn (kd i)
      · rw [gr_ev_c c2, gr_ev_c c2, ih _ (h.2 c2).1 g (by omega), ih _ (h.2 c2).2 g (by omega)]
      · by_cases c3 : gr_fr (kd i)
        · rw [gr_ev_f c3, gr_ev_f c3]
        · rw [gr_ev_t c1 c2 c3, gr_ev_t c1 c2 c3]
theorem gr_Vl {n : Nat} {kd pa pb : Nat → Nat} {ρ : Nat → tr_T} (h : gr_V n kd pa pb ρ) {i : Nat} (hi : i < n) (c : kd i = 1000) : ρ i = ρ (pa i) := by
  have e := h i hi
  rw [gr_ev_l c] at e
  exact e
theorem gr_Vc {n : Nat} {kd pa pb : Nat → Nat} {ρ : Nat → tr_T} (h : gr_V n kd pa pb ρ) {i : Nat} (hi : i < n) (c : gr_cn (kd i)) : ρ i = tr_con (kd i) (ρ (pa i)) (ρ (pb i)) := by
  have e := h i hi
  rw [gr_ev_c c] at e
  exact e
theorem gr_Vt {n : Nat} {kd pa pb : Nat → Nat} {ρ : Nat → tr_T} (h : gr_V n kd pa pb ρ) {i : Nat} (hi : i < n) (c1 : kd i ≠ 1000) (c2 : ¬ gr_cn (kd i)) (c3 : ¬ gr_fr (kd i)) : ρ i = tr_at (kd i) := by
  have e := h i hi
  rw [gr_ev_t c1 c2 c3] at e
  exact e
/-- a valuation, node by node -/
theorem gr_Vi {n : Nat} {kd pa pb : Nat → Nat} {ρ : Nat → tr_T} (h : ∀ i, i < n → (kd i = 1000 → ρ i = ρ (pa i)) ∧ (gr_cn (kd i) → ρ i = tr_con (kd i) (ρ (pa i)) (ρ (pb i))) ∧ (kd i ≠ 1000 → ¬ gr_cn (kd i) → ¬ gr_fr (kd i) → ρ i = tr_at (kd i))) : gr_V n kd pa pb ρ := by
  intro i hi
  obtain ⟨h1, h2, h3⟩ := h i hi
  by_cases c1 : kd i = 1000
  · rw [gr_ev_l c1]; exact h1 c1
  · by_cases c2 : gr_cn (kd i)
    · rw [gr_ev_c c2]; exact h2 c2
    · by_cases c3 : gr_fr (kd i)
      · rw [gr_ev_f c3]
      · rw [gr_ev_t c1 c2 c3]; exact h3 c1 c2 c3
/-- what the free nodes are given extends to a valuation -/
theorem gr_ex {n : Nat} {kd pa pb : Nat → Nat} (A : gr_A n kd pa pb) (θ : Nat → tr_T) : ∃ ρ, gr_V n kd pa pb ρ ∧ ∀ i, i < n → gr_fr (kd i) → ρ i = θ i := by
  have key : ∀ i, ∃ x : tr_T, ∀ f, gr_H kd pa pb f i → x = gr_e kd pa pb θ f i := by
    intro i
    by_cases h : ∃ f, gr_H kd pa pb f i
    · obtain ⟨g, hg⟩ := h
      refine ⟨gr_e kd pa pb θ g i, fun f hf => ?_⟩
      by_cases c : f ≤ g
      · exact gr_e_s f i hf _ c
      · exact (gr_e_s _ i hg f (by omega)).symm
    · exact ⟨θ i, fun f hf => (h ⟨f, hf⟩).elim⟩
  obtain ⟨ρ, hρ'⟩ := Classical.axiomOfChoice key
  have hρ : ∀ f i, gr_H kd pa pb f i → ρ i = gr_e kd pa pb θ f i := fun f i => hρ' i f
  refine ⟨ρ, gr_Vi fun i hi => ?_, fun i hi c => ?_⟩
  · obtain ⟨f, hf⟩ := A i hi
    cases f with
    | zero => exact hf.elim
    | succ f =>
      have e := hρ _ i hf
      unfold gr_e at e
      refine ⟨fun c => ?_, fun c => ?_, fun c1 c2 c3 => ?_⟩
      · rw [gr_ev_l c] at e; rw [e, hρ _ _ (hf.1 c)]
      · rw [gr_ev_c c] at e; rw [e, hρ _ _ (hf.2 c).1, hρ _ _ (hf.2 c).2]
      · rw [gr_ev_t c1 c2 c3] at e; exact e
  · obtain ⟨f, hf⟩ := A i hi
    cases f with
    | zero => exact hf.elim
    | succ f =>
      have e := hρ _ i hf
      unfold gr_e at e
      rw [gr_ev_f c] at e
      exact e
/-- valuations that agree on the free nodes of a closed set agree on it -/
theorem gr_ag {n : Nat} {kd pa pb : Nat → Nat} {ρ ρ' : Nat → tr_T} {S : Nat → Prop} (hV : gr_V n kd pa pb ρ) (hV' : gr_V n kd pa pb ρ') (hS : gr_C n kd pa pb S) (hf : ∀ i, S i → gr_fr (kd i) → ρ i = ρ' i) : ∀ f i, gr_H kd pa pb f i → S i → ρ i = ρ' i := by
  intro f
  induction f with
  | zero => intro i h; exact h.elim
  | succ f ih =>
    intro i h si
    obtain ⟨hi, s1, s2⟩ := hS i si
    by_cases c1 : kd i = 1000
    · rw [gr_Vl hV hi c1, gr_Vl hV' hi c1]; exact ih _ (h.1 c1) (s1 c1)
    · by_cases c2 : gr_cn (kd i)
      · rw [gr_Vc hV hi c2, gr_Vc hV' hi c2, ih _ (h.2 c2).1 (s2 c2).1, ih _ (h.2 c2).2 (s2 c2).2]
      · by_cases c3 : gr_fr (kd i)
        · exact hf i si c3
        · rw [gr_Vt hV hi c1 c2 c3, gr_Vt hV' hi c1 c2 c3]
theorem gr_agA {n : Nat} {kd pa pb : Nat → Nat} {ρ ρ' : Nat → tr_T} {S : Nat → Prop} (A : gr_A n kd pa pb) (hV : gr_V n kd pa pb ρ) (hV' : gr_V n kd pa pb ρ') (hS : gr_C n kd pa pb S) (hf : ∀ i, S i → gr_fr (kd i) → ρ i = ρ' i) {i : Nat} (si : S i) : ρ i = ρ' i := by
  obtain ⟨f, h⟩ := A i (hS i si).1
  exact gr_ag hV hV' hS hf f i h si
/-- the set of the nodes at which two valuations agree holds the parts of its nodes -/
theorem gr_agC {n : Nat} {kd pa pb : Nat → Nat} {ρ ρ' : Nat → tr_T} (W : gr_W n kd pa pb) (hV : gr_V n kd pa pb ρ) (hV' : gr_V n kd pa pb ρ') : gr_C n kd pa pb (fun i => i < n ∧ ρ i = ρ' i) := by
  intro i ⟨hi, e⟩
  refine ⟨hi, fun c => ⟨(W i hi).1 c, ?_⟩, fun c => ?_⟩
  · rw [← gr_Vl hV hi c, ← gr_Vl hV' hi c]; exact e
  · rw [gr_Vc hV hi c, gr_Vc hV' hi c] at e
    obtain ⟨_, e1, e2⟩ := tr_con_inj e
    exact ⟨⟨((W i hi).2 c).1, e1⟩, ((W i hi).2 c).2, e2⟩
/-- the node that a node stands for -/
def gr_f (kd pa : Nat → Nat) : Nat → Nat → Nat
  | 0, i => i
  | f + 1, i => if kd i = 1000 then gr_f kd pa f (pa i) else i
def gr_to (kd pa : Nat → Nat) (i r : Nat) : Prop := kd r ≠ 1000 ∧ ∃ f, gr_f kd pa f i = r
theorem gr_f_l {kd pa : Nat → Nat} {f i : Nat} (h : kd i = 1000) : gr_f kd pa (f + 1) i = gr_f kd pa f (pa i) := by
  show (if kd i = 1000 then _ else _) = _
  rw [if_pos h]
theorem gr_f_r {kd pa : Nat → Nat} {i : Nat} (h : kd i ≠ 1000) : ∀ f, gr_f kd pa f i = i := by
  intro f
  cases f with
  | zero => rfl
  | succ f => show (if kd i = 1000 then _ else _) = _; rw [if_neg h]
theorem gr_f_m {kd pa : Nat → Nat} : ∀ {f i r g : Nat}, gr_f kd pa f i = r → kd r ≠ 1000 → f ≤ g → gr_f kd pa g i = r := by
  intro f
  induction f with
  | zero => intro i r g h hr _; cases h; exact gr_f_r hr g
  | succ f ih =>
    intro i r g h hr hg
    obtain ⟨g, rfl⟩ : ∃ k, g = k + 1 := ⟨g - 1, by omega⟩
    by_cases c : kd i = 1000
    · rw [gr_f_l c] at h ⊢; exact ih h hr (by omega)
    · rw [gr_f_r c] at h ⊢; exact h
theorem gr_to_u {kd pa : Nat → Nat} {i r r' : Nat} (h : gr_to kd pa i r) (h' : gr_to kd pa i r') : r = r' := by
  obtain ⟨hr, f, e⟩ := h
  obtain ⟨hr', f', e'⟩ := h'
  have a := gr_f_m (g := f + f') e hr (by omega)
  have b := gr_f_m (g := f + f') e' hr' (by omega)
  exact a.symm.trans b
theorem gr_to_r {kd pa : Nat → Nat} {i : Nat} (h : kd i ≠ 1000) : gr_to kd pa i i := ⟨h, 0, rfl⟩
theorem gr_to_l {kd pa : Nat → Nat} {i r : Nat} (c : kd i = 1000) (h : gr_to kd pa (pa i) r) : gr_to kd pa i r := by
  obtain ⟨hr, f, e⟩ := h
  exact ⟨hr, f + 1, by rw [gr_f_l c]; exact e⟩
/-- what holds along links holds at the end -/
theorem gr_f_P {kd pa : Nat → Nat} (P : Nat → Prop) (hP : ∀ i, P i → kd i = 1000 → P (pa i)) : ∀ f i, P i → P (gr_f kd pa f i) := by
  intro f
  induction f with
  | zero => intro i h; exact h
  | succ f ih =>
    intro i h
    by_cases c : kd i = 1000
    · rw [gr_f_l c]; exact ih _ (hP i h c)
    · rw [gr_f_r c]; exact h
theorem gr_to_P {kd pa : Nat → Nat} {i r : Nat} (h : gr_to kd pa i r) (P : Nat → Prop) (hP : ∀ i, P i → kd i = 1000 → P (pa i)) (hi : P i) : P r := by
  obtain ⟨_, f, e⟩ := h
  rw [← e]
  exact gr_f_P P hP f i hi
theorem gr_f_Q {kd pa : Nat → Nat} (P : Nat → Prop) (hP : ∀ i, kd i = 1000 → P (pa i) → P i) : ∀ f i, P (gr_f kd pa f i) → P i := by
  intro f
  induction f with
  | zero => intro i h; exact h
  | succ f ih =>
    intro i h
    by_cases c : kd i = 1000
    · rw [gr_f_l c] at h; exact hP i c (ih _ h)
    · rw [gr_f_r c] at h; exact h
theorem gr_to_Q {kd pa : Nat → Nat} {i r : Nat} (h : gr_to kd pa i r) (P : Nat → Prop) (hP : ∀ i, kd i = 1000 → P (pa i) → P i) (hr : P r) : P i := by
  obtain ⟨_, f, e⟩ := h
  exact gr_f_Q P hP f i (e ▸ hr)
theorem gr_to_n {n : Nat} {kd pa pb : Nat → Nat} {i r : Nat} (W : gr_W n kd pa pb) (h : gr_to kd pa i r) (hi : i < n) : r < n := by
  have k := gr_to_P h (fun j => j < n) (fun j hj c => (W j hj).1 c) hi
  exact k
theorem gr_to_V {n : Nat} {kd pa pb : Nat → Nat} {ρ : Nat → tr_T} {i r : Nat} (W : gr_W n kd pa pb) (hV : gr_V n kd pa pb ρ) (h : gr_to kd pa i r) (hi : i < n) : ρ i = ρ r := by
  have k := gr_to_P h (fun j => j < n ∧ ρ i = ρ j) (fun j hj c => ⟨(W j hj.1).1 c, hj.2.trans (gr_Vl hV hj.1 c)⟩) ⟨hi, rfl⟩
  exact k.2
theorem gr_to_C {n : Nat} {kd pa pb : Nat → Nat} {S : Nat → Prop} {i r : Nat} (hS : gr_C n kd pa pb S) (h : gr_to kd pa i r) (hi : S i) : S r :=
  gr_to_P h S (fun j hj c => (hS j hj).2.1 c) hi
theorem gr_to_H {kd pa pb : Nat → Nat} {i r : Nat} (h : gr_to kd pa i r) (hr : ∃ f, gr_H kd pa pb f r) : ∃ f, gr_H kd pa pb f i :=
  gr_to_Q h (fun j => ∃ f, gr_H kd pa pb f j) (fun j c hj => gr_H_i (fun _ => hj) (fun z => by omega)) hr
end
section
/-! making two nodes equal: what stays true while pairs wait -/
def gr_u (f : Nat → Nat) (a v : Nat) : Nat → Nat := fun j => if j = a then v else f j
theorem gr_us {f : Nat → Nat} {a v : Nat} : gr_u f a v a = v := if_pos rfl
theorem gr_un {f : Nat → Nat} {a v j : Nat} (h : j ≠ a) : gr_u f a v j = f j := if_neg h
/-- every node below n comes to its end within K links -/
def gr_L (n : Nat) (kd pa : Nat → Nat) (K : Nat) : Prop := ∀ i, i < n → kd (gr_f kd pa K i) ≠ 1000
theorem gr_L_to {n K : Nat} {kd pa : Nat → Nat} (h : gr_L n kd pa K) {i : Nat} (hi : i < n) : gr_to kd pa i (gr_f kd pa K i) := ⟨h i hi, K, rfl⟩
theorem gr_f_u {kd pa : Nat → Nat} {a b : Nat} (ha : kd a ≠ 1000) (hb : kd b ≠ 1000) (hab : a ≠ b) : ∀ f i r, gr_f kd pa f i = r → kd r ≠ 1000 → gr_f (gr_u kd a 1000) (gr_u pa a b) (f + 1) i = if r = a then b else r := by
  have base : ∀ f r, kd r ≠ 1000 → gr_f (gr_u kd a 1000) (gr_u pa a b) (f + 1) r = if r = a then b else r := by
    intro f r hr
    by_cases c : r = a
    · rw [if_pos c, c, gr_f_l gr_us, gr_us, gr_f_r (by rw [gr_un (Ne.symm hab)]; exact hb)]
    · rw [if_neg c, gr_f_r (by rw [gr_un c]; exact hr)]
  intro f
  induction f with
  | zero => intro i r h hr; cases h; exact base 0 _ hr
  | succ f ih =>
    intro i r h hr
    by_cases c : kd i = 1000
    · have hia : i ≠ a := fun z => ha (z ▸ c)
      rw [gr_f_l c] at h
      rw [gr_f_l (by rw [gr_un hia]; exact c), gr_un hia]
      exact ih _ _ h hr
    · rw [gr_f_r c] at h
      cases h
      exact base _ _ hr
theorem gr_L_u {n K : Nat} {kd pa : Nat → Nat} {a b : Nat} (h : gr_L n kd pa K) (ha : kd a ≠ 1000) (hb : kd b ≠ 1000) (hab : a ≠ b) : gr_L n (gr_u kd a 1000) (gr_u pa a b) (K + 1) := by
  intro i hi
  rw [gr_f_u ha hb hab K i _ rfl (h i hi)]
  by_cases c : gr_f kd pa K i = a
  · rw [if_pos c, gr_un (Ne.symm hab)]; exact hb
  · rw [if_neg c, gr_un c]; exact h i hi
theorem gr_to_u' {kd pa : Nat → Nat} {a b : Nat} (ha : kd a ≠ 1000) (hb : kd b ≠ 1000) (hab : a ≠ b) {i r : Nat} (h : gr_to kd pa i r) : gr_to (gr_u kd a 1000) (gr_u pa a b) i (if r = a then b else r) := by
  obtain ⟨hr, f, e⟩ := h
  refine ⟨?_, f + 1, gr_f_u ha hb hab f i r e hr⟩
  by_cases c : r = a
  · rw [if_pos c, gr_un (Ne.symm hab)]; exact hb
  · rw [if_neg c, gr_un c]; exact hr
/-- the nodes that stand for themselves, counted -/
def gr_nr (kd : Nat → Nat) : Nat → Nat
  | 0 => 0
  | n + 1 => gr_nr kd n + (if kd n = 1000 then 0 else 1)
theorem gr_nr_c {kd kd' : Nat → Nat} : ∀ n, (∀ i, i < n → kd i = kd' i) → gr_nr kd n = gr_nr kd' n := by
  intro n
  induction n with
  | zero => intro _; rfl
  | succ n ih =>
    intro h
    unfold gr_nr
    rw [ih (fun i hi => h i (by omega)), h n (by omega)]
theorem gr_nr_le {kd : Nat → Nat} : ∀ n, gr_nr kd n ≤ n := by
  intro n
  induction n with
  | zero => exact Nat.le_refl 0
  | succ n ih =>
    unfold gr_nr
    by_cases c : kd n = 1000
    · rw [if_pos c]; omega
    · rw [if_neg c]; omega
theorem gr_nr_u {kd : Nat → Nat} {a : Nat} : ∀ n, a < n → kd a ≠ 1000 → gr_nr (gr_u kd a 1000) n + 1 = gr_nr kd n := by
  intro n
  induction n with
  | zero => intro h; omega
  | succ n ih =>
    intro h ha
    unfold gr_nr
    by_cases c : a = n
    · subst c
      rw [gr_us, if_pos rfl, if_neg ha, gr_nr_c a (kd := gr_u kd a 1000) (kd' := kd) (fun i hi => gr_un (by omega))]
    · rw [gr_un (Ne.symm c)]
      have := ih (by omega) ha
      omega
/-- sets that hold with a node what it stands for, and the other way, and parts, and all leaves -/
def un_S (n : Nat) (kd pa pb : Nat → Nat) (S : Nat → Prop) : Prop :=
  ∀ i, i < n → (kd i = 1000 → (S i ↔ S (pa i))) ∧ (gr_cn (kd i) → S i → S (pa i) ∧ S (pb i)) ∧ (kd i ≠ 1000 → ¬ gr_cn (kd i) → kd i ≠ 7 → S i)
def un_I (n : Nat) (kd0 pa0 pb : Nat → Nat) (M : Nat → Prop) (s t : Nat) (kd pa : Nat → Nat) (L : List (Nat × Nat)) : Prop :=
  gr_W n kd pa pb ∧
  (∀ ρ, (gr_V n kd0 pa0 pb ρ ∧ ρ s = ρ t) ↔ (gr_V n kd pa pb ρ ∧ ∀ p, p ∈ L → ρ p.1 = ρ p.2)) ∧
  (∀ p, p ∈ L → M p.1 ∧ M p.2) ∧ gr_C n kd pa pb M ∧ (∀ i, M i → kd i ≠ 8) ∧
  (∀ i, i < n → kd i = kd0 i ∧ pa i = pa0 i ∨ kd i = 1000 ∧ kd0 i ≠ 1000 ∧ M i) ∧
  (∀ S : Nat → Prop, un_S n kd pa pb S → (∀ p, p ∈ L → (S p.1 ↔ S p.2)) → (S s ∨ S t) → (∀ p, p ∈ L → S p.1) ∧ (∀ i, i < n → kd i ≠ kd0 i → S i) ∧ S s ∧ S t)
theorem un_0 {n : Nat} {kd pa pb : Nat → Nat} {M : Nat → Prop} {s t : Nat} (W : gr_W n kd pa pb) (C : gr_C n kd pa pb M) (G : ∀ i, M i → kd i ≠ 8) (hs : M s) (ht : M t) : un_I n kd pa pb M s t kd pa [(s, t)] := by
  refine ⟨W, fun ρ => ?_, fun p hp => ?_, C, G, fun i hi => Or.inl ⟨rfl, rfl⟩, fun S hS hL h0 => ?_⟩
  · constructor
    · intro h
      refine ⟨h.1, fun p hp => ?_⟩
      rw [List.mem_singleton] at hp
      rw [hp]; exact h.2
    · intro h
      exact ⟨h.1, h.2 (s, t) (List.mem_singleton.mpr rfl)⟩
  · rw [List.mem_singleton] at hp
    rw [hp]; exact ⟨hs, ht⟩
  · have e := hL (s, t) (List.mem_singleton.mpr rfl)
    have es : S s := h0.elim id e.mpr
    refine ⟨fun p hp => ?_, fun i hi z => (z rfl).elim, es, e.mp es⟩
    rw [List.mem_singleton] at hp
    rw [hp]; exact es
/-- the order of the pairs doesn't matter, nor which of a pair is first -/
theorem un_L {n : Nat} {kd0 pa0 pb : Nat → Nat} {M : Nat → Prop} {s t : Nat} {kd pa : Nat → Nat} {L L' : List (Nat × Nat)} (I : un_I n kd0 pa0 pb M s t kd pa L) (h : ∀ p, p ∈ L' → p ∈ L ∨ (p.2, p.1) ∈ L) (h' : ∀ p, p ∈ L → p ∈ L' ∨ (p.2, p.1) ∈ L') : un_I n kd0 pa0 pb M s t kd pa L' := by
  obtain ⟨W, V, P, C, G, D, Q⟩ := I
  refine ⟨W, fun ρ => (V ρ).trans ?_, fun p hp => ?_, C, G, D, fun S hS hL h0 => ?_⟩
  · constructor
    · intro k
      refine ⟨k.1, fun p hp => ?_⟩
      rcases h p hp with z | z
      · exact k.2 p z
      · exact (k.2 _ z).symm
    · intro k
      refine ⟨k.1, fun p hp => ?_⟩
      rcases h' p hp with z | z
      · exact k.2 p z
      · exact (k.2 _ z).symm
  · rcases h p hp with z | z
    · exact P p z
    · exact ⟨(P _ z).2, (P _ z).1⟩
  · have hL' : ∀ p, p ∈ L → (S p.1 ↔ S p.2) := fun p hp => by
      rcases h' p hp with z | z
      · exact hL p z
      · exact (hL _ z).symm
    obtain ⟨q1, q2⟩ := Q S hS hL' h0
    refine ⟨fun p hp => ?_, q2⟩
    rcases h p hp with z | z
    · exact q1 p z
    · exact (hL' _ z).mp (q1 _ z)
theorem un_Sto {n : Nat} {kd pa pb : Nat → Nat} {S : Nat → Prop} (W : gr_W n kd pa pb) (hS : un_S n kd pa pb S) {i r : Nat} (h : gr_to kd pa i r) (hi : i < n) : S i ↔ S r := by
  have k := gr_to_P h (fun j => j < n ∧ (S i ↔ S j)) (fun j hj c => ⟨(W j hj.1).1 c, hj.2.trans ((hS j hj.1).1 c)⟩) ⟨hi, Iff.rfl⟩
  exact k.2
/-- a pair whose two stand for one node falls away -/
theorem un_drop {n : Nat} {kd0 pa0 pb : Nat → Nat} {M : Nat → Prop} {s t : Nat} {kd pa : Nat → Nat} {L : List (Nat × Nat)} {p q a : Nat} (I : un_I n kd0 pa0 pb M s t kd pa ((p, q) :: L)) (hp : gr_to kd pa p a) (hq : gr_to kd pa q a) : un_I n kd0 pa0 pb M s t kd pa L := by
  obtain ⟨W, V, P, C, G, D, Q⟩ := I
  have mp := P (p, q) List.mem_cons_self
  have pn := (C p mp.1).1
  have qn := (C q mp.2).1
  refine ⟨W, fun ρ => (V ρ).trans ?_, fun x hx => P x (List.mem_cons_of_mem _ hx), C, G, D, fun S hS hL h0 => ?_⟩
  · constructor
    · intro k
      exact ⟨k.1, fun x hx => k.2 x (List.mem_cons_of_mem _ hx)⟩
    · intro k
      refine ⟨k.1, fun x hx => ?_⟩
      rcases List.mem_cons.mp hx with z | z
      · rw [z]; exact (gr_to_V W k.1 hp pn).trans (gr_to_V W k.1 hq qn).symm
      · exact k.2 x z
  · have hL' : ∀ x, x ∈ (p, q) :: L → (S x.1 ↔ S x.2) := fun x hx => by
      rcases List.mem_cons.mp hx with z | z
      · rw [z]; exact (un_Sto W hS hp pn).trans (un_Sto W hS hq qn).symm
      · exact hL x z
    obtain ⟨q1, q2⟩ := Q S hS hL' h0
    exact ⟨fun x hx => q1 x (List.mem_cons_of_mem _ hx), q2⟩
/-- a pair of equal leaves falls away -/
theorem un_same {n : Nat} {kd0 pa0 pb : Nat → Nat} {M : Nat → Prop} {s t : Nat} {kd pa : Nat → Nat} {L : List (Nat × Nat)} {p q a b : Nat} (I : un_I n kd0 pa0 pb M s t kd pa ((p, q) :: L)) (hp : gr_to kd pa p a) (hq : gr_to kd pa q b) (hk : kd a = kd b) (hc : ¬ gr_cn (kd a)) (h7 : kd a ≠ 7) : un_I n kd0 pa0 pb M s t kd pa L := by
  obtain ⟨W, V, P, C, G, D, Q⟩ := I
  have mp := P (p, q) List.mem_cons_self
  have pn := (C p mp.1).1
  have qn := (C q mp.2).1
  have an := gr_to_n W hp pn
  have bn := gr_to_n W hq qn
  have fr : ¬ gr_fr (kd a) := fun z => by
    have := G a (gr_to_C C hp mp.1)
    omega
  refine ⟨W, fun ρ => (V ρ).trans ?_, fun x hx => P x (List.mem_cons_of_mem _ hx), C, G, D, fun S hS hL h0 => ?_⟩
  · constructor
    · intro k
      exact ⟨k.1, fun x hx => k.2 x (List.mem_cons_of_mem _ hx)⟩
    · intro k
      refine ⟨k.1, fun x hx => ?_⟩
      rcases List.mem_cons.mp hx with z | z
      · rw [z]
        show ρ p = ρ q
        rw [gr_to_V W k.1 hp pn, gr_to_V W k.1 hq qn, gr_Vt k.1 an hp.1 hc fr, gr_Vt k.1 bn hq.1 (hk ▸ hc) (hk ▸ fr), hk]
      · exact k.2 x z
  · have hL' : ∀ x, x ∈ (p, q) :: L → (S x.1 ↔ S x.2) := fun x hx => by
      rcases List.mem_cons.mp hx with z | z
      · rw [z]
        exact ⟨fun _ => (un_Sto W hS hq qn).mpr ((hS b bn).2.2 hq.1 (hk ▸ hc) (hk ▸ h7)), fun _ => (un_Sto W hS hp pn).mpr ((hS a an).2.2 hp.1 hc h7)⟩
      · exact hL x z
    obtain ⟨q1, q2⟩ := Q S hS hL' h0
    exact ⟨fun x hx => q1 x (List.mem_cons_of_mem _ hx), q2⟩
/-- a link from a to b: what every case shares -/
theorem un_W {n : Nat} {kd pa pb : Nat → Nat} {a b : Nat} (W : gr_W n kd pa pb) (hb : b < n) : gr_W n (gr_u kd a 1000) (gr_u pa a b) pb := by
  intro i hi
  by_cases c : i = a
  · rw [c, gr_us, gr_us]; exact ⟨fun _ => hb, fun z => by omega⟩
  · rw [gr_un c, gr_un c]; exact W i hi
theorem un_C {n : Nat} {kd pa pb : Nat → Nat} {M : Nat → Prop} {a b : Nat} (C : gr_C n kd pa pb M) (hb : M b) : gr_C n (gr_u kd a 1000) (gr_u pa a b) pb M := by
  intro i hi
  by_cases c : i = a
  · rw [c, gr_us, gr_us]; exact ⟨c ▸ (C i hi).1, fun _ => hb, fun z => by omega⟩
  · rw [gr_un c, gr_un c]; exact C i hi
theorem un_link {n : Nat} {kd0 pa0 pb : Nat → Nat} {M : Nat → Prop} {s t : Nat} {kd pa : Nat → Nat} {L : List (Nat × Nat)} {p q a b : Nat} (I : un_I n kd0 pa0 pb M s t kd pa ((p, q) :: L)) (hp : gr_to kd pa p a) (hq : gr_to kd pa q b) (hab : a ≠ b) (hk : kd a = 7 ∨ kd a = kd b ∧ ¬ gr_cn (kd a)) : un_I n kd0 pa0 pb M s t (gr_u kd a 1000) (gr_u pa a b) L := by
  obtain ⟨W, V, P, C, G, D, Q⟩ := I
  have mp := P (p, q) List.mem_cons_self
  have pn := (C p mp.1).1
  have qn := (C q mp.2).1
  have ma := gr_to_C C hp mp.1
  have mb := gr_to_C C hq mp.2
  have an := (C a ma).1
  have bn := (C b mb).1
  have ka : kd a ≠ 1000 := hp.1
  have kb : kd b ≠ 1000 := hq.1
  have kc : ¬ gr_cn (kd a) := by rcases hk with z | z
                                 · omega
                                 · exact z.2
  have vv : ∀ ρ, gr_V n (gr_u kd a 1000) (gr_u pa a b) pb ρ ↔ gr_V n kd pa pb ρ ∧ ρ a = ρ b := by
    intro ρ
    constructor
    · intro h
      have e : ρ a = ρ b := by
        have z := gr_Vl h an gr_us
        rw [gr_us] at z; exact z
      refine ⟨gr_Vi fun i hi => ?_, e⟩
      by_cases c : i = a
      · rw [c]
        refine ⟨fun z => (ka z).elim, fun z => (kc z).elim, fun z1 z2 z3 => ?_⟩
        rcases hk with z | z
        · exact (z3 (Or.inl z)).elim
        · rw [e, z.1]
          have z4 := gr_Vt h bn (by rw [gr_un (Ne.symm hab)]; exact kb) (by rw [gr_un (Ne.symm hab), ← z.1]; exact z2) (by rw [gr_un (Ne.symm hab), ← z.1]; exact z3)
          rw [gr_un (Ne.symm hab)] at z4; exact z4
      · have z := h i hi
        rw [gr_un c, gr_un c] at z
        refine ⟨fun c1 => ?_, fun c2 => ?_, fun c1 c2 c3 => ?_⟩
        · rw [gr_ev_l c1] at z; exact z
        · rw [gr_ev_c c2] at z; exact z
        · rw [gr_ev_t c1 c2 c3] at z; exact z
    · intro ⟨h, e⟩ i hi
      by_cases c : i = a
      · rw [c, gr_us, gr_us, gr_ev_l rfl]; exact e
      · rw [gr_un c, gr_un c]; exact h i hi
  refine ⟨un_W W bn, fun ρ => (V ρ).trans ?_, fun x hx => P x (List.mem_cons_of_mem _ hx), un_C C mb, fun i hi => ?_, fun i hi => ?_, fun S hS hL h0 => ?_⟩
  · rw [vv]
    constructor
    · intro k
      refine ⟨⟨k.1, ?_⟩, fun x hx => k.2 x (List.mem_cons_of_mem _ hx)⟩
      have z := k.2 (p, q) List.mem_cons_self
      rw [← gr_to_V W k.1 hp pn, ← gr_to_V W k.1 hq qn]; exact z
    · intro k
      refine ⟨k.1.1, fun x hx => ?_⟩
      rcases List.mem_cons.mp hx with z | z
      · rw [z]
        show ρ p = ρ q
        rw [gr_to_V W k.1.1 hp pn, gr_to_V W k.1.1 hq qn]; exact k.1.2
      · exact k.2 x z
  · by_cases c : i = a
    · rw [c, gr_us]; omega
    · rw [gr_un c]; exact G i hi
  · by_cases c : i = a
    · refine Or.inr ⟨by rw [c, gr_us], ?_, c ▸ ma⟩
      rcases D i hi with z | z
      · rw [← z.1, c]; exact ka
      · exact z.2.1
    · rw [gr_un c, gr_un c]; exact D i hi
  · have hS'' : S a ↔ S b := by
      have z := (hS a an).1 gr_us
      rw [gr_us] at z; exact z
    have hS' : un_S n kd pa pb S := by
      intro i hi
      by_cases c : i = a
      · rw [c]
        refine ⟨fun z => (ka z).elim, fun z => (kc z).elim, fun _ _ z => hS''.mpr ?_⟩
        have w := (hS b bn).2.2
        rw [gr_un (Ne.symm hab)] at w
        rcases hk with k7 | ⟨ke, _⟩
        · exact (z k7).elim
        · rw [← ke] at w
          exact w ka kc z
      · have z := hS i hi
        rw [gr_un c, gr_un c] at z; exact z
    have hL' : ∀ x, x ∈ (p, q) :: L → (S x.1 ↔ S x.2) := fun x hx => by
      rcases List.mem_cons.mp hx with z | z
      · rw [z]; exact (un_Sto W hS' hp pn).trans (hS''.trans (un_Sto W hS' hq qn).symm)
      · exact hL x z
    obtain ⟨q1, q2, q3⟩ := Q S hS' hL' h0
    refine ⟨fun x hx => q1 x (List.mem_cons_of_mem _ hx), fun i hi z => ?_, q3⟩
    by_cases c : i = a
    · rw [c]; exact (un_Sto W hS' hp pn).mp (q1 (p, q) List.mem_cons_self)
    · rw [gr_un c] at z; exact q2 i hi z
/-- two nodes of one kind with parts: a link, and the parts wait -/
theorem un_con {n : Nat} {kd0 pa0 pb : Nat → Nat} {M : Nat → Prop} {s t : Nat} {kd pa : Nat → Nat} {L : List (Nat × Nat)} {p q a b : Nat} (I : un_I n kd0 pa0 pb M s t kd pa ((p, q) :: L)) (hp : gr_to kd pa p a) (hq : gr_to kd pa q b) (hab : a ≠ b) (hk : kd a = kd b) (hc : gr_cn (kd a)) : un_I n kd0 pa0 pb M s t (gr_u kd a 1000) (gr_u pa a b) ((pa a, pa b) :: (pb a, pb b) :: L) := by
  obtain ⟨W, V, P, C, G, D, Q⟩ := I
  have mp := P (p, q) List.mem_cons_self
  have pn := (C p mp.1).1
  have qn := (C q mp.2).1
  have ma := gr_to_C C hp mp.1
  have mb := gr_to_C C hq mp.2
  have an := (C a ma).1
  have bn := (C b mb).1
  have ka : kd a ≠ 1000 := hp.1
  have kb : kd b ≠ 1000 := hq.1
  have hcb : gr_cn (kd b) := hk ▸ hc
  have ca := (C a ma).2.2 hc
  have cb := (C b mb).2.2 hcb
  have vv : ∀ ρ, (gr_V n (gr_u kd a 1000) (gr_u pa a b) pb ρ ∧ ρ (pa a) = ρ (pa b) ∧ ρ (pb a) = ρ (pb b)) ↔ gr_V n kd pa pb ρ ∧ ρ a = ρ b := by
    intro ρ
    constructor
    · intro ⟨h, e1, e2⟩
      have e : ρ a = ρ b := by
        have z := gr_Vl h an gr_us
        rw [gr_us] at z; exact z
      have eb : ρ b = tr_con (kd b) (ρ (pa b)) (ρ (pb b)) := by
        have z := gr_Vc h bn (by rw [gr_un (Ne.symm hab)]; exact hcb)
        rw [gr_un (Ne.symm hab), gr_un (Ne.symm hab)] at z; exact z
      refine ⟨gr_Vi fun i hi => ?_, e⟩
      by_cases c : i = a
      · rw [c]
        refine ⟨fun z => (ka z).elim, fun z => ?_, fun z1 z2 z3 => (z2 hc).elim⟩
        rw [e, eb, e1, e2, hk]
      · have z := h i hi
        rw [gr_un c, gr_un c] at z
        refine ⟨fun c1 => ?_, fun c2 => ?_, fun c1 c2 c3 => ?_⟩
        · rw [gr_ev_l c1] at z; exact z
        · rw [gr_ev_c c2] at z; exact z
        · rw [gr_ev_t c1 c2 c3] at z; exact z
    · intro ⟨h, e⟩
      have z := e
      rw [gr_Vc h an hc, gr_Vc h bn hcb] at z
      obtain ⟨_, e1, e2⟩ := tr_con_inj z
      refine ⟨fun i hi => ?_, e1, e2⟩
      by_cases c : i = a
      · rw [c, gr_us, gr_us, gr_ev_l rfl]; exact e
      · rw [gr_un c, gr_un c]; exact h i hi
  refine ⟨un_W W bn, fun ρ => (V ρ).trans ?_, fun x hx => ?_, un_C C mb, fun i hi => ?_, fun i hi => ?_, fun S hS hL h0 => ?_⟩
  · constructor
    · intro k
      have z := k.2 (p, q) List.mem_cons_self
      have e : ρ a = ρ b := by rw [← gr_to_V W k.1 hp pn, ← gr_to_V W k.1 hq qn]; exact z
      obtain ⟨h1, h2, h3⟩ := (vv ρ).mpr ⟨k.1, e⟩
      refine ⟨h1, fun x hx => ?_⟩
      rcases List.mem_cons.mp hx with z | hx
      · rw [z]; exact h2
      · rcases List.mem_cons.mp hx with z | hx
        · rw [z]; exact h3
        · exact k.2 x (List.mem_cons_of_mem _ hx)
    · intro k
      have e1 := k.2 (pa a, pa b) List.mem_cons_self
      have e2 := k.2 (pb a, pb b) (List.mem_cons_of_mem _ List.mem_cons_self)
      obtain ⟨h, e⟩ := (vv ρ).mp ⟨k.1, e1, e2⟩
      refine ⟨h, fun x hx => ?_⟩
      rcases List.mem_cons.mp hx with z | z
      · rw [z]
        show ρ p = ρ q
        rw [gr_to_V W h hp pn, gr_to_V W h hq qn]; exact e
      · exact k.2 x (List.mem_cons_of_mem _ (List.mem_cons_of_mem _ z))
  · rcases List.mem_cons.mp hx with z | hx
    · rw [z]; exact ⟨ca.1, cb.1⟩
    · rcases List.mem_cons.mp hx with z | hx
      · rw [z]; exact ⟨ca.2, cb.2⟩
      · exact P x (List.mem_cons_of_mem _ hx)
  · by_cases c : i = a
    · rw [c, gr_us]; omega
    · rw [gr_un c]; exact G i hi
  · by_cases c : i = a
    · refine Or.inr ⟨by rw [c, gr_us], ?_, c ▸ ma⟩
      rcases D i hi with z | z
      · rw [← z.1, c]; exact ka
      · exact z.2.1
    · rw [gr_un c, gr_un c]; exact D i hi
  · have l1 := hL (pa a, pa b) List.mem_cons_self
    have l2 := hL (pb a, pb b) (List.mem_cons_of_mem _ List.mem_cons_self)
    have hS'' : S a ↔ S b := by
      have z := (hS a an).1 gr_us
      rw [gr_us] at z; exact z
    have hb' : S b → S (pa b) ∧ S (pb b) := by
      have z := (hS b bn).2.1
      rw [gr_un (Ne.symm hab), gr_un (Ne.symm hab)] at z
      exact z hcb
    have ha' : S a → S (pa a) ∧ S (pb a) := fun z => ⟨l1.mpr (hb' (hS''.mp z)).1, l2.mpr (hb' (hS''.mp z)).2⟩
    have hS' : un_S n kd pa pb S := by
      intro i hi
      by_cases c : i = a
      · rw [c]; exact ⟨fun z => (ka z).elim, fun _ => ha', fun _ z => (z hc).elim⟩
      · have z := hS i hi
        rw [gr_un c, gr_un c] at z; exact z
    have hL' : ∀ x, x ∈ (p, q) :: L → (S x.1 ↔ S x.2) := fun x hx => by
      rcases List.mem_cons.mp hx with z | z
      · rw [z]; exact (un_Sto W hS' hp pn).trans (hS''.trans (un_Sto W hS' hq qn).symm)
      · exact hL x (List.mem_cons_of_mem _ (List.mem_cons_of_mem _ z))
    obtain ⟨q1, q2, q3⟩ := Q S hS' hL' h0
    have sa : S a := (un_Sto W hS' hp pn).mp (q1 (p, q) List.mem_cons_self)
    refine ⟨fun x hx => ?_, fun i hi z => ?_, q3⟩
    · rcases List.mem_cons.mp hx with z | hx
      · rw [z]; exact (ha' sa).1
      · rcases List.mem_cons.mp hx with z | hx
        · rw [z]; exact (ha' sa).2
        · exact q1 x (List.mem_cons_of_mem _ hx)
    · by_cases c : i = a
      · rw [c]; exact sa
      · rw [gr_un c] at z; exact q2 i hi z
/-- two kinds that nothing makes equal -/
theorem un_fail {n : Nat} {kd0 pa0 pb : Nat → Nat} {M : Nat → Prop} {s t : Nat} {kd pa : Nat → Nat} {L : List (Nat × Nat)} {p q a b : Nat} (I : un_I n kd0 pa0 pb M s t kd pa ((p, q) :: L)) (hp : gr_to kd pa p a) (hq : gr_to kd pa q b) (hk : kd a ≠ kd b) (ha : kd a ≠ 7) (hb : kd b ≠ 7) : ∀ ρ, gr_V n kd0 pa0 pb ρ → ρ s ≠ ρ t := by
  intro ρ h0 e0
  obtain ⟨W, V, P, C, G, D, Q⟩ := I
  have mp := P (p, q) List.mem_cons_self
  have pn := (C p mp.1).1
  have qn := (C q mp.2).1
  have ma := gr_to_C C hp mp.1
  have mb := gr_to_C C hq mp.2
  have an := (C a ma).1
  have bn := (C b mb).1
  obtain ⟨h, k⟩ := (V ρ).mp ⟨h0, e0⟩
  have e : ρ a = ρ b := by rw [← gr_to_V W h hp pn, ← gr_to_V W h hq qn]; exact k (p, q) List.mem_cons_self
  have fa : ¬ gr_fr (kd a) := fun z => by rcases z with z | z
                                          · exact ha z
                                          · exact G a ma z
  have fb : ¬ gr_fr (kd b) := fun z => by rcases z with z | z
                                          · exact hb z
                                          · exact G b mb z
  by_cases ca : gr_cn (kd a)
  · by_cases cb : gr_cn (kd b)
    · rw [gr_Vc h an ca, gr_Vc h bn cb] at e
      exact hk (tr_con_inj e).1
    · rw [gr_Vc h an ca, gr_Vt h bn hq.1 cb fb] at e
      exact tr_at_con e.symm
  · by_cases cb : gr_cn (kd b)
    · rw [gr_Vt h an hp.1 ca fa, gr_Vc h bn cb] at e
      exact tr_at_con e
    · rw [gr_Vt h an hp.1 ca fa, gr_Vt h bn hq.1 cb fb] at e
      exact hk (tr_at_inj e)
/-- what a search for a node that contains itself has seen when it has found none -/
def ck_R (n : Nat) (kd pa pb : Nat → Nat) (S : Nat → Prop) : Prop :=
  ∀ r, S r → r < n ∧ kd r ≠ 1000 ∧ (∃ f, gr_H kd pa pb f r) ∧ (gr_cn (kd r) → (∀ x, gr_to kd pa (pa r) x → S x) ∧ ∀ x, gr_to kd pa (pb r) x → S x)
theorem un_end {n K : Nat} {kd0 pa0 pb : Nat → Nat} {M : Nat → Prop} {s t : Nat} {kd pa : Nat → Nat} (I : un_I n kd0 pa0 pb M s t kd pa []) (W0 : gr_W n kd0 pa0 pb) (A : gr_A n kd0 pa0 pb) (hK : gr_L n kd pa K) {S : Nat → Prop} (hS : ck_R n kd pa pb S) (h0 : (∀ x, gr_to kd pa s x → S x) ∨ ∀ x, gr_to kd pa t x → S x) : gr_A n kd pa pb := by
  obtain ⟨W, V, P, C, G, D, Q⟩ := I
  have hT : un_S n kd pa pb (fun i => ∀ x, gr_to kd pa i x → S x ∨ ¬ gr_cn (kd x)) := by
    intro i hi
    refine ⟨fun c => ⟨fun h x hx => h x (gr_to_l c hx), fun h x hx => ?_⟩, fun c h => ?_, fun c1 c2 _ x hx => ?_⟩
    · obtain ⟨y, hy⟩ : ∃ y, gr_to kd pa (pa i) y := ⟨_, gr_L_to hK ((W i hi).1 c)⟩
      have e := gr_to_u hx (gr_to_l c hy)
      exact e ▸ h y hy
    · rcases h i (gr_to_r (by omega)) with si | si
      · exact ⟨fun x hx => Or.inl (((hS i si).2.2.2 c).1 x hx), fun x hx => Or.inl (((hS i si).2.2.2 c).2 x hx)⟩
      · exact (si c).elim
    · rw [gr_to_u hx (gr_to_r c1)]; exact Or.inr c2
  obtain ⟨_, q2, _⟩ := Q _ hT (fun p hp => by cases hp) (h0.imp (fun h x hx => Or.inl (h x hx)) (fun h x hx => Or.inl (h x hx)))
  have ch : ∀ i, i < n → kd i ≠ kd0 i → ∃ f, gr_H kd pa pb f i := by
    intro i hi z
    have t := gr_L_to hK hi
    rcases q2 i hi z _ t with y | y
    · exact gr_to_H t (hS _ y).2.2.1
    · exact gr_to_H t (gr_H_i (fun c => (t.1 c).elim) (fun c => (y c).elim))
  have all : ∀ f i, i < n → gr_H kd0 pa0 pb f i → ∃ f, gr_H kd pa pb f i := by
    intro f
    induction f with
    | zero => intro i _ h; exact h.elim
    | succ f ih =>
      intro i hi h
      by_cases c : kd i = kd0 i
      · rcases D i hi with z | z
        · refine gr_H_i (fun c1 => ?_) (fun c2 => ?_)
          · rw [z.1] at c1
            rw [z.2]; exact ih _ ((W0 i hi).1 c1) (h.1 c1)
          · rw [z.1] at c2
            rw [z.2]; exact ⟨ih _ ((W0 i hi).2 c2).1 (h.2 c2).1, ih _ ((W0 i hi).2 c2).2 (h.2 c2).2⟩
        · exact ((z.2.1) (c ▸ z.1)).elim
      · exact ch i hi c
  intro i hi
  obtain ⟨f, h⟩ := A i hi
  exact all f i hi h
end
section
/-! a graph that stands for a set of worlds: op (the variables that lie about), stk (the types that wait), env (the types of the bindings, the innermost first), bs (name, general) of the bindings -/
/-- the entries whose binding isn't general -/
def mo_l {α : Type} : List (Nat × Bool) → List α → List α
  | b :: bs, e :: E => if b.2 = true then mo_l bs E else e :: mo_l bs E
  | _, _ => []
theorem mo_t {α : Type} {m : Nat} {bs : List (Nat × Bool)} {e : α} {E : List α} : mo_l ((m, true) :: bs) (e :: E) = mo_l bs E := rfl
theorem mo_f {α : Type} {m : Nat} {bs : List (Nat × Bool)} {e : α} {E : List α} : mo_l ((m, false) :: bs) (e :: E) = e :: mo_l bs E := rfl
theorem mo_m {α : Type} : ∀ (bs : List (Nat × Bool)) (E : List α) (x : α), x ∈ mo_l bs E → x ∈ E := by
  intro bs
  induction bs with
  | nil => intro E x h; cases h
  | cons b bs ih =>
    intro E x h
    cases E with
    | nil => cases h
    | cons e E =>
      obtain ⟨m, p⟩ := b
      cases p with
      | true => rw [mo_t] at h; exact List.mem_cons_of_mem _ (ih E x h)
      | false =>
        rw [mo_f] at h
        rcases List.mem_cons.mp h with z | z
        · rw [z]; exact List.mem_cons_self
        · exact List.mem_cons_of_mem _ (ih E x z)
theorem mo_map {α β : Type} (f : α → β) : ∀ (bs : List (Nat × Bool)) (E : List α), mo_l bs (E.map f) = (mo_l bs E).map f := by
  intro bs
  induction bs with
  | nil => intro E; rfl
  | cons b bs ih =>
    intro E
    cases E with
    | nil => rfl
    | cons e E =>
      obtain ⟨m, p⟩ := b
      cases p with
      | true => rw [List.map_cons, mo_t, mo_t]; exact ih E
      | false => rw [List.map_cons, mo_f, mo_f, List.map_cons, ih E]
theorem mp_e {α β : Type} {f g : α → β} : ∀ {l : List α}, l.map f = l.map g → ∀ x, x ∈ l → f x = g x := by
  intro l
  induction l with
  | nil => intro _ x h; cases h
  | cons a l ih =>
    intro h x hx
    rw [List.map_cons, List.map_cons] at h
    injection h with h1 h2
    rcases List.mem_cons.mp hx with z | z
    · rw [z]; exact h1
    · exact ih h2 x z
theorem mp_i {α β : Type} {f g : α → β} {l : List α} (h : ∀ x, x ∈ l → f x = g x) : l.map f = l.map g := List.map_congr_left h
/-- a general binding's type is settled by what lies about, the bindings around it that aren't general, and the general variables -/
def rp_P (n : Nat) (kd pa pb : Nat → Nat) (op : List Nat) : List (Nat × Bool) → List Nat → Prop
  | b :: bs, e :: env => (b.2 = true → ∀ ρ ρ', gr_V n kd pa pb ρ → gr_V n kd pa pb ρ' → op.map ρ = op.map ρ' → (mo_l bs env).map ρ = (mo_l bs env).map ρ' → (∀ i, i < n → kd i = 8 → ρ i = ρ' i) → ρ e = ρ' e) ∧ rp_P n kd pa pb op bs env
  | _, _ => True
theorem rp_P_all {n : Nat} {kd pa pb : Nat → Nat} {op : List Nat} {ρ ρ' : Nat → tr_T} (hV : gr_V n kd pa pb ρ) (hV' : gr_V n kd pa pb ρ') (ho : op.map ρ = op.map ρ') (hg : ∀ i, i < n → kd i = 8 → ρ i = ρ' i) : ∀ (bs : List (Nat × Bool)) (env : List Nat), bs.length = env.length → rp_P n kd pa pb op bs env → (mo_l bs env).map ρ = (mo_l bs env).map ρ' → env.map ρ = env.map ρ' := by
  intro bs
  induction bs with
  | nil => intro env hl _ _; cases env with
    | nil => rfl
    | cons e env => cases hl
  | cons b bs ih =>
    intro env hl hP hm
    cases env with
    | nil => cases hl
    | cons e env =>
      obtain ⟨m, p⟩ := b
      have hl' : bs.length = env.length := by simpa using hl
      cases p with
      | true =>
        rw [mo_t] at hm
        rw [List.map_cons, List.map_cons, hP.1 rfl ρ ρ' hV hV' ho hm hg, ih env hl' hP.2 hm]
      | false =>
        rw [mo_f, List.map_cons, List.map_cons] at hm
        injection hm with h1 h2
        rw [List.map_cons, List.map_cons, h1, ih env hl' hP.2 h2]
theorem rp_P_mono {n n' : Nat} {kd pa pb kd' pa' pb' : Nat → Nat} {op : List Nat} (hV : ∀ ρ, gr_V n' kd' pa' pb' ρ → gr_V n kd pa pb ρ) (hg : ∀ i, i < n → kd i = 8 → i < n' ∧ kd' i = 8) : ∀ (bs : List (Nat × Bool)) (env : List Nat), rp_P n kd pa pb op bs env → rp_P n' kd' pa' pb' op bs env := by
  intro bs
  induction bs with
  | nil => intro env _; trivial
  | cons b bs ih =>
    intro env h
    cases env with
    | nil => trivial
    | cons e env =>
      exact ⟨fun c ρ ρ' h1 h2 h3 h4 h5 => h.1 c ρ ρ' (hV ρ h1) (hV ρ' h2) h3 h4 (fun i hi k => h5 i (hg i hi k).1 (hg i hi k).2), ih env h.2⟩
def rp_I (b0 nl n : Nat) (kd pa pb : Nat → Nat) (op stk env : List Nat) (bs : List (Nat × Bool)) (V : List tr_T → List tr_T → List tr_T → Prop) : Prop :=
  gr_W n kd pa pb ∧ gr_A n kd pa pb ∧
  (∃ M E : Nat → Prop, (gr_C n kd pa pb M ∧ (∀ i, M i → kd i ≠ 8) ∧ (∀ x, x ∈ op → M x) ∧ (∀ x, x ∈ stk → M x) ∧ (∀ x, x ∈ mo_l bs env → M x)) ∧ gr_C n kd pa pb E ∧ (∀ i, M i → E i) ∧ (∀ x, x ∈ env → E x) ∧ ∀ i, E i → ¬ M i → b0 ≤ i ∧ i < nl) ∧
  (∀ x, x ∈ env → x < n) ∧ bs.length = env.length ∧ rp_P n kd pa pb op bs env ∧
  (∀ ν st E, V ν st E ↔ ∃ ρ, gr_V n kd pa pb ρ ∧ op.map ρ = ν ∧ stk.map ρ = st ∧ env.map ρ = E)
/-- kinds 7 and 8 are free alike -/
theorem gr_V_78 {n : Nat} {kd kd' pa pb : Nat → Nat} (h : ∀ i, i < n → kd' i = kd i ∨ gr_fr (kd' i) ∧ gr_fr (kd i)) (ρ : Nat → tr_T) : gr_V n kd' pa pb ρ ↔ gr_V n kd pa pb ρ := by
  constructor
  · intro hV i hi
    have e := hV i hi
    rcases h i hi with z | ⟨z1, z2⟩
    · rw [z] at e; exact e
    · rw [gr_ev_f z2]
  · intro hV i hi
    have e := hV i hi
    rcases h i hi with z | ⟨z1, z2⟩
    · rw [z]; exact e
    · rw [gr_ev_f z1]
theorem gr_H_78 {kd kd' pa pb : Nat → Nat} (h : ∀ i, kd' i = kd i ∨ gr_fr (kd' i) ∧ gr_fr (kd i)) : ∀ f i, gr_H kd pa pb f i → gr_H kd' pa pb f i := by
  intro f
  induction f with
  | zero => intro i z; exact z.elim
  | succ f ih =>
    intro i z
    rcases h i with e | ⟨e1, e2⟩
    · refine ⟨fun c => ih _ (z.1 (e ▸ c)), fun c => ?_⟩
      rw [e] at c
      exact ⟨ih _ (z.2 c).1, ih _ (z.2 c).2⟩
    · exact ⟨fun c => by omega, fun c => by omega⟩
/-- making general -/
theorem rp_gen {b0 nl n : Nat} {kd pa pb kd' : Nat → Nat} {op stk env : List Nat} {bs : List (Nat × Bool)} {V : List tr_T → List tr_T → List tr_T → Prop} {t nm : Nat} {F R : Nat → Prop}
    (I : rp_I b0 nl n kd pa pb op (t :: stk) env bs V)
    (CI : ∀ ν E τ st τ' st', V ν (τ :: st) E → V ν (τ' :: st') E → V ν (τ' :: st) E)
    (hF : gr_C n kd pa pb F)
    (dF : ∀ ρ ρ', gr_V n kd pa pb ρ → gr_V n kd pa pb ρ' → op.map ρ = op.map ρ' → env.map ρ = env.map ρ' → (∀ i, i < n → kd i = 8 → ρ i = ρ' i) → ∀ i, F i → ρ i = ρ' i)
    (oF : ∀ ρ ρ', gr_V n kd pa pb ρ → gr_V n kd pa pb ρ' → (∀ i, F i → ρ i = ρ' i) → op.map ρ = op.map ρ' ∧ env.map ρ = env.map ρ')
    (hR : gr_C n kd pa pb R)
    (dR : ∀ ρ ρ', gr_V n kd pa pb ρ → gr_V n kd pa pb ρ' → ρ t = ρ' t → ∀ i, R i → ρ i = ρ' i)
    (oR : ∀ ρ ρ', gr_V n kd pa pb ρ → gr_V n kd pa pb ρ' → (∀ i, R i → ρ i = ρ' i) → ρ t = ρ' t)
    (hb : ∀ ρ ρ', gr_V n kd pa pb ρ → gr_V n kd pa pb ρ' → (∀ i, F i → ρ i = ρ' i) → ∀ i, i < b0 → ρ i = ρ' i)
    (hk : ∀ i, (kd i = 7 ∧ R i ∧ ¬ F i ∧ kd' i = 8) ∨ (¬ (kd i = 7 ∧ R i ∧ ¬ F i) ∧ kd' i = kd i)) :
    rp_I b0 n n kd' pa pb op stk (t :: env) ((nm, true) :: bs) (fun ν st E => ∃ τ E0, E = τ :: E0 ∧ V ν (τ :: st) E0) := by
  obtain ⟨W, A, ⟨M, E, ⟨hM, gM, oM, sM, eM⟩, cE, mE, eE, bE⟩, en, hl, hP, hV⟩ := I
  have h78 : ∀ i, kd' i = kd i ∨ gr_fr (kd' i) ∧ gr_fr (kd i) := by
    intro i
    rcases hk i with z | z
    · exact Or.inr ⟨Or.inr z.2.2.2, Or.inl z.1⟩
    · exact Or.inl z.2
  have vv : ∀ ρ, gr_V n kd' pa pb ρ ↔ gr_V n kd pa pb ρ := gr_V_78 (fun i _ => h78 i)
  have k1 : ∀ i, kd' i = 1000 ↔ kd i = 1000 := by
    intro i
    rcases h78 i with z | z
    · rw [z]
    · omega
  have k2 : ∀ i, gr_cn (kd' i) ↔ gr_cn (kd i) := by
    intro i
    rcases h78 i with z | z
    · rw [z]
    · omega
  have tM : M t := sM t List.mem_cons_self
  have tn : t < n := (hM t tM).1
  -- agreement on all that stays
  have key : ∀ ρ ρ', gr_V n kd pa pb ρ → gr_V n kd pa pb ρ' → (∀ j, j < n → gr_fr (kd j) → kd' j = kd j → ρ j = ρ' j) → ∀ i, F i → ρ i = ρ' i := by
    intro ρ ρ' h h' ha i hi
    refine gr_agA A h h' hF (fun j hj c => ?_) hi
    refine ha j (hF j hj).1 c ?_
    rcases hk j with z | z
    · exact (z.2.2.1 hj).elim
    · exact z.2
  refine ⟨?_, ?_, ⟨fun i => M i ∧ ∀ ρ ρ', gr_V n kd pa pb ρ → gr_V n kd pa pb ρ' → (∀ j, j < n → gr_fr (kd j) → kd' j = kd j → ρ j = ρ' j) → ρ i = ρ' i, E, ⟨?_, ?_, ?_, ?_, ?_⟩, ?_, fun i hi => mE i hi.1, ?_, ?_⟩, ?_, ?_, ?_, ?_⟩
  · intro i hi
    rw [k1, k2]; exact W i hi
  · intro i hi
    obtain ⟨f, h⟩ := A i hi
    exact ⟨f, gr_H_78 h78 f i h⟩
  · intro i ⟨mi, hi⟩
    have z := hM i mi
    refine ⟨z.1, fun c => ⟨z.2.1 ((k1 i).mp c), fun ρ ρ' h h' ha => ?_⟩, fun c => ?_⟩
    · rw [← gr_Vl h z.1 ((k1 i).mp c), ← gr_Vl h' z.1 ((k1 i).mp c)]; exact hi ρ ρ' h h' ha
    · have c' := (k2 i).mp c
      refine ⟨⟨(z.2.2 c').1, fun ρ ρ' h h' ha => ?_⟩, (z.2.2 c').2, fun ρ ρ' h h' ha => ?_⟩
      · have e := hi ρ ρ' h h' ha
        rw [gr_Vc h z.1 c', gr_Vc h' z.1 c'] at e
        exact (tr_con_inj e).2.1
      · have e := hi ρ ρ' h h' ha
        rw [gr_Vc h z.1 c', gr_Vc h' z.1 c'] at e
        exact (tr_con_inj e).2.2
  · intro i ⟨mi, hi⟩ c
    have z : kd i = 7 := by
      rcases hk i with z | z
      · exact z.1
      · exact (gM i mi (z.2 ▸ c)).elim
    have ni : i < n := (hM i mi).1
    obtain ⟨ρ, h, r⟩ := gr_ex A (fun _ => tr_at 0)
    obtain ⟨ρ', h', r'⟩ := gr_ex A (fun j => if j = i then tr_at 1 else tr_at 0)
    have e := hi ρ ρ' h h' (fun j hj cj ej => by
      rw [r j hj cj, r' j hj cj]
      have : j ≠ i := fun q => by rw [q, c, z] at ej; omega
      rw [if_neg this])
    rw [r i ni (Or.inl z), r' i ni (Or.inl z), if_pos rfl] at e
    exact absurd (tr_at_inj e) (by decide)
  · intro x hx
    exact ⟨oM x hx, fun ρ ρ' h h' ha => mp_e (oF ρ ρ' h h' (key ρ ρ' h h' ha)).1 x hx⟩
  · intro x hx
    refine ⟨sM x (List.mem_cons_of_mem _ hx), fun ρ ρ' h h' ha => ?_⟩
    obtain ⟨e1, e2⟩ := oF ρ ρ' h h' (key ρ ρ' h h' ha)
    have v := (hV (op.map ρ) (ρ t :: stk.map ρ) (env.map ρ)).mpr ⟨ρ, h, rfl, rfl, rfl⟩
    have v' := (hV (op.map ρ) (ρ' t :: stk.map ρ') (env.map ρ)).mpr ⟨ρ', h', e1.symm, rfl, e2.symm⟩
    obtain ⟨ρ2, h2, _, es, _⟩ := (hV _ _ _).mp (CI _ _ _ _ _ _ v v')
    rw [List.map_cons] at es
    injection es with et es
    have C := gr_agC W h h2
    have xs := mp_e es x hx
    refine gr_agA A h h' C (fun j hj c => ?_) ⟨(hM x (sM x (List.mem_cons_of_mem _ hx))).1, xs.symm⟩
    rcases hk j with z | z
    · exact hj.2.trans (dR ρ2 ρ' h2 h' et j z.2.1)
    · exact ha j hj.1 c z.2
  · intro x hx
    refine ⟨eM x (by rw [mo_t] at hx; exact hx), fun ρ ρ' h h' ha => ?_⟩
    rw [mo_t] at hx
    exact mp_e (oF ρ ρ' h h' (key ρ ρ' h h' ha)).2 x (mo_m bs env x hx)
  · intro i hi
    rw [k1, k2]; exact cE i hi
  · intro x hx
    rcases List.mem_cons.mp hx with z | z
    · rw [z]; exact mE t tM
    · exact eE x z
  · intro i hi nm
    refine ⟨?_, (cE i hi).1⟩
    by_cases mi : M i
    · by_cases q : i < b0
      · exact (nm ⟨mi, fun ρ ρ' h h' ha => hb ρ ρ' h h' (key ρ ρ' h h' ha) i q⟩).elim
      · omega
    · exact (bE i hi mi).1
  · intro x hx
    rcases List.mem_cons.mp hx with z | z
    · rw [z]; exact tn
    · exact en x z
  · simp [hl]
  · refine ⟨fun _ ρ ρ' h h' ho hm hg => ?_, rp_P_mono (fun ρ h => (vv ρ).mp h) (fun i hi c => ⟨hi, ?_⟩) bs env hP⟩
    · have h := (vv ρ).mp h
      have h' := (vv ρ').mp h'
      have hg' : ∀ i, i < n → kd i = 8 → ρ i = ρ' i := fun i hi c => hg i hi (by
        rcases hk i with z | z
        · exact z.2.2.2
        · rw [z.2]; exact c)
      have he := rp_P_all h h' ho hg' bs env hl hP hm
      have fF := dF ρ ρ' h h' ho he hg'
      refine oR ρ ρ' h h' (fun i hi => gr_agA A h h' hR (fun j hj c => ?_) hi)
      rcases hk j with z | z
      · exact hg j (hR j hj).1 z.2.2.2
      · rcases c with c | c
        · by_cases q : F j
          · exact fF j q
          · exact (z.1 ⟨c, hj, q⟩).elim
        · exact hg' j (hR j hj).1 c
    · rcases hk i with z | z
      · exact z.2.2.2
      · rw [z.2]; exact c
  · intro ν st E
    constructor
    · intro ⟨τ, E0, e, v⟩
      obtain ⟨ρ, h, e1, e2, e3⟩ := (hV _ _ _).mp v
      rw [List.map_cons] at e2
      injection e2 with e2 e4
      exact ⟨ρ, (vv ρ).mpr h, e1, e4, by rw [List.map_cons, e, e2, e3]⟩
    · intro ⟨ρ, h, e1, e2, e3⟩
      exact ⟨ρ t, env.map ρ, by rw [← e3, List.map_cons], (hV _ _ _).mpr ⟨ρ, (vv ρ).mp h, e1, by rw [List.map_cons, e2], rfl⟩⟩
end
section
/-! the copy of a type with new variables for its general ones -/
theorem gr_H_to {kd pa pb : Nat → Nat} {f i r : Nat} (h : gr_to kd pa i r) (hf : gr_H kd pa pb f i) : gr_H kd pa pb f r := by
  refine gr_to_P h (fun j => gr_H kd pa pb f j) (fun j hj c => ?_) hf
  cases f with
  | zero => exact hj.elim
  | succ f => exact gr_H_s f _ (hj.1 c)
theorem gr_to_p {kd pa : Nat → Nat} {i r : Nat} (c : kd i = 1000) (h : gr_to kd pa i r) : gr_to kd pa (pa i) r := by
  obtain ⟨hr, f, e⟩ := h
  cases f with
  | zero => exact (hr (by rw [← e]; exact c)).elim
  | succ f => rw [gr_f_l c] at e; exact ⟨hr, f, e⟩
def ic_I (n n' : Nat) (kd pa pb kd' pa' pb' : Nat → Nat) (R : Nat → Prop) (cp : Nat → Nat) : Prop :=
  n ≤ n' ∧ (∀ i, i < n → kd' i = kd i ∧ pa' i = pa i ∧ pb' i = pb i) ∧
  (∀ r, R r → r < n ∧ kd r ≠ 1000 ∧ (kd r = 8 → n ≤ cp r ∧ cp r < n' ∧ kd' (cp r) = 7) ∧
    (gr_cn (kd r) → ∃ x y, gr_to kd pa (pa r) x ∧ gr_to kd pa (pb r) y ∧ R x ∧ R y ∧ ((cp r = r ∧ cp x = x ∧ cp y = y) ∨ (n ≤ cp r ∧ cp r < n' ∧ kd' (cp r) = kd r ∧ pa' (cp r) = cp x ∧ pb' (cp r) = cp y))) ∧
    (kd r ≠ 8 → ¬ gr_cn (kd r) → cp r = r)) ∧
  (∀ r r', R r → R r' → n ≤ cp r → cp r = cp r' → r = r') ∧ (∀ m, n ≤ m → m < n' → ∃ r, R r ∧ cp r = m)
section
variable {n n' : Nat} {kd pa pb kd' pa' pb' : Nat → Nat} {R : Nat → Prop} {cp : Nat → Nat}
theorem ic_lt (I : ic_I n n' kd pa pb kd' pa' pb' R cp) {r : Nat} (hr : R r) : cp r < n' ∧ (cp r = r ∨ n ≤ cp r) := by
  obtain ⟨h1, h2, h3, h4, h5⟩ := I
  obtain ⟨a, b, c, d, e⟩ := h3 r hr
  by_cases k : kd r = 8
  · exact ⟨(c k).2.1, Or.inr (c k).1⟩
  · by_cases q : gr_cn (kd r)
    · obtain ⟨x, y, _, _, _, _, z⟩ := d q
      rcases z with z | z
      · exact ⟨by omega, Or.inl z.1⟩
      · exact ⟨z.2.1, Or.inr z.1⟩
    · exact ⟨by rw [e k q]; omega, Or.inl (e k q)⟩
/-- what a new node is -/
theorem ic_new (I : ic_I n n' kd pa pb kd' pa' pb' R cp) {m : Nat} (h : n ≤ m) (h' : m < n') : ∃ r, R r ∧ cp r = m ∧ (kd r = 8 ∧ kd' m = 7 ∨ gr_cn (kd r) ∧ kd' m = kd r ∧ ∃ x y, gr_to kd pa (pa r) x ∧ gr_to kd pa (pb r) y ∧ R x ∧ R y ∧ pa' m = cp x ∧ pb' m = cp y) := by
  obtain ⟨h1, h2, h3, h4, h5⟩ := I
  obtain ⟨r, hr, e⟩ := h5 m h h'
  obtain ⟨a, b, c, d, g⟩ := h3 r hr
  refine ⟨r, hr, e, ?_⟩
  by_cases k : kd r = 8
  · exact Or.inl ⟨k, e ▸ (c k).2.2⟩
  · by_cases q : gr_cn (kd r)
    · obtain ⟨x, y, t1, t2, rx, ry, z⟩ := d q
      rcases z with z | z
      · omega
      · rw [e] at z
        exact Or.inr ⟨q, z.2.2.1, x, y, t1, t2, rx, ry, z.2.2.2.1, z.2.2.2.2⟩
    · have := g k q
      omega
theorem ic_W (I : ic_I n n' kd pa pb kd' pa' pb' R cp) (W : gr_W n kd pa pb) : gr_W n' kd' pa' pb' := by
  intro i hi
  by_cases c : i < n
  · have h1 := I.1
    obtain ⟨e1, e2, e3⟩ := I.2.1 i c
    rw [e1, e2, e3]
    have w := W i c
    exact ⟨fun z => by have := w.1 z; omega, fun z => by have := w.2 z; omega⟩
  · obtain ⟨r, hr, e, z⟩ := ic_new I (by omega) hi
    rcases z with z | ⟨z1, z2, x, y, _, _, rx, ry, p1, p2⟩
    · rw [z.2]; exact ⟨fun q => by omega, fun q => by omega⟩
    · rw [p1, p2]
      exact ⟨fun q => by omega, fun _ => ⟨(ic_lt I rx).1, (ic_lt I ry).1⟩⟩
theorem ic_V (I : ic_I n n' kd pa pb kd' pa' pb' R cp) {ρ : Nat → tr_T} (h : gr_V n' kd' pa' pb' ρ) : gr_V n kd pa pb ρ := by
  intro i hi
  have h1 := I.1
  obtain ⟨e1, e2, e3⟩ := I.2.1 i hi
  have e := h i (by omega)
  rw [e1, e2, e3] at e
  exact e
theorem ic_Ho (I : ic_I n n' kd pa pb kd' pa' pb' R cp) (W : gr_W n kd pa pb) : ∀ f i, i < n → gr_H kd pa pb f i → gr_H kd' pa' pb' f i := by
  intro f
  induction f with
  | zero => intro i _ h; exact h.elim
  | succ f ih =>
    intro i hi h
    obtain ⟨e1, e2, e3⟩ := I.2.1 i hi
    unfold gr_H
    rw [e1, e2, e3]
    exact ⟨fun c => ih _ ((W i hi).1 c) (h.1 c), fun c => ⟨ih _ ((W i hi).2 c).1 (h.2 c).1, ih _ ((W i hi).2 c).2 (h.2 c).2⟩⟩
theorem ic_Hn (I : ic_I n n' kd pa pb kd' pa' pb' R cp) (W : gr_W n kd pa pb) : ∀ f r, R r → gr_H kd pa pb f r → ∃ g, gr_H kd' pa' pb' g (cp r) := by
  intro f
  induction f with
  | zero => intro i _ h; exact h.elim
  | succ f ih =>
    intro r hr h
    have hn := (I.2.2.1 r hr).1
    obtain ⟨l1, l2⟩ := ic_lt I hr
    rcases l2 with l2 | l2
    · rw [l2]; exact ⟨f + 1, ic_Ho I W _ _ hn h⟩
    · obtain ⟨r', hr', e, z⟩ := ic_new I l2 l1
      have er : r = r' := I.2.2.2.1 r r' hr hr' l2 e.symm
      subst er
      rcases z with z | ⟨z1, z2, x, y, t1, t2, rx, ry, p1, p2⟩
      · exact gr_H_i (fun q => by omega) (fun q => by omega)
      · refine gr_H_i (fun q => by omega) (fun _ => ?_)
        rw [p1, p2]
        exact ⟨ih x rx (gr_H_to t1 (h.2 z1).1), ih y ry (gr_H_to t2 (h.2 z1).2)⟩
theorem ic_A (I : ic_I n n' kd pa pb kd' pa' pb' R cp) (W : gr_W n kd pa pb) (A : gr_A n kd pa pb) : gr_A n' kd' pa' pb' := by
  intro i hi
  by_cases c : i < n
  · obtain ⟨f, h⟩ := A i c
    exact ⟨f, ic_Ho I W f i c h⟩
  · obtain ⟨r, hr, e⟩ := I.2.2.2.2 i (by omega) hi
    obtain ⟨f, h⟩ := A r (I.2.2.1 r hr).1
    rw [← e]
    exact ic_Hn I W f r hr h
/-- a valuation of the copy is one of the original -/
theorem ic_2 (I : ic_I n n' kd pa pb kd' pa' pb' R cp) (W : gr_W n kd pa pb) (A : gr_A n kd pa pb) {ρ : Nat → tr_T} (h : gr_V n' kd' pa' pb' ρ) : ∃ ρ2, gr_V n kd pa pb ρ2 ∧ (∀ i, i < n → kd i = 7 → ρ2 i = ρ i) ∧ ∀ r, R r → ρ2 r = ρ (cp r) := by
  obtain ⟨ρ2, h2, a2⟩ := gr_ex A (fun i => if kd i = 8 then ρ (cp i) else ρ i)
  have h0 := ic_V I h
  refine ⟨ρ2, h2, fun i hi c => ?_, ?_⟩
  · rw [a2 i hi (Or.inl c), if_neg (by omega)]
  · have key : ∀ f r, R r → gr_H kd pa pb f r → ρ2 r = ρ (cp r) := by
      intro f
      induction f with
      | zero => intro r _ z; exact z.elim
      | succ f ih =>
        intro r hr hf
        obtain ⟨hn, k0, k8, kc, ko⟩ := I.2.2.1 r hr
        by_cases c8 : kd r = 8
        · rw [a2 r hn (Or.inr c8), if_pos c8]
        · by_cases cc : gr_cn (kd r)
          · obtain ⟨x, y, t1, t2, rx, ry, z⟩ := kc cc
            have w := (W r hn).2 cc
            rw [gr_Vc h2 hn cc, gr_to_V W h2 t1 w.1, gr_to_V W h2 t2 w.2, ih x rx (gr_H_to t1 (hf.2 cc).1), ih y ry (gr_H_to t2 (hf.2 cc).2)]
            rcases z with z | z
            · rw [z.1, z.2.1, z.2.2, gr_Vc h0 hn cc, gr_to_V W h0 t1 w.1, gr_to_V W h0 t2 w.2]
            · have e := gr_Vc h z.2.1 (by rw [z.2.2.1]; exact cc)
              rw [e, z.2.2.1, z.2.2.2.1, z.2.2.2.2]
          · rw [ko c8 cc]
            by_cases c7 : kd r = 7
            · rw [a2 r hn (Or.inl c7), if_neg c8]
            · have cf : ¬ gr_fr (kd r) := by omega
              rw [gr_Vt h2 hn k0 cc cf, gr_Vt h0 hn k0 cc cf]
    intro r hr
    obtain ⟨f, hf⟩ := A r (I.2.2.1 r hr).1
    exact key f r hr hf
/-- nodes that are their own copies hold no general variable -/
theorem ic_own (I : ic_I n n' kd pa pb kd' pa' pb' R cp) (W : gr_W n kd pa pb) {ρ ρ2 : Nat → tr_T} (h : gr_V n kd pa pb ρ) (h2 : gr_V n kd pa pb ρ2) (ha : ∀ i, i < n → kd i = 7 → ρ2 i = ρ i) : ∀ f r, R r → gr_H kd pa pb f r → cp r = r → ρ2 r = ρ r := by
  intro f
  induction f with
  | zero => intro r _ z; exact z.elim
  | succ f ih =>
    intro r hr hf e
    obtain ⟨hn, k0, k8, kc, ko⟩ := I.2.2.1 r hr
    by_cases c8 : kd r = 8
    · have := k8 c8; omega
    · by_cases cc : gr_cn (kd r)
      · obtain ⟨x, y, t1, t2, rx, ry, z⟩ := kc cc
        have w := (W r hn).2 cc
        rcases z with z | z
        · rw [gr_Vc h2 hn cc, gr_Vc h hn cc, gr_to_V W h2 t1 w.1, gr_to_V W h2 t2 w.2, gr_to_V W h t1 w.1, gr_to_V W h t2 w.2, ih x rx (gr_H_to t1 (hf.2 cc).1) z.2.1, ih y ry (gr_H_to t2 (hf.2 cc).2) z.2.2]
        · omega
      · by_cases c7 : kd r = 7
        · exact ha r hn c7
        · have cf : ¬ gr_fr (kd r) := by omega
          rw [gr_Vt h2 hn k0 cc cf, gr_Vt h hn k0 cc cf]
/-- and every one of the original makes one of the copy -/
theorem ic_3 (I : ic_I n n' kd pa pb kd' pa' pb' R cp) (W : gr_W n kd pa pb) (A : gr_A n kd pa pb) {ρ ρ2 : Nat → tr_T} (h : gr_V n kd pa pb ρ) (h2 : gr_V n kd pa pb ρ2) (ha : ∀ i, i < n → kd i = 7 → ρ2 i = ρ i) : ∃ ρ', gr_V n' kd' pa' pb' ρ' ∧ (∀ i, i < n → ρ' i = ρ i) ∧ ∀ r, R r → ρ' (cp r) = ρ2 r := by
  have ex : ∃ ρ' : Nat → tr_T, (∀ i, i < n → ρ' i = ρ i) ∧ ∀ r, R r → n ≤ cp r → ρ' (cp r) = ρ2 r := by
    have key : ∀ m, ∃ x : tr_T, (m < n → x = ρ m) ∧ ∀ r, R r → n ≤ cp r → cp r = m → x = ρ2 r := by
      intro m
      by_cases c : m < n
      · exact ⟨ρ m, fun _ => rfl, fun r hr hn e => by omega⟩
      · by_cases q : ∃ r, R r ∧ cp r = m
        · obtain ⟨r, hr, e⟩ := q
          refine ⟨ρ2 r, fun z => (c z).elim, fun r' hr' hn e' => ?_⟩
          rw [I.2.2.2.1 r' r hr' hr hn (e'.trans e.symm)]
        · exact ⟨ρ m, fun _ => rfl, fun r hr _ e => (q ⟨r, hr, e⟩).elim⟩
    obtain ⟨ρ', h'⟩ := Classical.axiomOfChoice key
    exact ⟨ρ', fun i hi => (h' i).1 hi, fun r hr hn => (h' (cp r)).2 r hr hn rfl⟩
  obtain ⟨ρ', p1, p2⟩ := ex
  have p3 : ∀ r, R r → ρ' (cp r) = ρ2 r := by
    intro r hr
    rcases (ic_lt I hr).2 with z | z
    · obtain ⟨f, hf⟩ := A r (I.2.2.1 r hr).1
      rw [z, p1 r (I.2.2.1 r hr).1]
      exact (ic_own I W h h2 ha f r hr hf z).symm
    · exact p2 r hr z
  refine ⟨ρ', fun i hi => ?_, p1, p3⟩
  by_cases c : i < n
  · obtain ⟨e1, e2, e3⟩ := I.2.1 i c
    have e := h i c
    rw [e1, e2, e3, p1 i c]
    by_cases c1 : kd i = 1000
    · rw [gr_ev_l c1] at e ⊢
      rw [p1 _ ((W i c).1 c1)]; exact e
    · by_cases c2 : gr_cn (kd i)
      · rw [gr_ev_c c2] at e ⊢
        rw [p1 _ ((W i c).2 c2).1, p1 _ ((W i c).2 c2).2]; exact e
      · by_cases c3 : gr_fr (kd i)
        · rw [gr_ev_f c3]
        · rw [gr_ev_t c1 c2 c3] at e ⊢; exact e
  · obtain ⟨r, hr, e, z⟩ := ic_new I (by omega) hi
    rcases z with z | ⟨z1, z2, x, y, t1, t2, rx, ry, q1, q2⟩
    · rw [gr_ev_f (Or.inl z.2)]
    · have hn := (I.2.2.1 r hr).1
      have w := (W r hn).2 z1
      have cc : gr_cn (kd' i) := by rw [z2]; exact z1
      rw [gr_ev_c cc, q1, q2, p3 x rx, p3 y ry, ← e, p3 r hr, gr_Vc h2 hn z1, gr_to_V W h2 t1 w.1, gr_to_V W h2 t2 w.2, e, z2]
theorem ic_M (I : ic_I n n' kd pa pb kd' pa' pb' R cp) {M : Nat → Prop} (C : gr_C n kd pa pb M) (G : ∀ i, M i → kd i ≠ 8) (W : gr_W n kd pa pb) : ∃ M' : Nat → Prop, gr_C n' kd' pa' pb' M' ∧ (∀ i, M' i → kd' i ≠ 8) ∧ (∀ i, M i → M' i) ∧ ∀ r, R r → M' (cp r) := by
  have h1 := I.1
  have put : ∀ r, R r → (M (cp r) ∨ (cp r < n ∧ ∃ r', gr_to kd pa (cp r) r' ∧ R r' ∧ cp r' = r') ∨ (n ≤ cp r ∧ cp r < n')) := by
    intro r hr
    obtain ⟨l1, l2⟩ := ic_lt I hr
    rcases l2 with l2 | l2
    · exact Or.inr (Or.inl ⟨by rw [l2]; exact (I.2.2.1 r hr).1, r, by rw [l2]; exact gr_to_r (I.2.2.1 r hr).2.1, hr, l2⟩)
    · exact Or.inr (Or.inr ⟨l2, l1⟩)
  refine ⟨fun i => M i ∨ (i < n ∧ ∃ r, gr_to kd pa i r ∧ R r ∧ cp r = r) ∨ (n ≤ i ∧ i < n'), fun i hi => ?_, fun i hi => ?_, fun i hi => Or.inl hi, put⟩
  · rcases hi with hi | ⟨hi, r, t, hr, e⟩ | ⟨hi, hi'⟩
    · obtain ⟨a, b, c⟩ := C i hi
      obtain ⟨e1, e2, e3⟩ := I.2.1 i a
      rw [e1, e2, e3]
      exact ⟨by omega, fun z => Or.inl (b z), fun z => ⟨Or.inl (c z).1, Or.inl (c z).2⟩⟩
    · obtain ⟨e1, e2, e3⟩ := I.2.1 i hi
      rw [e1, e2, e3]
      refine ⟨by omega, fun z => Or.inr (Or.inl ⟨(W i hi).1 z, r, gr_to_p z t, hr, e⟩), fun z => ?_⟩
      have er := gr_to_u (gr_to_r (by omega)) t
      subst er
      obtain ⟨x, y, t1, t2, rx, ry, q⟩ := (I.2.2.1 i hr).2.2.2.1 z
      have w := (W i hi).2 z
      rcases q with q | q
      · exact ⟨Or.inr (Or.inl ⟨w.1, x, t1, rx, q.2.1⟩), Or.inr (Or.inl ⟨w.2, y, t2, ry, q.2.2⟩)⟩
      · omega
    · refine ⟨hi', ?_⟩
      obtain ⟨r, hr, e, z⟩ := ic_new I hi hi'
      rcases z with z | ⟨z1, z2, x, y, t1, t2, rx, ry, q1, q2⟩
      · rw [z.2]; exact ⟨fun q => by omega, fun q => by omega⟩
      · rw [q1, q2]
        exact ⟨fun q => by omega, fun _ => ⟨put x rx, put y ry⟩⟩
  · rcases hi with hi | ⟨hi, r, t, hr, e⟩ | ⟨hi, hi'⟩
    · rw [(I.2.1 i (C i hi).1).1]; exact G i hi
    · rw [(I.2.1 i hi).1]
      intro z
      have er := gr_to_u (gr_to_r (by omega)) t
      subst er
      have := (I.2.2.1 i hr).2.2.1 z
      omega
    · obtain ⟨r, hr, e, z⟩ := ic_new I hi hi'
      rcases z with z | z
      · omega
      · rw [z.2.1]; omega
/-- the use of a name: its type's copy is put upon what waits -/
theorem rp_use {b0 nl : Nat} {op stk env : List Nat} {bs : List (Nat × Bool)} {V : List tr_T → List tr_T → List tr_T → Prop} {U : List tr_T → List tr_T → tr_T → Prop} {t r0 : Nat}
    (J : rp_I b0 nl n kd pa pb op stk env bs V) (I : ic_I n n' kd pa pb kd' pa' pb' R cp) (ht : t < n) (h0 : gr_to kd pa t r0) (hr : R r0)
    (u1 : ∀ ρ ρ2, gr_V n kd pa pb ρ → gr_V n kd pa pb ρ2 → (∀ i, i < n → kd i = 7 → ρ2 i = ρ i) → U (op.map ρ) (env.map ρ) (ρ2 t))
    (u2 : ∀ ρ τ, gr_V n kd pa pb ρ → U (op.map ρ) (env.map ρ) τ → ∃ ρ2, gr_V n kd pa pb ρ2 ∧ (∀ i, i < n → kd i = 7 → ρ2 i = ρ i) ∧ ρ2 t = τ) :
    rp_I b0 nl n' kd' pa' pb' op (cp r0 :: stk) env bs (fun ν st E => ∃ τ st0, st = τ :: st0 ∧ V ν st0 E ∧ U ν E τ) := by
  obtain ⟨W, A, ⟨M, E, ⟨hM, gM, oM, sM, eM⟩, cE, mE, eE, bE⟩, en, hl, hP, hV⟩ := J
  obtain ⟨M', hM', gM', mM', cM'⟩ := ic_M I hM gM W
  refine ⟨ic_W I W, ic_A I W A, ⟨M', fun i => E i ∨ M' i, ⟨hM', gM', fun x hx => mM' x (oM x hx), fun x hx => ?_, fun x hx => mM' x (eM x hx)⟩, fun i hi => ?_, fun i hi => Or.inr hi, fun x hx => Or.inl (eE x hx), fun i hi nm => ?_⟩, fun x hx => ?_, hl, ?_, fun ν st E => ?_⟩
  · rcases List.mem_cons.mp hx with z | z
    · rw [z]; exact cM' r0 hr
    · exact mM' x (sM x z)
  · rcases hi with hi | hi
    · obtain ⟨a, b, c⟩ := cE i hi
      obtain ⟨e1, e2, e3⟩ := I.2.1 i a
      rw [e1, e2, e3]
      exact ⟨by have := I.1; omega, fun z => Or.inl (b z), fun z => ⟨Or.inl (c z).1, Or.inl (c z).2⟩⟩
    · obtain ⟨a, b, c⟩ := hM' i hi
      exact ⟨a, fun z => Or.inr (b z), fun z => ⟨Or.inr (c z).1, Or.inr (c z).2⟩⟩
  · rcases hi with hi | hi
    · exact bE i hi (fun z => nm (mM' i z))
    · exact (nm hi).elim
  · have := I.1
    have := en x hx
    omega
  · exact rp_P_mono (fun ρ h => ic_V I h) (fun i hi c => ⟨by have := I.1; omega, by rw [(I.2.1 i hi).1]; exact c⟩) bs env hP
  · constructor
    · intro ⟨τ, st0, e, v, u⟩
      obtain ⟨ρ, h, e1, e2, e3⟩ := (hV _ _ _).mp v
      rw [← e1, ← e3] at u
      obtain ⟨ρ2, h2, a2, e4⟩ := u2 ρ τ h u
      obtain ⟨ρ', h', a', c'⟩ := ic_3 I W A h h2 a2
      refine ⟨ρ', h', ?_, ?_, ?_⟩
      · rw [← e1]; exact mp_i fun x hx => a' x (hM x (oM x hx)).1
      · rw [List.map_cons, c' r0 hr, ← gr_to_V W h2 h0 ht, e4, e, ← e2]
        congr 1
        exact mp_i fun x hx => a' x (hM x (sM x hx)).1
      · rw [← e3]; exact mp_i fun x hx => a' x (en x hx)
    · intro ⟨ρ, h, e1, e2, e3⟩
      obtain ⟨ρ2, h2, a2, c2⟩ := ic_2 I W A h
      have h0' := ic_V I h
      refine ⟨ρ (cp r0), stk.map ρ, by rw [← e2, List.map_cons], (hV _ _ _).mpr ⟨ρ, h0', e1, rfl, e3⟩, ?_⟩
      have u := u1 ρ ρ2 h0' h2 a2
      rw [gr_to_V W h2 h0 ht, c2 r0 hr, e1, e3] at u
      exact u
end
/-- agreement on the variables is agreement on what holds no general one -/
theorem rp_mono7 {n : Nat} {kd pa pb : Nat → Nat} {M : Nat → Prop} {ρ ρ2 : Nat → tr_T} (A : gr_A n kd pa pb) (C : gr_C n kd pa pb M) (G : ∀ i, M i → kd i ≠ 8) (h : gr_V n kd pa pb ρ) (h2 : gr_V n kd pa pb ρ2) (ha : ∀ i, i < n → kd i = 7 → ρ2 i = ρ i) {i : Nat} (hi : M i) : ρ2 i = ρ i := by
  refine gr_agA A h2 h C (fun j hj c => ?_) hi
  rcases c with c | c
  · exact ha j (C j hj).1 c
  · exact (G j hj c).elim
theorem mo_drop {α : Type} : ∀ (j : Nat) (bs : List (Nat × Bool)) (E : List α) (x : α), x ∈ mo_l (bs.drop j) (E.drop j) → x ∈ mo_l bs E := by
  intro j
  induction j with
  | zero => intro bs E x h; exact h
  | succ j ih =>
    intro bs E x h
    cases bs with
    | nil => rw [List.drop_nil] at h; cases h
    | cons b bs =>
      cases E with
      | nil => rw [List.drop_nil] at h
               cases hd : List.drop (j + 1) (b :: bs) with
               | nil => rw [hd] at h; cases h
               | cons b' bs' => rw [hd] at h; cases h
      | cons e E =>
        rw [List.drop_succ_cons, List.drop_succ_cons] at h
        have := ih bs E x h
        obtain ⟨m, p⟩ := b
        cases p with
        | true => rw [mo_t]; exact this
        | false => rw [mo_f]; exact List.mem_cons_of_mem _ this
theorem rp_P_at {n : Nat} {kd pa pb : Nat → Nat} {op : List Nat} : ∀ (j : Nat) (bs : List (Nat × Bool)) (env : List Nat) (m e : Nat), rp_P n kd pa pb op bs env → bs[j]? = some (m, true) → env[j]? = some e → ∀ ρ ρ', gr_V n kd pa pb ρ → gr_V n kd pa pb ρ' → op.map ρ = op.map ρ' → (mo_l (bs.drop (j + 1)) (env.drop (j + 1))).map ρ = (mo_l (bs.drop (j + 1)) (env.drop (j + 1))).map ρ' → (∀ i, i < n → kd i = 8 → ρ i = ρ' i) → ρ e = ρ' e := by
  intro j
  induction j with
  | zero =>
    intro bs env m e h hb he
    cases bs with
    | nil => cases hb
    | cons b bs =>
      cases env with
      | nil => cases he
      | cons e' env =>
        simp at hb he
        subst hb he
        exact h.1 rfl
  | succ j ih =>
    intro bs env m e h hb he
    cases bs with
    | nil => cases hb
    | cons b bs =>
      cases env with
      | nil => cases he
      | cons e' env =>
        rw [List.getElem?_cons_succ] at hb he
        rw [List.drop_succ_cons, List.drop_succ_cons]
        exact ih bs env m e h.2 hb he
/-- the use of a binding that isn't general -/
theorem rp_um {b0 nl n : Nat} {kd pa pb : Nat → Nat} {op stk env : List Nat} {bs : List (Nat × Bool)} {V : List tr_T → List tr_T → List tr_T → Prop} {j t : Nat} (J : rp_I b0 nl n kd pa pb op stk env bs V) (ht : env[j]? = some t) (hm : t ∈ mo_l bs env) :
    (∀ ρ ρ2, gr_V n kd pa pb ρ → gr_V n kd pa pb ρ2 → (∀ i, i < n → kd i = 7 → ρ2 i = ρ i) → (env.map ρ)[j]? = some (ρ2 t)) ∧
    (∀ ρ τ, gr_V n kd pa pb ρ → (env.map ρ)[j]? = some τ → ∃ ρ2, gr_V n kd pa pb ρ2 ∧ (∀ i, i < n → kd i = 7 → ρ2 i = ρ i) ∧ ρ2 t = τ) := by
  obtain ⟨W, A, ⟨M, E, ⟨hM, gM, oM, sM, eM⟩, cE, mE, eE, bE⟩, en, hl, hP, hV⟩ := J
  refine ⟨fun ρ ρ2 h h2 ha => ?_, fun ρ τ h e => ⟨ρ, h, fun _ _ _ => rfl, ?_⟩⟩
  · rw [List.getElem?_map, ht, rp_mono7 A hM gM h h2 ha (eM t hm)]; rfl
  · rw [List.getElem?_map, ht] at e
    simpa using e
/-- the use of a general binding -/
theorem rp_ug {b0 nl n : Nat} {kd pa pb : Nat → Nat} {op stk env : List Nat} {bs : List (Nat × Bool)} {V : List tr_T → List tr_T → List tr_T → Prop} {j t m : Nat} (J : rp_I b0 nl n kd pa pb op stk env bs V) (ht : env[j]? = some t) (hb : bs[j]? = some (m, true)) :
    (∀ ρ ρ2, gr_V n kd pa pb ρ → gr_V n kd pa pb ρ2 → (∀ i, i < n → kd i = 7 → ρ2 i = ρ i) → ∃ st2 E2, V (op.map ρ) st2 E2 ∧ mo_l (bs.drop (j + 1)) (E2.drop (j + 1)) = mo_l (bs.drop (j + 1)) ((env.map ρ).drop (j + 1)) ∧ E2[j]? = some (ρ2 t)) ∧
    (∀ ρ τ, gr_V n kd pa pb ρ → (∃ st2 E2, V (op.map ρ) st2 E2 ∧ mo_l (bs.drop (j + 1)) (E2.drop (j + 1)) = mo_l (bs.drop (j + 1)) ((env.map ρ).drop (j + 1)) ∧ E2[j]? = some τ) → ∃ ρ2, gr_V n kd pa pb ρ2 ∧ (∀ i, i < n → kd i = 7 → ρ2 i = ρ i) ∧ ρ2 t = τ) := by
  obtain ⟨W, A, ⟨M, E, ⟨hM, gM, oM, sM, eM⟩, cE, mE, eE, bE⟩, en, hl, hP, hV⟩ := J
  refine ⟨fun ρ ρ2 h h2 ha => ?_, fun ρ τ h ⟨st2, E2, v, em, ej⟩ => ?_⟩
  · refine ⟨stk.map ρ2, env.map ρ2, (hV _ _ _).mpr ⟨ρ2, h2, mp_i fun x hx => rp_mono7 A hM gM h h2 ha (oM x hx), rfl, rfl⟩, ?_, ?_⟩
    · rw [← List.map_drop, ← List.map_drop, mo_map, mo_map]
      exact mp_i fun x hx => rp_mono7 A hM gM h h2 ha (eM x (mo_drop _ _ _ _ hx))
    · rw [List.getElem?_map, ht]; rfl
  · obtain ⟨ρ2, h2, e1, e2, e3⟩ := (hV _ _ _).mp v
    obtain ⟨ρ3, h3, a3⟩ := gr_ex A (fun i => if kd i = 8 then ρ2 i else ρ i)
    have ha : ∀ i, i < n → kd i = 7 → ρ3 i = ρ i := fun i hi c => by rw [a3 i hi (Or.inl c), if_neg (by omega)]
    refine ⟨ρ3, h3, ha, ?_⟩
    have e4 : ρ2 t = τ := by
      rw [← e3, List.getElem?_map, ht] at ej
      simpa using ej
    rw [← e4]
    refine rp_P_at j bs env m t hP hb ht ρ3 ρ2 h3 h2 ?_ ?_ (fun i hi c => by rw [a3 i hi (Or.inr c), if_pos c])
    · rw [e1]; exact mp_i fun x hx => rp_mono7 A hM gM h h3 ha (oM x hx)
    · rw [← e3, ← List.map_drop, ← List.map_drop, mo_map, mo_map] at em
      rw [em]; exact mp_i fun x hx => rp_mono7 A hM gM h h3 ha (eM x (mo_drop _ _ _ _ hx))
end
section
/-! what is done to a graph that stands for worlds: new nodes, bindings, making equal -/
theorem rp_cg {b0 nl n : Nat} {kd pa pb : Nat → Nat} {op stk env : List Nat} {bs : List (Nat × Bool)} {V V' : List tr_T → List tr_T → List tr_T → Prop} (h : ∀ ν st E, V ν st E ↔ V' ν st E) (I : rp_I b0 nl n kd pa pb op stk env bs V) : rp_I b0 nl n kd pa pb op stk env bs V' := by
  obtain ⟨a, b, c, d, e, f, g⟩ := I
  exact ⟨a, b, c, d, e, f, fun ν st E => (h ν st E).symm.trans (g ν st E)⟩
/-- fields that are the same below n -/
def gr_same (n : Nat) (kd pa pb kd' pa' pb' : Nat → Nat) : Prop := ∀ i, i < n → kd' i = kd i ∧ pa' i = pa i ∧ pb' i = pb i
/-- valuations that are the same below n -/
theorem gr_V_n {n : Nat} {kd pa pb : Nat → Nat} {ρ ρ' : Nat → tr_T} (W : gr_W n kd pa pb) (h : gr_V n kd pa pb ρ) (e : ∀ i, i < n → ρ' i = ρ i) : gr_V n kd pa pb ρ' := by
  refine gr_Vi fun i hi => ⟨fun c => ?_, fun c => ?_, fun c1 c2 c3 => ?_⟩
  · rw [e i hi, e _ ((W i hi).1 c)]; exact gr_Vl h hi c
  · rw [e i hi, e _ ((W i hi).2 c).1, e _ ((W i hi).2 c).2]; exact gr_Vc h hi c
  · rw [e i hi]; exact gr_Vt h hi c1 c2 c3
theorem gr_V_s {n : Nat} {kd pa pb kd' pa' pb' : Nat → Nat} {ρ : Nat → tr_T} (s : gr_same n kd pa pb kd' pa' pb') : gr_V n kd' pa' pb' ρ ↔ gr_V n kd pa pb ρ := by
  constructor
  · intro h i hi
    have e := h i hi
    rw [(s i hi).1, (s i hi).2.1, (s i hi).2.2] at e
    exact e
  · intro h i hi
    rw [(s i hi).1, (s i hi).2.1, (s i hi).2.2]
    exact h i hi
theorem gr_H_n {n : Nat} {kd pa pb kd' pa' pb' : Nat → Nat} (W : gr_W n kd pa pb) (s : gr_same n kd pa pb kd' pa' pb') : ∀ f i, i < n → gr_H kd pa pb f i → gr_H kd' pa' pb' f i := by
  intro f
  induction f with
  | zero => intro i _ h; exact h.elim
  | succ f ih =>
    intro i hi h
    obtain ⟨e1, e2, e3⟩ := s i hi
    unfold gr_H
    rw [e1, e2, e3]
    exact ⟨fun c => ih _ ((W i hi).1 c) (h.1 c), fun c => ⟨ih _ ((W i hi).2 c).1 (h.2 c).1, ih _ ((W i hi).2 c).2 (h.2 c).2⟩⟩
/-- one new node on top of what waits: its parts hold no general variable; A, B read their values off the lists -/
theorem rp_push {b0 nl n : Nat} {kd pa pb kd' pa' pb' : Nat → Nat} {op stk env : List Nat} {bs : List (Nat × Bool)} {V : List tr_T → List tr_T → List tr_T → Prop} (I : rp_I b0 nl n kd pa pb op stk env bs V) (s : gr_same n kd pa pb kd' pa' pb') (A B : List tr_T → List tr_T → List tr_T → tr_T) (k1 : kd' n ≠ 1000) (k8 : kd' n ≠ 8)
    (hp : gr_cn (kd' n) → (pa' n ∈ stk ∨ pa' n ∈ op ∨ pa' n ∈ mo_l bs env) ∧ (pb' n ∈ stk ∨ pb' n ∈ op ∨ pb' n ∈ mo_l bs env) ∧ ∀ ρ : Nat → tr_T, A (op.map ρ) (stk.map ρ) (env.map ρ) = ρ (pa' n) ∧ B (op.map ρ) (stk.map ρ) (env.map ρ) = ρ (pb' n)) :
    rp_I b0 nl (n + 1) kd' pa' pb' op (n :: stk) env bs (fun ν st E => ∃ τ st0, st = τ :: st0 ∧ V ν st0 E ∧ (gr_cn (kd' n) → τ = tr_con (kd' n) (A ν st0 E) (B ν st0 E)) ∧ (¬ gr_cn (kd' n) → kd' n ≠ 7 → τ = tr_at (kd' n))) := by
  obtain ⟨W, Ac, ⟨M, Es, ⟨hM, gM, oM, sM, eM⟩, cE, mE, eE, bE⟩, en, hl, hP, hV⟩ := I
  have mp : ∀ x, (x ∈ stk ∨ x ∈ op ∨ x ∈ mo_l bs env) → M x := by
    intro x hx
    rcases hx with z | z | z
    · exact sM x z
    · exact oM x z
    · exact eM x z
  have W' : gr_W (n + 1) kd' pa' pb' := by
    intro i hi
    by_cases c : i < n
    · rw [(s i c).1, (s i c).2.1, (s i c).2.2]
      exact ⟨fun z => Nat.lt_succ_of_lt ((W i c).1 z), fun z => ⟨Nat.lt_succ_of_lt ((W i c).2 z).1, Nat.lt_succ_of_lt ((W i c).2 z).2⟩⟩
    · have e : i = n := by omega
      rw [e]
      exact ⟨fun z => (k1 z).elim, fun z => ⟨Nat.lt_succ_of_lt (hM _ (mp _ (hp z).1)).1, Nat.lt_succ_of_lt (hM _ (mp _ (hp z).2.1)).1⟩⟩
  have vv : ∀ ρ, gr_V (n + 1) kd' pa' pb' ρ → gr_V n kd pa pb ρ := by
    intro ρ h i hi
    have e := h i (by omega)
    rw [(s i hi).1, (s i hi).2.1, (s i hi).2.2] at e
    exact e
  refine ⟨W', ?_, ⟨fun i => M i ∨ i = n, fun i => Es i ∨ i = n, ⟨?_, ?_, fun x hx => Or.inl (oM x hx), ?_, fun x hx => Or.inl (eM x hx)⟩, ?_, fun i hi => hi.elim (fun z => Or.inl (mE i z)) Or.inr, fun x hx => Or.inl (eE x hx), ?_⟩, fun x hx => Nat.lt_succ_of_lt (en x hx), hl, ?_, ?_⟩
  · intro i hi
    by_cases c : i < n
    · obtain ⟨f, h⟩ := Ac i c
      exact ⟨f, gr_H_n W s f i c h⟩
    · have e : i = n := by omega
      rw [e]
      refine gr_H_i (fun z => (k1 z).elim) (fun z => ?_)
      have m1 := (hM _ (mp _ (hp z).1)).1
      have m2 := (hM _ (mp _ (hp z).2.1)).1
      obtain ⟨f, h⟩ := Ac _ m1
      obtain ⟨g, h'⟩ := Ac _ m2
      exact ⟨⟨f, gr_H_n W s f _ m1 h⟩, g, gr_H_n W s g _ m2 h'⟩
  · intro i hi
    rcases hi with hi | hi
    · obtain ⟨a, b, c⟩ := hM i hi
      rw [(s i a).1, (s i a).2.1, (s i a).2.2]
      exact ⟨by omega, fun z => Or.inl (b z), fun z => ⟨Or.inl (c z).1, Or.inl (c z).2⟩⟩
    · rw [hi]
      exact ⟨by omega, fun z => (k1 z).elim, fun z => ⟨Or.inl (mp _ (hp z).1), Or.inl (mp _ (hp z).2.1)⟩⟩
  · intro i hi
    rcases hi with hi | hi
    · rw [(s i (hM i hi).1).1]; exact gM i hi
    · rw [hi]; exact k8
  · intro x hx
    rcases List.mem_cons.mp hx with z | z
    · exact Or.inr z
    · exact Or.inl (sM x z)
  · intro i hi
    rcases hi with hi | hi
    · obtain ⟨a, b, c⟩ := cE i hi
      rw [(s i a).1, (s i a).2.1, (s i a).2.2]
      exact ⟨by omega, fun z => Or.inl (b z), fun z => ⟨Or.inl (c z).1, Or.inl (c z).2⟩⟩
    · rw [hi]
      exact ⟨by omega, fun z => (k1 z).elim, fun z => ⟨Or.inl (mE _ (mp _ (hp z).1)), Or.inl (mE _ (mp _ (hp z).2.1))⟩⟩
  · intro i hi nm
    rcases hi with hi | hi
    · exact bE i hi (fun z => nm (Or.inl z))
    · exact (nm (Or.inr hi)).elim
  · exact rp_P_mono vv (fun i hi c => ⟨by omega, by rw [(s i hi).1]; exact c⟩) bs env hP
  · intro ν st E
    constructor
    · intro ⟨τ, st0, e, v, v1, v2⟩
      obtain ⟨ρ, h, e1, e2, e3⟩ := (hV _ _ _).mp v
      have ag : ∀ x, x < n → (fun i => if i = n then τ else ρ i) x = ρ x := fun x hx => if_neg (by omega)
      have mo : op.map (fun i => if i = n then τ else ρ i) = op.map ρ := mp_i fun x hx => ag x (hM x (oM x hx)).1
      have ms : stk.map (fun i => if i = n then τ else ρ i) = stk.map ρ := mp_i fun x hx => ag x (hM x (sM x hx)).1
      have me : env.map (fun i => if i = n then τ else ρ i) = env.map ρ := mp_i fun x hx => ag x (en x hx)
      refine ⟨fun i => if i = n then τ else ρ i, gr_Vi fun i hi => ?_, mo.trans e1, ?_, me.trans e3⟩
      · by_cases c : i < n
        · have h' := gr_V_n W h ag
          have h'' := (gr_V_s s).mpr h'
          exact ⟨fun z => gr_Vl h'' c z, fun z => gr_Vc h'' c z, fun z1 z2 z3 => gr_Vt h'' c z1 z2 z3⟩
        · have ei : i = n := by omega
          rw [ei]
          refine ⟨fun z => (k1 z).elim, fun z => ?_, fun z1 z2 z3 => ?_⟩
          · have q := (hp z).2.2 ρ
            rw [e1, e2, e3] at q
            have n1 := (hM _ (mp _ (hp z).1)).1
            have n2 := (hM _ (mp _ (hp z).2.1)).1
            show (if n = n then τ else ρ n) = tr_con (kd' n) (if pa' n = n then τ else ρ (pa' n)) (if pb' n = n then τ else ρ (pb' n))
            have n3 : ¬ pa' n = n := by omega
            have n4 : ¬ pb' n = n := by omega
            rw [if_pos rfl, if_neg n3, if_neg n4, ← q.1, ← q.2]; exact v1 z
          · show (if n = n then τ else ρ n) = _
            rw [if_pos rfl]; exact v2 z2 (fun z => z3 (Or.inl z))
      · rw [List.map_cons, ms, e2, e]
        show (if n = n then τ else ρ n) :: st0 = _
        rw [if_pos rfl]
    · intro ⟨ρ, h, e1, e2, e3⟩
      refine ⟨ρ n, stk.map ρ, by rw [← e2, List.map_cons], (hV _ _ _).mpr ⟨ρ, vv ρ h, e1, rfl, e3⟩, fun z => ?_, fun z1 z2 => ?_⟩
      · have q := (hp z).2.2 ρ
        rw [e1, e3] at q
        rw [q.1, q.2]; exact gr_Vc h (by omega) z
      · exact gr_Vt h (by omega) k1 z1 (fun z => by rcases z with z | z
                                                    · exact z2 z
                                                    · exact k8 z)
/-- another choice of what waits -/
theorem rp_sel {b0 nl n : Nat} {kd pa pb : Nat → Nat} {op stk stk' env : List Nat} {bs : List (Nat × Bool)} {V : List tr_T → List tr_T → List tr_T → Prop} (I : rp_I b0 nl n kd pa pb op stk env bs V) (f : List tr_T → List tr_T → List tr_T → List tr_T) (hs : ∀ x, x ∈ stk' → x ∈ stk ∨ x ∈ mo_l bs env) (hf : ∀ ρ : Nat → tr_T, f (op.map ρ) (stk.map ρ) (env.map ρ) = stk'.map ρ) : rp_I b0 nl n kd pa pb op stk' env bs (fun ν st' E => ∃ st, V ν st E ∧ f ν st E = st') := by
  obtain ⟨W, Ac, ⟨M, Es, ⟨hM, gM, oM, sM, eM⟩, cE, mE, eE, bE⟩, en, hl, hP, hV⟩ := I
  refine ⟨W, Ac, ⟨M, Es, ⟨hM, gM, oM, fun x hx => (hs x hx).elim (sM x) (eM x), eM⟩, cE, mE, eE, bE⟩, en, hl, hP, fun ν st' E => ?_⟩
  constructor
  · intro ⟨st, v, e⟩
    obtain ⟨ρ, h, e1, e2, e3⟩ := (hV _ _ _).mp v
    refine ⟨ρ, h, e1, ?_, e3⟩
    rw [← hf ρ, e1, e2, e3]; exact e
  · intro ⟨ρ, h, e1, e2, e3⟩
    refine ⟨stk.map ρ, (hV _ _ _).mpr ⟨ρ, h, e1, rfl, e3⟩, ?_⟩
    rw [← e1, ← e3, hf ρ]; exact e2
/-- what waits on top becomes the type of a new binding that isn't general -/
theorem rp_bind {b0 nl n : Nat} {kd pa pb : Nat → Nat} {op stk env : List Nat} {bs : List (Nat × Bool)} {V : List tr_T → List tr_T → List tr_T → Prop} {t : Nat} (nm : Nat) (I : rp_I b0 nl n kd pa pb op (t :: stk) env bs V) : rp_I b0 nl n kd pa pb op stk (t :: env) ((nm, false) :: bs) (fun ν st E => ∃ τ E0, E = τ :: E0 ∧ V ν (τ :: st) E0) := by
  obtain ⟨W, Ac, ⟨M, Es, ⟨hM, gM, oM, sM, eM⟩, cE, mE, eE, bE⟩, en, hl, hP, hV⟩ := I
  have tM := sM t List.mem_cons_self
  refine ⟨W, Ac, ⟨M, Es, ⟨hM, gM, oM, fun x hx => sM x (List.mem_cons_of_mem _ hx), fun x hx => ?_⟩, cE, mE, fun x hx => ?_, bE⟩, fun x hx => ?_, by simp [hl], ⟨fun z => (by cases z), hP⟩, fun ν st E => ?_⟩
  · rw [mo_f] at hx
    rcases List.mem_cons.mp hx with z | z
    · rw [z]; exact tM
    · exact eM x z
  · rcases List.mem_cons.mp hx with z | z
    · rw [z]; exact mE t tM
    · exact eE x z
  · rcases List.mem_cons.mp hx with z | z
    · rw [z]; exact (hM t tM).1
    · exact en x z
  · constructor
    · intro ⟨τ, E0, e, v⟩
      obtain ⟨ρ, h, e1, e2, e3⟩ := (hV _ _ _).mp v
      rw [List.map_cons] at e2
      injection e2 with e2 e4
      exact ⟨ρ, h, e1, e4, by rw [List.map_cons, e, e2, e3]⟩
    · intro ⟨ρ, h, e1, e2, e3⟩
      exact ⟨ρ t, env.map ρ, by rw [← e3, List.map_cons], (hV _ _ _).mpr ⟨ρ, h, e1, by rw [List.map_cons, e2], rfl⟩⟩
theorem rp_unbind {b0 nl n : Nat} {kd pa pb : Nat → Nat} {op stk env : List Nat} {bs : List (Nat × Bool)} {V : List tr_T → List tr_T → List tr_T → Prop} {t : Nat} {b : Nat × Bool} (I : rp_I b0 nl n kd pa pb op stk (t :: env) (b :: bs) V) : rp_I b0 nl n kd pa pb op stk env bs (fun ν st E => ∃ τ, V ν st (τ :: E)) := by
  obtain ⟨W, Ac, ⟨M, Es, ⟨hM, gM, oM, sM, eM⟩, cE, mE, eE, bE⟩, en, hl, hP, hV⟩ := I
  refine ⟨W, Ac, ⟨M, Es, ⟨hM, gM, oM, sM, fun x hx => eM x ?_⟩, cE, mE, fun x hx => eE x (List.mem_cons_of_mem _ hx), bE⟩, fun x hx => en x (List.mem_cons_of_mem _ hx), by simpa using hl, hP.2, fun ν st E => ?_⟩
  · obtain ⟨m, p⟩ := b
    cases p with
    | true => rw [mo_t]; exact hx
    | false => rw [mo_f]; exact List.mem_cons_of_mem _ hx
  · constructor
    · intro ⟨τ, v⟩
      obtain ⟨ρ, h, e1, e2, e3⟩ := (hV _ _ _).mp v
      rw [List.map_cons] at e3
      injection e3 with e3 e4
      exact ⟨ρ, h, e1, e2, e4⟩
    · intro ⟨ρ, h, e1, e2, e3⟩
      exact ⟨ρ t, (hV _ _ _).mpr ⟨ρ, h, e1, e2, by rw [List.map_cons, e3]⟩⟩
/-- two that wait have been made equal -/
theorem rp_eq {b0 nl n K : Nat} {kd pa pb kd' pa' : Nat → Nat} {op stk env : List Nat} {bs : List (Nat × Bool)} {V : List tr_T → List tr_T → List tr_T → Prop} {M : Nat → Prop} {s t : Nat} (I : rp_I b0 nl n kd pa pb op stk env bs V) (oM : ∀ x, x ∈ op → M x) (sM : ∀ x, x ∈ stk → M x) (eM : ∀ x, x ∈ mo_l bs env → M x) (U : un_I n kd pa pb M s t kd' pa' []) (hK : gr_L n kd' pa' K) {S : Nat → Prop} (hS : ck_R n kd' pa' pb S) (h0 : (∀ x, gr_to kd' pa' s x → S x) ∨ ∀ x, gr_to kd' pa' t x → S x) (f : List tr_T → List tr_T → List tr_T → Prop) (hf : ∀ ρ : Nat → tr_T, f (op.map ρ) (stk.map ρ) (env.map ρ) ↔ ρ s = ρ t) (g8 : ∀ i, i < n → kd i = 8 → ¬ M i) {Es : Nat → Prop} (cE : gr_C n kd pa pb Es) (mE : ∀ i, M i → Es i) (eE : ∀ x, x ∈ env → Es x) (bE : ∀ i, Es i → ¬ M i → b0 ≤ i ∧ i < nl) : rp_I b0 nl n kd' pa' pb op stk env bs (fun ν st E => V ν st E ∧ f ν st E) := by
  obtain ⟨W, Ac, _, en, hl, hP, hV⟩ := I
  have Ac' := un_end U W Ac hK hS h0
  obtain ⟨W', Vv, _, C, G, D, _⟩ := U
  have vv : ∀ ρ, gr_V n kd' pa' pb ρ ↔ gr_V n kd pa pb ρ ∧ ρ s = ρ t := fun ρ => by
    rw [Vv ρ]
    exact ⟨fun h => ⟨h, fun p hp => by cases hp⟩, fun h => h.1⟩
  refine ⟨W', Ac', ⟨M, Es, ⟨C, G, oM, sM, eM⟩, fun i hi => ?_, mE, eE, bE⟩, en, hl, rp_P_mono (fun ρ h => ((vv ρ).mp h).1) (fun i hi c => ⟨hi, ?_⟩) bs env hP, fun ν st E => ?_⟩
  · obtain ⟨a, b, c⟩ := cE i hi
    refine ⟨a, ?_⟩
    rcases D i a with z | z
    · rw [z.1, z.2]; exact ⟨b, c⟩
    · exact ⟨fun q => mE _ ((C i z.2.2).2.1 q), fun q => by omega⟩
  · rcases D i hi with z | z
    · rw [z.1]; exact c
    · exact (g8 i hi c z.2.2).elim
  · constructor
    · intro ⟨v, u⟩
      obtain ⟨ρ, h, e1, e2, e3⟩ := (hV _ _ _).mp v
      rw [← e1, ← e2, ← e3] at u
      exact ⟨ρ, (vv ρ).mpr ⟨h, (hf ρ).mp u⟩, e1, e2, e3⟩
    · intro ⟨ρ, h, e1, e2, e3⟩
      obtain ⟨h, e⟩ := (vv ρ).mp h
      refine ⟨(hV _ _ _).mpr ⟨ρ, h, e1, e2, e3⟩, ?_⟩
      rw [← e1, ← e2, ← e3]; exact (hf ρ).mpr e
/-- two that nothing makes equal: no world is left -/
theorem rp_ne {b0 nl n : Nat} {kd pa pb : Nat → Nat} {op stk env : List Nat} {bs : List (Nat × Bool)} {V : List tr_T → List tr_T → List tr_T → Prop} {s t : Nat} (I : rp_I b0 nl n kd pa pb op stk env bs V) (U : ∀ ρ, gr_V n kd pa pb ρ → ρ s ≠ ρ t) (f : List tr_T → List tr_T → List tr_T → Prop) (hf : ∀ ρ : Nat → tr_T, f (op.map ρ) (stk.map ρ) (env.map ρ) ↔ ρ s = ρ t) : ∀ ν st E, ¬ (V ν st E ∧ f ν st E) := by
  intro ν st E ⟨v, u⟩
  obtain ⟨W, Ac, _, en, hl, hP, hV⟩ := I
  obtain ⟨ρ, h, e1, e2, e3⟩ := (hV _ _ _).mp v
  rw [← e1, ← e2, ← e3] at u
  exact U ρ h ((hf ρ).mp u)
/-- some world is left -/
theorem rp_some {b0 nl n : Nat} {kd pa pb : Nat → Nat} {op stk env : List Nat} {bs : List (Nat × Bool)} {V : List tr_T → List tr_T → List tr_T → Prop} (I : rp_I b0 nl n kd pa pb op stk env bs V) : ∃ ν st E, V ν st E := by
  obtain ⟨W, Ac, _, en, hl, hP, hV⟩ := I
  obtain ⟨ρ, h, _⟩ := gr_ex Ac (fun _ => tr_at 0)
  exact ⟨_, _, _, (hV _ _ _).mpr ⟨ρ, h, rfl, rfl, rfl⟩⟩
end
section
/-! what the steps of a declaration do to a set of worlds (ν: the open variables, st: the types that wait, E: the types of the bindings, the innermost first) -/
abbrev dv_W : Type := List tr_T → List tr_T → List tr_T → Prop
def dv_psh (P : List tr_T → List tr_T → tr_T → Prop) (V : dv_W) : dv_W := fun ν st E => ∃ τ st0, st = τ :: st0 ∧ V ν st0 E ∧ P ν E τ
def dv_tr {γ : Type} (inp out : γ → List tr_T) (V : dv_W) : dv_W := fun ν st E => ∃ c st0, st = out c ++ st0 ∧ V ν (inp c ++ st0) E
def dv_app : dv_W → dv_W := dv_tr (γ := tr_T × tr_T) (fun c => [c.1, tr_con 6 c.1 c.2]) (fun c => [c.2])
def dv_pair : dv_W → dv_W := dv_tr (γ := tr_T × tr_T) (fun c => [c.1, c.2]) (fun c => [tr_con 5 c.2 c.1])
def dv_cons : dv_W → dv_W := dv_tr (γ := tr_T) (fun c => [tr_con 3 c c, c]) (fun c => [tr_con 3 c c])
def dv_asg : dv_W → dv_W := dv_tr (γ := tr_T) (fun c => [c, tr_con 4 c c]) (fun _ => [tr_at 2])
def dv_num (k : Nat) : dv_W → dv_W := dv_tr (γ := Unit) (fun _ => [tr_at 0, tr_at 0]) (fun _ => [tr_at k])
def dv_if : dv_W → dv_W := dv_tr (γ := tr_T) (fun c => [c, c, tr_at 1]) (fun c => [c])
def dv_lams (m : Nat) (V : dv_W) : dv_W := fun ν st E => ∃ xs E0, E = xs ++ E0 ∧ xs.length = m ∧ V ν st E0
def dv_fn (V : dv_W) : dv_W := fun ν st E => ∃ x c st0, st = tr_con 6 x c :: st0 ∧ V ν (c :: st0) (x :: E)
def dv_bind (V : dv_W) : dv_W := fun ν st E => ∃ τ E0, E = τ :: E0 ∧ V ν (τ :: st) E0
def dv_let (V : dv_W) : dv_W := fun ν st E => ∃ x, V ν st (x :: E)
/-- the type of a function: xs its parameters, the last one first -/
def dv_arr : List tr_T → tr_T → tr_T
  | [], c => c
  | x :: xs, c => dv_arr xs (tr_con 6 x c)
def dv_fun (m : Nat) (V : dv_W) : dv_W := fun ν st E => ∃ f st0 xs c, st = f :: st0 ∧ xs.length = m ∧ f = dv_arr xs c ∧ V ν (c :: st0) (xs ++ f :: E)
def dv_len (h e : Nat) (V : dv_W) : Prop := ∀ ν st E, V ν st E → st.length = h ∧ E.length = e
/-- given what lies about and the lowest b bindings, the lowest k that wait and all the rest know nothing of each other -/
def dv_CI (k b : Nat) (V : dv_W) : Prop := ∀ ν A A' B B' Eu Eu' El, A.length = k → A'.length = k → El.length = b → V ν (B ++ A) (Eu ++ El) → V ν (B' ++ A') (Eu' ++ El) → V ν (B' ++ A) (Eu' ++ El)
theorem ls_split {α : Type} {X B A C : List α} (h : X ++ C = B ++ A) (hl : A.length ≤ C.length) : ∃ B0, B = X ++ B0 ∧ C = B0 ++ A := by
  rcases List.append_eq_append_iff.mp h with ⟨D, h1, h2⟩ | ⟨D, h1, h2⟩
  · exact ⟨D, h1, h2⟩
  · have : D = [] := by
      have e : A.length = D.length + C.length := by rw [h2, List.length_append]
      exact List.eq_nil_of_length_eq_zero (by omega)
    subst this
    exact ⟨[], by simpa using h1.symm, by simpa using h2.symm⟩
theorem ls_cons {α : Type} {x : α} {B A C : List α} (h : x :: C = B ++ A) (hl : A.length ≤ C.length) : ∃ B0, B = x :: B0 ∧ C = B0 ++ A := by
  obtain ⟨B0, h1, h2⟩ := ls_split (X := [x]) (B := B) (A := A) (C := C) h hl
  exact ⟨B0, h1, h2⟩
theorem dv_len_psh {P : List tr_T → List tr_T → tr_T → Prop} {V : dv_W} {h e : Nat} (hl : dv_len h e V) : dv_len (h + 1) e (dv_psh P V) := by
  intro ν st E ⟨τ, st0, e1, v, _⟩
  have := hl _ _ _ v
  rw [e1]
  exact ⟨by simp [this.1], this.2⟩
theorem dv_len_tr {γ : Type} {inp out : γ → List tr_T} {V : dv_W} {h e i o : Nat} (hi : ∀ c, (inp c).length = i) (ho : ∀ c, (out c).length = o) (hl : dv_len (h + i) e V) : dv_len (h + o) e (dv_tr inp out V) := by
  intro ν st E ⟨c, st0, e1, v⟩
  have := hl _ _ _ v
  rw [List.length_append, hi] at this
  rw [e1, List.length_append, ho]
  exact ⟨by omega, this.2⟩
theorem dv_len_lams {m : Nat} {V : dv_W} {h e : Nat} (hl : dv_len h e V) : dv_len h (e + m) (dv_lams m V) := by
  intro ν st E ⟨xs, E0, e1, e2, v⟩
  have := hl _ _ _ v
  rw [e1, List.length_append, e2]
  exact ⟨this.1, by omega⟩
theorem dv_len_fn {V : dv_W} {h e : Nat} (hl : dv_len (h + 1) (e + 1) V) : dv_len (h + 1) e (dv_fn V) := by
  intro ν st E ⟨x, c, st0, e1, v⟩
  have := hl _ _ _ v
  rw [List.length_cons, List.length_cons] at this
  rw [e1, List.length_cons]
  omega
theorem dv_len_bind {V : dv_W} {h e : Nat} (hl : dv_len (h + 1) e V) : dv_len h (e + 1) (dv_bind V) := by
  intro ν st E ⟨τ, E0, e1, v⟩
  have := hl _ _ _ v
  rw [List.length_cons] at this
  rw [e1, List.length_cons]
  omega
theorem dv_len_let {V : dv_W} {h e : Nat} (hl : dv_len h (e + 1) V) : dv_len h e (dv_let V) := by
  intro ν st E ⟨x, v⟩
  have := hl _ _ _ v
  rw [List.length_cons] at this
  omega
theorem dv_len_fun {m : Nat} {V : dv_W} {h e : Nat} (hl : dv_len (h + 1) (e + m + 1) V) : dv_len (h + 1) e (dv_fun m V) := by
  intro ν st E ⟨f, st0, xs, c, e1, e2, e3, v⟩
  have := hl _ _ _ v
  rw [List.length_cons, List.length_append, List.length_cons, e2] at this
  rw [e1, List.length_cons]
  omega
theorem dv_CI_new {V : dv_W} {h e : Nat} (hl : dv_len h e V) : dv_CI h e V := by
  intro ν A A' B B' Eu Eu' El hA hA' hE v v'
  have l1 := hl _ _ _ v
  have l2 := hl _ _ _ v'
  rw [List.length_append, List.length_append] at l1 l2
  have b1 : B = [] := List.eq_nil_of_length_eq_zero (by omega)
  have b2 : B' = [] := List.eq_nil_of_length_eq_zero (by omega)
  have b3 : Eu = [] := List.eq_nil_of_length_eq_zero (by omega)
  have b4 : Eu' = [] := List.eq_nil_of_length_eq_zero (by omega)
  subst b1 b2 b3 b4
  exact v
theorem dv_CI_psh {P : List tr_T → List tr_T → tr_T → Prop} {V : dv_W} {h e k b : Nat} (hl : dv_len h e V) (hk : k ≤ h) (C : dv_CI k b V) : dv_CI k b (dv_psh P V) := by
  intro ν A A' B B' Eu Eu' El hA hA' hE ⟨τ, st0, e1, v, p⟩ ⟨τ', st0', e1', v', p'⟩
  have l1 := (hl _ _ _ v).1
  have l2 := (hl _ _ _ v').1
  obtain ⟨B0, e2, e3⟩ := ls_cons e1.symm (by omega)
  obtain ⟨B0', e2', e3'⟩ := ls_cons e1'.symm (by omega)
  subst e2 e3 e2' e3'
  exact ⟨τ', B0' ++ A, rfl, C ν A A' B0 B0' Eu Eu' El hA hA' hE v v', p'⟩
theorem dv_CI_tr {γ : Type} {inp out : γ → List tr_T} {V : dv_W} {h e k b i : Nat} (hi : ∀ c, (inp c).length = i) (hl : dv_len (h + i) e V) (hk : k ≤ h) (C : dv_CI k b V) : dv_CI k b (dv_tr inp out V) := by
  intro ν A A' B B' Eu Eu' El hA hA' hE ⟨c, st0, e1, v⟩ ⟨c', st0', e1', v'⟩
  have l1 := (hl _ _ _ v).1
  have l2 := (hl _ _ _ v').1
  rw [List.length_append, hi] at l1 l2
  obtain ⟨B0, e2, e3⟩ := ls_split e1.symm (by omega)
  obtain ⟨B0', e2', e3'⟩ := ls_split e1'.symm (by omega)
  subst e2 e3 e2' e3'
  refine ⟨c', B0' ++ A, List.append_assoc _ _ _, ?_⟩
  rw [← List.append_assoc] at v v' ⊢
  exact C ν A A' _ _ Eu Eu' El hA hA' hE v v'
theorem dv_CI_lams {m : Nat} {V : dv_W} {h e k b : Nat} (hl : dv_len h e V) (hb : b ≤ e) (C : dv_CI k b V) : dv_CI k b (dv_lams m V) := by
  intro ν A A' B B' Eu Eu' El hA hA' hE ⟨xs, E0, e1, m1, v⟩ ⟨xs', E0', e1', m1', v'⟩
  have l1 := (hl _ _ _ v).2
  have l2 := (hl _ _ _ v').2
  obtain ⟨B0, e2, e3⟩ := ls_split e1.symm (by omega)
  obtain ⟨B0', e2', e3'⟩ := ls_split e1'.symm (by omega)
  subst e2 e3 e2' e3'
  exact ⟨xs', B0' ++ El, List.append_assoc _ _ _, m1', C ν A A' B B' B0 B0' El hA hA' hE v v'⟩
theorem dv_CI_fn {V : dv_W} {h e k b : Nat} (hl : dv_len (h + 1) (e + 1) V) (hk : k ≤ h) (C : dv_CI k b V) : dv_CI k b (dv_fn V) := by
  intro ν A A' B B' Eu Eu' El hA hA' hE ⟨x, c, st0, e1, v⟩ ⟨x', c', st0', e1', v'⟩
  have l1 := (hl _ _ _ v).1
  have l2 := (hl _ _ _ v').1
  rw [List.length_cons] at l1 l2
  obtain ⟨B0, e2, e3⟩ := ls_cons e1.symm (by omega)
  obtain ⟨B0', e2', e3'⟩ := ls_cons e1'.symm (by omega)
  subst e2 e3 e2' e3'
  exact ⟨x', c', B0' ++ A, rfl, C ν A A' (c :: B0) (c' :: B0') (x :: Eu) (x' :: Eu') El hA hA' hE v v'⟩
theorem dv_CI_bind {V : dv_W} {h e k b : Nat} (hl : dv_len (h + 1) e V) (hb : b ≤ e) (C : dv_CI k b V) : dv_CI k b (dv_bind V) := by
  intro ν A A' B B' Eu Eu' El hA hA' hE ⟨τ, E0, e1, v⟩ ⟨τ', E0', e1', v'⟩
  have l1 := (hl _ _ _ v).2
  have l2 := (hl _ _ _ v').2
  obtain ⟨B0, e2, e3⟩ := ls_cons e1.symm (by omega)
  obtain ⟨B0', e2', e3'⟩ := ls_cons e1'.symm (by omega)
  subst e2 e3 e2' e3'
  exact ⟨τ', B0' ++ El, rfl, C ν A A' (τ :: B) (τ' :: B') B0 B0' El hA hA' hE v v'⟩
theorem dv_CI_let {V : dv_W} {k b : Nat} (C : dv_CI k b V) : dv_CI k b (dv_let V) := by
  intro ν A A' B B' Eu Eu' El hA hA' hE ⟨x, v⟩ ⟨x', v'⟩
  exact ⟨x', C ν A A' B B' (x :: Eu) (x' :: Eu') El hA hA' hE v v'⟩
theorem dv_CI_fun {m : Nat} {V : dv_W} {h e k b : Nat} (hl : dv_len (h + 1) (e + m + 1) V) (hk : k ≤ h) (C : dv_CI k b V) : dv_CI k b (dv_fun m V) := by
  intro ν A A' B B' Eu Eu' El hA hA' hE ⟨f, st0, xs, c, e1, m1, a1, v⟩ ⟨f', st0', xs', c', e1', m1', a1', v'⟩
  have l1 := (hl _ _ _ v).1
  have l2 := (hl _ _ _ v').1
  rw [List.length_cons] at l1 l2
  obtain ⟨B0, e2, e3⟩ := ls_cons e1.symm (by omega)
  obtain ⟨B0', e2', e3'⟩ := ls_cons e1'.symm (by omega)
  subst e2 e3 e2' e3'
  refine ⟨f', B0' ++ A, xs', c', rfl, m1', a1', ?_⟩
  have z := C ν A A' (c :: B0) (c' :: B0') (xs ++ f :: Eu) (xs' ++ f' :: Eu') El hA hA' hE (by simpa using v) (by simpa using v')
  simpa using z
/-- what rp_gen asks -/
theorem dv_CI_top {V : dv_W} {h e : Nat} (hl : dv_len (h + 1) e V) (C : dv_CI h e V) : ∀ ν E τ st τ' st', V ν (τ :: st) E → V ν (τ' :: st') E → V ν (τ' :: st) E := by
  intro ν E τ st τ' st' v v'
  have l1 := hl _ _ _ v
  have l2 := hl _ _ _ v'
  rw [List.length_cons] at l1 l2
  exact C ν st st' [τ] [τ'] [] [] E (by omega) (by omega) l1.2 v v'
end
section
/-! types written out: a tree's labels in the order in which node answers them (of a list or ref the part stands once); numbering by first occurrence; two graphs with the same values write the same -/
def tr_pre : tr_T → List Nat
  | .tag c (.append l r) => if c = 3 ∨ c = 4 then c :: tr_pre l else c :: (tr_pre l ++ tr_pre r)
  | .tag c _ => [c]
  | _ => []
theorem tr_pre_at (c : Nat) : tr_pre (tr_at c) = [c] := by
  unfold tr_at
  simp [tr_pre]
theorem tr_pre_con (c : Nat) (l r : tr_T) : tr_pre (tr_con c l r) = if c = 3 ∨ c = 4 then c :: tr_pre l else c :: (tr_pre l ++ tr_pre r) := by
  unfold tr_con
  simp [tr_pre]
/-- the valuation in which every free node is a label of its own -/
def gr_gen (n : Nat) (kd : Nat → Nat) (ρ : Nat → tr_T) : Prop := ∀ i, i < n → gr_fr (kd i) → ρ i = tr_at (1001 + i)
def cd_sub (ρ : Nat → tr_T) (c : Nat) : List Nat := if c < 1001 then [c] else tr_pre (ρ (c - 1001))
theorem cd_fac {n : Nat} {kd pa pb : Nat → Nat} {g ρ : Nat → tr_T} (W : gr_W n kd pa pb) (hk : ∀ i, i < n → kd i ≤ 1000) (hg : gr_V n kd pa pb g) (gg : gr_gen n kd g) (h : gr_V n kd pa pb ρ) : ∀ f i, i < n → gr_H kd pa pb f i → tr_pre (ρ i) = (tr_pre (g i)).flatMap (cd_sub ρ) := by
  intro f
  induction f with
  | zero => intro i _ z; exact z.elim
  | succ f ih =>
    intro i hi hf
    by_cases c1 : kd i = 1000
    · rw [gr_Vl h hi c1, gr_Vl hg hi c1]; exact ih _ ((W i hi).1 c1) (hf.1 c1)
    · by_cases c2 : gr_cn (kd i)
      · have w := (W i hi).2 c2
        rw [gr_Vc h hi c2, gr_Vc hg hi c2, tr_pre_con, tr_pre_con, ih _ w.1 (hf.2 c2).1, ih _ w.2 (hf.2 c2).2]
        have e : cd_sub ρ (kd i) = [kd i] := if_pos (by omega)
        by_cases c3 : kd i = 3 ∨ kd i = 4
        · rw [if_pos c3, if_pos c3, List.flatMap_cons, e]; rfl
        · rw [if_neg c3, if_neg c3, List.flatMap_cons, e, List.flatMap_append]; rfl
      · by_cases c3 : gr_fr (kd i)
        · rw [gg i hi c3, tr_pre_at]
          show _ = List.flatMap (cd_sub ρ) [1001 + i]
          rw [List.flatMap_cons, List.flatMap_nil, List.append_nil]
          unfold cd_sub
          rw [if_neg (by omega)]
          congr 2
          omega
        · rw [gr_Vt h hi c1 c2 c3, gr_Vt hg hi c1 c2 c3, tr_pre_at]
          show _ = List.flatMap (cd_sub ρ) [kd i]
          rw [List.flatMap_cons, List.flatMap_nil, List.append_nil]
          have := hk i hi
          exact (if_pos (by omega)).symm
theorem tr_pre_ne {n : Nat} {kd pa pb : Nat → Nat} {ρ : Nat → tr_T} (W : gr_W n kd pa pb) (h : gr_V n kd pa pb ρ) (hf : ∀ i, i < n → gr_fr (kd i) → tr_pre (ρ i) ≠ []) : ∀ f i, i < n → gr_H kd pa pb f i → tr_pre (ρ i) ≠ [] := by
  intro f
  induction f with
  | zero => intro i _ z; exact z.elim
  | succ f ih =>
    intro i hi hh
    by_cases c1 : kd i = 1000
    · rw [gr_Vl h hi c1]; exact ih _ ((W i hi).1 c1) (hh.1 c1)
    · by_cases c2 : gr_cn (kd i)
      · rw [gr_Vc h hi c2, tr_pre_con]
        by_cases c3 : kd i = 3 ∨ kd i = 4
        · rw [if_pos c3]; exact List.cons_ne_nil _ _
        · rw [if_neg c3]; exact List.cons_ne_nil _ _
      · by_cases c3 : gr_fr (kd i)
        · exact hf i hi c3
        · rw [gr_Vt h hi c1 c2 c3, tr_pre_at]; exact List.cons_ne_nil _ _
/-- replaced by lists that aren't empty, nothing gets shorter; if nothing gets longer, one label stands for one -/
theorem fm_len {σ : Nat → List Nat} : ∀ l : List Nat, (∀ c, c ∈ l → σ c ≠ []) → l.length ≤ (l.flatMap σ).length := by
  intro l
  induction l with
  | nil => intro _; exact Nat.le_refl 0
  | cons c l ih =>
    intro h
    rw [List.flatMap_cons, List.length_append, List.length_cons]
    have h1 := List.length_pos_iff.mpr (h c List.mem_cons_self)
    have h2 := ih (fun d hd => h d (List.mem_cons_of_mem _ hd))
    omega
theorem fm_map {σ : Nat → List Nat} : ∀ l : List Nat, (∀ c, c ∈ l → σ c ≠ []) → (l.flatMap σ).length ≤ l.length → ∀ c, c ∈ l → ∃ d, σ c = [d] := by
  intro l
  induction l with
  | nil => intro _ _ c h; cases h
  | cons c l ih =>
    intro h hl d hd
    rw [List.flatMap_cons, List.length_append, List.length_cons] at hl
    have h1 := List.length_pos_iff.mpr (h c List.mem_cons_self)
    have h2 := fm_len l (fun d hd => h d (List.mem_cons_of_mem _ hd))
    rcases List.mem_cons.mp hd with z | z
    · rw [z]
      have e : (σ c).length = 1 := by omega
      exact List.length_eq_one_iff.mp e
    · exact ih (fun d hd => h d (List.mem_cons_of_mem _ hd)) (by omega) d z
theorem fm_eq {σ : Nat → List Nat} : ∀ l : List Nat, (∀ c, c ∈ l → ∃ d, σ c = [d]) → l.flatMap σ = l.map (fun c => (σ c).headD 0) := by
  intro l
  induction l with
  | nil => intro _; rfl
  | cons c l ih =>
    intro h
    obtain ⟨d, e⟩ := h c List.mem_cons_self
    rw [List.flatMap_cons, List.map_cons, ih (fun d hd => h d (List.mem_cons_of_mem _ hd)), e]
    rfl
/-- the two lists of labels differ by names of free nodes alone -/
theorem fm_two {σ τ : Nat → List Nat} {L M : List Nat} (e1 : M = L.flatMap σ) (e2 : L = M.flatMap τ) (h1 : ∀ c, c ∈ L → σ c ≠ []) (h2 : ∀ c, c ∈ M → τ c ≠ []) : M = L.map (fun c => (σ c).headD 0) ∧ L = M.map (fun c => (τ c).headD 0) := by
  have l1 := fm_len L h1
  have l2 := fm_len M h2
  rw [← e1] at l1
  rw [← e2] at l2
  have q1 := fm_map L h1 (by rw [← e1]; exact l2)
  have q2 := fm_map M h2 (by rw [← e2]; exact l1)
  exact ⟨e1.trans (fm_eq L q1), e2.trans (fm_eq M q2)⟩
end
section
/-! types as node answers them: codes, the whole ahead of its parts -/
def cd_ar (c : Nat) : Nat := if c = 5 ∨ c = 6 then 2 else if c = 3 ∨ c = 4 then 1 else 0
/-- how many types a list of codes holds -/
def cd_n : List Nat → Nat
  | [] => 0
  | c :: cs => cd_n cs + 1 - cd_ar c
def cd_wf (oc : Nat) : List Nat → Prop
  | [] => True
  | c :: cs => (c < 7 ∨ (10 ≤ c ∧ c < 22) ∨ (100 ≤ c ∧ c < 100 + oc)) ∧ cd_ar c ≤ cd_n cs ∧ cd_wf oc cs
/-- the trees that codes stand for: ν the open, γ the general variables -/
def cd_ev (ν γ : Nat → tr_T) : List Nat → List tr_T
  | [] => []
  | c :: cs =>
    if 100 ≤ c then ν (c - 100) :: cd_ev ν γ cs
    else if 10 ≤ c then γ (c - 10) :: cd_ev ν γ cs
    else if c < 3 then tr_at c :: cd_ev ν γ cs
    else if c = 3 ∨ c = 4 then tr_con c ((cd_ev ν γ cs).getD 0 (tr_at 0)) ((cd_ev ν γ cs).getD 0 (tr_at 0)) :: (cd_ev ν γ cs).drop 1
    else tr_con c ((cd_ev ν γ cs).getD 0 (tr_at 0)) ((cd_ev ν γ cs).getD 1 (tr_at 0)) :: (cd_ev ν γ cs).drop 2
theorem cd_ev_len {oc : Nat} {ν γ : Nat → tr_T} : ∀ cs, cd_wf oc cs → (cd_ev ν γ cs).length = cd_n cs := by
  intro cs
  induction cs with
  | nil => intro _; rfl
  | cons c cs ih =>
    intro h
    obtain ⟨h1, h2, h3⟩ := h
    have l := ih h3
    unfold cd_ev cd_n
    unfold cd_ar at h2 ⊢
    by_cases c1 : 100 ≤ c
    · rw [if_pos c1, List.length_cons, l, if_neg (by omega), if_neg (by omega), Nat.sub_zero]
    · rw [if_neg c1]
      by_cases c2 : 10 ≤ c
      · rw [if_pos c2, List.length_cons, l, if_neg (by omega), if_neg (by omega), Nat.sub_zero]
      · rw [if_neg c2]
        by_cases c3 : c < 3
        · rw [if_pos c3, List.length_cons, l, if_neg (by omega), if_neg (by omega), Nat.sub_zero]
        · rw [if_neg c3]
          by_cases c4 : c = 3 ∨ c = 4
          · rw [if_neg (by omega), if_pos c4] at h2
            rw [if_pos c4, List.length_cons, List.length_drop, l, if_neg (by omega), if_pos c4]
            omega
          · rw [if_pos (by omega)] at h2
            rw [if_neg c4, List.length_cons, List.length_drop, l, if_pos (by omega)]
            omega
theorem cd_ev_c {ν ν' γ γ' : Nat → tr_T} : ∀ cs, (∀ c, c ∈ cs → 100 ≤ c → ν (c - 100) = ν' (c - 100)) → (∀ c, c ∈ cs → 10 ≤ c → c < 100 → γ (c - 10) = γ' (c - 10)) → cd_ev ν γ cs = cd_ev ν' γ' cs := by
  intro cs
  induction cs with
  | nil => intro _ _; rfl
  | cons c cs ih =>
    intro h1 h2
    have e := ih (fun d hd => h1 d (List.mem_cons_of_mem _ hd)) (fun d hd => h2 d (List.mem_cons_of_mem _ hd))
    unfold cd_ev
    rw [e]
    by_cases c1 : 100 ≤ c
    · rw [if_pos c1, if_pos c1, h1 c List.mem_cons_self c1]
    · rw [if_neg c1, if_neg c1]
      by_cases c2 : 10 ≤ c
      · rw [if_pos c2, if_pos c2, h2 c List.mem_cons_self c2 (by omega)]
      · rw [if_neg c2, if_neg c2]
/-- new nodes that hold no general variable -/
theorem rp_ext {b0 nl n n' r : Nat} {kd pa pb kd' pa' pb' : Nat → Nat} {op stk env : List Nat} {bs : List (Nat × Bool)} {V V' : List tr_T → List tr_T → List tr_T → Prop} (I : rp_I b0 nl n kd pa pb op stk env bs V) (hn : n ≤ n') (s : gr_same n kd pa pb kd' pa' pb') (W' : gr_W n' kd' pa' pb') (A' : gr_A n' kd' pa' pb')
    (nw : ∀ m, n ≤ m → m < n' → kd' m ≠ 8 ∧ kd' m ≠ 1000 ∧ (gr_cn (kd' m) → (pa' m ∈ op ∨ n ≤ pa' m) ∧ (pb' m ∈ op ∨ n ≤ pb' m))) (hr : r ∈ op ∨ (n ≤ r ∧ r < n'))
    (hV' : ∀ ν st E, V' ν st E ↔ ∃ ρ, gr_V n' kd' pa' pb' ρ ∧ op.map ρ = ν ∧ (r :: stk).map ρ = st ∧ env.map ρ = E) : rp_I b0 nl n' kd' pa' pb' op (r :: stk) env bs V' := by
  obtain ⟨W, A, ⟨M, E, ⟨hM, gM, oM, sM, eM⟩, cE, mE, eE, bE⟩, en, hl, hP, hV⟩ := I
  refine ⟨W', A', ⟨fun i => M i ∨ (n ≤ i ∧ i < n'), fun i => E i ∨ (n ≤ i ∧ i < n'), ⟨?_, ?_, fun x hx => Or.inl (oM x hx), ?_, fun x hx => Or.inl (eM x hx)⟩, ?_, fun i hi => hi.elim (fun z => Or.inl (mE i z)) Or.inr, fun x hx => Or.inl (eE x hx), ?_⟩, fun x hx => by have := en x hx; omega, hl, ?_, hV'⟩
  · intro i hi
    rcases hi with hi | hi
    · obtain ⟨a, b, c⟩ := hM i hi
      rw [(s i a).1, (s i a).2.1, (s i a).2.2]
      exact ⟨by omega, fun z => Or.inl (b z), fun z => ⟨Or.inl (c z).1, Or.inl (c z).2⟩⟩
    · obtain ⟨q1, q2, q3⟩ := nw i hi.1 hi.2
      refine ⟨hi.2, fun z => (q2 z).elim, fun z => ?_⟩
      have w := (W' i hi.2).2 z
      exact ⟨(q3 z).1.elim (fun q => Or.inl (oM _ q)) (fun q => Or.inr ⟨q, w.1⟩), (q3 z).2.elim (fun q => Or.inl (oM _ q)) (fun q => Or.inr ⟨q, w.2⟩)⟩
  · intro i hi
    rcases hi with hi | hi
    · rw [(s i (hM i hi).1).1]; exact gM i hi
    · exact (nw i hi.1 hi.2).1
  · intro x hx
    rcases List.mem_cons.mp hx with z | z
    · rw [z]; exact hr.elim (fun q => Or.inl (oM _ q)) Or.inr
    · exact Or.inl (sM x z)
  · intro i hi
    rcases hi with hi | hi
    · obtain ⟨a, b, c⟩ := cE i hi
      rw [(s i a).1, (s i a).2.1, (s i a).2.2]
      exact ⟨by omega, fun z => Or.inl (b z), fun z => ⟨Or.inl (c z).1, Or.inl (c z).2⟩⟩
    · obtain ⟨q1, q2, q3⟩ := nw i hi.1 hi.2
      refine ⟨hi.2, fun z => (q2 z).elim, fun z => ?_⟩
      have w := (W' i hi.2).2 z
      exact ⟨(q3 z).1.elim (fun q => Or.inl (mE _ (oM _ q))) (fun q => Or.inr ⟨q, w.1⟩), (q3 z).2.elim (fun q => Or.inl (mE _ (oM _ q))) (fun q => Or.inr ⟨q, w.2⟩)⟩
  · intro i hi nm
    rcases hi with hi | hi
    · exact bE i hi (fun z => nm (Or.inl z))
    · exact (nm (Or.inr hi)).elim
  · refine rp_P_mono (fun ρ h i hi => ?_) (fun i hi c => ⟨by omega, by rw [(s i hi).1]; exact c⟩) bs env hP
    have e := h i (by omega)
    rw [(s i hi).1, (s i hi).2.1, (s i hi).2.2] at e
    exact e
/-- what holds while nodes for codes are made, from the back: cs the codes done, L their nodes, gn the nodes of the general variables (kind gk) -/
def bd_I (oc gk n n' : Nat) (kd pa pb kd' pa' pb' : Nat → Nat) (gn : Nat → Option Nat) (L cs : List Nat) : Prop :=
  n ≤ n' ∧ gr_same n kd pa pb kd' pa' pb' ∧ gr_W n' kd' pa' pb' ∧ gr_A n' kd' pa' pb' ∧
  (∀ m, n ≤ m → m < n' → kd' m ≠ 1000 ∧ (kd' m = 8 → gk = 8) ∧ (gr_cn (kd' m) → (pa' m < oc ∨ n ≤ pa' m) ∧ (pb' m < oc ∨ n ≤ pb' m))) ∧
  (∀ x, x ∈ L → x < oc ∨ (n ≤ x ∧ x < n')) ∧ (∀ g x, gn g = some x → n ≤ x ∧ x < n' ∧ kd' x = gk) ∧ (∀ g g' x, gn g = some x → gn g' = some x → g = g') ∧ (∀ c, c ∈ cs → 10 ≤ c → c < 100 → gn (c - 10) ≠ none) ∧
  (∀ ρ, gr_V n' kd' pa' pb' ρ → L.map ρ = cd_ev ρ (fun g => ((gn g).map ρ).getD (tr_at 0)) cs) ∧
  (∀ ρ, gr_V n kd pa pb ρ → ∀ γ : Nat → tr_T, ∃ ρ', gr_V n' kd' pa' pb' ρ' ∧ (∀ i, i < n → ρ' i = ρ i) ∧ ∀ g x, gn g = some x → ρ' x = γ g)
section
variable {oc gk n n' : Nat} {kd pa pb kd' pa' pb' : Nat → Nat} {gn : Nat → Option Nat} {L cs : List Nat}
/-- a new node of kind k -/
theorem gr_W_new {k a b : Nat} (W : gr_W n kd pa pb) (hk : k ≠ 1000) (hp : gr_cn k → a < n ∧ b < n) : gr_W (n + 1) (gr_u kd n k) (gr_u pa n a) (gr_u pb n b) := by
  intro i hi
  by_cases c : i = n
  · subst c
    rw [gr_us, gr_us, gr_us]
    exact ⟨fun z => (hk z).elim, fun z => by have := hp z; omega⟩
  · rw [gr_un c, gr_un c, gr_un c]
    have := W i (by omega)
    exact ⟨fun z => by have := this.1 z; omega, fun z => by have := this.2 z; omega⟩
theorem gr_A_new {k a b : Nat} (W : gr_W n kd pa pb) (A : gr_A n kd pa pb) (hk : k ≠ 1000) (hp : gr_cn k → a < n ∧ b < n) : gr_A (n + 1) (gr_u kd n k) (gr_u pa n a) (gr_u pb n b) := by
  have s : gr_same n kd pa pb (gr_u kd n k) (gr_u pa n a) (gr_u pb n b) := fun i hi => ⟨gr_un (by omega), gr_un (by omega), gr_un (by omega)⟩
  intro i hi
  by_cases c : i = n
  · subst c
    refine gr_H_i (fun z => ?_) (fun z => ?_)
    · rw [gr_us] at z; exact (hk z).elim
    · rw [gr_us] at z
      rw [gr_us, gr_us]
      obtain ⟨f, h⟩ := A a (hp z).1
      obtain ⟨g, h'⟩ := A b (hp z).2
      exact ⟨⟨f, gr_H_n W s f _ (hp z).1 h⟩, g, gr_H_n W s g _ (hp z).2 h'⟩
  · obtain ⟨f, h⟩ := A i (by omega)
    exact ⟨f, gr_H_n W s f i (by omega) h⟩
theorem gr_V_new {k a b : Nat} {ρ : Nat → tr_T} (h : gr_V (n + 1) (gr_u kd n k) (gr_u pa n a) (gr_u pb n b) ρ) : gr_V n kd pa pb ρ ∧ ρ n = gr_ev k (ρ a) (ρ b) (ρ n) := by
  refine ⟨fun i hi => ?_, ?_⟩
  · have e := h i (by omega)
    rw [gr_un (by omega), gr_un (by omega), gr_un (by omega)] at e
    exact e
  · have e := h n (by omega)
    rw [gr_us, gr_us, gr_us] at e
    exact e
theorem gr_V_new' {k a b : Nat} {ρ : Nat → tr_T} {v : tr_T} (W : gr_W n kd pa pb) (h : gr_V n kd pa pb ρ) (hp : gr_cn k → a < n ∧ b < n) (hk : k ≠ 1000) (hv : ¬ gr_fr k → v = gr_ev k (ρ a) (ρ b) v) : gr_V (n + 1) (gr_u kd n k) (gr_u pa n a) (gr_u pb n b) (fun i => if i = n then v else ρ i) := by
  have h' := gr_V_n W h (ρ' := fun i => if i = n then v else ρ i) (fun i hi => if_neg (by omega))
  intro i hi
  by_cases c : i = n
  · subst c
    rw [gr_us, gr_us, gr_us]
    show (if i = i then v else ρ i) = gr_ev k (if a = i then v else ρ a) (if b = i then v else ρ b) (if i = i then v else ρ i)
    rw [if_pos rfl]
    by_cases cf : gr_fr k
    · rw [gr_ev_f cf]
    · by_cases cc : gr_cn k
      · have := hp cc
        have n1 : ¬ a = i := by omega
        have n2 : ¬ b = i := by omega
        rw [if_neg n1, if_neg n2]; exact hv cf
      · have e := hv cf
        rw [gr_ev_t hk cc cf] at e ⊢; exact e
  · have e := h' i (by omega)
    rw [gr_un c, gr_un c, gr_un c]; exact e
theorem bd_0 {kd pa pb : Nat → Nat} (W : gr_W n kd pa pb) (A : gr_A n kd pa pb) : bd_I oc gk n n kd pa pb kd pa pb (fun _ => none) [] [] :=
  ⟨Nat.le_refl _, fun i _ => ⟨rfl, rfl, rfl⟩, W, A, fun m h1 h2 => by omega, fun x hx => (by cases hx), fun g x h => (by cases h), fun g g' x h => (by cases h), fun c hc => (by cases hc), fun ρ _ => rfl, fun ρ h γ => ⟨ρ, h, fun _ _ => rfl, fun g x h => (by cases h)⟩⟩
/-- an open variable -/
theorem bd_op {c : Nat} (I : bd_I oc gk n n' kd pa pb kd' pa' pb' gn L cs) (h1 : 100 ≤ c) (h2 : c < 100 + oc) : bd_I oc gk n n' kd pa pb kd' pa' pb' gn ((c - 100) :: L) (c :: cs) := by
  obtain ⟨i1, i2, i3, i4, i5, i6, i7, i8, i9, i10, i11⟩ := I
  refine ⟨i1, i2, i3, i4, i5, fun x hx => ?_, i7, i8, fun d hd d1 d2 => ?_, fun ρ h => ?_, i11⟩
  · rcases List.mem_cons.mp hx with z | z
    · rw [z]; exact Or.inl (by omega)
    · exact i6 x z
  · rcases List.mem_cons.mp hd with z | z
    · omega
    · exact i9 d z d1 d2
  · unfold cd_ev
    rw [if_pos h1, List.map_cons, i10 ρ h]
/-- a general variable that has its node -/
theorem bd_g {c x : Nat} (I : bd_I oc gk n n' kd pa pb kd' pa' pb' gn L cs) (h1 : 10 ≤ c) (h2 : c < 22) (hx : gn (c - 10) = some x) : bd_I oc gk n n' kd pa pb kd' pa' pb' gn (x :: L) (c :: cs) := by
  obtain ⟨i1, i2, i3, i4, i5, i6, i7, i8, i9, i10, i11⟩ := I
  refine ⟨i1, i2, i3, i4, i5, fun y hy => ?_, i7, i8, fun d hd d1 d2 => ?_, fun ρ h => ?_, i11⟩
  · rcases List.mem_cons.mp hy with z | z
    · rw [z]; have := i7 _ _ hx; exact Or.inr ⟨this.1, this.2.1⟩
    · exact i6 y z
  · rcases List.mem_cons.mp hd with z | z
    · rw [z, hx]; exact fun q => by cases q
    · exact i9 d z d1 d2
  · unfold cd_ev
    rw [if_neg (by omega), if_pos h1, List.map_cons, i10 ρ h, hx]
    rfl
def bd_u (gn : Nat → Option Nat) (g0 x : Nat) : Nat → Option Nat := fun g => if g = g0 then some x else gn g
/-- one that gets it now -/
theorem bd_gn {c : Nat} (I : bd_I oc gk n n' kd pa pb kd' pa' pb' gn L cs) (h1 : 10 ≤ c) (h2 : c < 22) (hx : gn (c - 10) = none) (hgk : gk = 7 ∨ gk = 8) : bd_I oc gk n (n' + 1) kd pa pb (gr_u kd' n' gk) (gr_u pa' n' 0) (gr_u pb' n' 0) (bd_u gn (c - 10) n') (n' :: L) (c :: cs) := by
  obtain ⟨i1, i2, i3, i4, i5, i6, i7, i8, i9, i10, i11⟩ := I
  have k1 : gk ≠ 1000 := by omega
  have kc : ¬ gr_cn gk := by omega
  have us : ∀ g, g = c - 10 → bd_u gn (c - 10) n' g = some n' := fun g e => if_pos e
  have un : ∀ g, ¬ g = c - 10 → bd_u gn (c - 10) n' g = gn g := fun g e => if_neg e
  refine ⟨by omega, fun i hi => ?_, gr_W_new i3 k1 (fun z => (kc z).elim), gr_A_new i3 i4 k1 (fun z => (kc z).elim), fun m m1 m2 => ?_, fun y hy => ?_, fun g x hg => ?_, fun g g' x hg hg' => ?_, fun d hd d1 d2 => ?_, fun ρ h => ?_, fun ρ h γ => ?_⟩
  · rw [gr_un (by omega), gr_un (by omega), gr_un (by omega)]; exact i2 i hi
  · by_cases e : m = n'
    · subst e
      rw [gr_us]; exact ⟨k1, fun z => z, fun z => (kc z).elim⟩
    · rw [gr_un e, gr_un e, gr_un e]; exact i5 m m1 (by omega)
  · rcases List.mem_cons.mp hy with z | z
    · rw [z]; exact Or.inr ⟨i1, by omega⟩
    · exact (i6 y z).elim Or.inl (fun q => Or.inr ⟨q.1, by omega⟩)
  · by_cases e : g = c - 10
    · rw [us _ e] at hg
      cases hg
      rw [gr_us]; exact ⟨i1, by omega, rfl⟩
    · rw [un _ e] at hg
      have := i7 g x hg
      rw [gr_un (by omega)]; exact ⟨this.1, by omega, this.2.2⟩
  · by_cases e : g = c - 10
    · by_cases e' : g' = c - 10
      · rw [e, e']
      · rw [us _ e] at hg
        rw [un _ e'] at hg'
        cases hg
        have := i7 g' _ hg'
        omega
    · rw [un _ e] at hg
      by_cases e' : g' = c - 10
      · rw [us _ e'] at hg'
        cases hg'
        have := i7 g _ hg
        omega
      · rw [un _ e'] at hg'
        exact i8 g g' x hg hg'
  · by_cases e : d - 10 = c - 10
    · rw [us _ e]; exact fun q => by cases q
    · rw [un _ e]
      rcases List.mem_cons.mp hd with z | z
      · exact (e (by rw [z])).elim
      · exact i9 d z d1 d2
  · have h' := (gr_V_new h).1
    unfold cd_ev
    rw [if_neg (by omega), if_pos h1, List.map_cons, i10 ρ h']
    rw [us _ rfl]
    show _ = (Option.map ρ (some n')).getD (tr_at 0) :: _
    congr 1
    refine cd_ev_c cs (fun _ _ _ => rfl) (fun d hd d1 d2 => ?_)
    have ne : ¬ d - 10 = c - 10 := fun e => i9 d hd d1 d2 (e ▸ hx)
    rw [un _ ne]
  · obtain ⟨ρ', h', a', b'⟩ := i11 ρ h γ
    refine ⟨fun i => if i = n' then γ (c - 10) else ρ' i, gr_V_new' i3 h' (fun z => (kc z).elim) k1 (fun z => (z (by omega)).elim), fun i hi => ?_, fun g x hg => ?_⟩
    · show (if i = n' then _ else _) = _
      rw [if_neg (by omega)]; exact a' i hi
    · show (if x = n' then _ else _) = _
      by_cases e : g = c - 10
      · rw [us _ e] at hg
        cases hg
        rw [if_pos rfl, e]
      · rw [un _ e] at hg
        have := i7 g x hg
        rw [if_neg (by omega)]; exact b' g x hg
/-- a node with parts, or a leaf -/
theorem bd_con {c k a b : Nat} {L' : List Nat} (I : bd_I oc gk n n' kd pa pb kd' pa' pb' gn L cs) (hon : oc ≤ n) (hc : c < 7) (hk : k = c) (hL : (c < 3 ∧ L' = L) ∨ (c = 3 ∧ L = a :: L' ∧ b = a) ∨ (c = 4 ∧ L = a :: L' ∧ b = a) ∨ ((c = 5 ∨ c = 6) ∧ L = a :: b :: L')) : bd_I oc gk n (n' + 1) kd pa pb (gr_u kd' n' k) (gr_u pa' n' a) (gr_u pb' n' b) gn (n' :: L') (c :: cs) := by
  subst hk
  obtain ⟨i1, i2, i3, i4, i5, i6, i7, i8, i9, i10, i11⟩ := I
  have k1 : k ≠ 1000 := by omega
  have hm : gr_cn k → (a < oc ∨ (n ≤ a ∧ a < n')) ∧ (b < oc ∨ (n ≤ b ∧ b < n')) := by
    intro z
    rcases hL with q | q | q | q
    · omega
    · have := i6 a (by rw [q.2.1]; exact List.mem_cons_self); rw [q.2.2]; exact ⟨this, this⟩
    · have := i6 a (by rw [q.2.1]; exact List.mem_cons_self); rw [q.2.2]; exact ⟨this, this⟩
    · exact ⟨i6 a (by rw [q.2]; exact List.mem_cons_self), i6 b (by rw [q.2]; exact List.mem_cons_of_mem _ List.mem_cons_self)⟩
  have hp : gr_cn k → a < n' ∧ b < n' := fun z => by have := hm z; omega
  have sub : ∀ y, y ∈ L' → y ∈ L := by
    intro y hy
    rcases hL with q | q | q | q
    · rw [← q.2]; exact hy
    · rw [q.2.1]; exact List.mem_cons_of_mem _ hy
    · rw [q.2.1]; exact List.mem_cons_of_mem _ hy
    · rw [q.2]; exact List.mem_cons_of_mem _ (List.mem_cons_of_mem _ hy)
  refine ⟨by omega, fun i hi => ?_, gr_W_new i3 k1 hp, gr_A_new i3 i4 k1 hp, fun m m1 m2 => ?_, fun y hy => ?_, fun g x hg => ?_, i8, fun d hd d1 d2 => ?_, fun ρ h => ?_, fun ρ h γ => ?_⟩
  · rw [gr_un (by omega), gr_un (by omega), gr_un (by omega)]; exact i2 i hi
  · by_cases e : m = n'
    · subst e
      rw [gr_us, gr_us, gr_us]
      refine ⟨k1, fun z => by omega, fun z => ?_⟩
      have := hm z
      exact ⟨this.1.elim Or.inl (fun q => Or.inr q.1), this.2.elim Or.inl (fun q => Or.inr q.1)⟩
    · rw [gr_un e, gr_un e, gr_un e]; exact i5 m m1 (by omega)
  · rcases List.mem_cons.mp hy with z | z
    · rw [z]; exact Or.inr ⟨i1, by omega⟩
    · exact (i6 y (sub y z)).elim Or.inl (fun q => Or.inr ⟨q.1, by omega⟩)
  · have := i7 g x hg
    rw [gr_un (by omega)]; exact ⟨this.1, by omega, this.2.2⟩
  · rcases List.mem_cons.mp hd with z | z
    · omega
    · exact i9 d z d1 d2
  · obtain ⟨h', e⟩ := gr_V_new h
    have v := i10 ρ h'
    unfold cd_ev
    rw [if_neg (by omega), if_neg (by omega), ← v, List.map_cons]
    rcases hL with q | q | q | q
    · rw [if_pos q.1, q.2, e, gr_ev_t k1 (by omega) (by omega)]
    · rw [if_neg (by omega), if_pos (by omega), e, gr_ev_c (by omega), q.2.1, q.2.2]; rfl
    · rw [if_neg (by omega), if_pos (by omega), e, gr_ev_c (by omega), q.2.1, q.2.2]; rfl
    · rw [if_neg (by omega), if_neg (by omega), e, gr_ev_c (by omega), q.2]; rfl
  · obtain ⟨ρ', h', a', b'⟩ := i11 ρ h γ
    refine ⟨fun i => if i = n' then gr_ev k (ρ' a) (ρ' b) (tr_at 0) else ρ' i, gr_V_new' i3 h' hp k1 (fun z => ?_), fun i hi => ?_, fun g x hg => ?_⟩
    · by_cases cc : gr_cn k
      · rw [gr_ev_c cc, gr_ev_c cc]
      · rw [gr_ev_t k1 cc z, gr_ev_t k1 cc z]
    · show (if i = n' then _ else _) = _
      rw [if_neg (by omega)]; exact a' i hi
    · show (if x = n' then _ else _) = _
      have := i7 g x hg
      rw [if_neg (by omega)]; exact b' g x hg
end
end
section
/-! the parser as both sides follow it. K a: the kind of the token at place a (99: none). A turn takes the uppermost symbol (s, p); it answers the place it comes to, and what is put in the symbol's stead and which steps are written, or none: the tokens stop being a beginning at that place -/
abbrev pm_L : Type := List (Nat × Nat)
def pm_alone (t : Nat) : Bool := decide (t < 4) || (decide (22 ≤ t) && decide (t ≤ 30) && decide (t ≠ 25))
def pm_atom (K : Nat → Nat) (a : Nat) : Nat × Option (pm_L × pm_L) :=
  if pm_alone (K a) = true then (a + 1, some ([], [(80, a)]))
  else if K a = 15 then (if K (a + 1) = 16 then (a + 2, some ([], [(81, a + 1)])) else (a + 1, some ([(42, 0), (44, 0)], [])))
  else if K a = 6 then (a + 1, some ([(40, 0), (46, a)], []))
  else (a, none)
/-- the first place from q on that holds no NAME -/
def pm_nq (K : Nat → Nat) : Nat → Nat → Nat
  | 0, q => q
  | f + 1, q => if K q = 3 then pm_nq K f (q + 1) else q
def pm_decl (K : Nat → Nat) (a : Nat) : Nat × Option (pm_L × pm_L) :=
  if K a = 7 then
    (if K (a + 1) = 3 then (if K (a + 2) = 9 then (a + 3, some ([(42, 0), (89, a)], [])) else (a + 2, none)) else (a + 1, none))
  else if K a = 8 then
    (if K (a + 1) = 3 then
      (if K (a + 2) = 3 then
        (if K (pm_nq K 24 (a + 3)) = 9 then (pm_nq K 24 (a + 3) + 1, some ([(42, 0), (88, a)], [(87, a)])) else (pm_nq K 24 (a + 3), none))
       else (a + 2, none))
     else (a + 1, none))
  else (a, none)
def pm_expr (K : Nat → Nat) (a : Nat) : Nat × Option (pm_L × pm_L) :=
  if K a = 4 then
    (if K (a + 1) = 3 then (if K (a + 2) = 5 then (a + 3, some ([(42, 0), (86, a)], [(85, a)])) else (a + 2, none)) else (a + 1, none))
  else if K a = 12 then (a + 1, some ([(42, 0), (13, 0), (42, 0), (14, 0), (42, 0), (84, a)], []))
  else (a, some ([(55, 0), (54, 0), (53, 0), (52, 0), (51, 0), (50, 0)], []))
def pm_apl (K : Nat → Nat) (a : Nat) : Nat × Option (pm_L × pm_L) :=
  match (pm_atom K a).2 with
  | some (l, w) => ((pm_atom K a).1, some (l ++ [(82, a), (54, 0)], w))
  | none => (a, some ([], []))
def pm_turn (K : Nat → Nat) (s p a : Nat) : Nat × Option (pm_L × pm_L) :=
  if 80 ≤ s then (a, some ([], [(s, p)]))
  else if s < 38 then (if K a = s then (a + 1, some ([], [])) else (a, none))
  else if s = 40 then pm_decl K a
  else if s = 42 then pm_expr K a
  else if s = 44 then (if K a = 17 then (a + 1, some ([(42, 0), (16, 0), (83, a)], [])) else if K a = 16 then (a + 1, some ([], [])) else (a, none))
  else if s = 45 then (a, some ([(63, 0), (62, 0), (61, 0), (60, 0)], []))
  else if s = 46 then (if K a = 10 then (a + 1, some ([(42, 0), (47, p)], [])) else (a, none))
  else if s = 47 then (if K a = 11 then (a + 1, some ([], [(90, p)])) else (a, none))
  else if s = 50 then (if K a = 25 then (a + 1, some ([(55, 0), (54, 0), (53, 0), (52, 0), (51, 0), (50, 0), (83, a)], [])) else (a, some ([], [])))
  else if s = 51 then (if K a = 18 then (a + 1, some ([(55, 0), (54, 0), (53, 0), (52, 0), (51, 0), (83, a)], [])) else (a, some ([], [])))
  else if s = 52 then (if K a = 21 then (a + 1, some ([(55, 0), (54, 0), (53, 0), (83, a), (52, 0)], [])) else (a, some ([], [])))
  else if s = 53 then (if K a = 19 ∨ K a = 20 then (a + 1, some ([(55, 0), (54, 0), (83, a), (53, 0)], [])) else (a, some ([], [])))
  else if s = 54 then pm_apl K a
  else if s = 55 then pm_atom K a
  else if s = 60 then (if K a = 37 then (a + 1, some ([(63, 0), (62, 0), (61, 0), (60, 0), (83, a)], [])) else (a, some ([], [])))
  else if s = 61 then (if K a = 36 then (a + 1, some ([(63, 0), (62, 0), (61, 0), (83, a)], [])) else (a, some ([], [])))
  else if s = 62 then (if K a = 34 ∨ K a = 23 then (a + 1, some ([(62, 0)], [(83, a)])) else (a, some ([], [])))
  else if s = 63 then (if K a = 15 then (a + 1, some ([(45, 0), (16, 0)], [])) else if (31 ≤ K a ∧ K a ≤ 33) ∨ K a = 35 then (a + 1, some ([], [(80, a)])) else (a, none))
  else (a, none)
/-- the whole run: f turns at most; the answer: the place, all steps written, and whether all symbols were met -/
def pm_go (K : Nat → Nat) : Nat → pm_L → Nat → pm_L → Option (Nat × pm_L × Bool)
  | 0, _, _, _ => none
  | _ + 1, [], a, sp => some (a, sp, true)
  | f + 1, (s, p) :: ss, a, sp =>
    match (pm_turn K s p a).2 with
    | none => some ((pm_turn K s p a).1, sp, false)
    | some (l, w) => pm_go K f (l ++ ss) (pm_turn K s p a).1 (sp ++ w)
theorem pm_go_m {K : Nat → Nat} : ∀ {f g : Nat} {ss : pm_L} {a : Nat} {sp : pm_L} {r : Nat × pm_L × Bool}, pm_go K f ss a sp = some r → f ≤ g → pm_go K g ss a sp = some r := by
  intro f
  induction f with
  | zero => intro g ss a sp r h; cases h
  | succ f ih =>
    intro g ss a sp r h hg
    obtain ⟨g, rfl⟩ : ∃ k, g = k + 1 := ⟨g - 1, by omega⟩
    cases ss with
    | nil => exact h
    | cons x ss =>
      obtain ⟨s, p⟩ := x
      unfold pm_go at h ⊢
      cases e : (pm_turn K s p a).2 with
      | none => rw [e] at h; exact h
      | some q =>
        obtain ⟨l, w⟩ := q
        rw [e] at h
        exact ih h (by omega)
/-- the weight of what waits: every turn that takes no token lessens it -/
def pm_w (s : Nat) : Nat := if s = 42 then 8 else if s = 45 then 5 else 1
def pm_ws : pm_L → Nat
  | [] => 0
  | x :: l => pm_w x.1 + pm_ws l
theorem pm_ws_a : ∀ l l', pm_ws (l ++ l') = pm_ws l + pm_ws l' := by
  intro l
  induction l with
  | nil => intro l'; simp [pm_ws]
  | cons x l ih => intro l'; simp [pm_ws, ih]; omega
/-- how many places the symbols take -/
def pm_y (s : Nat) : Nat := if s = 46 then 4 else if s = 47 then 2 else 1
def pm_ys : pm_L → Nat
  | [] => 0
  | x :: l => pm_y x.1 + pm_ys l
theorem pm_ys_a : ∀ l l', pm_ys (l ++ l') = pm_ys l + pm_ys l' := by
  intro l
  induction l with
  | nil => intro l'; simp [pm_ys]
  | cons x l ih => intro l'; simp [pm_ys, ih]; omega
def pm_h5 : pm_L → Nat
  | [] => 0
  | x :: _ => if x.1 = 55 ∨ x.1 = 63 then 5 else 0
/-- the steps that a stack of symbols will write of itself -/
def pm_c (s : Nat) : Nat := if 80 ≤ s then 1 else if s = 46 then 1 else if s = 47 then 1 else 0
def pm_cs : pm_L → Nat
  | [] => 0
  | x :: l => pm_c x.1 + pm_cs l
theorem pm_cs_a : ∀ l l', pm_cs (l ++ l') = pm_cs l + pm_cs l' := by
  intro l
  induction l with
  | nil => intro l'; simp [pm_cs]
  | cons x l ih => intro l'; simp [pm_cs, ih]; omega
theorem pm_nq_ge {K : Nat → Nat} : ∀ f q, q ≤ pm_nq K f q ∧ pm_nq K f q ≤ q + f := by
  intro f
  induction f with
  | zero => intro q; exact ⟨Nat.le_refl _, Nat.le_refl _⟩
  | succ f ih =>
    intro q
    unfold pm_nq
    by_cases c : K q = 3
    · rw [if_pos c]; have := ih (q + 1); omega
    · rw [if_neg c]; omega
theorem pm_nq_in {K : Nat → Nat} : ∀ f q i, q ≤ i → i < pm_nq K f q → K i = 3 := by
  intro f
  induction f with
  | zero => intro q i h h'; unfold pm_nq at h'; omega
  | succ f ih =>
    intro q i h h'
    unfold pm_nq at h'
    by_cases c : K q = 3
    · rw [if_pos c] at h'
      by_cases e : i = q
      · rw [e]; exact c
      · exact ih (q + 1) i (by omega) h'
    · rw [if_neg c] at h'; omega
/-- what a turn does to the numbers: c tokens in all -/
def pm_N (c a s a' : Nat) (l w : pm_L) : Prop :=
  a ≤ a' ∧ a' ≤ c ∧ (a' = a → pm_ws l < pm_w s) ∧ pm_ws l ≤ 27 ∧ pm_ys l + (if s = 55 ∨ s = 63 then 5 else 0) + 9 * a ≤ pm_y s + 9 * a' + pm_h5 l ∧ w.length + pm_cs l + 2 * a ≤ pm_c s + 2 * a'
theorem pm_lt {K : Nat → Nat} {c a t : Nat} (hK : ∀ i, c ≤ i → K i = 99) (h : K a = t) (ht : t ≠ 99) : a < c := by
  by_cases q : a < c
  · exact q
  · exact (ht (h.symm.trans (hK a (by omega)))).elim
theorem pm_lt2 {K : Nat → Nat} {c a t u : Nat} (hK : ∀ i, c ≤ i → K i = 99) (h : K a = t ∨ K a = u) (ht : t ≠ 99) (hu : u ≠ 99) : a < c := by
  rcases h with h | h
  · exact pm_lt hK h ht
  · exact pm_lt hK h hu
theorem pm_lt3 {K : Nat → Nat} {c a : Nat} (hK : ∀ i, c ≤ i → K i = 99) (h : (31 ≤ K a ∧ K a ≤ 33) ∨ K a = 35) : a < c := by
  by_cases q : a < c
  · exact q
  · have := hK a (by omega)
    omega
theorem pm_alone_lt {K : Nat → Nat} {c a : Nat} (hK : ∀ i, c ≤ i → K i = 99) (h : pm_alone (K a) = true) : a < c := by
  by_cases q : a < c
  · exact q
  · rw [hK a (by omega)] at h
    exact absurd h (by decide)
theorem pm_N_atom {K : Nat → Nat} {c a a' : Nat} {l w : pm_L} (hK : ∀ i, c ≤ i → K i = 99) (h : pm_atom K a = (a', some (l, w))) : pm_N c a 55 a' l w := by
  unfold pm_atom at h
  by_cases c1 : pm_alone (K a) = true
  · rw [if_pos c1] at h
    have q := pm_alone_lt hK c1
    simp at h
    obtain ⟨rfl, rfl, rfl⟩ := h
    unfold pm_N
    simp [pm_ws, pm_w, pm_ys, pm_y, pm_h5, pm_cs, pm_c]
    omega
  · rw [if_neg c1] at h
    by_cases c2 : K a = 15
    · rw [if_pos c2] at h
      have q := pm_lt hK c2 (by decide)
      by_cases c3 : K (a + 1) = 16
      · rw [if_pos c3] at h
        have q := pm_lt hK c3 (by decide)
        simp at h
        obtain ⟨rfl, rfl, rfl⟩ := h
        unfold pm_N
        simp [pm_ws, pm_w, pm_ys, pm_y, pm_h5, pm_cs, pm_c]
        omega
      · rw [if_neg c3] at h
        simp at h
        obtain ⟨rfl, rfl, rfl⟩ := h
        unfold pm_N
        simp [pm_ws, pm_w, pm_ys, pm_y, pm_h5, pm_cs, pm_c]
        omega
    · rw [if_neg c2] at h
      by_cases c3 : K a = 6
      · rw [if_pos c3] at h
        have q := pm_lt hK c3 (by decide)
        simp at h
        obtain ⟨rfl, rfl, rfl⟩ := h
        unfold pm_N
        simp [pm_ws, pm_w, pm_ys, pm_y, pm_h5, pm_cs, pm_c]
        omega
      · rw [if_neg c3] at h
        simp at h
end
section
/-! the numbers of a turn -/
theorem pm_N_decl {K : Nat → Nat} {c a a' : Nat} {l w : pm_L} (hK : ∀ i, c ≤ i → K i = 99) (ha : a ≤ c) (h : pm_decl K a = (a', some (l, w))) : pm_N c a 40 a' l w := by
  unfold pm_decl at h
  by_cases c1 : K a = 7
  · rw [if_pos c1] at h
    have qc1 := pm_lt hK c1 (by decide)
    by_cases c2 : K (a + 1) = 3
    · rw [if_pos c2] at h
      have qc2 := pm_lt hK c2 (by decide)
      by_cases c3 : K (a + 2) = 9
      · rw [if_pos c3] at h
        have qc3 := pm_lt hK c3 (by decide)
        simp at h
        obtain ⟨rfl, rfl, rfl⟩ := h
        unfold pm_N
        simp [pm_ws, pm_w, pm_ys, pm_y, pm_h5, pm_cs, pm_c]
        omega
      · rw [if_neg c3] at h
        simp at h
    · rw [if_neg c2] at h
      simp at h
  · rw [if_neg c1] at h
    by_cases c4 : K a = 8
    · rw [if_pos c4] at h
      have qc4 := pm_lt hK c4 (by decide)
      by_cases c5 : K (a + 1) = 3
      · rw [if_pos c5] at h
        have qc5 := pm_lt hK c5 (by decide)
        by_cases c6 : K (a + 2) = 3
        · rw [if_pos c6] at h
          have qc6 := pm_lt hK c6 (by decide)
          by_cases c7 : K (pm_nq K 24 (a + 3)) = 9
          · rw [if_pos c7] at h
            have qc7 := pm_lt hK c7 (by decide)
            have g := (pm_nq_ge (K := K) 24 (a + 3)).1
            generalize pm_nq K 24 (a + 3) = q at *
            simp at h
            obtain ⟨rfl, rfl, rfl⟩ := h
            unfold pm_N
            simp [pm_ws, pm_w, pm_ys, pm_y, pm_h5, pm_cs, pm_c]
            omega
          · rw [if_neg c7] at h
            simp at h
        · rw [if_neg c6] at h
          simp at h
      · rw [if_neg c5] at h
        simp at h
    · rw [if_neg c4] at h
      simp at h
theorem pm_N_expr {K : Nat → Nat} {c a a' : Nat} {l w : pm_L} (hK : ∀ i, c ≤ i → K i = 99) (ha : a ≤ c) (h : pm_expr K a = (a', some (l, w))) : pm_N c a 42 a' l w := by
  unfold pm_expr at h
  by_cases c1 : K a = 4
  · rw [if_pos c1] at h
    have qc1 := pm_lt hK c1 (by decide)
    by_cases c2 : K (a + 1) = 3
    · rw [if_pos c2] at h
      have qc2 := pm_lt hK c2 (by decide)
      by_cases c3 : K (a + 2) = 5
      · rw [if_pos c3] at h
        have qc3 := pm_lt hK c3 (by decide)
        simp at h
        obtain ⟨rfl, rfl, rfl⟩ := h
        unfold pm_N
        simp [pm_ws, pm_w, pm_ys, pm_y, pm_h5, pm_cs, pm_c]
        omega
      · rw [if_neg c3] at h
        simp at h
    · rw [if_neg c2] at h
      simp at h
  · rw [if_neg c1] at h
    by_cases c4 : K a = 12
    · rw [if_pos c4] at h
      have qc4 := pm_lt hK c4 (by decide)
      simp at h
      obtain ⟨rfl, rfl, rfl⟩ := h
      unfold pm_N
      simp [pm_ws, pm_w, pm_ys, pm_y, pm_h5, pm_cs, pm_c]
      omega
    · rw [if_neg c4] at h
      simp at h
      obtain ⟨rfl, rfl, rfl⟩ := h
      unfold pm_N
      simp [pm_ws, pm_w, pm_ys, pm_y, pm_h5, pm_cs, pm_c]
      omega
theorem pm_N_apl {K : Nat → Nat} {c a a' : Nat} {l w : pm_L} (hK : ∀ i, c ≤ i → K i = 99) (ha : a ≤ c) (h : pm_apl K a = (a', some (l, w))) : pm_N c a 54 a' l w := by
  unfold pm_apl at h
  cases e : (pm_atom K a).2 with
  | none =>
    rw [e] at h
    simp at h
    obtain ⟨rfl, rfl, rfl⟩ := h
    unfold pm_N
    simp [pm_ws, pm_w, pm_ys, pm_y, pm_h5, pm_cs, pm_c]
    omega
  | some x =>
    obtain ⟨l0, w0⟩ := x
    rw [e] at h
    simp at h
    obtain ⟨rfl, rfl, rfl⟩ := h
    have z := pm_N_atom hK (a := a) (a' := (pm_atom K a).1) (l := l0) (w := w0) (by rw [← e])
    have lw : (pm_atom K a).1 = a → False := by
      intro q
      have z2 := z.2.2.1 q
      have : pm_ws l0 = 0 := by
        have := z2
        unfold pm_w at this
        simp at this
        omega
      unfold pm_atom at e q
      revert e q
      repeat' split
      all_goals simp
    have l27 : pm_ws l0 ≤ 9 := by
      unfold pm_atom at e
      revert e
      repeat' split
      all_goals simp
      all_goals (intro h1 _; subst h1; simp [pm_ws, pm_w])
    have h5 : pm_h5 l0 = 0 := by
      unfold pm_atom at e
      revert e
      repeat' split
      all_goals simp
      all_goals (intro h1 _; subst h1; simp [pm_h5])
    have l1 : w0.length + pm_cs l0 + 1 + 2 * a ≤ 2 * (pm_atom K a).1 := by
      unfold pm_atom at e ⊢
      revert e
      repeat' split
      all_goals simp
      all_goals (intro h1 h2; subst h1; subst h2; simp [pm_cs, pm_c]; omega)
    obtain ⟨z1, z2, z3, z4, z5, z6⟩ := z
    rw [h5] at z5
    simp [pm_y] at z5
    simp [pm_c] at z6
    refine ⟨z1, z2, fun q => (lw q).elim, ?_, ?_, ?_⟩
    · rw [pm_ws_a]; simp [pm_ws, pm_w]; omega
    · rw [pm_ys_a]; simp [pm_ys, pm_y]; omega
    · rw [pm_cs_a]; simp [pm_cs, pm_c]; omega
theorem pm_N_turn {K : Nat → Nat} {c s p a a' : Nat} {l w : pm_L} (hK : ∀ i, c ≤ i → K i = 99) (hc : c ≤ 24) (ha : a ≤ c) (h : pm_turn K s p a = (a', some (l, w))) : pm_N c a s a' l w := by
  unfold pm_turn at h
  by_cases s0 : 80 ≤ s
  · rw [if_pos s0] at h
    simp at h
    obtain ⟨rfl, rfl, rfl⟩ := h
    unfold pm_N
    have q1 : s ≠ 55 := by omega
    have q7 : s ≠ 63 := by omega
    have q2 : s ≠ 46 := by omega
    have q3 : s ≠ 47 := by omega
    have q4 : s ≠ 42 := by omega
    have q5 : s ≠ 45 := by omega
    simp [pm_ws, pm_w, pm_ys, pm_y, pm_h5, pm_cs, pm_c, s0, q1, q2, q3, q4, q5, q7]
    omega
  · rw [if_neg s0] at h
    by_cases s1 : s < 38
    · rw [if_pos s1] at h
      by_cases c1 : K a = s
      · rw [if_pos c1] at h
        have qc1 := (pm_lt hK c1 (by omega) : a < c)
        simp at h
        obtain ⟨rfl, rfl, rfl⟩ := h
        unfold pm_N
        have q1 : s ≠ 55 := by omega
        have q7 : s ≠ 63 := by omega
        have q2 : s ≠ 46 := by omega
        have q3 : s ≠ 47 := by omega
        have q4 : s ≠ 42 := by omega
        have q5 : s ≠ 45 := by omega
        have q6 : ¬ 80 ≤ s := by omega
        simp [pm_ws, pm_w, pm_ys, pm_y, pm_h5, pm_cs, pm_c, q1, q2, q3, q4, q5, q6, q7]
        omega
      · rw [if_neg c1] at h
        simp at h
    · rw [if_neg s1] at h
      by_cases s2 : s = 40
      · rw [if_pos s2] at h
        subst s2
        exact pm_N_decl hK ha h
      · rw [if_neg s2] at h
        by_cases s3 : s = 42
        · rw [if_pos s3] at h
          subst s3
          exact pm_N_expr hK ha h
        · rw [if_neg s3] at h
          by_cases s4 : s = 44
          · rw [if_pos s4] at h
            subst s4
            by_cases c2 : K a = 17
            · rw [if_pos c2] at h
              have qc2 := pm_lt hK c2 (by decide)
              simp at h
              obtain ⟨rfl, rfl, rfl⟩ := h
              unfold pm_N
              simp [pm_ws, pm_w, pm_ys, pm_y, pm_h5, pm_cs, pm_c]
              omega
            · rw [if_neg c2] at h
              by_cases c3 : K a = 16
              · rw [if_pos c3] at h
                have qc3 := pm_lt hK c3 (by decide)
                simp at h
                obtain ⟨rfl, rfl, rfl⟩ := h
                unfold pm_N
                simp [pm_ws, pm_w, pm_ys, pm_y, pm_h5, pm_cs, pm_c]
                omega
              · rw [if_neg c3] at h
                simp at h
          · rw [if_neg s4] at h
            by_cases s5 : s = 45
            · rw [if_pos s5] at h
              subst s5
              simp at h
              obtain ⟨rfl, rfl, rfl⟩ := h
              unfold pm_N
              simp [pm_ws, pm_w, pm_ys, pm_y, pm_h5, pm_cs, pm_c]
              omega
            · rw [if_neg s5] at h
              by_cases s6 : s = 46
              · rw [if_pos s6] at h
                subst s6
                by_cases c4 : K a = 10
                · rw [if_pos c4] at h
                  have qc4 := pm_lt hK c4 (by decide)
                  simp at h
                  obtain ⟨rfl, rfl, rfl⟩ := h
                  unfold pm_N
                  simp [pm_ws, pm_w, pm_ys, pm_y, pm_h5, pm_cs, pm_c]
                  omega
                · rw [if_neg c4] at h
                  simp at h
              · rw [if_neg s6] at h
                by_cases s7 : s = 47
                · rw [if_pos s7] at h
                  subst s7
                  by_cases c5 : K a = 11
                  · rw [if_pos c5] at h
                    have qc5 := pm_lt hK c5 (by decide)
                    simp at h
                    obtain ⟨rfl, rfl, rfl⟩ := h
                    unfold pm_N
                    simp [pm_ws, pm_w, pm_ys, pm_y, pm_h5, pm_cs, pm_c]
                    omega
                  · rw [if_neg c5] at h
                    simp at h
                · rw [if_neg s7] at h
                  by_cases s8 : s = 50
                  · rw [if_pos s8] at h
                    subst s8
                    by_cases c6 : K a = 25
                    · rw [if_pos c6] at h
                      have qc6 := pm_lt hK c6 (by decide)
                      simp at h
                      obtain ⟨rfl, rfl, rfl⟩ := h
                      unfold pm_N
                      simp [pm_ws, pm_w, pm_ys, pm_y, pm_h5, pm_cs, pm_c]
                      omega
                    · rw [if_neg c6] at h
                      simp at h
                      obtain ⟨rfl, rfl, rfl⟩ := h
                      unfold pm_N
                      simp [pm_ws, pm_w, pm_ys, pm_y, pm_h5, pm_cs, pm_c]
                      omega
                  · rw [if_neg s8] at h
                    by_cases s9 : s = 51
                    · rw [if_pos s9] at h
                      subst s9
                      by_cases c7 : K a = 18
                      · rw [if_pos c7] at h
                        have qc7 := pm_lt hK c7 (by decide)
                        simp at h
                        obtain ⟨rfl, rfl, rfl⟩ := h
                        unfold pm_N
                        simp [pm_ws, pm_w, pm_ys, pm_y, pm_h5, pm_cs, pm_c]
                        omega
                      · rw [if_neg c7] at h
                        simp at h
                        obtain ⟨rfl, rfl, rfl⟩ := h
                        unfold pm_N
                        simp [pm_ws, pm_w, pm_ys, pm_y, pm_h5, pm_cs, pm_c]
                        omega
                    · rw [if_neg s9] at h
                      by_cases s10 : s = 52
                      · rw [if_pos s10] at h
                        subst s10
                        by_cases c8 : K a = 21
                        · rw [if_pos c8] at h
                          have qc8 := pm_lt hK c8 (by decide)
                          simp at h
                          obtain ⟨rfl, rfl, rfl⟩ := h
                          unfold pm_N
                          simp [pm_ws, pm_w, pm_ys, pm_y, pm_h5, pm_cs, pm_c]
                          omega
                        · rw [if_neg c8] at h
                          simp at h
                          obtain ⟨rfl, rfl, rfl⟩ := h
                          unfold pm_N
                          simp [pm_ws, pm_w, pm_ys, pm_y, pm_h5, pm_cs, pm_c]
                          omega
                      · rw [if_neg s10] at h
                        by_cases s11 : s = 53
                        · rw [if_pos s11] at h
                          subst s11
                          by_cases c9 : K a = 19 ∨ K a = 20
                          · rw [if_pos c9] at h
                            have qc9 := pm_lt2 hK c9 (by decide) (by decide)
                            simp at h
                            obtain ⟨rfl, rfl, rfl⟩ := h
                            unfold pm_N
                            simp [pm_ws, pm_w, pm_ys, pm_y, pm_h5, pm_cs, pm_c]
                            omega
                          · rw [if_neg c9] at h
                            simp at h
                            obtain ⟨rfl, rfl, rfl⟩ := h
                            unfold pm_N
                            simp [pm_ws, pm_w, pm_ys, pm_y, pm_h5, pm_cs, pm_c]
                            omega
                        · rw [if_neg s11] at h
                          by_cases s12 : s = 54
                          · rw [if_pos s12] at h
                            subst s12
                            exact pm_N_apl hK ha h
                          · rw [if_neg s12] at h
                            by_cases s13 : s = 55
                            · rw [if_pos s13] at h
                              subst s13
                              exact pm_N_atom hK h
                            · rw [if_neg s13] at h
                              by_cases s14 : s = 60
                              · rw [if_pos s14] at h
                                subst s14
                                by_cases c10 : K a = 37
                                · rw [if_pos c10] at h
                                  have qc10 := pm_lt hK c10 (by decide)
                                  simp at h
                                  obtain ⟨rfl, rfl, rfl⟩ := h
                                  unfold pm_N
                                  simp [pm_ws, pm_w, pm_ys, pm_y, pm_h5, pm_cs, pm_c]
                                  omega
                                · rw [if_neg c10] at h
                                  simp at h
                                  obtain ⟨rfl, rfl, rfl⟩ := h
                                  unfold pm_N
                                  simp [pm_ws, pm_w, pm_ys, pm_y, pm_h5, pm_cs, pm_c]
                                  omega
                              · rw [if_neg s14] at h
                                by_cases s15 : s = 61
                                · rw [if_pos s15] at h
                                  subst s15
                                  by_cases c11 : K a = 36
                                  · rw [if_pos c11] at h
                                    have qc11 := pm_lt hK c11 (by decide)
                                    simp at h
                                    obtain ⟨rfl, rfl, rfl⟩ := h
                                    unfold pm_N
                                    simp [pm_ws, pm_w, pm_ys, pm_y, pm_h5, pm_cs, pm_c]
                                    omega
                                  · rw [if_neg c11] at h
                                    simp at h
                                    obtain ⟨rfl, rfl, rfl⟩ := h
                                    unfold pm_N
                                    simp [pm_ws, pm_w, pm_ys, pm_y, pm_h5, pm_cs, pm_c]
                                    omega
                                · rw [if_neg s15] at h
                                  by_cases s16 : s = 62
                                  · rw [if_pos s16] at h
                                    subst s16
                                    by_cases c12 : K a = 34 ∨ K a = 23
                                    · rw [if_pos c12] at h
                                      have qc12 := pm_lt2 hK c12 (by decide) (by decide)
                                      simp at h
                                      obtain ⟨rfl, rfl, rfl⟩ := h
                                      unfold pm_N
                                      simp [pm_ws, pm_w, pm_ys, pm_y, pm_h5, pm_cs, pm_c]
                                      omega
                                    · rw [if_neg c12] at h
                                      simp at h
                                      obtain ⟨rfl, rfl, rfl⟩ := h
                                      unfold pm_N
                                      simp [pm_ws, pm_w, pm_ys, pm_y, pm_h5, pm_cs, pm_c]
                                      omega
                                  · rw [if_neg s16] at h
                                    by_cases s17 : s = 63
                                    · rw [if_pos s17] at h
                                      subst s17
                                      by_cases c13 : K a = 15
                                      · rw [if_pos c13] at h
                                        have qc13 := pm_lt hK c13 (by decide)
                                        simp at h
                                        obtain ⟨rfl, rfl, rfl⟩ := h
                                        unfold pm_N
                                        simp [pm_ws, pm_w, pm_ys, pm_y, pm_h5, pm_cs, pm_c]
                                        omega
                                      · rw [if_neg c13] at h
                                        by_cases c14 : (31 ≤ K a ∧ K a ≤ 33) ∨ K a = 35
                                        · rw [if_pos c14] at h
                                          have qc14 := pm_lt3 hK c14
                                          simp at h
                                          obtain ⟨rfl, rfl, rfl⟩ := h
                                          unfold pm_N
                                          simp [pm_ws, pm_w, pm_ys, pm_y, pm_h5, pm_cs, pm_c]
                                          omega
                                        · rw [if_neg c14] at h
                                          simp at h
                                    · rw [if_neg s17] at h
                                      simp at h
/-- every run ends -/
theorem pm_ex {K : Nat → Nat} {c : Nat} (hK : ∀ i, c ≤ i → K i = 99) (hc : c ≤ 24) : ∀ m ss a sp, a ≤ c → pm_ws ss + 28 * (c - a) < m → ∃ r, pm_go K m ss a sp = some r := by
  intro m
  induction m with
  | zero => intro ss a sp _ h; omega
  | succ m ih =>
    intro ss a sp ha h
    cases ss with
    | nil => exact ⟨_, rfl⟩
    | cons x ss =>
      obtain ⟨s, p⟩ := x
      unfold pm_go
      cases e : (pm_turn K s p a).2 with
      | none => exact ⟨_, rfl⟩
      | some q =>
        obtain ⟨l, w⟩ := q
        have z := pm_N_turn hK hc ha (s := s) (p := p) (a' := (pm_turn K s p a).1) (l := l) (w := w) (by rw [← e])
        obtain ⟨z1, z2, z3, z4, _, _⟩ := z
        refine ih _ _ _ z2 ?_
        unfold pm_ws at h
        rw [pm_ws_a]
        simp only at h
        by_cases q : (pm_turn K s p a).1 = a
        · have := z3 q; rw [q]; omega
        · omega
end
section
/-! heights and frames: what the parser's symbols will do to the number h of types that wait and to the bindings el (place, is of a let), and which declarations are at work (fs: heights at their beginnings) -/
abbrev pd_L : Type := List (Nat × Nat × Nat)
def pd_k : pd_L → Nat
  | [] => 0
  | f :: _ => f.1
def pd_b : pd_L → Nat
  | [] => 0
  | f :: _ => f.2.1
/-- the binders of a fun at p with m names, the last one first -/
def pd_ns (p : Nat) : Nat → List (Nat × Bool)
  | 0 => []
  | m + 1 => (p + 1 + m, false) :: pd_ns p m
theorem pd_ns_len (p : Nat) : ∀ m, (pd_ns p m).length = m := by
  intro m
  induction m with
  | zero => rfl
  | succ m ih => unfold pd_ns; rw [List.length_cons, ih]
/-- a fun at p: its names and its equals -/
def pd_fn (K : Nat → Nat) (mq : Nat → Nat) (p : Nat) : Prop := 2 ≤ mq p ∧ K p = 8 ∧ (∀ i, p < i → i ≤ p + mq p → K i = 3) ∧ K (p + mq p + 1) = 9
/-- what is known of a symbol's place -/
def pd_P (K mq : Nat → Nat) (c s p : Nat) : Prop :=
  (s = 82 ∨ s = 84 ∨ s = 46 ∨ s = 47 → p < c) ∧ (s = 83 → p < c ∧ (K p = 17 ∨ K p = 18 ∨ K p = 19 ∨ K p = 20 ∨ K p = 21 ∨ K p = 25)) ∧ (s = 86 → p + 1 < c) ∧ (s = 88 → pd_fn K mq p ∧ p + mq p + 1 < c) ∧ (s = 89 → p + 1 < c ∧ K (p + 1) = 3)
def pd_R (K mq : Nat → Nat) (c s p h : Nat) (el : List (Nat × Bool)) (fs : pd_L) (h' : Nat) (el' : List (Nat × Bool)) (fs' : pd_L) : Prop :=
  pd_k fs ≤ h ∧ pd_b fs ≤ el.length ∧
  (s < 38 ∨ s = 40 ∨ s = 42 ∨ s = 44 ∨ s = 46 ∨ s = 47 ∨ s = 50 ∨ s = 51 ∨ s = 52 ∨ s = 53 ∨ s = 54 ∨ s = 55 ∨ s = 82 ∨ s = 83 ∨ s = 84 ∨ s = 86 ∨ s = 88 ∨ s = 89) ∧
  pd_P K mq c s p ∧
  (s < 38 → h' = h ∧ el' = el ∧ fs' = fs) ∧
  (s = 40 → h' = h ∧ el' = (0, true) :: el ∧ fs' = fs) ∧
  (s = 42 ∨ s = 55 → h' = h + 1 ∧ el' = el ∧ fs' = fs) ∧
  (s = 44 ∨ s = 50 ∨ s = 51 ∨ s = 52 ∨ s = 53 ∨ s = 54 → pd_k fs < h ∧ h' = h ∧ el' = el ∧ fs' = fs) ∧
  (s = 46 → pd_b fs < el.length ∧ el = (0, true) :: el' ∧ h' = h + 1 ∧ fs' = fs) ∧
  (s = 47 → pd_k fs < h ∧ pd_b fs < el.length ∧ el = (0, true) :: el' ∧ h' = h ∧ fs' = fs) ∧
  (s = 82 ∨ s = 83 → pd_k fs + 2 ≤ h ∧ h = h' + 1 ∧ el' = el ∧ fs' = fs) ∧
  (s = 84 → pd_k fs + 3 ≤ h ∧ h = h' + 2 ∧ el' = el ∧ fs' = fs) ∧
  (s = 86 → pd_k fs < h ∧ pd_b fs < el.length ∧ el = (p + 1, false) :: el' ∧ h' = h ∧ fs' = fs) ∧
  (s = 88 → ∃ el0, fs = (h', el0.length, p) :: fs' ∧ h = h' + 1 ∧ el = pd_ns p (mq p) ++ el0 ∧ el' = (0, true) :: el0) ∧
  (s = 89 → fs = (h', el.length, p) :: fs' ∧ h = h' + 1 ∧ el' = (0, true) :: el)
def pd_ok (K mq : Nat → Nat) (c : Nat) : pm_L → Nat → List (Nat × Bool) → pd_L → Prop
  | [], h, el, fs => h = 0 ∧ el = [(0, true)] ∧ fs = []
  | (s, p) :: ss, h, el, fs => ∃ h' el' fs', pd_R K mq c s p h el fs h' el' fs' ∧ pd_ok K mq c ss h' el' fs'
/-! the meaning of the steps -/
def cs_T (t : Nat) (τ : tr_T) : Prop :=
  (t = 0 → τ = tr_at 0) ∧ (t = 1 ∨ t = 2 → τ = tr_at 1) ∧ (t = 22 → ∃ a, τ = tr_con 3 a a) ∧ (t = 23 → ∃ a, τ = tr_con 6 a (tr_con 4 a a)) ∧
  (t = 24 → ∃ a, τ = tr_con 6 (tr_con 4 a a) a) ∧ (t = 26 → ∃ a, τ = tr_con 6 (tr_con 3 a a) a) ∧ (t = 27 → ∃ a, τ = tr_con 6 (tr_con 3 a a) (tr_con 3 a a)) ∧
  (t = 28 → ∃ a, τ = tr_con 6 (tr_con 3 a a) (tr_at 1)) ∧ (t = 29 → ∃ a b, τ = tr_con 6 (tr_con 5 a b) a) ∧ (t = 30 → ∃ a b, τ = tr_con 6 (tr_con 5 a b) b)
/-- where a name is bound; N: the value of the token at a place -/
def bx_ix (N : Nat → Nat) : List (Nat × Bool) → Nat → Option Nat
  | [], _ => none
  | b :: bs, nm => if N b.1 = nm then some 0 else (bx_ix N bs nm).map (· + 1)
def dd_mono (j : Nat) : List tr_T → List tr_T → tr_T → Prop := fun _ E τ => E[j]? = some τ
def dd_poly (bs : List (Nat × Bool)) (V : dv_W) (j : Nat) : List tr_T → List tr_T → tr_T → Prop := fun ν E τ => ∃ st2 E2, V ν st2 E2 ∧ mo_l (bs.drop (j + 1)) (E2.drop (j + 1)) = mo_l (bs.drop (j + 1)) (E.drop (j + 1)) ∧ E2[j]? = some τ
def dd_name (N : Nat → Nat) (Dc : Nat → List tr_T → tr_T → Prop) (bs : List (Nat × Bool)) (V : dv_W) (nm : Nat) : List tr_T → List tr_T → tr_T → Prop :=
  match bx_ix N bs nm with
  | some j => if (bs[j]?).map Prod.snd = some true then dd_poly bs V j else dd_mono j
  | none => fun ν _ τ => Dc nm ν τ
def dd_V (K N mq : Nat → Nat) (Dc : Nat → List tr_T → tr_T → Prop) (bs : List (Nat × Bool)) (V : dv_W) (s p : Nat) : dv_W :=
  if s = 80 then (if K p = 3 then dv_psh (dd_name N Dc bs V (N p)) V else dv_psh (fun _ _ τ => cs_T (K p) τ) V)
  else if s = 81 then dv_psh (fun _ _ τ => τ = tr_at 2) V
  else if s = 82 then dv_app V
  else if s = 83 then (if K p = 17 then dv_pair V else if K p = 18 then dv_cons V else if K p = 25 then dv_asg V else if K p = 21 then dv_num 1 V else dv_num 0 V)
  else if s = 84 then dv_if V
  else if s = 85 then dv_lams 1 V
  else if s = 86 then dv_fn V
  else if s = 87 then dv_lams (mq p) V
  else if s = 88 then dv_bind (dv_fun (mq p - 1) V)
  else if s = 89 then dv_bind V
  else dv_let V
def dd_bs (mq : Nat → Nat) (bs : List (Nat × Bool)) (fl : List Bool) (s p : Nat) : List (Nat × Bool) :=
  if s = 85 then (p + 1, false) :: bs
  else if s = 86 then bs.drop 1
  else if s = 87 then pd_ns p (mq p) ++ bs
  else if s = 88 then (p + 1, true) :: bs.drop (mq p)
  else if s = 89 then (p + 1, fl.headD false) :: bs
  else if s = 90 then bs.drop 1
  else bs
def dd_fl (K : Nat → Nat) (fl : List Bool) (s p : Nat) : List Bool :=
  if s = 80 then true :: fl
  else if s = 81 then true :: fl
  else if s = 82 then false :: fl.drop 2
  else if s = 83 then ((decide (K p = 17) || decide (K p = 18)) && fl.headD false && (fl.drop 1).headD false) :: fl.drop 2
  else if s = 84 then false :: fl.drop 3
  else if s = 86 then true :: fl.drop 1
  else if s = 88 then fl.drop 1
  else if s = 89 then fl.drop 1
  else if s = 90 then false :: fl.drop 1
  else fl
/-- what holds ahead of a step -/
def dd_pre (K mq : Nat → Nat) (c : Nat) (bs : List (Nat × Bool)) (fl : List Bool) (V : dv_W) (s p : Nat) : Prop :=
  p < c ∧ dv_len fl.length bs.length V ∧ 80 ≤ s ∧ s ≤ 90 ∧
  (s = 80 → pm_alone (K p) = true) ∧
  (s = 82 → 2 ≤ fl.length) ∧
  (s = 83 → 2 ≤ fl.length ∧ (K p = 17 ∨ K p = 18 ∨ K p = 19 ∨ K p = 20 ∨ K p = 21 ∨ K p = 25)) ∧
  (s = 84 → 3 ≤ fl.length) ∧
  (s = 85 → p + 1 < c ∧ K (p + 1) = 3 ∧ ∀ x, x ∈ bs → x.1 ≤ p) ∧
  (s = 86 → 1 ≤ fl.length ∧ p + 1 < c ∧ ∃ bs0, bs = (p + 1, false) :: bs0) ∧
  (s = 87 → pd_fn K mq p ∧ p + mq p + 1 < c ∧ ∀ x, x ∈ bs → x.1 ≤ p) ∧
  (s = 88 → pd_fn K mq p ∧ p + mq p + 1 < c ∧ 1 ≤ fl.length ∧ ∃ bs0, bs = pd_ns p (mq p) ++ bs0 ∧ dv_CI (fl.length - 1) bs0.length V ∧ ∀ x, x ∈ bs0 → x.1 ≤ p) ∧
  (s = 89 → p + 1 < c ∧ K (p + 1) = 3 ∧ 1 ≤ fl.length ∧ dv_CI (fl.length - 1) bs.length V ∧ ∀ x, x ∈ bs → x.1 ≤ p) ∧
  (s = 90 → 1 ≤ fl.length ∧ bs ≠ [])
end
section
/-! the parser's turns keep the discipline, and what the steps mean keeps the frames -/
def di_F (V : dv_W) (bs : List (Nat × Bool)) : Nat → Nat → pd_L → Prop
  | _, _, [] => True
  | h, e, f :: fs => f.1 ≤ h ∧ f.2.1 ≤ e ∧ dv_CI f.1 f.2.1 V ∧ (∀ x, x ∈ bs.drop (bs.length - f.2.1) → x.1 ≤ f.2.2) ∧ di_F V bs f.1 f.2.1 fs
def di_I (h : Nat) (el : List (Nat × Bool)) (fs : pd_L) (bs : List (Nat × Bool)) (fl : List Bool) (V : dv_W) : Prop :=
  fl.length = h ∧ bs.length = el.length ∧ (∀ (i x : Nat), el[i]? = some (x, false) → bs[i]? = some (x, false)) ∧ dv_len h el.length V ∧ di_F V bs h el.length fs
theorem di_F_in {V V' : dv_W} {bs bs' : List (Nat × Bool)} : ∀ (fs : pd_L) (a b : Nat), di_F V bs a b fs → (∀ k j, k ≤ a → j ≤ b → dv_CI k j V → dv_CI k j V') → (∀ j, j ≤ b → bs'.drop (bs'.length - j) = bs.drop (bs.length - j)) → di_F V' bs' a b fs := by
  intro fs
  induction fs with
  | nil => intro a b _ _ _; trivial
  | cons f fs ih =>
    intro a b h t u
    obtain ⟨h1, h2, h3, h5, h4⟩ := h
    exact ⟨h1, h2, t _ _ h1 h2 h3, by rw [u _ h2]; exact h5, ih _ _ h4 (fun k j hk hj => t k j (by omega) (by omega)) (fun j hj => u j (by omega))⟩
theorem di_F_tr {V V' : dv_W} {bs bs' : List (Nat × Bool)} {fs : pd_L} {h e h' e' : Nat} (F : di_F V bs h e fs) (t : ∀ k j, k ≤ pd_k fs → j ≤ pd_b fs → dv_CI k j V → dv_CI k j V') (u : ∀ j, j ≤ pd_b fs → bs'.drop (bs'.length - j) = bs.drop (bs.length - j)) (h1 : pd_k fs ≤ h') (h2 : pd_b fs ≤ e') : di_F V' bs' h' e' fs := by
  cases fs with
  | nil => trivial
  | cons f fs =>
    obtain ⟨_, _, f3, f5, f4⟩ := F
    exact ⟨h1, h2, t _ _ (Nat.le_refl _) (Nat.le_refl _) f3, by rw [u f.2.1 (Nat.le_refl _)]; exact f5, di_F_in fs _ _ f4 t u⟩
theorem ls_dropc {α : Type} {A B : List α} {j : Nat} (h : j ≤ B.length) : (A ++ B).drop ((A ++ B).length - j) = B.drop (B.length - j) := by
  have e : (A ++ B).length - j = A.length + (B.length - j) := by rw [List.length_append]; omega
  rw [e, List.drop_append]
  simp
section
variable {K mq N : Nat → Nat} {Dc : Nat → List tr_T → tr_T → Prop} {c h : Nat} {el : List (Nat × Bool)} {fs : pd_L}
theorem pd_38 {s p : Nat} (hs : s < 38) (h1 : pd_k fs ≤ h) (h2 : pd_b fs ≤ el.length) : pd_R K mq c s p h el fs h el fs := by
  refine ⟨h1, h2, Or.inl hs, ⟨fun z => ?_, fun z => ?_, fun z => ?_, fun z => ?_, fun z => ?_⟩, fun _ => ⟨rfl, rfl, rfl⟩, fun z => ?_, fun z => ?_, fun z => ?_, fun z => ?_, fun z => ?_, fun z => ?_, fun z => ?_, fun z => ?_, fun z => ?_, fun z => ?_⟩
  all_goals (exfalso; omega)
theorem pd_40 {p : Nat} (h1 : pd_k fs ≤ h) (h2 : pd_b fs ≤ el.length) : pd_R K mq c 40 p h el fs h ((0, true) :: el) fs := by
  unfold pd_R pd_P
  simp
  exact ⟨h1, h2⟩
theorem pd_42 {p : Nat} (h1 : pd_k fs ≤ h) (h2 : pd_b fs ≤ el.length) : pd_R K mq c 42 p h el fs (h + 1) el fs := by
  unfold pd_R pd_P
  simp
  exact ⟨h1, h2⟩
theorem pd_55 {p : Nat} (h1 : pd_k fs ≤ h) (h2 : pd_b fs ≤ el.length) : pd_R K mq c 55 p h el fs (h + 1) el fs := by
  unfold pd_R pd_P
  simp
  exact ⟨h1, h2⟩
theorem pd_44 {p s : Nat} (hs : s = 44 ∨ s = 50 ∨ s = 51 ∨ s = 52 ∨ s = 53 ∨ s = 54) (h1 : pd_k fs < h) (h2 : pd_b fs ≤ el.length) : pd_R K mq c s p h el fs h el fs := by
  rcases hs with rfl | rfl | rfl | rfl | rfl | rfl
  all_goals
    unfold pd_R pd_P
    simp
    exact ⟨by omega, h2, h1⟩
theorem pd_46 {p : Nat} (hp : p < c) (h1 : pd_k fs ≤ h) (h2 : pd_b fs ≤ el.length) : pd_R K mq c 46 p h ((0, true) :: el) fs (h + 1) el fs := by
  unfold pd_R pd_P
  simp
  omega
theorem pd_47 {p : Nat} (hp : p < c) (h1 : pd_k fs < h) (h2 : pd_b fs ≤ el.length) : pd_R K mq c 47 p h ((0, true) :: el) fs h el fs := by
  unfold pd_R pd_P
  simp
  omega
theorem pd_82 {p : Nat} (hp : p < c) (h1 : pd_k fs + 1 ≤ h) (h2 : pd_b fs ≤ el.length) : pd_R K mq c 82 p (h + 1) el fs h el fs := by
  unfold pd_R pd_P
  simp
  omega
theorem pd_83 {p : Nat} (hp : p < c) (hk : K p = 17 ∨ K p = 18 ∨ K p = 19 ∨ K p = 20 ∨ K p = 21 ∨ K p = 25) (h1 : pd_k fs + 1 ≤ h) (h2 : pd_b fs ≤ el.length) : pd_R K mq c 83 p (h + 1) el fs h el fs := by
  unfold pd_R pd_P
  simp
  omega
theorem pd_84 {p : Nat} (hp : p < c) (h1 : pd_k fs + 1 ≤ h) (h2 : pd_b fs ≤ el.length) : pd_R K mq c 84 p (h + 2) el fs h el fs := by
  unfold pd_R pd_P
  simp
  omega
theorem pd_86 {p : Nat} (hp : p + 1 < c) (h1 : pd_k fs < h) (h2 : pd_b fs ≤ el.length) : pd_R K mq c 86 p h ((p + 1, false) :: el) fs h el fs := by
  unfold pd_R pd_P
  simp
  omega
theorem pd_88 {p : Nat} (hf : pd_fn K mq p) (hp : p + mq p + 1 < c) : pd_R K mq c 88 p (h + 1) (pd_ns p (mq p) ++ el) ((h, el.length, p) :: fs) h ((0, true) :: el) fs := by
  refine ⟨by simp [pd_k], by simp [pd_b], by omega, ⟨fun z => ?_, fun z => ?_, fun z => ?_, fun _ => ⟨hf, hp⟩, fun z => ?_⟩, fun z => ?_, fun z => ?_, fun z => ?_, fun z => ?_, fun z => ?_, fun z => ?_, fun z => ?_, fun z => ?_, fun z => ?_, fun _ => ⟨el, rfl, rfl, rfl, rfl⟩, fun z => ?_⟩
  all_goals (exfalso; omega)
theorem pd_89 {p : Nat} (hp : p + 1 < c) (hk : K (p + 1) = 3) : pd_R K mq c 89 p (h + 1) el ((h, el.length, p) :: fs) h ((0, true) :: el) fs := by
  refine ⟨by simp [pd_k], by simp [pd_b], by omega, ⟨fun z => ?_, fun z => ?_, fun z => ?_, fun z => ?_, fun _ => ⟨hp, hk⟩⟩, fun z => ?_, fun z => ?_, fun z => ?_, fun z => ?_, fun z => ?_, fun z => ?_, fun z => ?_, fun z => ?_, fun z => ?_, fun z => ?_, fun _ => ⟨rfl, rfl, rfl⟩⟩
  all_goals (exfalso; omega)
/-- the six levels of an expression, or the last of them -/
theorem pd_e6 {ss : pm_L} (h1 : pd_k fs ≤ h) (h2 : pd_b fs ≤ el.length) (ok : pd_ok K mq c ss (h + 1) el fs) : pd_ok K mq c ((55, 0) :: (54, 0) :: (53, 0) :: (52, 0) :: (51, 0) :: (50, 0) :: ss) h el fs :=
  ⟨_, _, _, pd_55 h1 h2, _, _, _, pd_44 (by omega) (by omega) h2, _, _, _, pd_44 (by omega) (by omega) h2, _, _, _, pd_44 (by omega) (by omega) h2, _, _, _, pd_44 (by omega) (by omega) h2, _, _, _, pd_44 (by omega) (by omega) h2, ok⟩
end
section
variable {K mq N : Nat → Nat} {Dc : Nat → List tr_T → tr_T → Prop} {c h : Nat} {el : List (Nat × Bool)} {fs : pd_L} {bs : List (Nat × Bool)} {fl : List Bool} {V : dv_W}
theorem dk_psh {P : List tr_T → List tr_T → tr_T → Prop} {b : Bool} (D : di_I h el fs bs fl V) (h1 : pd_k fs ≤ h) (h2 : pd_b fs ≤ el.length) : di_I (h + 1) el fs bs (b :: fl) (dv_psh P V) := by
  obtain ⟨d1, d2, d3, d4, d5⟩ := D
  exact ⟨by simp [d1], d2, d3, dv_len_psh d4, di_F_tr d5 (fun k j hk hj C => dv_CI_psh d4 (by omega) C) (fun _ _ => rfl) (by omega) h2⟩
theorem dk_tr {γ : Type} {inp out : γ → List tr_T} {i : Nat} {fl' : List Bool} (hi : ∀ x, (inp x).length = i) (ho : ∀ x, (out x).length = 1) (hf : fl'.length = h + 1) (D : di_I (h + i) el fs bs fl V) (h1 : pd_k fs ≤ h) (h2 : pd_b fs ≤ el.length) : di_I (h + 1) el fs bs fl' (dv_tr inp out V) := by
  obtain ⟨d1, d2, d3, d4, d5⟩ := D
  exact ⟨hf, d2, d3, dv_len_tr hi ho d4, di_F_tr d5 (fun k j hk hj C => dv_CI_tr hi d4 (by omega) C) (fun _ _ => rfl) (by omega) h2⟩
theorem dk_rel {x : Nat} {el bs : List (Nat × Bool)} (d : ∀ (i y : Nat), el[i]? = some (y, false) → bs[i]? = some (y, false)) : ∀ (i y : Nat), ((x, false) :: el)[i]? = some (y, false) → ((x, false) :: bs)[i]? = some (y, false) := by
  intro i y hy
  cases i with
  | zero => exact hy
  | succ i => rw [List.getElem?_cons_succ] at hy ⊢; exact d i y hy
theorem dk_rel' {b : Nat × Bool} {el bs : List (Nat × Bool)} (d : ∀ (i y : Nat), el[i]? = some (y, false) → bs[i]? = some (y, false)) : ∀ (i y : Nat), ((0, true) :: el)[i]? = some (y, false) → (b :: bs)[i]? = some (y, false) := by
  intro i y hy
  cases i with
  | zero => simp at hy
  | succ i => rw [List.getElem?_cons_succ] at hy ⊢; exact d i y hy
theorem dk_reln {p : Nat} {el bs : List (Nat × Bool)} (d : ∀ (i y : Nat), el[i]? = some (y, false) → bs[i]? = some (y, false)) : ∀ (m i y : Nat), (pd_ns p m ++ el)[i]? = some (y, false) → (pd_ns p m ++ bs)[i]? = some (y, false) := by
  intro m
  induction m with
  | zero => exact d
  | succ m ih => exact dk_rel ih
theorem dk_un {x : Nat × Bool} {el bs : List (Nat × Bool)} (hl : bs.length = (x :: el).length) (d : ∀ (i y : Nat), (x :: el)[i]? = some (y, false) → bs[i]? = some (y, false)) : ∃ b bs0, bs = b :: bs0 ∧ (x.2 = false → b = x) ∧ bs0.length = el.length ∧ ∀ (i y : Nat), el[i]? = some (y, false) → bs0[i]? = some (y, false) := by
  cases bs with
  | nil => simp at hl
  | cons b bs =>
    refine ⟨b, bs, rfl, fun z => ?_, by simpa using hl, fun i y hy => ?_⟩
    · obtain ⟨x1, x2⟩ := x
      simp at z
      subst z
      have := d 0 x1 rfl
      simpa using this
    · have := d (i + 1) y (by rw [List.getElem?_cons_succ]; exact hy)
      rw [List.getElem?_cons_succ] at this
      exact this
theorem dk_unn {p : Nat} {el : List (Nat × Bool)} : ∀ (m : Nat) (bs : List (Nat × Bool)), bs.length = (pd_ns p m ++ el).length → (∀ (i y : Nat), (pd_ns p m ++ el)[i]? = some (y, false) → bs[i]? = some (y, false)) → ∃ bs0, bs = pd_ns p m ++ bs0 ∧ bs0.length = el.length ∧ ∀ (i y : Nat), el[i]? = some (y, false) → bs0[i]? = some (y, false) := by
  intro m
  induction m with
  | zero => intro bs hl d; exact ⟨bs, rfl, hl, d⟩
  | succ m ih =>
    intro bs hl d
    obtain ⟨b, bs0, e, e1, l, d'⟩ := dk_un (x := (p + 1 + m, false)) (el := pd_ns p m ++ el) hl d
    obtain ⟨bs1, e2, l2, d2⟩ := ih bs0 l d'
    refine ⟨bs1, ?_, l2, d2⟩
    rw [e, e1 rfl, e2]
    rfl
theorem dk_lam {p : Nat} (D : di_I h el fs bs fl V) (h1 : pd_k fs ≤ h) (h2 : pd_b fs ≤ el.length) : di_I h ((p + 1, false) :: el) fs ((p + 1, false) :: bs) fl (dv_lams 1 V) := by
  obtain ⟨d1, d2, d3, d4, d5⟩ := D
  exact ⟨d1, by simp [d2], dk_rel d3, dv_len_lams d4, di_F_tr d5 (fun k j hk hj C => dv_CI_lams d4 (by omega) C) (fun j hj => ls_dropc (A := [(p + 1, false)]) (by omega)) h1 (by rw [List.length_cons]; omega)⟩
theorem dk_lams {p m : Nat} (D : di_I h el fs bs fl V) (h1 : pd_k fs ≤ h) (h2 : pd_b fs ≤ el.length) : di_I h (pd_ns p m ++ el) fs (pd_ns p m ++ bs) fl (dv_lams m V) := by
  obtain ⟨d1, d2, d3, d4, d5⟩ := D
  have el' : (pd_ns p m ++ el).length = el.length + m := by rw [List.length_append, pd_ns_len]; omega
  refine ⟨d1, by rw [List.length_append, List.length_append, d2], dk_reln d3 m, ?_, ?_⟩
  · rw [el']; exact dv_len_lams d4
  · exact di_F_tr d5 (fun k j hk hj C => dv_CI_lams d4 (by omega) C) (fun j hj => ls_dropc (by omega)) h1 (by omega)
theorem dk_fn {p : Nat} {fl' : List Bool} (D : di_I (h + 1) ((p + 1, false) :: el) fs bs fl V) (h1 : pd_k fs ≤ h) (h2 : pd_b fs ≤ el.length) (hf : fl'.length = h + 1) : ∃ bs0, bs = (p + 1, false) :: bs0 ∧ di_I (h + 1) el fs bs0 fl' (dv_fn V) := by
  obtain ⟨d1, d2, d3, d4, d5⟩ := D
  obtain ⟨b, bs0, e, e1, l, d'⟩ := dk_un d2 d3
  rw [e1 rfl] at e
  exact ⟨bs0, e, hf, l, d', dv_len_fn d4, di_F_tr d5 (fun k j hk hj C => dv_CI_fn d4 (by omega) C) (fun j hj => by rw [e]; exact (ls_dropc (A := [(p + 1, false)]) (by omega)).symm) (by omega) h2⟩
theorem dk_let {fl' : List Bool} (D : di_I h ((0, true) :: el) fs bs fl V) (h1 : pd_k fs ≤ h) (h2 : pd_b fs ≤ el.length) (hf : fl'.length = h) : ∃ b bs0, bs = b :: bs0 ∧ di_I h el fs bs0 fl' (dv_let V) := by
  obtain ⟨d1, d2, d3, d4, d5⟩ := D
  obtain ⟨b, bs0, e, e1, l, d'⟩ := dk_un d2 d3
  exact ⟨b, bs0, e, hf, l, d', dv_len_let d4, di_F_tr d5 (fun k j hk hj C => dv_CI_let C) (fun j hj => by rw [e]; exact (ls_dropc (A := [b]) (by omega)).symm) h1 h2⟩
theorem dk_val {b : Nat × Bool} {p : Nat} {fl' : List Bool} (D : di_I (h + 1) el ((h, el.length, p) :: fs) bs fl V) (hf : fl'.length = h) : dv_CI h el.length V ∧ (∀ x, x ∈ bs → x.1 ≤ p) ∧ di_I h ((0, true) :: el) fs (b :: bs) fl' (dv_bind V) := by
  obtain ⟨d1, d2, d3, d4, _, _, d6, d8, d7⟩ := D
  have d8' : ∀ x, x ∈ bs → x.1 ≤ p := by
    have e : bs.length - (h, el.length, p).2.1 = 0 := by show bs.length - el.length = 0; omega
    rw [e] at d8
    exact d8
  refine ⟨d6, d8', hf, by simp [d2], dk_rel' d3, dv_len_bind d4, ?_⟩
  have q := di_F_in fs _ _ d7 (V' := dv_bind V) (bs' := b :: bs) (fun k j hk hj C => dv_CI_bind d4 hj C) (fun j hj => ls_dropc (A := [b]) (by rw [d2]; exact hj))
  cases fs with
  | nil => trivial
  | cons f fs =>
    obtain ⟨q1, q2, q3, q5, q4⟩ := q
    exact ⟨q1, by rw [List.length_cons]; exact Nat.le_succ_of_le q2, q3, q5, q4⟩
theorem dk_fun {b : Nat × Bool} {p m : Nat} {fl' : List Bool} (D : di_I (h + 1) (pd_ns p (m + 1) ++ el) ((h, el.length, p) :: fs) bs fl V) (hf : fl'.length = h) : ∃ bs0, bs = pd_ns p (m + 1) ++ bs0 ∧ bs0.length = el.length ∧ dv_CI h el.length V ∧ (∀ x, x ∈ bs0 → x.1 ≤ p) ∧ di_I h ((0, true) :: el) fs (b :: bs0) fl' (dv_bind (dv_fun m V)) := by
  obtain ⟨d1, d2, d3, d4, _, _, d6, d9, d7⟩ := D
  obtain ⟨bs0, e, l, d'⟩ := dk_unn (m + 1) bs d2 d3
  have d4' : dv_len (h + 1) (el.length + m + 1) V := by
    rw [List.length_append, pd_ns_len] at d4
    have q : m + 1 + el.length = el.length + m + 1 := by omega
    rw [q] at d4; exact d4
  have d8 := dv_len_fun d4'
  have d9' : ∀ x, x ∈ bs0 → x.1 ≤ p := by
    have z : bs.drop (bs.length - el.length) = bs0 := by
      rw [e, ls_dropc (by omega), l, Nat.sub_self]; rfl
    intro x hx
    exact d9 x (by show x ∈ bs.drop (bs.length - el.length); rw [z]; exact hx)
  refine ⟨bs0, e, l, d6, d9', hf, by simp [l], dk_rel' d', dv_len_bind d8, ?_⟩
  have q := di_F_in fs _ _ d7 (V' := dv_bind (dv_fun m V)) (bs' := b :: bs0) (fun k j hk hj C => dv_CI_bind d8 hj (dv_CI_fun d4' hk C)) (fun j hj => by
    have hj' : j ≤ bs0.length := by rw [l]; exact hj
    rw [e, ls_dropc hj']
    exact ls_dropc (A := [b]) hj')
  cases fs with
  | nil => trivial
  | cons f fs =>
    obtain ⟨q1, q2, q3, q5, q4⟩ := q
    exact ⟨q1, by rw [List.length_cons]; exact Nat.le_succ_of_le q2, q3, q5, q4⟩
/-- a declaration begins -/
theorem dk_new {p : Nat} (D : di_I h el fs bs fl V) (hp : ∀ x, x ∈ bs → x.1 < p) : di_I h el ((h, el.length, p) :: fs) bs fl V := by
  obtain ⟨d1, d2, d3, d4, d5⟩ := D
  exact ⟨d1, d2, d3, d4, Nat.le_refl _, Nat.le_refl _, dv_CI_new d4, fun x hx => Nat.le_of_lt (hp x (List.mem_of_mem_drop hx)), d5⟩
end
end
section
/-! one turn of the parser: the discipline goes on, and at most one step is written, whose conditions hold -/
def pd_Q (K N mq : Nat → Nat) (Dc : Nat → List tr_T → tr_T → Prop) (c a' : Nat) (l w ss : pm_L) (bs : List (Nat × Bool)) (fl : List Bool) (V : dv_W) : Prop :=
  ∃ h2 el2 fs2, pd_ok K mq c (l ++ ss) h2 el2 fs2 ∧ ((w = [] ∧ di_I h2 el2 fs2 bs fl V ∧ ∀ x, x ∈ bs → x.1 < a') ∨ ∃ s' p', w = [(s', p')] ∧ dd_pre K mq c bs fl V s' p' ∧ di_I h2 el2 fs2 (dd_bs mq bs fl s' p') (dd_fl K fl s' p') (dd_V K N mq Dc bs V s' p') ∧ ∀ x, x ∈ dd_bs mq bs fl s' p' → x.1 < a')
section
variable {K mq N : Nat → Nat} {Dc : Nat → List tr_T → tr_T → Prop} {c h a a' : Nat} {el : List (Nat × Bool)} {fs : pd_L} {l w ss : pm_L} {bs : List (Nat × Bool)} {fl : List Bool} {V : dv_W}
theorem di_len (D : di_I h el fs bs fl V) : dv_len fl.length bs.length V := by
  obtain ⟨d1, d2, d3, d4, d5⟩ := D
  rw [d1, d2]; exact d4
theorem dp_80 {p : Nat} (hp : p < c) (hl : dv_len fl.length bs.length V) (hk : pm_alone (K p) = true) : dd_pre K mq c bs fl V 80 p :=
  ⟨hp, hl, by decide, by decide, fun _ => hk, fun z => absurd z (by decide), fun z => absurd z (by decide), fun z => absurd z (by decide), fun z => absurd z (by decide), fun z => absurd z (by decide), fun z => absurd z (by decide), fun z => absurd z (by decide), fun z => absurd z (by decide), fun z => absurd z (by decide)⟩
theorem dp_81 {p : Nat} (hp : p < c) (hl : dv_len fl.length bs.length V)  : dd_pre K mq c bs fl V 81 p :=
  ⟨hp, hl, by decide, by decide, fun z => absurd z (by decide), fun z => absurd z (by decide), fun z => absurd z (by decide), fun z => absurd z (by decide), fun z => absurd z (by decide), fun z => absurd z (by decide), fun z => absurd z (by decide), fun z => absurd z (by decide), fun z => absurd z (by decide), fun z => absurd z (by decide)⟩
theorem dp_82 {p : Nat} (hp : p < c) (hl : dv_len fl.length bs.length V) (hf : 2 ≤ fl.length) : dd_pre K mq c bs fl V 82 p :=
  ⟨hp, hl, by decide, by decide, fun z => absurd z (by decide), fun _ => hf, fun z => absurd z (by decide), fun z => absurd z (by decide), fun z => absurd z (by decide), fun z => absurd z (by decide), fun z => absurd z (by decide), fun z => absurd z (by decide), fun z => absurd z (by decide), fun z => absurd z (by decide)⟩
theorem dp_83 {p : Nat} (hp : p < c) (hl : dv_len fl.length bs.length V) (hf : 2 ≤ fl.length) (hk : K p = 17 ∨ K p = 18 ∨ K p = 19 ∨ K p = 20 ∨ K p = 21 ∨ K p = 25) : dd_pre K mq c bs fl V 83 p :=
  ⟨hp, hl, by decide, by decide, fun z => absurd z (by decide), fun z => absurd z (by decide), fun _ => ⟨hf, hk⟩, fun z => absurd z (by decide), fun z => absurd z (by decide), fun z => absurd z (by decide), fun z => absurd z (by decide), fun z => absurd z (by decide), fun z => absurd z (by decide), fun z => absurd z (by decide)⟩
theorem dp_84 {p : Nat} (hp : p < c) (hl : dv_len fl.length bs.length V) (hf : 3 ≤ fl.length) : dd_pre K mq c bs fl V 84 p :=
  ⟨hp, hl, by decide, by decide, fun z => absurd z (by decide), fun z => absurd z (by decide), fun z => absurd z (by decide), fun _ => hf, fun z => absurd z (by decide), fun z => absurd z (by decide), fun z => absurd z (by decide), fun z => absurd z (by decide), fun z => absurd z (by decide), fun z => absurd z (by decide)⟩
theorem dp_85 {p : Nat} (hp : p < c) (hl : dv_len fl.length bs.length V) (hq : p + 1 < c) (hk : K (p + 1) = 3) (hx : ∀ x, x ∈ bs → x.1 ≤ p) : dd_pre K mq c bs fl V 85 p :=
  ⟨hp, hl, by decide, by decide, fun z => absurd z (by decide), fun z => absurd z (by decide), fun z => absurd z (by decide), fun z => absurd z (by decide), fun _ => ⟨hq, hk, hx⟩, fun z => absurd z (by decide), fun z => absurd z (by decide), fun z => absurd z (by decide), fun z => absurd z (by decide), fun z => absurd z (by decide)⟩
theorem dp_86 {p : Nat} (hp : p < c) (hl : dv_len fl.length bs.length V) (hf : 1 ≤ fl.length) (hq : p + 1 < c) (hb : ∃ bs0, bs = (p + 1, false) :: bs0) : dd_pre K mq c bs fl V 86 p :=
  ⟨hp, hl, by decide, by decide, fun z => absurd z (by decide), fun z => absurd z (by decide), fun z => absurd z (by decide), fun z => absurd z (by decide), fun z => absurd z (by decide), fun _ => ⟨hf, hq, hb⟩, fun z => absurd z (by decide), fun z => absurd z (by decide), fun z => absurd z (by decide), fun z => absurd z (by decide)⟩
theorem dp_87 {p : Nat} (hp : p < c) (hl : dv_len fl.length bs.length V) (hf : pd_fn K mq p) (hq : p + mq p + 1 < c) (hx : ∀ x, x ∈ bs → x.1 ≤ p) : dd_pre K mq c bs fl V 87 p :=
  ⟨hp, hl, by decide, by decide, fun z => absurd z (by decide), fun z => absurd z (by decide), fun z => absurd z (by decide), fun z => absurd z (by decide), fun z => absurd z (by decide), fun z => absurd z (by decide), fun _ => ⟨hf, hq, hx⟩, fun z => absurd z (by decide), fun z => absurd z (by decide), fun z => absurd z (by decide)⟩
theorem dp_88 {p : Nat} (hp : p < c) (hl : dv_len fl.length bs.length V) (hg : pd_fn K mq p) (hq : p + mq p + 1 < c) (hf : 1 ≤ fl.length) (hb : ∃ bs0, bs = pd_ns p (mq p) ++ bs0 ∧ dv_CI (fl.length - 1) bs0.length V ∧ ∀ x, x ∈ bs0 → x.1 ≤ p) : dd_pre K mq c bs fl V 88 p :=
  ⟨hp, hl, by decide, by decide, fun z => absurd z (by decide), fun z => absurd z (by decide), fun z => absurd z (by decide), fun z => absurd z (by decide), fun z => absurd z (by decide), fun z => absurd z (by decide), fun z => absurd z (by decide), fun _ => ⟨hg, hq, hf, hb⟩, fun z => absurd z (by decide), fun z => absurd z (by decide)⟩
theorem dp_89 {p : Nat} (hp : p < c) (hl : dv_len fl.length bs.length V) (hq : p + 1 < c) (hk : K (p + 1) = 3) (hf : 1 ≤ fl.length) (hC : dv_CI (fl.length - 1) bs.length V) (hx : ∀ x, x ∈ bs → x.1 ≤ p) : dd_pre K mq c bs fl V 89 p :=
  ⟨hp, hl, by decide, by decide, fun z => absurd z (by decide), fun z => absurd z (by decide), fun z => absurd z (by decide), fun z => absurd z (by decide), fun z => absurd z (by decide), fun z => absurd z (by decide), fun z => absurd z (by decide), fun z => absurd z (by decide), fun _ => ⟨hq, hk, hf, hC, hx⟩, fun z => absurd z (by decide)⟩
theorem dp_90 {p : Nat} (hp : p < c) (hl : dv_len fl.length bs.length V) (hf : 1 ≤ fl.length) (hb : bs ≠ []) : dd_pre K mq c bs fl V 90 p :=
  ⟨hp, hl, by decide, by decide, fun z => absurd z (by decide), fun z => absurd z (by decide), fun z => absurd z (by decide), fun z => absurd z (by decide), fun z => absurd z (by decide), fun z => absurd z (by decide), fun z => absurd z (by decide), fun z => absurd z (by decide), fun z => absurd z (by decide), fun _ => ⟨hf, hb⟩⟩
theorem pd_atom_ok (hK : ∀ i, c ≤ i → K i = 99) (ht : pm_atom K a = (a', some (l, w))) (hx : ∀ x, x ∈ bs → x.1 < a) (D : di_I h el fs bs fl V) (h1 : pd_k fs ≤ h) (h2 : pd_b fs ≤ el.length) (ok : pd_ok K mq c ss (h + 1) el fs) : pd_Q K N mq Dc c a' l w ss bs fl V := by
  have hl := di_len D
  unfold pm_atom at ht
  by_cases c1 : pm_alone (K a) = true
  · rw [if_pos c1] at ht
    have q := pm_alone_lt hK c1
    simp at ht
    obtain ⟨rfl, rfl, rfl⟩ := ht
    refine ⟨h + 1, el, fs, ok, Or.inr ⟨80, a, rfl, ?_, ?_, fun x q => by have := hx x q; omega⟩⟩
    · exact dp_80 q hl c1
    · unfold dd_bs dd_fl dd_V
      simp
      by_cases k : K a = 3
      · rw [if_pos k]; exact dk_psh D h1 h2
      · rw [if_neg k]; exact dk_psh D h1 h2
  · rw [if_neg c1] at ht
    by_cases c2 : K a = 15
    · rw [if_pos c2] at ht
      by_cases c3 : K (a + 1) = 16
      · rw [if_pos c3] at ht
        have q := pm_lt hK c3 (by decide)
        simp at ht
        obtain ⟨rfl, rfl, rfl⟩ := ht
        refine ⟨h + 1, el, fs, ok, Or.inr ⟨81, a + 1, rfl, ?_, ?_, fun x q => by have := hx x q; omega⟩⟩
        · exact dp_81 q hl
        · unfold dd_bs dd_fl dd_V
          simp
          exact dk_psh D h1 h2
      · rw [if_neg c3] at ht
        simp at ht
        obtain ⟨rfl, rfl, rfl⟩ := ht
        exact ⟨h, el, fs, ⟨_, _, _, pd_42 h1 h2, _, _, _, pd_44 (by omega) (by omega) h2, ok⟩, Or.inl ⟨rfl, D, fun x q => by have := hx x q; omega⟩⟩
    · rw [if_neg c2] at ht
      by_cases c3 : K a = 6
      · rw [if_pos c3] at ht
        have q := pm_lt hK c3 (by decide)
        simp at ht
        obtain ⟨rfl, rfl, rfl⟩ := ht
        exact ⟨h, el, fs, ⟨_, _, _, pd_40 h1 h2, _, _, _, pd_46 q h1 h2, ok⟩, Or.inl ⟨rfl, D, fun x q => by have := hx x q; omega⟩⟩
      · rw [if_neg c3] at ht
        simp at ht
theorem pm_atom_lt (hK : ∀ i, c ≤ i → K i = 99) (ht : pm_atom K a = (a', some (l, w))) : a < c := by
  unfold pm_atom at ht
  by_cases c1 : pm_alone (K a) = true
  · exact pm_alone_lt hK c1
  · rw [if_neg c1] at ht
    by_cases c2 : K a = 15
    · exact pm_lt hK c2 (by decide)
    · rw [if_neg c2] at ht
      by_cases c3 : K a = 6
      · exact pm_lt hK c3 (by decide)
      · rw [if_neg c3] at ht
        simp at ht
theorem pd_apl_ok (hK : ∀ i, c ≤ i → K i = 99) (ht : pm_apl K a = (a', some (l, w))) (hx : ∀ x, x ∈ bs → x.1 < a) (D : di_I h el fs bs fl V) (h1 : pd_k fs < h) (h2 : pd_b fs ≤ el.length) (ok : pd_ok K mq c ss h el fs) : pd_Q K N mq Dc c a' l w ss bs fl V := by
  unfold pm_apl at ht
  cases e : (pm_atom K a).2 with
  | none =>
    rw [e] at ht
    simp at ht
    obtain ⟨rfl, rfl, rfl⟩ := ht
    exact ⟨h, el, fs, ok, Or.inl ⟨rfl, D, fun x q => by have := hx x q; omega⟩⟩
  | some x =>
    obtain ⟨l0, w0⟩ := x
    rw [e] at ht
    simp at ht
    obtain ⟨rfl, rfl, rfl⟩ := ht
    have e' : pm_atom K a = ((pm_atom K a).1, some (l0, w0)) := by rw [← e]
    have q := pm_atom_lt hK e'
    have z := pd_atom_ok (N := N) (Dc := Dc) (mq := mq) (ss := (82, a) :: (54, 0) :: ss) hK e' hx D (by omega) h2 ⟨_, _, _, pd_82 q (by omega) h2, _, _, _, pd_44 (by omega) h1 h2, ok⟩
    obtain ⟨h3, el3, fs3, z1, z2⟩ := z
    exact ⟨h3, el3, fs3, by simpa using z1, z2⟩
theorem pd_ns_lt (p : Nat) : ∀ (m : Nat) (x : Nat × Bool), x ∈ pd_ns p m → p < x.1 ∧ x.1 ≤ p + m := by
  intro m
  induction m with
  | zero => intro x hx; cases hx
  | succ m ih =>
    intro x hx
    rcases List.mem_cons.mp hx with z | z
    · rw [z]; show p < p + 1 + m ∧ p + 1 + m ≤ p + (m + 1); omega
    · have := ih x z; omega
theorem pd_ns_self (p : Nat) : ∀ m, (p + 1, false) ∈ pd_ns p (m + 1) := by
  intro m
  induction m with
  | zero => exact List.mem_cons_self
  | succ m ih => exact List.mem_cons_of_mem _ ih
theorem pd_decl_ok (hK : ∀ i, c ≤ i → K i = 99) (hm : ∀ q, mq q = pm_nq K 24 (q + 3) - (q + 1)) (ht : pm_decl K a = (a', some (l, w))) (hx : ∀ x, x ∈ bs → x.1 < a) (D : di_I h el fs bs fl V) (h1 : pd_k fs ≤ h) (h2 : pd_b fs ≤ el.length) (ok : pd_ok K mq c ss h ((0, true) :: el) fs) : pd_Q K N mq Dc c a' l w ss bs fl V := by
  have hl := di_len D
  unfold pm_decl at ht
  by_cases c1 : K a = 7
  · rw [if_pos c1] at ht
    by_cases c2 : K (a + 1) = 3
    · rw [if_pos c2] at ht
      have q := pm_lt hK c2 (by decide)
      by_cases c3 : K (a + 2) = 9
      · rw [if_pos c3] at ht
        simp at ht
        obtain ⟨rfl, rfl, rfl⟩ := ht
        exact ⟨h, el, (h, el.length, a) :: fs, ⟨_, _, _, pd_42 (by simp [pd_k]) (by simp [pd_b]), _, _, _, pd_89 q c2, ok⟩, Or.inl ⟨rfl, dk_new D hx, fun x q => by have := hx x q; omega⟩⟩
      · rw [if_neg c3] at ht
        simp at ht
    · rw [if_neg c2] at ht
      simp at ht
  · rw [if_neg c1] at ht
    by_cases c4 : K a = 8
    · rw [if_pos c4] at ht
      by_cases c5 : K (a + 1) = 3
      · rw [if_pos c5] at ht
        by_cases c6 : K (a + 2) = 3
        · rw [if_pos c6] at ht
          by_cases c7 : K (pm_nq K 24 (a + 3)) = 9
          · rw [if_pos c7] at ht
            have q := pm_lt hK c7 (by decide)
            have g := (pm_nq_ge (K := K) 24 (a + 3)).1
            have gi := pm_nq_in (K := K) 24 (a + 3)
            have em := hm a
            simp at ht
            obtain ⟨rfl, rfl, rfl⟩ := ht
            generalize eq : pm_nq K 24 (a + 3) = r at q g gi em c7
            have hf : pd_fn K mq a := by
              refine ⟨by omega, c4, fun i i1 i2 => ?_, ?_⟩
              · by_cases z1 : i = a + 1
                · rw [z1]; exact c5
                · by_cases z2 : i = a + 2
                  · rw [z2]; exact c6
                  · exact gi i (by omega) (by omega)
              · have : a + mq a + 1 = r := by omega
                rw [this]; exact c7
            have hp : a + mq a + 1 < c := by omega
            refine ⟨h, pd_ns a (mq a) ++ el, (h, el.length, a) :: fs, ⟨_, _, _, pd_42 (by simp [pd_k]) (by simp [pd_b]), _, _, _, pd_88 hf hp, ok⟩, Or.inr ⟨87, a, rfl, ?_, ?_, fun x q => ?_⟩⟩
            · exact dp_87 (by omega) hl hf hp (fun x q => Nat.le_of_lt (hx x q))
            · unfold dd_bs dd_fl dd_V
              simp
              exact dk_lams (dk_new D hx) (by simp [pd_k]) (by simp [pd_b])
            · unfold dd_bs at q
              simp at q
              rcases q with q | q
              · have := pd_ns_lt a (mq a) x q
                omega
              · have := hx x q
                omega
          · rw [if_neg c7] at ht
            simp at ht
        · rw [if_neg c6] at ht
          simp at ht
      · rw [if_neg c5] at ht
        simp at ht
    · rw [if_neg c4] at ht
      simp at ht
theorem pd_expr_ok (hK : ∀ i, c ≤ i → K i = 99) (ht : pm_expr K a = (a', some (l, w))) (hx : ∀ x, x ∈ bs → x.1 < a) (D : di_I h el fs bs fl V) (h1 : pd_k fs ≤ h) (h2 : pd_b fs ≤ el.length) (ok : pd_ok K mq c ss (h + 1) el fs) : pd_Q K N mq Dc c a' l w ss bs fl V := by
  have hl := di_len D
  unfold pm_expr at ht
  by_cases c1 : K a = 4
  · rw [if_pos c1] at ht
    by_cases c2 : K (a + 1) = 3
    · rw [if_pos c2] at ht
      have q := pm_lt hK c2 (by decide)
      by_cases c3 : K (a + 2) = 5
      · rw [if_pos c3] at ht
        simp at ht
        obtain ⟨rfl, rfl, rfl⟩ := ht
        refine ⟨h, (a + 1, false) :: el, fs, ⟨_, _, _, pd_42 h1 (by rw [List.length_cons]; omega), _, _, _, pd_86 q (by omega) h2, ok⟩, Or.inr ⟨85, a, rfl, ?_, ?_, fun x q => ?_⟩⟩
        · exact dp_85 (by omega) hl q c2 (fun x q => Nat.le_of_lt (hx x q))
        · unfold dd_bs dd_fl dd_V
          simp
          exact dk_lam D h1 h2
        · unfold dd_bs at q
          simp at q
          rcases q with q | q
          · rw [q]; show a + 1 < a + 3; omega
          · have := hx x q
            omega
      · rw [if_neg c3] at ht
        simp at ht
    · rw [if_neg c2] at ht
      simp at ht
  · rw [if_neg c1] at ht
    by_cases c4 : K a = 12
    · rw [if_pos c4] at ht
      have q := pm_lt hK c4 (by decide)
      simp at ht
      obtain ⟨rfl, rfl, rfl⟩ := ht
      exact ⟨h, el, fs, ⟨_, _, _, pd_42 h1 h2, _, _, _, pd_38 (by omega) (by omega) h2, _, _, _, pd_42 (by omega) h2, _, _, _, pd_38 (by omega) (by omega) h2, _, _, _, pd_42 (by omega) h2, _, _, _, pd_84 (h := h + 1) q (by omega) h2, ok⟩, Or.inl ⟨rfl, D, fun x q => by have := hx x q; omega⟩⟩
    · rw [if_neg c4] at ht
      simp at ht
      obtain ⟨rfl, rfl, rfl⟩ := ht
      exact ⟨h, el, fs, pd_e6 h1 h2 ok, Or.inl ⟨rfl, D, fun x q => by have := hx x q; omega⟩⟩
theorem pd_s80 {s : Nat} (rs : s < 38 ∨ s = 40 ∨ s = 42 ∨ s = 44 ∨ s = 46 ∨ s = 47 ∨ s = 50 ∨ s = 51 ∨ s = 52 ∨ s = 53 ∨ s = 54 ∨ s = 55 ∨ s = 82 ∨ s = 83 ∨ s = 84 ∨ s = 86 ∨ s = 88 ∨ s = 89) (hs : 80 ≤ s) : s = 82 ∨ s = 83 ∨ s = 84 ∨ s = 86 ∨ s = 88 ∨ s = 89 := by omega
theorem pd_s40 {s : Nat} (rs : s < 38 ∨ s = 40 ∨ s = 42 ∨ s = 44 ∨ s = 46 ∨ s = 47 ∨ s = 50 ∨ s = 51 ∨ s = 52 ∨ s = 53 ∨ s = 54 ∨ s = 55 ∨ s = 82 ∨ s = 83 ∨ s = 84 ∨ s = 86 ∨ s = 88 ∨ s = 89) (hs : ¬ 80 ≤ s) (h38 : ¬ s < 38) : s = 40 ∨ s = 42 ∨ s = 44 ∨ s = 46 ∨ s = 47 ∨ s = 50 ∨ s = 51 ∨ s = 52 ∨ s = 53 ∨ s = 54 ∨ s = 55 := by omega
section
variable {s p h' : Nat} {el' : List (Nat × Bool)} {fs' : pd_L}
theorem pi_38 (R : pd_R K mq c s p h el fs h' el' fs') : s < 38 → h' = h ∧ el' = el ∧ fs' = fs := R.2.2.2.2.1
theorem pi_40 (R : pd_R K mq c s p h el fs h' el' fs') : s = 40 → h' = h ∧ el' = (0, true) :: el ∧ fs' = fs := R.2.2.2.2.2.1
theorem pi_42 (R : pd_R K mq c s p h el fs h' el' fs') : s = 42 ∨ s = 55 → h' = h + 1 ∧ el' = el ∧ fs' = fs := R.2.2.2.2.2.2.1
theorem pi_44 (R : pd_R K mq c s p h el fs h' el' fs') : s = 44 ∨ s = 50 ∨ s = 51 ∨ s = 52 ∨ s = 53 ∨ s = 54 → pd_k fs < h ∧ h' = h ∧ el' = el ∧ fs' = fs := R.2.2.2.2.2.2.2.1
theorem pi_46 (R : pd_R K mq c s p h el fs h' el' fs') : s = 46 → pd_b fs < el.length ∧ el = (0, true) :: el' ∧ h' = h + 1 ∧ fs' = fs := R.2.2.2.2.2.2.2.2.1
theorem pi_47 (R : pd_R K mq c s p h el fs h' el' fs') : s = 47 → pd_k fs < h ∧ pd_b fs < el.length ∧ el = (0, true) :: el' ∧ h' = h ∧ fs' = fs := R.2.2.2.2.2.2.2.2.2.1
theorem pi_82 (R : pd_R K mq c s p h el fs h' el' fs') : s = 82 ∨ s = 83 → pd_k fs + 2 ≤ h ∧ h = h' + 1 ∧ el' = el ∧ fs' = fs := R.2.2.2.2.2.2.2.2.2.2.1
theorem pi_84 (R : pd_R K mq c s p h el fs h' el' fs') : s = 84 → pd_k fs + 3 ≤ h ∧ h = h' + 2 ∧ el' = el ∧ fs' = fs := R.2.2.2.2.2.2.2.2.2.2.2.1
theorem pi_86 (R : pd_R K mq c s p h el fs h' el' fs') : s = 86 → pd_k fs < h ∧ pd_b fs < el.length ∧ el = (p + 1, false) :: el' ∧ h' = h ∧ fs' = fs := R.2.2.2.2.2.2.2.2.2.2.2.2.1
theorem pi_88 (R : pd_R K mq c s p h el fs h' el' fs') : s = 88 → ∃ el0, fs = (h', el0.length, p) :: fs' ∧ h = h' + 1 ∧ el = pd_ns p (mq p) ++ el0 ∧ el' = (0, true) :: el0 := R.2.2.2.2.2.2.2.2.2.2.2.2.2.1
theorem pi_89 (R : pd_R K mq c s p h el fs h' el' fs') : s = 89 → fs = (h', el.length, p) :: fs' ∧ h = h' + 1 ∧ el' = (0, true) :: el := R.2.2.2.2.2.2.2.2.2.2.2.2.2.2
end
/-- a step that waited is written -/
theorem pd_step_ok {s p h' : Nat} {el' : List (Nat × Bool)} {fs' : pd_L} (hs : 80 ≤ s) (hpa : s = 89 → p + 1 < a) (R : pd_R K mq c s p h el fs h' el' fs') (hx : ∀ x, x ∈ bs → x.1 < a) (D : di_I h el fs bs fl V) (ok : pd_ok K mq c ss h' el' fs') : pd_Q K N mq Dc c a [] [(s, p)] ss bs fl V := by
  have hl := di_len D
  have d1 := D.1
  have r1 := R.1
  have r2 := R.2.1
  have hs' := pd_s80 R.2.2.1 hs
  refine ⟨h', el', fs', ok, Or.inr ⟨s, p, rfl, ?_⟩⟩
  rcases hs' with rfl | rfl | rfl | rfl | rfl | rfl
  · obtain ⟨q1, q2, rfl, rfl⟩ := pi_82 R (Or.inl rfl)
    obtain ⟨h0, rfl⟩ : ∃ k, h = k + 2 := ⟨h - 2, by omega⟩
    have e : h' = h0 + 1 := by omega
    subst e
    have q := R.2.2.2.1.1 (Or.inl rfl)
    refine ⟨dp_82 q hl (by omega), ?_, fun x z => hx x z⟩
    · unfold dd_bs dd_fl dd_V
      simp
      exact dk_tr (i := 2) (fun _ => rfl) (fun _ => rfl) (by simp [d1]) D (by omega) r2
  · obtain ⟨q1, q2, rfl, rfl⟩ := pi_82 R (Or.inr rfl)
    obtain ⟨h0, rfl⟩ : ∃ k, h = k + 2 := ⟨h - 2, by omega⟩
    have e : h' = h0 + 1 := by omega
    subst e
    obtain ⟨q, qk⟩ := R.2.2.2.1.2.1 rfl
    refine ⟨dp_83 q hl (by omega) qk, ?_, fun x z => hx x z⟩
    · unfold dd_bs dd_fl dd_V
      simp
      have hf : ∀ b : Bool, (b :: List.drop 2 fl).length = h0 + 1 := fun b => by simp [d1]
      by_cases k1 : K p = 17
      · simp [k1]
        exact dk_tr (i := 2) (fun _ => rfl) (fun _ => rfl) (hf _) D (by omega) r2
      · by_cases k2 : K p = 18
        · simp [k1, k2]
          exact dk_tr (i := 2) (fun _ => rfl) (fun _ => rfl) (hf _) D (by omega) r2
        · by_cases k3 : K p = 25
          · simp [k1, k2, k3]
            exact dk_tr (i := 2) (fun _ => rfl) (fun _ => rfl) (hf _) D (by omega) r2
          · by_cases k4 : K p = 21
            · simp [k1, k2, k3, k4]
              exact dk_tr (i := 2) (fun _ => rfl) (fun _ => rfl) (hf _) D (by omega) r2
            · simp [k1, k2, k3, k4]
              exact dk_tr (i := 2) (fun _ => rfl) (fun _ => rfl) (hf _) D (by omega) r2
  · obtain ⟨q1, q2, rfl, rfl⟩ := pi_84 R rfl
    obtain ⟨h0, rfl⟩ : ∃ k, h = k + 3 := ⟨h - 3, by omega⟩
    have e : h' = h0 + 1 := by omega
    subst e
    have q := R.2.2.2.1.1 (Or.inr (Or.inl rfl))
    refine ⟨dp_84 q hl (by omega), ?_, fun x z => hx x z⟩
    · unfold dd_bs dd_fl dd_V
      simp
      exact dk_tr (i := 3) (fun _ => rfl) (fun _ => rfl) (by simp [d1]) D (by omega) r2
  · obtain ⟨q1, q2, rfl, rfl, rfl⟩ := pi_86 R rfl
    obtain ⟨h0, rfl⟩ : ∃ k, h' = k + 1 := ⟨h' - 1, by omega⟩
    have q := R.2.2.2.1.2.2.1 rfl
    rw [List.length_cons] at q2
    obtain ⟨bs0, e, D'⟩ := dk_fn (fl' := true :: fl.drop 1) D (by omega) (by omega) (by simp [d1])
    refine ⟨dp_86 (by omega) hl (by omega) q ⟨bs0, e⟩, ?_, fun x z => hx x (List.mem_of_mem_drop z)⟩
    · unfold dd_bs dd_fl dd_V
      simp [e] at D' ⊢
      exact D'
  · obtain ⟨el0, rfl, rfl, rfl, rfl⟩ := pi_88 R rfl
    obtain ⟨hf, hp⟩ := R.2.2.2.1.2.2.2.1 rfl
    obtain ⟨m, em⟩ : ∃ m, mq p = m + 1 := ⟨mq p - 1, by have := hf.1; omega⟩
    rw [em] at D
    obtain ⟨bs0, e, l0, ci, cx, D'⟩ := dk_fun (b := (p + 1, true)) (fl' := fl.drop 1) D (by simp [d1])
    refine ⟨dp_88 (by omega) hl hf hp (by omega) ⟨bs0, by rw [em]; exact e, by rw [d1, l0]; exact ci, cx⟩, ?_, fun x z => ?_⟩
    · unfold dd_bs dd_fl dd_V
      simp
      have ed : List.drop (mq p) bs = bs0 := by
        rw [e, em]
        exact List.drop_left' (pd_ns_len p (m + 1))
      rw [ed, em]
      simpa using D'
    · unfold dd_bs at z
      simp at z
      rcases z with z | z
      · rw [z]
        exact hx (p + 1, false) (by rw [e]; exact List.mem_append_left _ (pd_ns_self p m))
      · exact hx x (List.mem_of_mem_drop z)
  · obtain ⟨rfl, rfl, rfl⟩ := pi_89 R rfl
    obtain ⟨q, qk⟩ := R.2.2.2.1.2.2.2.2 rfl
    obtain ⟨ci, cx, D'⟩ := dk_val (b := (p + 1, fl.headD false)) (fl' := fl.drop 1) D (by simp [d1])
    have d2 := D.2.1
    refine ⟨dp_89 (by omega) hl q qk (by omega) (by rw [d1, d2]; exact ci) cx, ?_, fun x z => ?_⟩
    · unfold dd_bs dd_fl dd_V
      simp
      simpa using D'
    · unfold dd_bs at z
      simp at z
      rcases z with z | z
      · rw [z]; exact hpa rfl
      · exact hx x z
theorem pd_turn {s p : Nat} (hK : ∀ i, c ≤ i → K i = 99) (hm : ∀ q, mq q = pm_nq K 24 (q + 3) - (q + 1)) (hpa : s = 89 → p + 1 < a) (ht : pm_turn K s p a = (a', some (l, w))) (hx : ∀ x, x ∈ bs → x.1 < a) (D : di_I h el fs bs fl V) (ok : pd_ok K mq c ((s, p) :: ss) h el fs) : pd_Q K N mq Dc c a' l w ss bs fl V := by
  obtain ⟨h', el', fs', R, ok⟩ := ok
  unfold pm_turn at ht
  by_cases s0 : 80 ≤ s
  · rw [if_pos s0] at ht
    simp at ht
    obtain ⟨rfl, rfl, rfl⟩ := ht
    exact pd_step_ok s0 (hpa) R hx D ok
  have hl := di_len D
  have d1 := D.1
  have r1 := R.1
  have r2 := R.2.1
  rw [if_neg s0] at ht
  by_cases s1 : s < 38
  · rw [if_pos s1] at ht
    obtain ⟨rfl, rfl, rfl⟩ := pi_38 R s1
    by_cases k : K a = s
    · rw [if_pos k] at ht
      simp at ht
      obtain ⟨rfl, rfl, rfl⟩ := ht
      exact ⟨_, _, _, ok, Or.inl ⟨rfl, D, fun x q => by have := hx x q; omega⟩⟩
    · rw [if_neg k] at ht
      simp at ht
  rw [if_neg s1] at ht
  have s2 := pd_s40 R.2.2.1 s0 s1
  rcases s2 with rfl | rfl | rfl | rfl | rfl | rfl | rfl | rfl | rfl | rfl | rfl
  · obtain ⟨rfl, rfl, rfl⟩ := pi_40 R rfl
    simp at ht
    exact pd_decl_ok hK hm ht hx D r1 r2 ok
  · obtain ⟨rfl, rfl, rfl⟩ := pi_42 R (Or.inl rfl)
    simp at ht
    exact pd_expr_ok hK ht hx D r1 r2 ok
  · obtain ⟨q, rfl, rfl, rfl⟩ := pi_44 R (by decide)
    simp at ht
    by_cases k : K a = 17
    · rw [if_pos k] at ht
      have qa := pm_lt hK k (by decide)
      simp at ht
      obtain ⟨rfl, rfl, rfl⟩ := ht
      exact ⟨_, _, _, ⟨_, _, _, pd_42 (by omega) r2, _, _, _, pd_38 (by omega) (by omega) r2, _, _, _, pd_83 qa (by omega) (by omega) r2, ok⟩, Or.inl ⟨rfl, D, fun x q => by have := hx x q; omega⟩⟩
    · rw [if_neg k] at ht
      by_cases k2 : K a = 16
      · rw [if_pos k2] at ht
        simp at ht
        obtain ⟨rfl, rfl, rfl⟩ := ht
        exact ⟨_, _, _, ok, Or.inl ⟨rfl, D, fun x q => by have := hx x q; omega⟩⟩
      · rw [if_neg k2] at ht
        simp at ht
  · obtain ⟨q, rfl, rfl, rfl⟩ := pi_46 R rfl
    simp at ht
    by_cases k : K a = 10
    · rw [if_pos k] at ht
      simp at ht
      obtain ⟨rfl, rfl, rfl⟩ := ht
      rw [List.length_cons] at q
      exact ⟨_, _, _, ⟨_, _, _, pd_42 r1 r2, _, _, _, pd_47 (R.2.2.2.1.1 (by decide)) (by omega) (by omega), ok⟩, Or.inl ⟨rfl, D, fun x q => by have := hx x q; omega⟩⟩
    · rw [if_neg k] at ht
      simp at ht
  · obtain ⟨q, q2, rfl, rfl, rfl⟩ := pi_47 R rfl
    simp at ht
    by_cases k : K a = 11
    · rw [if_pos k] at ht
      simp at ht
      obtain ⟨rfl, rfl, rfl⟩ := ht
      rw [List.length_cons] at q2
      obtain ⟨b, bs0, e, D'⟩ := dk_let (fl' := false :: fl.drop 1) D r1 (by omega) (by simp [d1]; omega)
      have pc := R.2.2.2.1.1 (by decide)
      refine ⟨_, _, _, ok, Or.inr ⟨90, p, rfl, dp_90 pc hl (by omega) (by rw [e]; exact List.cons_ne_nil _ _), ?_, fun x z => by have := hx x (List.mem_of_mem_drop z); omega⟩⟩
      · unfold dd_bs dd_fl dd_V
        simp [e] at D' ⊢
        exact D'
    · rw [if_neg k] at ht
      simp at ht
  · obtain ⟨q, rfl, rfl, rfl⟩ := pi_44 R (by decide)
    simp at ht
    by_cases k : K a = 25
    · rw [if_pos k] at ht
      have qa := pm_lt hK k (by decide)
      simp at ht
      obtain ⟨rfl, rfl, rfl⟩ := ht
      exact ⟨_, _, _, pd_e6 (by omega) r2 ⟨_, _, _, pd_83 qa (by omega) (by omega) r2, ok⟩, Or.inl ⟨rfl, D, fun x q => by have := hx x q; omega⟩⟩
    · rw [if_neg k] at ht
      simp at ht
      obtain ⟨rfl, rfl, rfl⟩ := ht
      exact ⟨_, _, _, ok, Or.inl ⟨rfl, D, fun x q => by have := hx x q; omega⟩⟩
  · obtain ⟨q, rfl, rfl, rfl⟩ := pi_44 R (by decide)
    simp at ht
    by_cases k : K a = 18
    · rw [if_pos k] at ht
      have qa := pm_lt hK k (by decide)
      simp at ht
      obtain ⟨rfl, rfl, rfl⟩ := ht
      exact ⟨_, _, _, ⟨_, _, _, pd_55 (by omega) r2, _, _, _, pd_44 (by omega) (by omega) r2, _, _, _, pd_44 (by omega) (by omega) r2, _, _, _, pd_44 (by omega) (by omega) r2, _, _, _, pd_44 (by omega) (by omega) r2, _, _, _, pd_83 qa (by omega) (by omega) r2, ok⟩, Or.inl ⟨rfl, D, fun x q => by have := hx x q; omega⟩⟩
    · rw [if_neg k] at ht
      simp at ht
      obtain ⟨rfl, rfl, rfl⟩ := ht
      exact ⟨_, _, _, ok, Or.inl ⟨rfl, D, fun x q => by have := hx x q; omega⟩⟩
  · obtain ⟨q, rfl, rfl, rfl⟩ := pi_44 R (by decide)
    simp at ht
    by_cases k : K a = 21
    · rw [if_pos k] at ht
      have qa := pm_lt hK k (by decide)
      simp at ht
      obtain ⟨rfl, rfl, rfl⟩ := ht
      exact ⟨_, _, _, ⟨_, _, _, pd_55 (by omega) r2, _, _, _, pd_44 (by omega) (by omega) r2, _, _, _, pd_44 (by omega) (by omega) r2, _, _, _, pd_83 qa (by omega) (by omega) r2, _, _, _, pd_44 (by omega) q r2, ok⟩, Or.inl ⟨rfl, D, fun x q => by have := hx x q; omega⟩⟩
    · rw [if_neg k] at ht
      simp at ht
      obtain ⟨rfl, rfl, rfl⟩ := ht
      exact ⟨_, _, _, ok, Or.inl ⟨rfl, D, fun x q => by have := hx x q; omega⟩⟩
  · obtain ⟨q, rfl, rfl, rfl⟩ := pi_44 R (by decide)
    simp at ht
    by_cases k : K a = 19 ∨ K a = 20
    · rw [if_pos k] at ht
      have qa : a < c := by
        rcases k with k | k
        · exact pm_lt hK k (by decide)
        · exact pm_lt hK k (by decide)
      simp at ht
      obtain ⟨rfl, rfl, rfl⟩ := ht
      exact ⟨_, _, _, ⟨_, _, _, pd_55 (by omega) r2, _, _, _, pd_44 (by omega) (by omega) r2, _, _, _, pd_83 qa (by omega) (by omega) r2, _, _, _, pd_44 (by omega) q r2, ok⟩, Or.inl ⟨rfl, D, fun x q => by have := hx x q; omega⟩⟩
    · rw [if_neg k] at ht
      simp at ht
      obtain ⟨rfl, rfl, rfl⟩ := ht
      exact ⟨_, _, _, ok, Or.inl ⟨rfl, D, fun x q => by have := hx x q; omega⟩⟩
  · obtain ⟨q, rfl, rfl, rfl⟩ := pi_44 R (by decide)
    simp at ht
    exact pd_apl_ok hK ht hx D q r2 ok
  · obtain ⟨rfl, rfl, rfl⟩ := pi_42 R (Or.inr rfl)
    simp at ht
    exact pd_atom_ok hK ht hx D r1 r2 ok
end
end
section
/-! how many nodes a declaration can make: pf b n m bounds them, n made, m the greatest copy, b tokens left -/
def pf : Nat → Nat → Nat → Nat
  | 0, n, _ => n
  | 1, n, m => n + (m + 15)
  | 2, n, m => n + (m + 15) + (m + 15)
  | 3, n, m => n + (m + 15) + (m + 15) + (m + 15)
  | 4, n, m => n + (m + 15) + (m + 15) + (m + 15) + (m + 15)
  | b + 5, n, m => Nat.max (pf (b + 4) (n + (m + 15)) m) (pf b (n + 3) (Nat.max m n))
theorem pf_1 : ∀ b n m, pf b (n + (m + 15)) m ≤ pf (b + 1) n m
  | 0, n, m => Nat.le_refl _
  | 1, n, m => Nat.le_refl _
  | 2, n, m => Nat.le_refl _
  | 3, n, m => Nat.le_refl _
  | b + 4, n, m => by
    show _ ≤ Nat.max _ _
    exact Nat.le_max_left _ _
theorem pf_5 (b n m : Nat) : pf b (n + 3) (Nat.max m n) ≤ pf (b + 5) n m := by
  show _ ≤ Nat.max _ _
  exact Nat.le_max_right _ _
theorem pf_nm : ∀ b n n' m m', n ≤ n' → m ≤ m' → pf b n m ≤ pf b n' m'
  | 0, n, n', m, m', h, _ => h
  | 1, n, n', m, m', h, h' => by unfold pf; omega
  | 2, n, n', m, m', h, h' => by unfold pf; omega
  | 3, n, n', m, m', h, h' => by unfold pf; omega
  | 4, n, n', m, m', h, h' => by unfold pf; omega
  | b + 5, n, n', m, m', h, h' => by
    have a := pf_nm (b + 4) (n + (m + 15)) (n' + (m' + 15)) m m' (by omega) h'
    have mm : Nat.max m n ≤ Nat.max m' n' := by
      refine Nat.max_le.mpr ⟨Nat.le_trans h' (Nat.le_max_left _ _), Nat.le_trans h (Nat.le_max_right _ _)⟩
    have c := pf_nm b (n + 3) (n' + 3) (Nat.max m n) (Nat.max m' n') (by omega) mm
    show Nat.max _ _ ≤ Nat.max _ _
    exact Nat.max_le.mpr ⟨Nat.le_trans a (Nat.le_max_left _ _), Nat.le_trans c (Nat.le_max_right _ _)⟩
theorem pf_b (b n m : Nat) : pf b n m ≤ pf (b + 1) n m := Nat.le_trans (pf_nm b n (n + (m + 15)) m m (by omega) (Nat.le_refl _)) (pf_1 b n m)
theorem pf_bb {b b' : Nat} (n m : Nat) (h : b ≤ b') : pf b n m ≤ pf b' n m := by
  induction b' with
  | zero => have : b = 0 := by omega
            subst this; exact Nat.le_refl _
  | succ b' ih =>
    by_cases e : b = b' + 1
    · rw [e]; exact Nat.le_refl _
    · exact Nat.le_trans (ih (by omega)) (pf_b b' n m)
theorem pf_n (b n m : Nat) : n ≤ pf b n m := pf_bb (b := 0) n m (by omega)
/-- k tokens pay for k times m + 15 nodes -/
theorem pf_k : ∀ k b n m, pf b (n + k * (m + 15)) m ≤ pf (b + k) n m := by
  intro k
  induction k with
  | zero => intro b n m; simp
  | succ k ih =>
    intro b n m
    have a := pf_1 (b + k) n m
    have c := ih b (n + (m + 15)) m
    have e : n + (k + 1) * (m + 15) = n + (m + 15) + k * (m + 15) := by rw [Nat.succ_mul]; omega
    rw [e]
    exact Nat.le_trans c a
/-- the numbers that the steps lead to: nodes made, the greatest copy, the last declaration's nodes -/
def cr_c (K mq : Nat → Nat) (m s p : Nat) : Nat :=
  if s = 80 then (if K p = 3 then m + 12 else 5) else if s = 81 then 1 else if s = 82 then 3 else if s = 83 then 3 else if s = 84 then 2 else if s = 85 then 1 else if s = 86 then 1 else if s = 87 then mq p else if s = 88 then mq p else 0
def cr_1 (K mq : Nat → Nat) (x : Nat × Nat × Nat) (s p : Nat) : Nat × Nat × Nat :=
  (x.1 + cr_c K mq (Nat.max x.2.1 x.2.2) s p, Nat.max x.2.1 x.2.2, if s = 88 ∨ s = 89 then x.1 + cr_c K mq (Nat.max x.2.1 x.2.2) s p else 0)
/-- what the symbols that wait will cost of themselves -/
def cq_w (mq : Nat → Nat) (s p : Nat) : Nat := if s = 82 then 3 else if s = 83 then 3 else if s = 84 then 2 else if s = 86 then 1 else if s = 88 then mq p else 0
def cq_h (ss : pm_L) : Nat := match ss with
  | [] => 0
  | x :: _ => if x.1 = 82 then 3 else 0
/-- an application is paid with its argument's first token, that of a let with its in -/
def cq_p (mq : Nat → Nat) : pm_L → Nat
  | [] => 0
  | x :: ss => (if x.1 = 46 then 0 else cq_h ss) + (if x.1 = 82 then 0 else cq_w mq x.1 x.2) + cq_p mq ss
def cq_46 : pm_L → Nat
  | [] => 0
  | x :: ss => (if x.1 = 46 then 1 else 0) + cq_46 ss
def cq_40 (ss : pm_L) : Nat := match ss with
  | [] => 0
  | x :: _ => if x.1 = 40 then 3 else 0
def cq_m (ss : pm_L) (x : Nat × Nat × Nat) : Nat := match ss with
  | [] => x.2.1
  | y :: _ => if y.1 = 46 then x.2.1 else Nat.max x.2.1 x.2.2
/-- behind a declaration comes a let's in, or nothing; and a declaration that hasn't begun stands first -/
def cq_adj : pm_L → Prop
  | [] => True
  | x :: ss => (x.1 = 40 ∨ x.1 = 88 ∨ x.1 = 89 → ss = [] ∨ ∃ q r, ss = (46, q) :: r) ∧ (∀ y, y ∈ ss → y.1 ≠ 40) ∧ cq_adj ss
def cq_I (mq : Nat → Nat) (c : Nat) (ss : pm_L) (a : Nat) (x : Nat × Nat × Nat) : Prop :=
  pf ((c - a) + 4 * cq_46 ss - cq_40 ss) (x.1 + (cq_h ss + cq_p mq ss)) (cq_m ss x) ≤ 1503 ∧ x.2.2 ≤ x.1 ∧ cq_adj ss
theorem cq_46_c (y : Nat × Nat) (ss : pm_L) : cq_46 (y :: ss) = (if y.1 = 46 then 1 else 0) + cq_46 ss := rfl
theorem cq_40_c (y : Nat × Nat) (ss : pm_L) : cq_40 (y :: ss) = if y.1 = 40 then 3 else 0 := rfl
theorem cq_h_c (y : Nat × Nat) (ss : pm_L) : cq_h (y :: ss) = if y.1 = 82 then 3 else 0 := rfl
theorem cq_p_c (mq : Nat → Nat) (y : Nat × Nat) (ss : pm_L) : cq_p mq (y :: ss) = (if y.1 = 46 then 0 else cq_h ss) + (if y.1 = 82 then 0 else cq_w mq y.1 y.2) + cq_p mq ss := rfl
theorem cq_le {b b' n n' m m' k : Nat} (hb : b' + k ≤ b) (hn : n' ≤ n + k * (m + 15)) (hm : m' ≤ m) : pf b' n' m' ≤ pf b n m :=
  Nat.le_trans (pf_nm b' n' (n + k * (m + 15)) m' m hn hm) (Nat.le_trans (pf_k k b' n m) (pf_bb n m hb))
theorem cq_m_le (ss : pm_L) (x : Nat × Nat × Nat) : cq_m ss x ≤ Nat.max x.2.1 x.2.2 := by
  unfold cq_m
  cases ss with
  | nil => exact Nat.le_max_left _ _
  | cons y ss =>
    by_cases c : y.1 = 46
    · simp only [c, if_true]; exact Nat.le_max_left _ _
    · simp only [c, if_false]; exact Nat.le_refl _
theorem cq_h_le (ss : pm_L) : cq_h ss ≤ 3 := by
  unfold cq_h
  cases ss with
  | nil => exact Nat.zero_le _
  | cons y ss =>
    by_cases c : y.1 = 82
    · simp only [c, if_true]; exact Nat.le_refl _
    · simp only [c, if_false]; exact Nat.zero_le _
theorem cq_40_0 {ss : pm_L} (h : ∀ y, y ∈ ss → y.1 ≠ 40) : cq_40 ss = 0 := by
  unfold cq_40
  cases ss with
  | nil => rfl
  | cons y ss => simp only [h y List.mem_cons_self, if_false]
section
variable {K mq : Nat → Nat} {c a a' s p : Nat} {l w ss : pm_L} {x : Nat × Nat × Nat}
/-- a turn that writes nothing and whose head is no let's in -/
theorem cq_step {k : Nat} (C : cq_I mq c ((s, p) :: ss) a x) (hs : s ≠ 46) (ha : a' ≤ c) (haa : a ≤ a') (hd : cq_adj (l ++ ss))
    (hb : (c - a') + 4 * cq_46 (l ++ ss) - cq_40 (l ++ ss) + k ≤ (c - a) + 4 * cq_46 ((s, p) :: ss) - cq_40 ((s, p) :: ss))
    (hn : cq_h (l ++ ss) + cq_p mq (l ++ ss) ≤ cq_h ((s, p) :: ss) + cq_p mq ((s, p) :: ss) + k * 15) : cq_I mq c (l ++ ss) a' x := by
  obtain ⟨c1, c2, c3⟩ := C
  refine ⟨Nat.le_trans (cq_le (k := k) hb ?_ ?_) c1, c2, hd⟩
  · have : k * 15 ≤ k * (cq_m ((s, p) :: ss) x + 15) := Nat.mul_le_mul_left k (by omega)
    omega
  · have e : cq_m ((s, p) :: ss) x = Nat.max x.2.1 x.2.2 := by
      unfold cq_m
      simp only [hs, if_false]
    rw [e]; exact cq_m_le _ _
/-- a turn that writes one step, no declaration's end -/
theorem cq_emit {k s' p' : Nat} (C : cq_I mq c ((s, p) :: ss) a x) (hs : s ≠ 46) (hs' : s' ≠ 88 ∧ s' ≠ 89) (hd : cq_adj (l ++ ss))
    (hb : (c - a') + 4 * cq_46 (l ++ ss) - cq_40 (l ++ ss) + k ≤ (c - a) + 4 * cq_46 ((s, p) :: ss) - cq_40 ((s, p) :: ss))
    (hn : cr_c K mq (Nat.max x.2.1 x.2.2) s' p' + (cq_h (l ++ ss) + cq_p mq (l ++ ss)) ≤ cq_h ((s, p) :: ss) + cq_p mq ((s, p) :: ss) + k * (Nat.max x.2.1 x.2.2 + 15)) : cq_I mq c (l ++ ss) a' (cr_1 K mq x s' p') := by
  obtain ⟨c1, c2, c3⟩ := C
  have e : cq_m ((s, p) :: ss) x = Nat.max x.2.1 x.2.2 := by
    unfold cq_m
    simp only [hs, if_false]
  have q0 : (cr_1 K mq x s' p').2.2 = 0 := by
    unfold cr_1
    simp only [hs'.1, hs'.2, or_self, if_false]
  refine ⟨Nat.le_trans (cq_le (k := k) hb ?_ ?_) c1, by rw [q0]; exact Nat.zero_le _, hd⟩
  · rw [e]
    show x.1 + cr_c K mq (Nat.max x.2.1 x.2.2) s' p' + _ ≤ _
    omega
  · refine Nat.le_trans (cq_m_le _ _) ?_
    rw [q0, e]
    exact Nat.max_le.mpr ⟨Nat.le_refl _, Nat.zero_le _⟩
/-- the end of a declaration is written -/
theorem cq_end {k s' p' : Nat} (C : cq_I mq c ((s', p') :: ss) a x) (hs' : s' = 88 ∨ s' = 89) : cq_I mq c ss a (cr_1 K mq x s' p') := by
  obtain ⟨c1, c2, c3, c4, c5⟩ := C
  have e : cq_m ((s', p') :: ss) x = Nat.max x.2.1 x.2.2 := by
    unfold cq_m
    rcases hs' with h | h
    · simp only [h]; rfl
    · simp only [h]; rfl
  have nx := c3 (by omega)
  have h0 : cq_h ss = 0 := by
    rcases nx with z | ⟨q, r, z⟩
    · rw [z]; rfl
    · rw [z]; rfl
  have m0 : cq_m ss (cr_1 K mq x s' p') = Nat.max x.2.1 x.2.2 := by
    rcases nx with z | ⟨q, r, z⟩
    · rw [z]; rfl
    · rw [z]; rfl
  have z40 : cq_40 ss = 0 := cq_40_0 c4
  refine ⟨?_, ?_, c5⟩
  · refine Nat.le_trans ?_ c1
    rw [m0, e]
    refine cq_le (k := 0) ?_ ?_ (Nat.le_refl _)
    · rw [z40, cq_46_c, cq_40_c]
      rcases hs' with h | h
      · simp [h]
      · simp [h]
    · rw [h0]
      show x.1 + cr_c K mq (Nat.max x.2.1 x.2.2) s' p' + _ ≤ _
      rw [cq_p_c, cq_h_c, h0]
      rcases hs' with h | h
      · simp [h, cr_c, cq_w]; omega
      · simp [h, cr_c, cq_w]
  · unfold cr_1
    simp only [hs', if_true]
    exact Nat.le_refl _
/-- a let's in -/
theorem cq_in (C : cq_I mq c ((46, p) :: ss) a x) (ha : a < c) (hd : cq_adj ((42, 0) :: (47, p) :: ss)) : cq_I mq c ((42, 0) :: (47, p) :: ss) (a + 1) x := by
  obtain ⟨c1, c2, c3, c4, c5⟩ := C
  have z40 : cq_40 ss = 0 := cq_40_0 c4
  have h3 := cq_h_le ss
  refine ⟨Nat.le_trans ?_ c1, c2, hd⟩
  have e1 : cq_m ((46, p) :: ss) x = x.2.1 := rfl
  have e2 : cq_m ((42, 0) :: (47, p) :: ss) x = Nat.max x.2.1 x.2.2 := rfl
  have e3 : cq_46 ((46, p) :: ss) = 1 + cq_46 ss := rfl
  have e4 : cq_46 ((42, 0) :: (47, p) :: ss) = cq_46 ss := by simp [cq_46_c]
  have e5 : cq_40 ((46, p) :: ss) = 0 := rfl
  have e6 : cq_40 ((42, 0) :: (47, p) :: ss) = 0 := rfl
  have e7 : cq_h ((46, p) :: ss) + cq_p mq ((46, p) :: ss) = cq_p mq ss := by simp [cq_p_c, cq_h_c, cq_w]
  have e8 : cq_h ((42, 0) :: (47, p) :: ss) + cq_p mq ((42, 0) :: (47, p) :: ss) = cq_h ss + cq_p mq ss := by
    simp [cq_p_c, cq_h_c, cq_w]
  rw [e1, e2, e3, e4, e5, e6, e7, e8]
  have q := pf_5 ((c - (a + 1)) + 4 * cq_46 ss - 0) (x.1 + cq_p mq ss) x.2.1
  have bb : (c - (a + 1)) + 4 * cq_46 ss - 0 + 5 = (c - a) + 4 * (1 + cq_46 ss) - 0 := by omega
  rw [bb] at q
  refine Nat.le_trans (pf_nm _ _ _ _ _ (by omega) ?_) q
  exact Nat.max_le.mpr ⟨Nat.le_max_left _ _, Nat.le_trans (by omega) (Nat.le_max_right _ _)⟩
end
end
section
/-! what a turn costs -/
def cq_ad (ss : pm_L) : Prop := (∀ y, y ∈ ss → y.1 ≠ 40) ∧ cq_adj ss
theorem cq_ad_c {x : Nat × Nat} {ss : pm_L} (h1 : x.1 ≠ 40) (h2 : x.1 ≠ 88) (h3 : x.1 ≠ 89) (h : cq_ad ss) : cq_ad (x :: ss) := by
  refine ⟨fun y hy => ?_, fun z => ?_, h.1, h.2⟩
  · rcases List.mem_cons.mp hy with z | z
    · rw [z]; exact h1
    · exact h.1 y z
  · omega
theorem cq_ad_d {s p : Nat} {ss : pm_L} (hs : s = 88 ∨ s = 89) (h : ss = [] ∨ ∃ q r, ss = (46, q) :: r) (h' : cq_ad ss) : cq_ad ((s, p) :: ss) := by
  refine ⟨fun y hy => ?_, fun _ => h, h'.1, h'.2⟩
  rcases List.mem_cons.mp hy with z | z
  · rw [z]; show s ≠ 40; omega
  · exact h'.1 y z
section
variable {K mq : Nat → Nat} {c a a' s p : Nat} {l w ss : pm_L} {x : Nat × Nat × Nat}
def cq_Q (K mq : Nat → Nat) (c a' : Nat) (l w ss : pm_L) (x : Nat × Nat × Nat) : Prop := (w = [] ∧ cq_I mq c (l ++ ss) a' x) ∨ ∃ s' p', w = [(s', p')] ∧ cq_I mq c (l ++ ss) a' (cr_1 K mq x s' p')
theorem cq_ss (C : cq_I mq c ((s, p) :: ss) a x) : cq_ad ss := ⟨C.2.2.2.1, C.2.2.2.2⟩
theorem cq_nx (C : cq_I mq c ((s, p) :: ss) a x) : (s = 40 ∨ s = 88 ∨ s = 89 → ss = [] ∨ ∃ q r, ss = (46, q) :: r) := C.2.2.1
theorem cq_atom (hK : ∀ i, c ≤ i → K i = 99) (hs : s = 55) (ht : pm_atom K a = (a', some (l, w))) (C : cq_I mq c ((s, p) :: ss) a x) (h82 : cq_h ss = 0) : cq_Q K mq c a' l w ss x := by
  subst hs
  have z40 : cq_40 ss = 0 := cq_40_0 (cq_ss C).1
  unfold pm_atom at ht
  by_cases c1 : pm_alone (K a) = true
  · rw [if_pos c1] at ht
    have q := pm_alone_lt hK c1
    simp at ht
    obtain ⟨rfl, rfl, rfl⟩ := ht
    refine Or.inr ⟨80, a, rfl, cq_emit (k := 1) C (by decide) (by decide) (cq_ss C).2 (by simp [cq_46_c, cq_40_c, cq_h_c, cq_p_c, cq_w, cr_c, z40] <;> omega) (by by_cases k3 : K a = 3 <;> simp [cq_46_c, cq_40_c, cq_h_c, cq_p_c, cq_w, cr_c, k3] <;> omega)⟩
  · rw [if_neg c1] at ht
    by_cases c2 : K a = 15
    · rw [if_pos c2] at ht
      have q := pm_lt hK c2 (by decide)
      by_cases c3 : K (a + 1) = 16
      · rw [if_pos c3] at ht
        have q := pm_lt hK c3 (by decide)
        simp at ht
        obtain ⟨rfl, rfl, rfl⟩ := ht
        exact Or.inr ⟨81, a + 1, rfl, cq_emit (k := 2) C (by decide) (by decide) (cq_ss C).2 (by simp [cq_46_c, cq_40_c, cq_h_c, cq_p_c, cq_w, cr_c, z40] <;> omega) (by simp [cq_46_c, cq_40_c, cq_h_c, cq_p_c, cq_w, cr_c] <;> omega)⟩
      · rw [if_neg c3] at ht
        simp at ht
        obtain ⟨rfl, rfl, rfl⟩ := ht
        exact Or.inl ⟨rfl, cq_step (k := 1) C (by decide) (by omega) (by omega) (cq_ad_c (by simp) (by simp) (by simp) (cq_ad_c (by simp) (by simp) (by simp) (cq_ss C))).2 (by simp [cq_46_c, cq_40_c, cq_h_c, cq_p_c, cq_w, cr_c, z40] <;> omega) (by simp [cq_46_c, cq_40_c, cq_h_c, cq_p_c, cq_w, cr_c] <;> omega)⟩
    · rw [if_neg c2] at ht
      by_cases c3 : K a = 6
      · rw [if_pos c3] at ht
        have q := pm_lt hK c3 (by decide)
        simp at ht
        obtain ⟨rfl, rfl, rfl⟩ := ht
        refine Or.inl ⟨rfl, cq_step (k := 0) C (by decide) (by omega) (by omega) ?_ (by simp [cq_46_c, cq_40_c, cq_h_c, cq_p_c, cq_w, cr_c] <;> omega) (by simp [cq_46_c, cq_40_c, cq_h_c, cq_p_c, cq_w, cr_c, h82] <;> omega)⟩
        have q2 := cq_ad_c (x := (46, a)) (by simp) (by simp) (by simp) (cq_ss C)
        exact ⟨fun _ => Or.inr ⟨a, ss, rfl⟩, q2.1, q2.2⟩
      · rw [if_neg c3] at ht
        simp at ht
theorem cq_apl (hK : ∀ i, c ≤ i → K i = 99) (hs : s = 54) (ht : pm_apl K a = (a', some (l, w))) (ha : a ≤ c) (C : cq_I mq c ((s, p) :: ss) a x) : cq_Q K mq c a' l w ss x := by
  subst hs
  have z40 : cq_40 ss = 0 := cq_40_0 (cq_ss C).1
  unfold pm_apl at ht
  cases e : (pm_atom K a).2 with
  | none =>
    rw [e] at ht
    simp at ht
    obtain ⟨rfl, rfl, rfl⟩ := ht
    exact Or.inl ⟨rfl, cq_step (k := 0) (l := []) C (by decide) ha (Nat.le_refl _) (cq_ss C).2 (by simp [cq_46_c, cq_40_c, cq_h_c, cq_p_c, cq_w, cr_c, z40]) (by simp [cq_46_c, cq_40_c, cq_h_c, cq_p_c, cq_w, cr_c])⟩
  | some y =>
    obtain ⟨l0, w0⟩ := y
    rw [e] at ht
    simp at ht
    obtain ⟨e1, e2, e3⟩ := ht
    have q8 := cq_ad_c (x := (82, a)) (by simp) (by simp) (by simp) (cq_ad_c (x := (54, 0)) (by simp) (by simp) (by simp) (cq_ss C))
    unfold pm_atom at e e1
    by_cases c1 : pm_alone (K a) = true
    · rw [if_pos c1] at e e1
      have q := pm_alone_lt hK c1
      simp at e e1
      obtain ⟨rfl, rfl⟩ := e
      subst e1 e2 e3
      exact Or.inr ⟨80, a, rfl, cq_emit (k := 1) (l := [(82, a), (54, 0)]) C (by decide) (by decide) q8.2 (by simp [cq_46_c, cq_40_c, cq_h_c, cq_p_c, cq_w, cr_c] <;> omega) (by by_cases k3 : K a = 3 <;> simp [cq_46_c, cq_40_c, cq_h_c, cq_p_c, cq_w, cr_c, k3] <;> omega)⟩
    · rw [if_neg c1] at e e1
      by_cases c2 : K a = 15
      · rw [if_pos c2] at e e1
        have q := pm_lt hK c2 (by decide)
        by_cases c3 : K (a + 1) = 16
        · rw [if_pos c3] at e e1
          have q := pm_lt hK c3 (by decide)
          simp at e e1
          obtain ⟨rfl, rfl⟩ := e
          subst e1 e2 e3
          exact Or.inr ⟨81, a + 1, rfl, cq_emit (k := 2) (l := [(82, a), (54, 0)]) C (by decide) (by decide) q8.2 (by simp [cq_46_c, cq_40_c, cq_h_c, cq_p_c, cq_w, cr_c] <;> omega) (by simp [cq_46_c, cq_40_c, cq_h_c, cq_p_c, cq_w, cr_c] <;> omega)⟩
        · rw [if_neg c3] at e e1
          simp at e e1
          obtain ⟨rfl, rfl⟩ := e
          subst e1 e2 e3
          exact Or.inl ⟨rfl, cq_step (k := 1) (l := [(42, 0), (44, 0), (82, a), (54, 0)]) C (by decide) (by omega) (by omega) (cq_ad_c (by simp) (by simp) (by simp) (cq_ad_c (x := (44, 0)) (by simp) (by simp) (by simp) q8)).2 (by simp [cq_46_c, cq_40_c, cq_h_c, cq_p_c, cq_w, cr_c] <;> omega) (by simp [cq_46_c, cq_40_c, cq_h_c, cq_p_c, cq_w, cr_c] <;> omega)⟩
      · rw [if_neg c2] at e e1
        by_cases c3 : K a = 6
        · rw [if_pos c3] at e e1
          have q := pm_lt hK c3 (by decide)
          simp at e e1
          obtain ⟨rfl, rfl⟩ := e
          subst e1 e2 e3
          refine Or.inl ⟨rfl, cq_step (k := 0) (l := [(40, 0), (46, a), (82, a), (54, 0)]) C (by decide) (by omega) (by omega) ?_ (by simp [cq_46_c, cq_40_c, cq_h_c, cq_p_c, cq_w, cr_c] <;> omega) (by simp [cq_46_c, cq_40_c, cq_h_c, cq_p_c, cq_w, cr_c] <;> omega)⟩
          have q2 := cq_ad_c (x := (46, a)) (by simp) (by simp) (by simp) q8
          exact ⟨fun _ => Or.inr ⟨a, _, rfl⟩, q2.1, q2.2⟩
        · rw [if_neg c3] at e e1
          simp at e
theorem cq_decl (hK : ∀ i, c ≤ i → K i = 99) (hm : ∀ q, mq q = pm_nq K 24 (q + 3) - (q + 1)) (hs : s = 40) (ht : pm_decl K a = (a', some (l, w))) (C : cq_I mq c ((s, p) :: ss) a x) : cq_Q K mq c a' l w ss x := by
  subst hs
  have z40 : cq_40 ss = 0 := cq_40_0 (cq_ss C).1
  have nx := cq_nx C (Or.inl rfl)
  have h0 : cq_h ss = 0 := by
    rcases nx with z | ⟨q, r, z⟩
    · rw [z]; rfl
    · rw [z]; rfl
  unfold pm_decl at ht
  by_cases c1 : K a = 7
  · rw [if_pos c1] at ht
    by_cases c2 : K (a + 1) = 3
    · rw [if_pos c2] at ht
      by_cases c3 : K (a + 2) = 9
      · rw [if_pos c3] at ht
        have q := pm_lt hK c3 (by decide)
        simp at ht
        obtain ⟨rfl, rfl, rfl⟩ := ht
        exact Or.inl ⟨rfl, cq_step (k := 0) C (by decide) (by omega) (by omega) (cq_ad_c (by simp) (by simp) (by simp) (cq_ad_d (Or.inr rfl) nx (cq_ss C))).2 (by simp [cq_46_c, cq_40_c, cq_h_c, cq_p_c, cq_w, cr_c] <;> omega) (by simp [cq_46_c, cq_40_c, cq_h_c, cq_p_c, cq_w, cr_c, h0] <;> omega)⟩
      · rw [if_neg c3] at ht
        simp at ht
    · rw [if_neg c2] at ht
      simp at ht
  · rw [if_neg c1] at ht
    by_cases c4 : K a = 8
    · rw [if_pos c4] at ht
      by_cases c5 : K (a + 1) = 3
      · rw [if_pos c5] at ht
        by_cases c6 : K (a + 2) = 3
        · rw [if_pos c6] at ht
          by_cases c7 : K (pm_nq K 24 (a + 3)) = 9
          · rw [if_pos c7] at ht
            have q := pm_lt hK c7 (by decide)
            have g := (pm_nq_ge (K := K) 24 (a + 3)).1
            have em := hm a
            simp at ht
            obtain ⟨rfl, rfl, rfl⟩ := ht
            generalize eq : pm_nq K 24 (a + 3) = r at q g em c7
            refine Or.inr ⟨87, a, rfl, cq_emit (k := mq a - 1) C (by decide) (by decide) (cq_ad_c (by simp) (by simp) (by simp) (cq_ad_d (Or.inl rfl) nx (cq_ss C))).2 (by simp [cq_46_c, cq_40_c, cq_h_c, cq_p_c, cq_w, cr_c] <;> omega) ?_⟩
            have m2 : 2 ≤ mq a := by omega
            have big : (mq a - 1) * 15 ≤ (mq a - 1) * (Nat.max x.2.1 x.2.2 + 15) := Nat.mul_le_mul_left _ (by omega)
            simp [cq_46_c, cq_40_c, cq_h_c, cq_p_c, cq_w, cr_c, h0]
            omega
          · rw [if_neg c7] at ht
            simp at ht
        · rw [if_neg c6] at ht
          simp at ht
      · rw [if_neg c5] at ht
        simp at ht
    · rw [if_neg c4] at ht
      simp at ht
theorem cq_expr (hK : ∀ i, c ≤ i → K i = 99) (ha : a ≤ c) (hs : s = 42) (ht : pm_expr K a = (a', some (l, w))) (C : cq_I mq c ((s, p) :: ss) a x) : cq_Q K mq c a' l w ss x := by
  subst hs
  have z40 : cq_40 ss = 0 := cq_40_0 (cq_ss C).1
  unfold pm_expr at ht
  by_cases c1 : K a = 4
  · rw [if_pos c1] at ht
    by_cases c2 : K (a + 1) = 3
    · rw [if_pos c2] at ht
      by_cases c3 : K (a + 2) = 5
      · rw [if_pos c3] at ht
        have q := pm_lt hK c3 (by decide)
        simp at ht
        obtain ⟨rfl, rfl, rfl⟩ := ht
        exact Or.inr ⟨85, a, rfl, cq_emit (k := 3) C (by decide) (by decide) (cq_ad_c (by simp) (by simp) (by simp) (cq_ad_c (by simp) (by simp) (by simp) (cq_ss C))).2 (by simp [cq_46_c, cq_40_c, cq_h_c, cq_p_c, cq_w, cr_c] <;> omega) (by simp [cq_46_c, cq_40_c, cq_h_c, cq_p_c, cq_w, cr_c] <;> omega)⟩
      · rw [if_neg c3] at ht
        simp at ht
    · rw [if_neg c2] at ht
      simp at ht
  · rw [if_neg c1] at ht
    by_cases c4 : K a = 12
    · rw [if_pos c4] at ht
      have q := pm_lt hK c4 (by decide)
      simp at ht
      obtain ⟨rfl, rfl, rfl⟩ := ht
      exact Or.inl ⟨rfl, cq_step (k := 1) C (by decide) (by omega) (by omega) (cq_ad_c (by simp) (by simp) (by simp) (cq_ad_c (by simp) (by simp) (by simp) (cq_ad_c (by simp) (by simp) (by simp) (cq_ad_c (by simp) (by simp) (by simp) (cq_ad_c (by simp) (by simp) (by simp) (cq_ad_c (by simp) (by simp) (by simp) (cq_ss C))))))).2 (by simp [cq_46_c, cq_40_c, cq_h_c, cq_p_c, cq_w, cr_c] <;> omega) (by simp [cq_46_c, cq_40_c, cq_h_c, cq_p_c, cq_w, cr_c] <;> omega)⟩
    · rw [if_neg c4] at ht
      simp at ht
      obtain ⟨rfl, rfl, rfl⟩ := ht
      exact Or.inl ⟨rfl, cq_step (k := 0) C (by decide) (by omega) (by omega) (cq_ad_c (by simp) (by simp) (by simp) (cq_ad_c (by simp) (by simp) (by simp) (cq_ad_c (by simp) (by simp) (by simp) (cq_ad_c (by simp) (by simp) (by simp) (cq_ad_c (by simp) (by simp) (by simp) (cq_ad_c (by simp) (by simp) (by simp) (cq_ss C))))))).2 (by simp [cq_46_c, cq_40_c, cq_h_c, cq_p_c, cq_w, cr_c] <;> omega) (by simp [cq_46_c, cq_40_c, cq_h_c, cq_p_c, cq_w, cr_c] <;> omega)⟩
theorem cq_turn (hK : ∀ i, c ≤ i → K i = 99) (hm : ∀ q, mq q = pm_nq K 24 (q + 3) - (q + 1)) (ha : a ≤ c) (rs : s < 38 ∨ s = 40 ∨ s = 42 ∨ s = 44 ∨ s = 46 ∨ s = 47 ∨ s = 50 ∨ s = 51 ∨ s = 52 ∨ s = 53 ∨ s = 54 ∨ s = 55 ∨ s = 82 ∨ s = 83 ∨ s = 84 ∨ s = 86 ∨ s = 88 ∨ s = 89) (h55 : s = 55 → cq_h ss = 0) (ht : pm_turn K s p a = (a', some (l, w))) (C : cq_I mq c ((s, p) :: ss) a x) : cq_Q K mq c a' l w ss x := by
  have z40 : cq_40 ss = 0 := cq_40_0 (cq_ss C).1
  unfold pm_turn at ht
  by_cases s0 : 80 ≤ s
  · rw [if_pos s0] at ht
    simp at ht
    obtain ⟨rfl, rfl, rfl⟩ := ht
    refine Or.inr ⟨s, p, rfl, ?_⟩
    have hs' := pd_s80 rs s0
    rcases hs' with rfl | rfl | rfl | rfl | rfl | rfl
    · exact cq_emit (k := 0) (l := []) C (by decide) (by decide) (cq_ss C).2 (by simp [cq_46_c, cq_40_c, cq_h_c, cq_p_c, cq_w, cr_c, z40]) (by simp [cq_46_c, cq_40_c, cq_h_c, cq_p_c, cq_w, cr_c] <;> omega)
    · exact cq_emit (k := 0) (l := []) C (by decide) (by decide) (cq_ss C).2 (by simp [cq_46_c, cq_40_c, cq_h_c, cq_p_c, cq_w, cr_c, z40]) (by simp [cq_46_c, cq_40_c, cq_h_c, cq_p_c, cq_w, cr_c] <;> omega)
    · exact cq_emit (k := 0) (l := []) C (by decide) (by decide) (cq_ss C).2 (by simp [cq_46_c, cq_40_c, cq_h_c, cq_p_c, cq_w, cr_c, z40]) (by simp [cq_46_c, cq_40_c, cq_h_c, cq_p_c, cq_w, cr_c] <;> omega)
    · exact cq_emit (k := 0) (l := []) C (by decide) (by decide) (cq_ss C).2 (by simp [cq_46_c, cq_40_c, cq_h_c, cq_p_c, cq_w, cr_c, z40]) (by simp [cq_46_c, cq_40_c, cq_h_c, cq_p_c, cq_w, cr_c] <;> omega)
    · exact cq_end (k := 0) C (Or.inl rfl)
    · exact cq_end (k := 0) C (Or.inr rfl)
  rw [if_neg s0] at ht
  by_cases s1 : s < 38
  · rw [if_pos s1] at ht
    by_cases k : K a = s
    · rw [if_pos k] at ht
      have q := pm_lt hK k (by omega)
      simp at ht
      obtain ⟨rfl, rfl, rfl⟩ := ht
      have n1 : s ≠ 46 := by omega
      have n2 : s ≠ 40 := by omega
      have n3 : s ≠ 82 := by omega
      have n4 : s ≠ 83 := by omega
      have n5 : s ≠ 84 := by omega
      have n6 : s ≠ 86 := by omega
      have n7 : s ≠ 88 := by omega
      exact Or.inl ⟨rfl, cq_step (k := 0) (l := []) C n1 (by omega) (by omega) (cq_ss C).2 (by simp [cq_46_c, cq_40_c, cq_h_c, cq_p_c, cq_w, cr_c, z40, n1, n2] <;> omega) (by simp [cq_46_c, cq_40_c, cq_h_c, cq_p_c, cq_w, cr_c, n1, n3, n4, n5, n6, n7] <;> omega)⟩
    · rw [if_neg k] at ht
      simp at ht
  rw [if_neg s1] at ht
  have s2 := pd_s40 rs s0 s1
  rcases s2 with rfl | rfl | rfl | rfl | rfl | rfl | rfl | rfl | rfl | rfl | rfl
  · simp at ht
    exact cq_decl hK hm rfl ht C
  · simp at ht
    exact cq_expr hK ha rfl ht C
  · simp at ht
    by_cases k : K a = 17
    · rw [if_pos k] at ht
      have q := pm_lt hK k (by decide)
      simp at ht
      obtain ⟨rfl, rfl, rfl⟩ := ht
      exact Or.inl ⟨rfl, cq_step (k := 1) C (by decide) (by omega) (by omega) (cq_ad_c (by simp) (by simp) (by simp) (cq_ad_c (by simp) (by simp) (by simp) (cq_ad_c (by simp) (by simp) (by simp) (cq_ss C)))).2 (by simp [cq_46_c, cq_40_c, cq_h_c, cq_p_c, cq_w, cr_c] <;> omega) (by simp [cq_46_c, cq_40_c, cq_h_c, cq_p_c, cq_w, cr_c] <;> omega)⟩
    · rw [if_neg k] at ht
      by_cases k2 : K a = 16
      · rw [if_pos k2] at ht
        have q := pm_lt hK k2 (by decide)
        simp at ht
        obtain ⟨rfl, rfl, rfl⟩ := ht
        exact Or.inl ⟨rfl, cq_step (k := 0) (l := []) C (by decide) (by omega) (by omega) (cq_ss C).2 (by simp [cq_46_c, cq_40_c, cq_h_c, cq_p_c, cq_w, cr_c, z40] <;> omega) (by simp [cq_46_c, cq_40_c, cq_h_c, cq_p_c, cq_w, cr_c] <;> omega)⟩
      · rw [if_neg k2] at ht
        simp at ht
  · simp at ht
    by_cases k : K a = 10
    · rw [if_pos k] at ht
      have q := pm_lt hK k (by decide)
      simp at ht
      obtain ⟨rfl, rfl, rfl⟩ := ht
      exact Or.inl ⟨rfl, cq_in C q (cq_ad_c (by simp) (by simp) (by simp) (cq_ad_c (x := (47, p)) (by simp) (by simp) (by simp) (cq_ss C))).2⟩
    · rw [if_neg k] at ht
      simp at ht
  · simp at ht
    by_cases k : K a = 11
    · rw [if_pos k] at ht
      have q := pm_lt hK k (by decide)
      simp at ht
      obtain ⟨rfl, rfl, rfl⟩ := ht
      exact Or.inr ⟨90, p, rfl, cq_emit (k := 0) (l := []) C (by decide) (by decide) (cq_ss C).2 (by simp [cq_46_c, cq_40_c, cq_h_c, cq_p_c, cq_w, cr_c, z40] <;> omega) (by simp [cq_46_c, cq_40_c, cq_h_c, cq_p_c, cq_w, cr_c] <;> omega)⟩
    · rw [if_neg k] at ht
      simp at ht
  · simp at ht
    by_cases k : K a = 25
    · rw [if_pos k] at ht
      have q : a < c := pm_lt hK k (by decide)
      simp at ht
      obtain ⟨rfl, rfl, rfl⟩ := ht
      exact Or.inl ⟨rfl, cq_step (k := 1) C (by decide) (by omega) (by omega) (cq_ad_c (by simp) (by simp) (by simp) (cq_ad_c (by simp) (by simp) (by simp) (cq_ad_c (by simp) (by simp) (by simp) (cq_ad_c (by simp) (by simp) (by simp) (cq_ad_c (by simp) (by simp) (by simp) (cq_ad_c (by simp) (by simp) (by simp) (cq_ad_c (by simp) (by simp) (by simp) (cq_ss C)))))))).2 (by simp [cq_46_c, cq_40_c, cq_h_c, cq_p_c, cq_w, cr_c] <;> omega) (by simp [cq_46_c, cq_40_c, cq_h_c, cq_p_c, cq_w, cr_c] <;> omega)⟩
    · rw [if_neg k] at ht
      simp at ht
      obtain ⟨rfl, rfl, rfl⟩ := ht
      exact Or.inl ⟨rfl, cq_step (k := 0) (l := []) C (by decide) ha (Nat.le_refl _) (cq_ss C).2 (by simp [cq_46_c, cq_40_c, cq_h_c, cq_p_c, cq_w, cr_c, z40]) (by simp [cq_46_c, cq_40_c, cq_h_c, cq_p_c, cq_w, cr_c])⟩
  · simp at ht
    by_cases k : K a = 18
    · rw [if_pos k] at ht
      have q : a < c := pm_lt hK k (by decide)
      simp at ht
      obtain ⟨rfl, rfl, rfl⟩ := ht
      exact Or.inl ⟨rfl, cq_step (k := 1) C (by decide) (by omega) (by omega) (cq_ad_c (by simp) (by simp) (by simp) (cq_ad_c (by simp) (by simp) (by simp) (cq_ad_c (by simp) (by simp) (by simp) (cq_ad_c (by simp) (by simp) (by simp) (cq_ad_c (by simp) (by simp) (by simp) (cq_ad_c (by simp) (by simp) (by simp) (cq_ss C))))))).2 (by simp [cq_46_c, cq_40_c, cq_h_c, cq_p_c, cq_w, cr_c] <;> omega) (by simp [cq_46_c, cq_40_c, cq_h_c, cq_p_c, cq_w, cr_c] <;> omega)⟩
    · rw [if_neg k] at ht
      simp at ht
      obtain ⟨rfl, rfl, rfl⟩ := ht
      exact Or.inl ⟨rfl, cq_step (k := 0) (l := []) C (by decide) ha (Nat.le_refl _) (cq_ss C).2 (by simp [cq_46_c, cq_40_c, cq_h_c, cq_p_c, cq_w, cr_c, z40]) (by simp [cq_46_c, cq_40_c, cq_h_c, cq_p_c, cq_w, cr_c])⟩
  · simp at ht
    by_cases k : K a = 21
    · rw [if_pos k] at ht
      have q : a < c := pm_lt hK k (by decide)
      simp at ht
      obtain ⟨rfl, rfl, rfl⟩ := ht
      exact Or.inl ⟨rfl, cq_step (k := 1) C (by decide) (by omega) (by omega) (cq_ad_c (by simp) (by simp) (by simp) (cq_ad_c (by simp) (by simp) (by simp) (cq_ad_c (by simp) (by simp) (by simp) (cq_ad_c (by simp) (by simp) (by simp) (cq_ad_c (by simp) (by simp) (by simp) (cq_ss C)))))).2 (by simp [cq_46_c, cq_40_c, cq_h_c, cq_p_c, cq_w, cr_c] <;> omega) (by simp [cq_46_c, cq_40_c, cq_h_c, cq_p_c, cq_w, cr_c] <;> omega)⟩
    · rw [if_neg k] at ht
      simp at ht
      obtain ⟨rfl, rfl, rfl⟩ := ht
      exact Or.inl ⟨rfl, cq_step (k := 0) (l := []) C (by decide) ha (Nat.le_refl _) (cq_ss C).2 (by simp [cq_46_c, cq_40_c, cq_h_c, cq_p_c, cq_w, cr_c, z40]) (by simp [cq_46_c, cq_40_c, cq_h_c, cq_p_c, cq_w, cr_c])⟩
  · simp at ht
    by_cases k : K a = 19 ∨ K a = 20
    · rw [if_pos k] at ht
      have q : a < c := pm_lt2 hK k (by decide) (by decide)
      simp at ht
      obtain ⟨rfl, rfl, rfl⟩ := ht
      exact Or.inl ⟨rfl, cq_step (k := 1) C (by decide) (by omega) (by omega) (cq_ad_c (by simp) (by simp) (by simp) (cq_ad_c (by simp) (by simp) (by simp) (cq_ad_c (by simp) (by simp) (by simp) (cq_ad_c (by simp) (by simp) (by simp) (cq_ss C))))).2 (by simp [cq_46_c, cq_40_c, cq_h_c, cq_p_c, cq_w, cr_c] <;> omega) (by simp [cq_46_c, cq_40_c, cq_h_c, cq_p_c, cq_w, cr_c] <;> omega)⟩
    · rw [if_neg k] at ht
      simp at ht
      obtain ⟨rfl, rfl, rfl⟩ := ht
      exact Or.inl ⟨rfl, cq_step (k := 0) (l := []) C (by decide) ha (Nat.le_refl _) (cq_ss C).2 (by simp [cq_46_c, cq_40_c, cq_h_c, cq_p_c, cq_w, cr_c, z40]) (by simp [cq_46_c, cq_40_c, cq_h_c, cq_p_c, cq_w, cr_c])⟩
  · simp at ht
    exact cq_apl hK rfl ht ha C
  · simp at ht
    exact cq_atom hK rfl ht C (h55 rfl)
end
end
section
/-! what stands behind an atom, and where a val's name is -/
def pm_nb (a : Nat) : pm_L → Prop
  | [] => True
  | x :: ss => (x.1 = 55 → ∃ q r, ss = (54, q) :: r) ∧ (x.1 = 89 → x.2 + 1 < a) ∧ pm_nb a ss
theorem pm_nb_m {a a' : Nat} (h : a ≤ a') : ∀ ss, pm_nb a ss → pm_nb a' ss := by
  intro ss
  induction ss with
  | nil => intro _; trivial
  | cons x ss ih => intro q; exact ⟨q.1, fun z => by have := q.2.1 z; omega, ih q.2.2⟩
theorem pm_nb_c {a : Nat} {x : Nat × Nat} {ss : pm_L} (h1 : x.1 ≠ 55) (h2 : x.1 ≠ 89) (h : pm_nb a ss) : pm_nb a (x :: ss) := ⟨fun z => (h1 z).elim, fun z => (h2 z).elim, h⟩
theorem pm_nb_5 {a q : Nat} {x : Nat × Nat} {ss : pm_L} (h2 : x.1 ≠ 89) (h : pm_nb a ((54, q) :: ss)) : pm_nb a (x :: (54, q) :: ss) := ⟨fun _ => ⟨q, ss, rfl⟩, fun z => (h2 z).elim, h⟩
section
variable {K : Nat → Nat} {c a a' s p : Nat} {l w ss : pm_L}
theorem pm_nb_atom (hb : pm_nb a ss) (h : pm_atom K a = (a', some (l, w))) : pm_nb a' (l ++ ss) := by
  unfold pm_atom at h
  by_cases c1 : pm_alone (K a) = true
  · rw [if_pos c1] at h
    simp at h
    obtain ⟨rfl, rfl, rfl⟩ := h
    exact (pm_nb_m (by omega) ss hb)
  · rw [if_neg c1] at h
    by_cases c2 : K a = 15
    · rw [if_pos c2] at h
      by_cases c3 : K (a + 1) = 16
      · rw [if_pos c3] at h
        simp at h
        obtain ⟨rfl, rfl, rfl⟩ := h
        exact (pm_nb_m (by omega) ss hb)
      · rw [if_neg c3] at h
        simp at h
        obtain ⟨rfl, rfl, rfl⟩ := h
        exact (pm_nb_c (by simp) (by simp) (pm_nb_c (by simp) (by simp) (pm_nb_m (by omega) ss hb)))
    · rw [if_neg c2] at h
      by_cases c4 : K a = 6
      · rw [if_pos c4] at h
        simp at h
        obtain ⟨rfl, rfl, rfl⟩ := h
        exact (pm_nb_c (by simp) (by simp) (pm_nb_c (by simp) (by simp) (pm_nb_m (by omega) ss hb)))
      · rw [if_neg c4] at h
        simp at h
theorem pm_nb_decl (hb : pm_nb a ss) (h : pm_decl K a = (a', some (l, w))) : pm_nb a' (l ++ ss) := by
  unfold pm_decl at h
  by_cases c1 : K a = 7
  · rw [if_pos c1] at h
    by_cases c2 : K (a + 1) = 3
    · rw [if_pos c2] at h
      by_cases c3 : K (a + 2) = 9
      · rw [if_pos c3] at h
        simp at h
        obtain ⟨rfl, rfl, rfl⟩ := h
        exact (pm_nb_c (by simp) (by simp) (⟨fun z => (by simp at z), fun _ => (by show a + 1 < a + 3; omega), (pm_nb_m (by omega) ss hb)⟩ : pm_nb (a + 3) ((89, a) :: ss)))
      · rw [if_neg c3] at h
        simp at h
    · rw [if_neg c2] at h
      simp at h
  · rw [if_neg c1] at h
    by_cases c4 : K a = 8
    · rw [if_pos c4] at h
      by_cases c5 : K (a + 1) = 3
      · rw [if_pos c5] at h
        by_cases c6 : K (a + 2) = 3
        · rw [if_pos c6] at h
          by_cases c7 : K (pm_nq K 24 (a + 3)) = 9
          · rw [if_pos c7] at h
            have g := (pm_nq_ge (K := K) 24 (a + 3)).1
            simp at h
            obtain ⟨rfl, rfl, rfl⟩ := h
            exact (pm_nb_c (by simp) (by simp) (pm_nb_c (by simp) (by simp) (pm_nb_m (by omega) ss hb)))
          · rw [if_neg c7] at h
            simp at h
        · rw [if_neg c6] at h
          simp at h
      · rw [if_neg c5] at h
        simp at h
    · rw [if_neg c4] at h
      simp at h
theorem pm_nb_expr (hb : pm_nb a ss) (h : pm_expr K a = (a', some (l, w))) : pm_nb a' (l ++ ss) := by
  unfold pm_expr at h
  by_cases c1 : K a = 4
  · rw [if_pos c1] at h
    by_cases c2 : K (a + 1) = 3
    · rw [if_pos c2] at h
      by_cases c3 : K (a + 2) = 5
      · rw [if_pos c3] at h
        simp at h
        obtain ⟨rfl, rfl, rfl⟩ := h
        exact (pm_nb_c (by simp) (by simp) (pm_nb_c (by simp) (by simp) (pm_nb_m (by omega) ss hb)))
      · rw [if_neg c3] at h
        simp at h
    · rw [if_neg c2] at h
      simp at h
  · rw [if_neg c1] at h
    by_cases c4 : K a = 12
    · rw [if_pos c4] at h
      simp at h
      obtain ⟨rfl, rfl, rfl⟩ := h
      exact (pm_nb_c (by simp) (by simp) (pm_nb_c (by simp) (by simp) (pm_nb_c (by simp) (by simp) (pm_nb_c (by simp) (by simp) (pm_nb_c (by simp) (by simp) (pm_nb_c (by simp) (by simp) (pm_nb_m (by omega) ss hb)))))))
    · rw [if_neg c4] at h
      simp at h
      obtain ⟨rfl, rfl, rfl⟩ := h
      exact (pm_nb_5 (by simp) (pm_nb_c (by simp) (by simp) (pm_nb_c (by simp) (by simp) (pm_nb_c (by simp) (by simp) (pm_nb_c (by simp) (by simp) (pm_nb_c (by simp) (by simp) (pm_nb_m (by omega) ss hb)))))))
theorem pm_nb_apl (hb : pm_nb a ss) (h : pm_apl K a = (a', some (l, w))) : pm_nb a' (l ++ ss) := by
  unfold pm_apl at h
  cases e : (pm_atom K a).2 with
  | none =>
    rw [e] at h
    simp at h
    obtain ⟨rfl, rfl, rfl⟩ := h
    exact hb
  | some x =>
    obtain ⟨l0, w0⟩ := x
    rw [e] at h
    simp at h
    obtain ⟨rfl, rfl, rfl⟩ := h
    have z := pm_nb_atom (ss := (82, a) :: (54, 0) :: ss) (K := K) (a := a) (a' := (pm_atom K a).1) (l := l0) (w := w0) (pm_nb_c (by simp) (by simp) (pm_nb_c (by simp) (by simp) hb)) (by rw [← e])
    simpa using z
theorem pm_nb_turn (hb : pm_nb a ss) (h : pm_turn K s p a = (a', some (l, w))) : pm_nb a' (l ++ ss) := by
  unfold pm_turn at h
  by_cases s0 : 80 ≤ s
  · rw [if_pos s0] at h
    simp at h
    obtain ⟨rfl, rfl, rfl⟩ := h
    exact (pm_nb_m (by omega) ss hb)
  · rw [if_neg s0] at h
    by_cases s1 : s < 38
    · rw [if_pos s1] at h
      by_cases c1 : K a = s
      · rw [if_pos c1] at h
        simp at h
        obtain ⟨rfl, rfl, rfl⟩ := h
        exact (pm_nb_m (by omega) ss hb)
      · rw [if_neg c1] at h
        simp at h
    · rw [if_neg s1] at h
      by_cases s2 : s = 40
      · rw [if_pos s2] at h
        exact pm_nb_decl hb h
      · rw [if_neg s2] at h
        by_cases s3 : s = 42
        · rw [if_pos s3] at h
          exact pm_nb_expr hb h
        · rw [if_neg s3] at h
          by_cases s4 : s = 44
          · rw [if_pos s4] at h
            by_cases c2 : K a = 17
            · rw [if_pos c2] at h
              simp at h
              obtain ⟨rfl, rfl, rfl⟩ := h
              exact (pm_nb_c (by simp) (by simp) (pm_nb_c (by simp) (by simp) (pm_nb_c (by simp) (by simp) (pm_nb_m (by omega) ss hb))))
            · rw [if_neg c2] at h
              by_cases c3 : K a = 16
              · rw [if_pos c3] at h
                simp at h
                obtain ⟨rfl, rfl, rfl⟩ := h
                exact (pm_nb_m (by omega) ss hb)
              · rw [if_neg c3] at h
                simp at h
          · rw [if_neg s4] at h
            by_cases s5 : s = 45
            · rw [if_pos s5] at h
              simp at h
              obtain ⟨rfl, rfl, rfl⟩ := h
              exact (pm_nb_c (by simp) (by simp) (pm_nb_c (by simp) (by simp) (pm_nb_c (by simp) (by simp) (pm_nb_c (by simp) (by simp) (pm_nb_m (by omega) ss hb)))))
            · rw [if_neg s5] at h
              by_cases s6 : s = 46
              · rw [if_pos s6] at h
                by_cases c4 : K a = 10
                · rw [if_pos c4] at h
                  simp at h
                  obtain ⟨rfl, rfl, rfl⟩ := h
                  exact (pm_nb_c (by simp) (by simp) (pm_nb_c (by simp) (by simp) (pm_nb_m (by omega) ss hb)))
                · rw [if_neg c4] at h
                  simp at h
              · rw [if_neg s6] at h
                by_cases s7 : s = 47
                · rw [if_pos s7] at h
                  by_cases c5 : K a = 11
                  · rw [if_pos c5] at h
                    simp at h
                    obtain ⟨rfl, rfl, rfl⟩ := h
                    exact (pm_nb_m (by omega) ss hb)
                  · rw [if_neg c5] at h
                    simp at h
                · rw [if_neg s7] at h
                  by_cases s8 : s = 50
                  · rw [if_pos s8] at h
                    by_cases c6 : K a = 25
                    · rw [if_pos c6] at h
                      simp at h
                      obtain ⟨rfl, rfl, rfl⟩ := h
                      exact (pm_nb_5 (by simp) (pm_nb_c (by simp) (by simp) (pm_nb_c (by simp) (by simp) (pm_nb_c (by simp) (by simp) (pm_nb_c (by simp) (by simp) (pm_nb_c (by simp) (by simp) (pm_nb_c (by simp) (by simp) (pm_nb_m (by omega) ss hb))))))))
                    · rw [if_neg c6] at h
                      simp at h
                      obtain ⟨rfl, rfl, rfl⟩ := h
                      exact (pm_nb_m (by omega) ss hb)
                  · rw [if_neg s8] at h
                    by_cases s9 : s = 51
                    · rw [if_pos s9] at h
                      by_cases c7 : K a = 18
                      · rw [if_pos c7] at h
                        simp at h
                        obtain ⟨rfl, rfl, rfl⟩ := h
                        exact (pm_nb_5 (by simp) (pm_nb_c (by simp) (by simp) (pm_nb_c (by simp) (by simp) (pm_nb_c (by simp) (by simp) (pm_nb_c (by simp) (by simp) (pm_nb_c (by simp) (by simp) (pm_nb_m (by omega) ss hb)))))))
                      · rw [if_neg c7] at h
                        simp at h
                        obtain ⟨rfl, rfl, rfl⟩ := h
                        exact (pm_nb_m (by omega) ss hb)
                    · rw [if_neg s9] at h
                      by_cases s10 : s = 52
                      · rw [if_pos s10] at h
                        by_cases c8 : K a = 21
                        · rw [if_pos c8] at h
                          simp at h
                          obtain ⟨rfl, rfl, rfl⟩ := h
                          exact (pm_nb_5 (by simp) (pm_nb_c (by simp) (by simp) (pm_nb_c (by simp) (by simp) (pm_nb_c (by simp) (by simp) (pm_nb_c (by simp) (by simp) (pm_nb_m (by omega) ss hb))))))
                        · rw [if_neg c8] at h
                          simp at h
                          obtain ⟨rfl, rfl, rfl⟩ := h
                          exact (pm_nb_m (by omega) ss hb)
                      · rw [if_neg s10] at h
                        by_cases s11 : s = 53
                        · rw [if_pos s11] at h
                          by_cases c9 : K a = 19 ∨ K a = 20
                          · rw [if_pos c9] at h
                            simp at h
                            obtain ⟨rfl, rfl, rfl⟩ := h
                            exact (pm_nb_5 (by simp) (pm_nb_c (by simp) (by simp) (pm_nb_c (by simp) (by simp) (pm_nb_c (by simp) (by simp) (pm_nb_m (by omega) ss hb)))))
                          · rw [if_neg c9] at h
                            simp at h
                            obtain ⟨rfl, rfl, rfl⟩ := h
                            exact (pm_nb_m (by omega) ss hb)
                        · rw [if_neg s11] at h
                          by_cases s12 : s = 54
                          · rw [if_pos s12] at h
                            exact pm_nb_apl hb h
                          · rw [if_neg s12] at h
                            by_cases s13 : s = 55
                            · rw [if_pos s13] at h
                              exact pm_nb_atom hb h
                            · rw [if_neg s13] at h
                              by_cases s14 : s = 60
                              · rw [if_pos s14] at h
                                by_cases c10 : K a = 37
                                · rw [if_pos c10] at h
                                  simp at h
                                  obtain ⟨rfl, rfl, rfl⟩ := h
                                  exact (pm_nb_c (by simp) (by simp) (pm_nb_c (by simp) (by simp) (pm_nb_c (by simp) (by simp) (pm_nb_c (by simp) (by simp) (pm_nb_c (by simp) (by simp) (pm_nb_m (by omega) ss hb))))))
                                · rw [if_neg c10] at h
                                  simp at h
                                  obtain ⟨rfl, rfl, rfl⟩ := h
                                  exact (pm_nb_m (by omega) ss hb)
                              · rw [if_neg s14] at h
                                by_cases s15 : s = 61
                                · rw [if_pos s15] at h
                                  by_cases c11 : K a = 36
                                  · rw [if_pos c11] at h
                                    simp at h
                                    obtain ⟨rfl, rfl, rfl⟩ := h
                                    exact (pm_nb_c (by simp) (by simp) (pm_nb_c (by simp) (by simp) (pm_nb_c (by simp) (by simp) (pm_nb_c (by simp) (by simp) (pm_nb_m (by omega) ss hb)))))
                                  · rw [if_neg c11] at h
                                    simp at h
                                    obtain ⟨rfl, rfl, rfl⟩ := h
                                    exact (pm_nb_m (by omega) ss hb)
                                · rw [if_neg s15] at h
                                  by_cases s16 : s = 62
                                  · rw [if_pos s16] at h
                                    by_cases c12 : K a = 34 ∨ K a = 23
                                    · rw [if_pos c12] at h
                                      simp at h
                                      obtain ⟨rfl, rfl, rfl⟩ := h
                                      exact (pm_nb_c (by simp) (by simp) (pm_nb_m (by omega) ss hb))
                                    · rw [if_neg c12] at h
                                      simp at h
                                      obtain ⟨rfl, rfl, rfl⟩ := h
                                      exact (pm_nb_m (by omega) ss hb)
                                  · rw [if_neg s16] at h
                                    by_cases s17 : s = 63
                                    · rw [if_pos s17] at h
                                      by_cases c13 : K a = 15
                                      · rw [if_pos c13] at h
                                        simp at h
                                        obtain ⟨rfl, rfl, rfl⟩ := h
                                        exact (pm_nb_c (by simp) (by simp) (pm_nb_c (by simp) (by simp) (pm_nb_m (by omega) ss hb)))
                                      · rw [if_neg c13] at h
                                        by_cases c14 : (31 ≤ K a ∧ K a ≤ 33) ∨ K a = 35
                                        · rw [if_pos c14] at h
                                          simp at h
                                          obtain ⟨rfl, rfl, rfl⟩ := h
                                          exact (pm_nb_m (by omega) ss hb)
                                        · rw [if_neg c14] at h
                                          simp at h
                                    · rw [if_neg s17] at h
                                      simp at h
end
end
section
/-! a whole run of the parser over a declaration: every step that it writes has what it needs -/
def gd_ok (K N mq : Nat → Nat) (Dc : Nat → List tr_T → tr_T → Prop) (c : Nat) (Fin : List (Nat × Bool) → List Bool → Prop) : pm_L → List (Nat × Bool) → List Bool → dv_W → Nat × Nat × Nat → Prop
  | [], bs, fl, _, _ => Fin bs fl
  | (s, p) :: sp, bs, fl, V, x => dd_pre K mq c bs fl V s p ∧ (cr_1 K mq x s p).1 ≤ 1503 ∧ gd_ok K N mq Dc c Fin sp (dd_bs mq bs fl s p) (dd_fl K fl s p) (dd_V K N mq Dc bs V s p) (cr_1 K mq x s p)
/-- the lowest symbol is the declaration itself -/
def pm_bt (ss : pm_L) (a : Nat) (bs : List (Nat × Bool)) : Prop :=
  (ss = [] ∧ ∃ f, bs = [(1, f)]) ∨ (∃ r, ss = r ++ [(88, 0)] ∨ ss = r ++ [(89, 0)]) ∨ (ss = [(40, 0)] ∧ a = 0)
theorem pm_decl_l {K : Nat → Nat} {a a' : Nat} {l w : pm_L} (h : pm_decl K a = (a', some (l, w))) : l = [(42, 0), (89, a)] ∨ l = [(42, 0), (88, a)] := by
  unfold pm_decl at h
  by_cases c1 : K a = 7
  · rw [if_pos c1] at h
    by_cases c2 : K (a + 1) = 3
    · rw [if_pos c2] at h
      by_cases c3 : K (a + 2) = 9
      · rw [if_pos c3] at h
        simp at h
        exact Or.inl h.2.1.symm
      · rw [if_neg c3] at h
        simp at h
    · rw [if_neg c2] at h
      simp at h
  · rw [if_neg c1] at h
    by_cases c4 : K a = 8
    · rw [if_pos c4] at h
      by_cases c5 : K (a + 1) = 3
      · rw [if_pos c5] at h
        by_cases c6 : K (a + 2) = 3
        · rw [if_pos c6] at h
          by_cases c7 : K (pm_nq K 24 (a + 3)) = 9
          · rw [if_pos c7] at h
            simp at h
            exact Or.inr h.2.1.symm
          · rw [if_neg c7] at h
            simp at h
        · rw [if_neg c6] at h
          simp at h
      · rw [if_neg c5] at h
        simp at h
    · rw [if_neg c4] at h
      simp at h
theorem pm_bt_turn {K : Nat → Nat} {s p a a' : Nat} {l w ss : pm_L} {bs bs' : List (Nat × Bool)} (hb : pm_bt ((s, p) :: ss) a bs) (ht : pm_turn K s p a = (a', some (l, w)))
    (hend : l ++ ss = [] → ∀ s', (s' = 88 ∨ s' = 89) → w = [(s', 0)] → ∃ f, bs' = [(1, f)]) : pm_bt (l ++ ss) a' bs' := by
  have mid : ∀ e : Nat × Nat, e = (88, 0) ∨ e = (89, 0) → ∀ r, (s, p) :: ss = r ++ [e] → pm_bt (l ++ ss) a' bs' := by
    intro e he r hr
    cases r with
    | nil =>
      simp at hr
      obtain ⟨h1, h2⟩ := hr
      subst h2
      have hs : (s = 88 ∨ s = 89) ∧ p = 0 := by
        rcases he with z | z
        · rw [← h1] at z; simp at z; exact ⟨Or.inl z.1, z.2⟩
        · rw [← h1] at z; simp at z; exact ⟨Or.inr z.1, z.2⟩
      have s80 : 80 ≤ s := by omega
      unfold pm_turn at ht
      rw [if_pos s80] at ht
      simp at ht
      obtain ⟨_, rfl, rfl⟩ := ht
      exact Or.inl ⟨rfl, hend rfl s hs.1 (by rw [hs.2])⟩
    | cons y r =>
      simp at hr
      rw [hr.2, ← List.append_assoc]
      rcases he with z | z
      · exact Or.inr (Or.inl ⟨l ++ r, Or.inl (by rw [z])⟩)
      · exact Or.inr (Or.inl ⟨l ++ r, Or.inr (by rw [z])⟩)
  rcases hb with ⟨z, _⟩ | ⟨r, z | z⟩ | ⟨z, ha⟩
  · cases z
  · exact mid _ (Or.inl rfl) r z
  · exact mid _ (Or.inr rfl) r z
  · simp at z
    obtain ⟨⟨rfl, rfl⟩, rfl⟩ := z
    subst ha
    unfold pm_turn at ht
    simp at ht
    rcases pm_decl_l ht with q | q
    · rw [q]; exact Or.inr (Or.inl ⟨[(42, 0)], Or.inr rfl⟩)
    · rw [q]; exact Or.inr (Or.inl ⟨[(42, 0)], Or.inl rfl⟩)
theorem pm_run {K N mq : Nat → Nat} {Dc : Nat → List tr_T → tr_T → Prop} {c : Nat} (hK : ∀ i, c ≤ i → K i = 99) (hc : c ≤ 24) (hm : ∀ q, mq q = pm_nq K 24 (q + 3) - (q + 1)) : ∀ f ss a sp a' sp' b, pm_go K f ss a sp = some (a', sp', b) → ∀ h el fs bs fl V x, a ≤ c → pd_ok K mq c ss h el fs → di_I h el fs bs fl V → (∀ y, y ∈ bs → y.1 < a) → cq_I mq c ss a x → pm_nb a ss → pm_bt ss a bs → ∃ sp1, sp' = sp ++ sp1 ∧ gd_ok K N mq Dc c (fun bs fl => b = true → (∃ f, bs = [(1, f)]) ∧ fl = []) sp1 bs fl V x := by
  intro f
  induction f with
  | zero => intro ss a sp a' sp' b h; cases h
  | succ f ih =>
    intro ss a sp a' sp' b hgo h el fs bs fl V x ha ok D hx C nb bt
    cases ss with
    | nil =>
      unfold pm_go at hgo
      simp at hgo
      obtain ⟨_, rfl, rfl⟩ := hgo
      refine ⟨[], by rw [List.append_nil], fun _ => ?_⟩
      obtain ⟨e1, _, _⟩ := ok
      refine ⟨?_, List.eq_nil_of_length_eq_zero (by rw [D.1, e1])⟩
      rcases bt with ⟨_, q⟩ | ⟨r, q | q⟩ | ⟨q, _⟩
      · exact q
      · simp at q
      · simp at q
      · cases q
    | cons y ss =>
      obtain ⟨s, p⟩ := y
      unfold pm_go at hgo
      cases e : (pm_turn K s p a).2 with
      | none =>
        rw [e] at hgo
        simp at hgo
        obtain ⟨_, rfl, rfl⟩ := hgo
        exact ⟨[], by rw [List.append_nil], fun z => by cases z⟩
      | some q =>
        obtain ⟨l, w⟩ := q
        rw [e] at hgo
        simp only at hgo
        have ht : pm_turn K s p a = ((pm_turn K s p a).1, some (l, w)) := by rw [← e]
        have nN := pm_N_turn hK hc ha ht
        have nb' := pm_nb_turn nb.2.2 ht
        have ok0 := ok
        obtain ⟨_, _, _, R, _⟩ := ok0
        have rs := R.2.2.1
        have h55 : s = 55 → cq_h ss = 0 := fun z => by
          obtain ⟨q, r, z2⟩ := nb.1 z
          rw [z2]; rfl
        have pq := pd_turn (N := N) (Dc := Dc) hK hm nb.2.1 ht hx D ok
        have cq := cq_turn hK hm ha rs h55 ht C
        obtain ⟨h2, el2, fs2, ok2, pq⟩ := pq
        rcases pq with ⟨w0, D2, hx2⟩ | ⟨s', p', w1, pre, D2, hx2⟩
        · subst w0
          rcases cq with ⟨_, C2⟩ | ⟨s', p', w1, _⟩
          · have bt2 := pm_bt_turn (bs' := bs) bt ht (fun _ s' _ z => by cases z)
            obtain ⟨sp1, e1, g⟩ := ih _ _ _ _ _ _ hgo h2 el2 fs2 bs fl V x nN.2.1 ok2 D2 hx2 C2 nb' bt2
            exact ⟨sp1, by rw [e1, List.append_nil], g⟩
          · cases w1
        · subst w1
          rcases cq with ⟨w0, _⟩ | ⟨s2, p2, w1, C2⟩
          · cases w0
          · simp at w1
            obtain ⟨rfl, rfl⟩ := w1
            have bt2 := pm_bt_turn (bs' := dd_bs mq bs fl s' p') bt ht (fun nil s2 hs2 z => by
              simp at z
              obtain ⟨rfl, rfl⟩ := z
              rw [nil] at ok2
              obtain ⟨_, e2, _⟩ := ok2
              have l1 : (dd_bs mq bs fl s' 0).length = 1 := by rw [D2.2.1, e2]; rfl
              rcases hs2 with rfl | rfl
              · refine ⟨true, ?_⟩
                unfold dd_bs at l1 ⊢
                simp at l1 ⊢
                omega
              · refine ⟨fl.headD false, ?_⟩
                unfold dd_bs at l1 ⊢
                simp at l1 ⊢
                exact l1)
            obtain ⟨sp1, e1, g⟩ := ih _ _ _ _ _ _ hgo h2 el2 fs2 _ _ _ _ nN.2.1 ok2 D2 hx2 C2 nb' bt2
            refine ⟨(s', p') :: sp1, by rw [e1, List.append_assoc]; rfl, pre, ?_, g⟩
            exact Nat.le_trans (Nat.le_trans (Nat.le_add_right _ _) (pf_n _ _ _)) C2.1
/-- the run from the beginning: no binding, nothing waits, any open variables -/
theorem pm_run0 {K N mq : Nat → Nat} {Dc : Nat → List tr_T → tr_T → Prop} {c oc : Nat} (hK : ∀ i, c ≤ i → K i = 99) (hc : c ≤ 24) (hm : ∀ q, mq q = pm_nq K 24 (q + 3) - (q + 1)) {f a' : Nat} {sp' : pm_L} {b : Bool} (hgo : pm_go K f [(40, 0)] 0 [] = some (a', sp', b)) : gd_ok K N mq Dc c (fun bs fl => b = true → (∃ f, bs = [(1, f)]) ∧ fl = []) sp' [] [] (fun ν st E => ν.length = oc ∧ st = [] ∧ E = []) (0, 0, 0) := by
  have V0 : dv_len 0 0 (fun ν st E => ν.length = oc ∧ st = [] ∧ E = []) := by
    intro ν st E ⟨_, e1, e2⟩
    rw [e1, e2]; exact ⟨rfl, rfl⟩
  have q0 : pf ((c - 0) + 4 * cq_46 [(40, 0)] - cq_40 [(40, 0)]) (0 + (cq_h [(40, 0)] + cq_p mq [(40, 0)])) (cq_m [(40, 0)] (0, 0, 0)) ≤ 1503 := by
    have q : pf 21 0 0 ≤ 1503 := by decide +kernel
    have e1 : (c - 0) + 4 * cq_46 [(40, 0)] - cq_40 [(40, 0)] ≤ 21 := by
      show (c - 0) + 4 * 0 - 3 ≤ 21
      omega
    exact Nat.le_trans (pf_bb _ _ e1) q
  obtain ⟨sp1, e, g⟩ := pm_run (N := N) (Dc := Dc) hK hc hm f _ _ _ _ _ _ hgo 0 [] [] [] [] (fun ν st E => ν.length = oc ∧ st = [] ∧ E = []) (0, 0, 0) (Nat.zero_le _) ⟨0, [(0, true)], [], pd_40 (Nat.le_refl _) (Nat.le_refl _), rfl, rfl, rfl⟩ ⟨rfl, rfl, fun i x h => (by cases h), V0, trivial⟩ (fun y hy => (by cases hy)) ⟨q0, Nat.le_refl _, fun _ => Or.inl rfl, fun y hy => (by cases hy), trivial⟩ ⟨fun z => (by simp at z), fun z => (by simp at z), trivial⟩ (Or.inr (Or.inr ⟨rfl, rfl⟩))
  rw [List.nil_append] at e
  rw [e]; exact g
end
section
/-! the steps' meaning, step by step -/
section
variable {K N mq : Nat → Nat} {Dc : Nat → List tr_T → tr_T → Prop} {bs : List (Nat × Bool)} {fl : List Bool} {V : dv_W} {p : Nat}
theorem eV_80 : dd_V K N mq Dc bs V 80 p = (if K p = 3 then dv_psh (dd_name N Dc bs V (N p)) V else dv_psh (fun _ _ τ => cs_T (K p) τ) V) := rfl
theorem eB_80 : dd_bs mq bs fl 80 p = (bs) := rfl
theorem eF_80 : dd_fl K fl 80 p = (true :: fl) := rfl
theorem eV_81 : dd_V K N mq Dc bs V 81 p = (dv_psh (fun _ _ τ => τ = tr_at 2) V) := rfl
theorem eB_81 : dd_bs mq bs fl 81 p = (bs) := rfl
theorem eF_81 : dd_fl K fl 81 p = (true :: fl) := rfl
theorem eV_82 : dd_V K N mq Dc bs V 82 p = (dv_app V) := rfl
theorem eB_82 : dd_bs mq bs fl 82 p = (bs) := rfl
theorem eF_82 : dd_fl K fl 82 p = (false :: fl.drop 2) := rfl
theorem eV_83 : dd_V K N mq Dc bs V 83 p = (if K p = 17 then dv_pair V else if K p = 18 then dv_cons V else if K p = 25 then dv_asg V else if K p = 21 then dv_num 1 V else dv_num 0 V) := rfl
theorem eB_83 : dd_bs mq bs fl 83 p = (bs) := rfl
theorem eF_83 : dd_fl K fl 83 p = (((decide (K p = 17) || decide (K p = 18)) && fl.headD false && (fl.drop 1).headD false) :: fl.drop 2) := rfl
theorem eV_84 : dd_V K N mq Dc bs V 84 p = (dv_if V) := rfl
theorem eB_84 : dd_bs mq bs fl 84 p = (bs) := rfl
theorem eF_84 : dd_fl K fl 84 p = (false :: fl.drop 3) := rfl
theorem eV_85 : dd_V K N mq Dc bs V 85 p = (dv_lams 1 V) := rfl
theorem eB_85 : dd_bs mq bs fl 85 p = ((p + 1, false) :: bs) := rfl
theorem eF_85 : dd_fl K fl 85 p = (fl) := rfl
theorem eV_86 : dd_V K N mq Dc bs V 86 p = (dv_fn V) := rfl
theorem eB_86 : dd_bs mq bs fl 86 p = (bs.drop 1) := rfl
theorem eF_86 : dd_fl K fl 86 p = (true :: fl.drop 1) := rfl
theorem eV_87 : dd_V K N mq Dc bs V 87 p = (dv_lams (mq p) V) := rfl
theorem eB_87 : dd_bs mq bs fl 87 p = (pd_ns p (mq p) ++ bs) := rfl
theorem eF_87 : dd_fl K fl 87 p = (fl) := rfl
theorem eV_88 : dd_V K N mq Dc bs V 88 p = (dv_bind (dv_fun (mq p - 1) V)) := rfl
theorem eB_88 : dd_bs mq bs fl 88 p = ((p + 1, true) :: bs.drop (mq p)) := rfl
theorem eF_88 : dd_fl K fl 88 p = (fl.drop 1) := rfl
theorem eV_89 : dd_V K N mq Dc bs V 89 p = (dv_bind V) := rfl
theorem eB_89 : dd_bs mq bs fl 89 p = ((p + 1, fl.headD false) :: bs) := rfl
theorem eF_89 : dd_fl K fl 89 p = (fl.drop 1) := rfl
theorem eV_90 : dd_V K N mq Dc bs V 90 p = (dv_let V) := rfl
theorem eB_90 : dd_bs mq bs fl 90 p = (bs.drop 1) := rfl
theorem eF_90 : dd_fl K fl 90 p = (false :: fl.drop 1) := rfl
end
/-- where a declaration's types first clash (q), or that they don't (none) -/
def gc_C (K N mq : Nat → Nat) (Dc : Nat → List tr_T → tr_T → Prop) : pm_L → List (Nat × Bool) → List Bool → dv_W → Option Nat → Prop
  | [], _, _, _, r => r = none
  | (s, p) :: sp, bs, fl, V, r => ((∃ ν st E, dd_V K N mq Dc bs V s p ν st E) ∧ gc_C K N mq Dc sp (dd_bs mq bs fl s p) (dd_fl K fl s p) (dd_V K N mq Dc bs V s p) r) ∨ ((∀ ν st E, ¬ dd_V K N mq Dc bs V s p ν st E) ∧ r = some (if s = 88 then p + mq p + 1 else p))
/-- the first name that means nothing, or none -/
def gn_N (K N mq : Nat → Nat) (dc : Nat → List Nat) : pm_L → List (Nat × Bool) → List Bool → Option Nat → Prop
  | [], _, _, r => r = none
  | (s, p) :: sp, bs, fl, r => if s = 80 ∧ K p = 3 ∧ bx_ix N bs (N p) = none ∧ dc (N p) = [] then r = some p else gn_N K N mq dc sp (dd_bs mq bs fl s p) (dd_fl K fl s p) r
theorem gn_u {K N mq : Nat → Nat} {dc : Nat → List Nat} : ∀ sp bs fl r r', gn_N K N mq dc sp bs fl r → gn_N K N mq dc sp bs fl r' → r = r' := by
  intro sp
  induction sp with
  | nil => intro bs fl r r' h h'; exact Eq.trans h (Eq.symm h')
  | cons y sp ih =>
    obtain ⟨s, p⟩ := y
    intro bs fl r r' h h'
    unfold gn_N at h h'
    by_cases c : s = 80 ∧ K p = 3 ∧ bx_ix N bs (N p) = none ∧ dc (N p) = []
    · rw [if_pos c] at h h'; rw [h, h']
    · rw [if_neg c] at h h'; exact ih _ _ _ _ h h'
theorem gc_u {K N mq : Nat → Nat} {Dc : Nat → List tr_T → tr_T → Prop} : ∀ sp bs fl V r r', gc_C K N mq Dc sp bs fl V r → gc_C K N mq Dc sp bs fl V r' → r = r' := by
  intro sp
  induction sp with
  | nil => intro bs fl V r r' h h'; exact Eq.trans h (Eq.symm h')
  | cons y sp ih =>
    obtain ⟨s, p⟩ := y
    intro bs fl V r r' h h'
    rcases h with ⟨⟨ν, st, E, v⟩, h⟩ | ⟨no, h⟩
    · rcases h' with ⟨_, h'⟩ | ⟨no', _⟩
      · exact ih _ _ _ _ _ h h'
      · exact (no' ν st E v).elim
    · rcases h' with ⟨⟨ν, st, E, v⟩, _⟩ | ⟨_, h'⟩
      · exact (no ν st E v).elim
      · rw [h, h']
end
section
/-! the component's nodes as a graph -/
section
variable {f_tokenCount f_accepted f_lastPlace f_openCount f_draftOpen f_symbolCount f_stepCount f_bindingCount f_waitingCount f_clashPlace f_nodeCount f_todoCount : Int32} {a_kinds a_values a_declaredSize a_declaredNodes a_draftSize a_draftNodes a_symbols a_symbolPlaces a_steps a_stepPlaces a_bindings a_boundType a_waitingTypes a_waitingFirm a_shape a_left a_right a_link a_note a_todo a_todoOther a_generalNode : Nat → Int32}
variable {kd pa pb : Nat → Nat} {n K : Nat}
/-- the arrays hold the graph -/
def xg_G (n : Nat) (sh lf rt lk : Nat → Int32) (kd pa pb : Nat → Nat) : Prop :=
  ∀ i, i < n → (kd i = 1000 ∧ pa i ≠ i ∧ pa i < n ∧ lk i = nI (pa i)) ∨ (kd i ≠ 1000 ∧ kd i < 30 ∧ lk i = nI i ∧ sh i = nI (kd i) ∧ (gr_cn (kd i) → lf i = nI (pa i) ∧ rt i = nI (pb i)))
/-- a stack in an array: the uppermost is the list's first -/
def st_1 (a : Nat → Int32) : List Nat → Prop
  | [] => True
  | x :: L => a L.length = nI x ∧ st_1 a L
theorem st_1u {a : Nat → Int32} {k : Nat} {x : Int32} : ∀ L : List Nat, L.length ≤ k → st_1 a L → st_1 (upd a k x) L := by
  intro L
  induction L with
  | nil => intro _ _; trivial
  | cons y L ih =>
    intro h z
    rw [List.length_cons] at h
    refine ⟨?_, ih (by omega) z.2⟩
    rw [pk_un (by omega)]; exact z.1
theorem st_1p {a : Nat → Int32} {x : Nat} {L : List Nat} (h : st_1 a L) : st_1 (upd a L.length (nI x)) (x :: L) := ⟨pk_us, st_1u L (Nat.le_refl _) h⟩
theorem xw_find_l {post : Int32 → Prop} (hG : xg_G n a_shape a_left a_right a_link kd pa pb) (hn : n ≤ 4096) : ∀ f j c, j < n → c + f ≤ 4096 → kd (gr_f kd pa f j) ≠ 1000 → post (nI (gr_f kd pa f j)) → wX_find_4 post f_tokenCount f_accepted f_lastPlace f_openCount f_draftOpen f_symbolCount f_stepCount f_bindingCount f_waitingCount f_clashPlace f_nodeCount f_todoCount a_kinds a_values a_declaredSize a_declaredNodes a_draftSize a_draftNodes a_symbols a_symbolPlaces a_steps a_stepPlaces a_bindings a_boundType a_waitingTypes a_waitingFirm a_shape a_left a_right a_link a_note a_todo a_todoOther a_generalNode (f + 1) (nI j) (nI c) := by
  intro f
  induction f with
  | zero =>
    intro j c hj hc hk hp
    refine br_c (fun _ => hp) (fun _ => ⟨vp_in_nI (by omega) (by omega), ?_⟩)
    rcases hG j hj with z | z
    · exact (hk z.1).elim
    · rw [nI_clamp (by omega)]
      exact br_t z.2.2.1 hp
  | succ f ih =>
    intro j c hj hc hk hp
    refine br_f (nI_ge (b := 4096) (by omega) (by decide)) ⟨vp_in_nI (by omega) (by omega), ?_⟩
    rw [nI_clamp (by omega)]
    rcases hG j hj with z | z
    · rw [gr_f_l z.1] at hk hp
      have ne : ¬ a_link j = nI j := by
        rw [z.2.2.2]
        intro e
        exact z.2.1 ((nI_eq (by omega) (by omega)).mp e)
      exact br_f ne ⟨vp_in_nI (by omega) (by omega), nm_r z.2.2.2 (nm_r (nI_1 c) (ih _ _ z.2.2.1 (by omega) hk hp))⟩
    · rw [gr_f_r z.1] at hp
      exact br_t z.2.2.1 hp
theorem xw_find {post : Int32 → Prop} {i r : Nat} (hG : xg_G n a_shape a_left a_right a_link kd pa pb) (hn : n ≤ 4096) (hL : gr_L n kd pa K) (hK : K ≤ 4096) (hi : i < n) (hr : gr_to kd pa i r) (hp : post (nI r)) : wpX_find post (f_tokenCount, f_accepted, f_lastPlace, f_openCount, f_draftOpen, f_symbolCount, f_stepCount, f_bindingCount, f_waitingCount, f_clashPlace, f_nodeCount, f_todoCount, a_kinds, a_values, a_declaredSize, a_declaredNodes, a_draftSize, a_draftNodes, a_symbols, a_symbolPlaces, a_steps, a_stepPlaces, a_bindings, a_boundType, a_waitingTypes, a_waitingFirm, a_shape, a_left, a_right, a_link, a_note, a_todo, a_todoOther, a_generalNode) (nI i) := by
  have e := gr_to_u hr (gr_L_to hL hi)
  rw [e] at hp
  exact ⟨K + 1, xw_find_l hG hn K i 0 hi (by omega) (hL i hi) hp⟩
theorem xw_new {post : Int32 → SX → Prop} {k a b : Int32} (hn : n < 4096) (h : post (nI n) (f_tokenCount, f_accepted, f_lastPlace, f_openCount, f_draftOpen, f_symbolCount, f_stepCount, f_bindingCount, f_waitingCount, f_clashPlace, nI (n + 1), f_todoCount, a_kinds, a_values, a_declaredSize, a_declaredNodes, a_draftSize, a_draftNodes, a_symbols, a_symbolPlaces, a_steps, a_stepPlaces, a_bindings, a_boundType, a_waitingTypes, a_waitingFirm, upd a_shape n k, upd a_left n a, upd a_right n b, upd a_link n (nI n), upd a_note n 0, a_todo, a_todoOther, a_generalNode)) : wpX_newNode post (f_tokenCount, f_accepted, f_lastPlace, f_openCount, f_draftOpen, f_symbolCount, f_stepCount, f_bindingCount, f_waitingCount, f_clashPlace, nI n, f_todoCount, a_kinds, a_values, a_declaredSize, a_declaredNodes, a_draftSize, a_draftNodes, a_symbols, a_symbolPlaces, a_steps, a_stepPlaces, a_bindings, a_boundType, a_waitingTypes, a_waitingFirm, a_shape, a_left, a_right, a_link, a_note, a_todo, a_todoOther, a_generalNode) k a b := by
  have e : (nI n).toNatClampNeg = n := nI_clamp (by omega)
  have hi : vp_in (nI n) 4096 := vp_in_nI hn (by decide)
  refine br_t (nI_lt (b := 4096) hn (by decide)) (nm_r (nI_1 n) ⟨hi, ?_⟩)
  rw [e]
  exact nm_e ⟨hi, nm_e ⟨hi, nm_e ⟨hi, nm_e ⟨hi, nm_e h⟩⟩⟩⟩
theorem xg_new {sh lf rt lk : Nat → Int32} {k a b : Nat} (hG : xg_G n sh lf rt lk kd pa pb) (hk : k < 30) : xg_G (n + 1) (upd sh n (nI k)) (upd lf n (nI a)) (upd rt n (nI b)) (upd lk n (nI n)) (gr_u kd n k) (gr_u pa n a) (gr_u pb n b) := by
  intro i hi
  by_cases c : i = n
  · subst c
    rw [gr_us, gr_us, gr_us, pk_us, pk_us, pk_us, pk_us]
    exact Or.inr ⟨by omega, hk, rfl, rfl, fun _ => ⟨rfl, rfl⟩⟩
  · rw [gr_un c, gr_un c, gr_un c, pk_un c, pk_un c, pk_un c, pk_un c]
    rcases hG i (by omega) with z | z
    · exact Or.inl ⟨z.1, z.2.1, by omega, z.2.2.2⟩
    · exact Or.inr z
theorem gr_same_u {a b k : Nat} : gr_same n kd pa pb (gr_u kd n k) (gr_u pa n a) (gr_u pb n b) := by
  intro i hi
  exact ⟨gr_un (by omega), gr_un (by omega), gr_un (by omega)⟩
theorem gr_f_n {kd' pa' pb' : Nat → Nat} (W : gr_W n kd pa pb) (s : gr_same n kd pa pb kd' pa' pb') : ∀ f i, i < n → gr_f kd' pa' f i = gr_f kd pa f i := by
  intro f
  induction f with
  | zero => intro i _; rfl
  | succ f ih =>
    intro i hi
    obtain ⟨e1, e2, _⟩ := s i hi
    by_cases c : kd i = 1000
    · rw [gr_f_l c, gr_f_l (e1.trans c), e2]; exact ih _ ((W i hi).1 c)
    · rw [gr_f_r c, gr_f_r (by rw [e1]; exact c)]
theorem gr_L_n {kd' pa' pb' : Nat → Nat} (W : gr_W n kd pa pb) (s : gr_same n kd pa pb kd' pa' pb') (hL : gr_L n kd pa K) (hk : kd' n ≠ 1000) : gr_L (n + 1) kd' pa' K := by
  intro i hi
  by_cases c : i < n
  · rw [gr_f_n W s K i c]
    have t := gr_to_n W (gr_L_to hL c) c
    rw [(s _ t).1]; exact hL i c
  · have e : i = n := by omega
    subst e
    rw [gr_f_r hk]; exact hk
theorem gr_nr_n {kd' pa' pb' : Nat → Nat} (s : gr_same n kd pa pb kd' pa' pb') (hk : kd' n ≠ 1000) : gr_nr kd' (n + 1) = gr_nr kd n + 1 := by
  show gr_nr kd' n + (if kd' n = 1000 then 0 else 1) = _
  rw [if_neg hk, gr_nr_c n (fun i hi => (s i hi).1)]
theorem xw_parts {post : Int32 → Prop} {i k : Nat} (hi : i < 4096) (hs : a_shape i = nI k) (hk : k < 30) (h1 : gr_cn k → post 1) (h0 : ¬ gr_cn k → post 0) : wpX_hasParts post (f_tokenCount, f_accepted, f_lastPlace, f_openCount, f_draftOpen, f_symbolCount, f_stepCount, f_bindingCount, f_waitingCount, f_clashPlace, f_nodeCount, f_todoCount, a_kinds, a_values, a_declaredSize, a_declaredNodes, a_draftSize, a_draftNodes, a_symbols, a_symbolPlaces, a_steps, a_stepPlaces, a_bindings, a_boundType, a_waitingTypes, a_waitingFirm, a_shape, a_left, a_right, a_link, a_note, a_todo, a_todoOther, a_generalNode) (nI i) := by
  have v : vp_in (nI i) 4096 := vp_in_nI hi (by decide)
  refine ⟨v, ?_⟩
  rw [nI_clamp (by omega), hs]
  refine pk_lt k 3 (fun c => h0 (by omega)) (fun c => ⟨v, ?_⟩)
  exact pk_lt 6 k (fun c' => h0 (by omega)) (fun c' => h1 (by omega))
theorem xg_sh {sh lf rt lk : Nat → Int32} {i : Nat} (hG : xg_G n sh lf rt lk kd pa pb) (hi : i < n) (hk : kd i ≠ 1000) : kd i < 30 ∧ sh i = nI (kd i) ∧ (gr_cn (kd i) → lf i = nI (pa i) ∧ rt i = nI (pb i)) := by
  rcases hG i hi with z | z
  · exact (hk z.1).elim
  · exact ⟨z.2.1, z.2.2.2.1, z.2.2.2.2⟩
/-- how many below n have a property -/
def ct_n (p : Nat → Bool) : Nat → Nat
  | 0 => 0
  | n + 1 => ct_n p n + (if p n = true then 1 else 0)
theorem ct_c {p q : Nat → Bool} : ∀ n, (∀ i, i < n → p i = q i) → ct_n p n = ct_n q n := by
  intro n
  induction n with
  | zero => intro _; rfl
  | succ n ih =>
    intro h
    unfold ct_n
    rw [ih (fun i hi => h i (by omega)), h n (by omega)]
theorem ct_le {p : Nat → Bool} : ∀ n, ct_n p n ≤ n := by
  intro n
  induction n with
  | zero => exact Nat.le_refl 0
  | succ n ih =>
    unfold ct_n
    by_cases c : p n = true
    · rw [if_pos c]; omega
    · rw [if_neg c]; omega
theorem ct_u {p q : Nat → Bool} {a : Nat} (ha : p a = true) (hq : q a = false) (ho : ∀ i, i ≠ a → q i = p i) : ∀ n, a < n → ct_n q n + 1 = ct_n p n := by
  intro n
  induction n with
  | zero => intro h; omega
  | succ n ih =>
    intro h
    unfold ct_n
    by_cases c : a = n
    · subst c
      rw [ha, hq, if_pos rfl, if_neg (by decide), ct_c a (fun i hi => ho i (by omega))]
    · rw [ho n (by omega)]
      have := ih (by omega)
      omega
end
end
section
/-! the component makes two nodes equal, and looks for a node that contains itself -/
section
variable {f_tokenCount f_accepted f_lastPlace f_openCount f_draftOpen f_symbolCount f_stepCount f_bindingCount f_waitingCount f_clashPlace f_nodeCount f_todoCount : Int32} {a_kinds a_values a_declaredSize a_declaredNodes a_draftSize a_draftNodes a_symbols a_symbolPlaces a_steps a_stepPlaces a_bindings a_boundType a_waitingTypes a_waitingFirm a_shape a_left a_right a_link a_note a_todo a_todoOther a_generalNode : Nat → Int32}
variable {kd pa pb : Nat → Nat} {n K : Nat}
/-- a stack of pairs in two arrays -/
def st_2 (a b : Nat → Int32) : List (Nat × Nat) → Prop
  | [] => True
  | p :: L => a L.length = nI p.1 ∧ b L.length = nI p.2 ∧ st_2 a b L
theorem st_2u {a b : Nat → Int32} {k : Nat} {x y : Int32} : ∀ L : List (Nat × Nat), L.length ≤ k → st_2 a b L → st_2 (upd a k x) (upd b k y) L := by
  intro L
  induction L with
  | nil => intro _ _; trivial
  | cons p L ih =>
    intro h z
    rw [List.length_cons] at h
    refine ⟨?_, ?_, ih (by omega) z.2.2⟩
    · rw [pk_un (by omega)]; exact z.1
    · rw [pk_un (by omega)]; exact z.2.1
theorem st_2p {a b : Nat → Int32} {x y : Nat} {L : List (Nat × Nat)} (h : st_2 a b L) : st_2 (upd a L.length (nI x)) (upd b L.length (nI y)) ((x, y) :: L) := ⟨pk_us, pk_us, st_2u L (Nat.le_refl _) h⟩
theorem xw_addPair {post : SX → Prop} {t : Nat} {x y : Int32} (ht : t < 4096) (h : post (f_tokenCount, f_accepted, f_lastPlace, f_openCount, f_draftOpen, f_symbolCount, f_stepCount, f_bindingCount, f_waitingCount, f_clashPlace, f_nodeCount, nI (t + 1), a_kinds, a_values, a_declaredSize, a_declaredNodes, a_draftSize, a_draftNodes, a_symbols, a_symbolPlaces, a_steps, a_stepPlaces, a_bindings, a_boundType, a_waitingTypes, a_waitingFirm, a_shape, a_left, a_right, a_link, a_note, upd a_todo t x, upd a_todoOther t y, a_generalNode)) : wpX_addPair post (f_tokenCount, f_accepted, f_lastPlace, f_openCount, f_draftOpen, f_symbolCount, f_stepCount, f_bindingCount, f_waitingCount, f_clashPlace, f_nodeCount, nI t, a_kinds, a_values, a_declaredSize, a_declaredNodes, a_draftSize, a_draftNodes, a_symbols, a_symbolPlaces, a_steps, a_stepPlaces, a_bindings, a_boundType, a_waitingTypes, a_waitingFirm, a_shape, a_left, a_right, a_link, a_note, a_todo, a_todoOther, a_generalNode) x y := by
  have e : (nI t).toNatClampNeg = t := nI_clamp (by omega)
  have hi : vp_in (nI t) 4096 := vp_in_nI ht (by decide)
  refine br_f (nI_ge (b := 4096) ht (by decide)) ⟨hi, ?_⟩
  rw [e]
  exact nm_e ⟨hi, nm_e (nm_r (nI_1 t) h)⟩
theorem xg_link {sh lf rt lk : Nat → Int32} {a b : Nat} (hG : xg_G n sh lf rt lk kd pa pb) (hab : a ≠ b) (hb : b < n) : xg_G n sh lf rt (upd lk a (nI b)) (gr_u kd a 1000) (gr_u pa a b) pb := by
  intro i hi
  by_cases c : i = a
  · subst c
    rw [gr_us, gr_us, pk_us]
    exact Or.inl ⟨rfl, Ne.symm hab, hb, rfl⟩
  · rw [gr_un c, gr_un c, pk_un c]; exact hG i hi
theorem xw_eq_l {post : Int32 → SX → Prop} {kd0 pa0 : Nat → Nat} {M : Nat → Prop} {s t : Nat} (hn : n ≤ 4000)
    (hfail : (∀ ρ, gr_V n kd0 pa0 pb ρ → ρ s ≠ ρ t) → ∀ kd pa K tc lk td tdo, gr_W n kd pa pb → xg_G n a_shape a_left a_right lk kd pa pb → gr_L n kd pa K → K + gr_nr kd n ≤ n → post 0 (f_tokenCount, f_accepted, f_lastPlace, f_openCount, f_draftOpen, f_symbolCount, f_stepCount, f_bindingCount, f_waitingCount, f_clashPlace, f_nodeCount, tc, a_kinds, a_values, a_declaredSize, a_declaredNodes, a_draftSize, a_draftNodes, a_symbols, a_symbolPlaces, a_steps, a_stepPlaces, a_bindings, a_boundType, a_waitingTypes, a_waitingFirm, a_shape, a_left, a_right, lk, a_note, td, tdo, a_generalNode))
    (hok : ∀ kd pa K lk td tdo, un_I n kd0 pa0 pb M s t kd pa [] → xg_G n a_shape a_left a_right lk kd pa pb → gr_L n kd pa K → K + gr_nr kd n ≤ n → post 1 (f_tokenCount, f_accepted, f_lastPlace, f_openCount, f_draftOpen, f_symbolCount, f_stepCount, f_bindingCount, f_waitingCount, f_clashPlace, f_nodeCount, 0, a_kinds, a_values, a_declaredSize, a_declaredNodes, a_draftSize, a_draftNodes, a_symbols, a_symbolPlaces, a_steps, a_stepPlaces, a_bindings, a_boundType, a_waitingTypes, a_waitingFirm, a_shape, a_left, a_right, lk, a_note, td, tdo, a_generalNode)) :
    ∀ m kd pa K L lk td tdo c, un_I n kd0 pa0 pb M s t kd pa L → xg_G n a_shape a_left a_right lk kd pa pb → gr_L n kd pa K → K + gr_nr kd n ≤ n → st_2 td tdo L → L.length + 2 * gr_nr kd n ≤ m → c + m < 16384 → L.length + gr_nr kd n ≤ 4001 → wX_makeEqual_13 post (m + 1) (nI c) f_tokenCount f_accepted f_lastPlace f_openCount f_draftOpen f_symbolCount f_stepCount f_bindingCount f_waitingCount f_clashPlace f_nodeCount (nI L.length) a_kinds a_values a_declaredSize a_declaredNodes a_draftSize a_draftNodes a_symbols a_symbolPlaces a_steps a_stepPlaces a_bindings a_boundType a_waitingTypes a_waitingFirm a_shape a_left a_right lk a_note td tdo a_generalNode := by
  intro m
  induction m with
  | zero =>
    intro kd pa K L lk td tdo c U hG hL hK hst hm hc hl
    have e : L = [] := List.eq_nil_of_length_eq_zero (by omega)
    subst e
    exact br_f (nI_ge (b := 16384) (by omega) (by decide)) (br_t (nI_le (a := 0) (b := 0) (by omega) (by omega)) (hok kd pa K lk td tdo U hG hL hK))
  | succ m ih =>
    intro kd pa K L lk td tdo c U hG hL hK hst hm hc hl
    cases L with
    | nil => exact br_f (nI_ge (b := 16384) (by omega) (by decide)) (br_t (nI_le (a := 0) (b := 0) (by omega) (by omega)) (hok kd pa K lk td tdo U hG hL hK))
    | cons x L =>
      obtain ⟨p, q⟩ := x
      rw [List.length_cons] at hm hl
      have W := U.1
      have C := U.2.2.2.1
      have mp := U.2.2.1 (p, q) List.mem_cons_self
      have pn : p < n := (C p mp.1).1
      have qn : q < n := (C q mp.2).1
      have tp := gr_L_to hL pn
      have tq := gr_L_to hL qn
      generalize ea : gr_f kd pa K p = a at tp
      generalize eb : gr_f kd pa K q = b at tq
      have an := gr_to_n W tp pn
      have bn := gr_to_n W tq qn
      have va : vp_in (nI a) 4096 := vp_in_nI (by omega) (by decide)
      have vb : vp_in (nI b) 4096 := vp_in_nI (by omega) (by decide)
      have vl : vp_in (nI L.length) 4096 := vp_in_nI (by omega) (by decide)
      obtain ⟨sa1, sa2, sa3⟩ := xg_sh hG an tp.1
      obtain ⟨sb1, sb2, sb3⟩ := xg_sh hG bn tq.1
      have ca : (nI a).toNatClampNeg = a := nI_clamp (by omega)
      have cb : (nI b).toNatClampNeg = b := nI_clamp (by omega)
      have nr1 := gr_nr_le (kd := kd) n
      refine br_f (nI_ge (b := 16384) (by omega) (by decide)) (br_f (nI_nle (by rw [List.length_cons]; omega) (by rw [List.length_cons]; omega)) (nm_r (nI_pred L.length) ⟨vl, ?_⟩))
      rw [nI_clamp (by omega), hst.1]
      refine xw_find hG (by omega) hL (by omega) pn tp ⟨vl, ?_⟩
      rw [hst.2.1]
      refine xw_find hG (by omega) hL (by omega) qn tq ?_
      refine pk_eq a b (fun e => ?_) (fun e => ⟨va, ?_⟩)
      · subst e
        exact nm_r (nI_1 c) (ih kd pa K L lk td tdo (c + 1) (un_drop U tp tq) hG hL hK hst.2.2 (by omega) (by omega) (by omega))
      · rw [ca, cb, sa2, sb2]
        refine pk_eq (kd a) 7 (fun k7 => ⟨va, ?_⟩) (fun k7 => ⟨vb, ?_⟩)
        · have nr2 := gr_nr_u n an tp.1
          exact nm_e (nm_r (nI_1 c) (ih _ _ (K + 1) L _ td tdo (c + 1) (un_link U tp tq e (Or.inl k7)) (xg_link hG e bn) (gr_L_u hL tp.1 tq.1 e) (by omega) hst.2.2 (by omega) (by omega) (by omega)))
        · refine pk_eq (kd b) 7 (fun j7 => ⟨vb, ?_⟩) (fun j7 => ⟨va, vb, ?_⟩)
          · have nr2 := gr_nr_u n bn tq.1
            have U' := un_L (L' := (q, p) :: L) U (fun x hx => by
              rcases List.mem_cons.mp hx with z | z
              · rw [z]; exact Or.inr List.mem_cons_self
              · exact Or.inl (List.mem_cons_of_mem _ z)) (fun x hx => by
              rcases List.mem_cons.mp hx with z | z
              · rw [z]; exact Or.inr List.mem_cons_self
              · exact Or.inl (List.mem_cons_of_mem _ z))
            exact nm_e (nm_r (nI_1 c) (ih _ _ (K + 1) L _ td tdo (c + 1) (un_link U' tq tp (Ne.symm e) (Or.inl j7)) (xg_link hG (Ne.symm e) an) (gr_L_u hL tq.1 tp.1 (Ne.symm e)) (by omega) hst.2.2 (by omega) (by omega) (by omega)))
          · refine pk_eq (kd a) (kd b) (fun ke => ⟨va, nm_e ?_⟩) (fun ke => hfail (un_fail U tp tq ke k7 j7) kd pa K _ _ _ _ W hG hL hK)
            have nr2 := gr_nr_u n an tp.1
            refine xw_parts (k := kd a) (by omega) sa2 sa1 (fun hc1 => ?_) (fun hc0 => ?_)
            · refine br_f (by decide) ⟨va, vb, ?_⟩
              have hcb : gr_cn (kd b) := ke ▸ hc1
              rw [(sa3 hc1).1, (sb3 hcb).1]
              refine xw_addPair (by omega) ⟨va, vb, ?_⟩
              rw [(sa3 hc1).2, (sb3 hcb).2]
              refine xw_addPair (by omega) (nm_r (nI_1 c) ?_)
              have U' := un_L (L' := (pb a, pb b) :: (pa a, pa b) :: L) (un_con U tp tq e ke hc1) (fun x hx => by
                rcases List.mem_cons.mp hx with z | hx
                · rw [z]; exact Or.inl (List.mem_cons_of_mem _ List.mem_cons_self)
                · rcases List.mem_cons.mp hx with z | hx
                  · rw [z]; exact Or.inl List.mem_cons_self
                  · exact Or.inl (List.mem_cons_of_mem _ (List.mem_cons_of_mem _ hx))) (fun x hx => by
                rcases List.mem_cons.mp hx with z | hx
                · rw [z]; exact Or.inl (List.mem_cons_of_mem _ List.mem_cons_self)
                · rcases List.mem_cons.mp hx with z | hx
                  · rw [z]; exact Or.inl List.mem_cons_self
                  · exact Or.inl (List.mem_cons_of_mem _ (List.mem_cons_of_mem _ hx)))
              exact ih _ _ (K + 1) _ _ _ _ (c + 1) U' (xg_link hG e bn) (gr_L_u hL tp.1 tq.1 e) (by omega) (st_2p (L := (pa a, pa b) :: L) (st_2p hst.2.2)) (by rw [List.length_cons, List.length_cons]; omega) (by omega) (by rw [List.length_cons, List.length_cons]; omega)
            · exact br_t rfl (nm_r (nI_1 c) (ih _ _ (K + 1) L _ td tdo (c + 1) (un_link U tp tq e (Or.inr ⟨ke, hc0⟩)) (xg_link hG e bn) (gr_L_u hL tp.1 tq.1 e) (by omega) hst.2.2 (by omega) (by omega) (by omega)))
theorem xw_eq {post : Int32 → SX → Prop} {M : Nat → Prop} {s t : Nat} (hn : n ≤ 4000) (W : gr_W n kd pa pb) (C : gr_C n kd pa pb M) (G8 : ∀ i, M i → kd i ≠ 8) (hs : M s) (ht : M t) (hG : xg_G n a_shape a_left a_right a_link kd pa pb) (hL : gr_L n kd pa K) (hK : K + gr_nr kd n ≤ n)
    (hfail : (∀ ρ, gr_V n kd pa pb ρ → ρ s ≠ ρ t) → ∀ kd' pa' K' tc lk td tdo, gr_W n kd' pa' pb → xg_G n a_shape a_left a_right lk kd' pa' pb → gr_L n kd' pa' K' → K' + gr_nr kd' n ≤ n → post 0 (f_tokenCount, f_accepted, f_lastPlace, f_openCount, f_draftOpen, f_symbolCount, f_stepCount, f_bindingCount, f_waitingCount, f_clashPlace, f_nodeCount, tc, a_kinds, a_values, a_declaredSize, a_declaredNodes, a_draftSize, a_draftNodes, a_symbols, a_symbolPlaces, a_steps, a_stepPlaces, a_bindings, a_boundType, a_waitingTypes, a_waitingFirm, a_shape, a_left, a_right, lk, a_note, td, tdo, a_generalNode))
    (hok : ∀ kd' pa' K' lk td tdo, un_I n kd pa pb M s t kd' pa' [] → xg_G n a_shape a_left a_right lk kd' pa' pb → gr_L n kd' pa' K' → K' + gr_nr kd' n ≤ n → post 1 (f_tokenCount, f_accepted, f_lastPlace, f_openCount, f_draftOpen, f_symbolCount, f_stepCount, f_bindingCount, f_waitingCount, f_clashPlace, f_nodeCount, 0, a_kinds, a_values, a_declaredSize, a_declaredNodes, a_draftSize, a_draftNodes, a_symbols, a_symbolPlaces, a_steps, a_stepPlaces, a_bindings, a_boundType, a_waitingTypes, a_waitingFirm, a_shape, a_left, a_right, lk, a_note, td, tdo, a_generalNode)) :
    wpX_makeEqual post (f_tokenCount, f_accepted, f_lastPlace, f_openCount, f_draftOpen, f_symbolCount, f_stepCount, f_bindingCount, f_waitingCount, f_clashPlace, f_nodeCount, f_todoCount, a_kinds, a_values, a_declaredSize, a_declaredNodes, a_draftSize, a_draftNodes, a_symbols, a_symbolPlaces, a_steps, a_stepPlaces, a_bindings, a_boundType, a_waitingTypes, a_waitingFirm, a_shape, a_left, a_right, a_link, a_note, a_todo, a_todoOther, a_generalNode) (nI s) (nI t) := by
  have nr1 := gr_nr_le (kd := kd) n
  unfold wpX_makeEqual
  refine xw_addPair (t := 0) (by omega) ?_
  refine ⟨2 * n + 3, ?_⟩
  exact xw_eq_l hn hfail hok (2 * n + 2) kd pa K [(s, t)] a_link _ _ 0 (un_0 W C G8 hs ht) hG hL hK (st_2p (L := []) trivial) (by rw [List.length_singleton]; omega) (by omega) (by rw [List.length_singleton]; omega)
end
end
section
/-! the component's search for a node that contains itself -/
section
variable {f_tokenCount f_accepted f_lastPlace f_openCount f_draftOpen f_symbolCount f_stepCount f_bindingCount f_waitingCount f_clashPlace f_nodeCount f_todoCount : Int32} {a_kinds a_values a_declaredSize a_declaredNodes a_draftSize a_draftNodes a_symbols a_symbolPlaces a_steps a_stepPlaces a_bindings a_boundType a_waitingTypes a_waitingFirm a_shape a_left a_right a_link a_note a_todo a_todoOther a_generalNode : Nat → Int32}
variable {kd pa pb : Nat → Nat} {n K : Nat}
/-- marks: 0 not seen, 1 on the way, 2 done -/
def xm_N (n : Nat) (note : Nat → Int32) (nt : Nat → Nat) : Prop := ∀ i, i < n → note i = nI (nt i) ∧ nt i ≤ 2
def xm_c (ρ : Nat → tr_T) : List Nat → Prop
  | [] => True
  | x :: L => (∀ y, y ∈ L → tr_sz (ρ x) < tr_sz (ρ y)) ∧ xm_c ρ L
/-- what holds while the search is on its way: P the way down, the lowest first -/
def xm_I (n : Nat) (kd pa pb nt : Nat → Nat) (r0 : Nat) (P : List Nat) : Prop :=
  (∀ i, i ∈ P → i < n ∧ kd i ≠ 1000) ∧ P.Nodup ∧ (∀ i, i < n → (nt i = 1 ↔ i ∈ P)) ∧
  (∀ i, i < n → nt i = 2 → kd i ≠ 1000 ∧ (∃ f, gr_H kd pa pb f i) ∧ (gr_cn (kd i) → (∀ x, gr_to kd pa (pa i) x → nt x = 2) ∧ ∀ x, gr_to kd pa (pb i) x → nt x = 2)) ∧
  (r0 ∈ P ∨ nt r0 = 2) ∧ (∀ ρ, gr_V n kd pa pb ρ → xm_c ρ P)
theorem ls_nd1 (x : Nat) : [x].Nodup := List.nodup_cons.mpr ⟨List.not_mem_nil, List.nodup_nil⟩
theorem xm_u {note : Nat → Int32} {nt : Nat → Nat} {a k : Nat} (h : xm_N n note nt) (hk : k ≤ 2) : xm_N n (upd note a (nI k)) (gr_u nt a k) := by
  intro i hi
  by_cases c : i = a
  · subst c; rw [pk_us, gr_us]; exact ⟨rfl, hk⟩
  · rw [pk_un c, gr_un c]; exact h i hi
theorem xw_clear_l {post : SX → Prop} (hn : n ≤ 4096) (h : ∀ note, (∀ i, i < n → note i = 0) → post (f_tokenCount, f_accepted, f_lastPlace, f_openCount, f_draftOpen, f_symbolCount, f_stepCount, f_bindingCount, f_waitingCount, f_clashPlace, nI n, f_todoCount, a_kinds, a_values, a_declaredSize, a_declaredNodes, a_draftSize, a_draftNodes, a_symbols, a_symbolPlaces, a_steps, a_stepPlaces, a_bindings, a_boundType, a_waitingTypes, a_waitingFirm, a_shape, a_left, a_right, a_link, note, a_todo, a_todoOther, a_generalNode)) : ∀ d j note, j + d = n → (∀ i, i < j → note i = 0) → wX_clearNotes_2 post f_tokenCount f_accepted f_lastPlace f_openCount f_draftOpen f_symbolCount f_stepCount f_bindingCount f_waitingCount f_clashPlace (nI n) f_todoCount (d + 1) (nI j) a_kinds a_values a_declaredSize a_declaredNodes a_draftSize a_draftNodes a_symbols a_symbolPlaces a_steps a_stepPlaces a_bindings a_boundType a_waitingTypes a_waitingFirm a_shape a_left a_right a_link note a_todo a_todoOther a_generalNode := by
  intro d
  induction d with
  | zero =>
    intro j note hj hz
    exact br_t (nI_le (by omega) (by omega)) (h note (fun i hi => hz i (by omega)))
  | succ d ih =>
    intro j note hj hz
    refine br_f (nI_ge (by omega) (by omega)) ⟨vp_in_nI (by omega) (by decide), ?_⟩
    rw [nI_clamp (by omega)]
    refine nm_e (nm_r (nI_1 j) (ih (j + 1) _ (by omega) (fun i hi => ?_)))
    by_cases c : i = j
    · rw [c, pk_us]
    · rw [pk_un c]; exact hz i (by omega)
theorem xw_clear {post : SX → Prop} (hn : n ≤ 4096) (h : ∀ note, (∀ i, i < n → note i = 0) → post (f_tokenCount, f_accepted, f_lastPlace, f_openCount, f_draftOpen, f_symbolCount, f_stepCount, f_bindingCount, f_waitingCount, f_clashPlace, nI n, f_todoCount, a_kinds, a_values, a_declaredSize, a_declaredNodes, a_draftSize, a_draftNodes, a_symbols, a_symbolPlaces, a_steps, a_stepPlaces, a_bindings, a_boundType, a_waitingTypes, a_waitingFirm, a_shape, a_left, a_right, a_link, note, a_todo, a_todoOther, a_generalNode)) : wpX_clearNotes post (f_tokenCount, f_accepted, f_lastPlace, f_openCount, f_draftOpen, f_symbolCount, f_stepCount, f_bindingCount, f_waitingCount, f_clashPlace, nI n, f_todoCount, a_kinds, a_values, a_declaredSize, a_declaredNodes, a_draftSize, a_draftNodes, a_symbols, a_symbolPlaces, a_steps, a_stepPlaces, a_bindings, a_boundType, a_waitingTypes, a_waitingFirm, a_shape, a_left, a_right, a_link, a_note, a_todo, a_todoOther, a_generalNode) :=
  ⟨n + 1, xw_clear_l hn h n 0 a_note (by omega) (fun i hi => by omega)⟩
theorem xw_cyc_l {post : Int32 → SX → Prop} {r0 : Nat} (hn : n ≤ 4000) (W : gr_W n kd pa pb) (hG : xg_G n a_shape a_left a_right a_link kd pa pb) (hL : gr_L n kd pa K) (hK : K ≤ 4096)
    (h1 : (∀ ρ, ¬ gr_V n kd pa pb ρ) → ∀ note td, post 1 (f_tokenCount, f_accepted, f_lastPlace, f_openCount, f_draftOpen, f_symbolCount, f_stepCount, f_bindingCount, f_waitingCount, f_clashPlace, f_nodeCount, f_todoCount, a_kinds, a_values, a_declaredSize, a_declaredNodes, a_draftSize, a_draftNodes, a_symbols, a_symbolPlaces, a_steps, a_stepPlaces, a_bindings, a_boundType, a_waitingTypes, a_waitingFirm, a_shape, a_left, a_right, a_link, note, td, a_todoOther, a_generalNode))
    (h0 : ∀ nt, (∀ i, i < n → nt i ≠ 1) → xm_I n kd pa pb nt r0 [] → ∀ note td, post 0 (f_tokenCount, f_accepted, f_lastPlace, f_openCount, f_draftOpen, f_symbolCount, f_stepCount, f_bindingCount, f_waitingCount, f_clashPlace, f_nodeCount, f_todoCount, a_kinds, a_values, a_declaredSize, a_declaredNodes, a_draftSize, a_draftNodes, a_symbols, a_symbolPlaces, a_steps, a_stepPlaces, a_bindings, a_boundType, a_waitingTypes, a_waitingFirm, a_shape, a_left, a_right, a_link, note, td, a_todoOther, a_generalNode)) :
    ∀ m P nt note td c, xm_I n kd pa pb nt r0 P → xm_N n note nt → st_1 td P → 2 * ct_n (fun i => decide (nt i = 0)) n + P.length ≤ m → c + m < 8192 → P.length + ct_n (fun i => decide (nt i = 0)) n ≤ n → wX_containsItself_31 post f_tokenCount f_accepted f_lastPlace f_openCount f_draftOpen f_symbolCount f_stepCount f_bindingCount f_waitingCount f_clashPlace f_nodeCount f_todoCount (m + 1) (nI P.length) (nI c) a_kinds a_values a_declaredSize a_declaredNodes a_draftSize a_draftNodes a_symbols a_symbolPlaces a_steps a_stepPlaces a_bindings a_boundType a_waitingTypes a_waitingFirm a_shape a_left a_right a_link note td a_todoOther a_generalNode := by
  intro m
  induction m with
  | zero =>
    intro P nt note td c I hN hst hm hc hl
    have e : P = [] := List.eq_nil_of_length_eq_zero (by omega)
    subst e
    exact br_f (nI_ge (b := 8192) (by omega) (by decide)) (br_t (nI_le (a := 0) (b := 0) (by omega) (by omega)) (h0 nt (fun i hi z => by cases (I.2.2.1 i hi).mp z) I note td))
  | succ m ih =>
    intro P nt note td c I hN hst hm hc hl
    cases P with
    | nil => exact br_f (nI_ge (b := 8192) (by omega) (by decide)) (br_t (nI_le (a := 0) (b := 0) (by omega) (by omega)) (h0 nt (fun i hi z => by cases (I.2.2.1 i hi).mp z) I note td))
    | cons x P =>
      rw [List.length_cons] at hm hl
      obtain ⟨iP, iN, i1, i2, i0, iC⟩ := I
      obtain ⟨xn, xk⟩ := iP x List.mem_cons_self
      have vx : vp_in (nI x) 4096 := vp_in_nI (by omega) (by decide)
      have cx : (nI x).toNatClampNeg = x := nI_clamp (by omega)
      have vl : vp_in (nI P.length) 4096 := vp_in_nI (by omega) (by decide)
      obtain ⟨sx1, sx2, sx3⟩ := xg_sh hG xn xk
      have hx1 : nt x = 1 := (i1 x xn).mpr List.mem_cons_self
      have xP : x ∉ P := (List.nodup_cons.mp iN).1
      -- the node is done
      have done : (∀ ch : gr_cn (kd x), (∀ y, gr_to kd pa (pa x) y → nt y = 2) ∧ ∀ y, gr_to kd pa (pb x) y → nt y = 2) → wX_containsItself_163 post (wX_containsItself_31 post f_tokenCount f_accepted f_lastPlace f_openCount f_draftOpen f_symbolCount f_stepCount f_bindingCount f_waitingCount f_clashPlace f_nodeCount f_todoCount (m + 1)) (nI (P.length + 1)) (nI c) (nI x) f_tokenCount f_accepted f_lastPlace f_openCount f_draftOpen f_symbolCount f_stepCount f_bindingCount f_waitingCount f_clashPlace f_nodeCount f_todoCount a_kinds a_values a_declaredSize a_declaredNodes a_draftSize a_draftNodes a_symbols a_symbolPlaces a_steps a_stepPlaces a_bindings a_boundType a_waitingTypes a_waitingFirm a_shape a_left a_right a_link note td a_todoOther a_generalNode := by
        intro ch
        refine ⟨vx, ?_⟩
        rw [cx]
        refine nm_e (nm_r (pk_m1 P.length) (nm_r (nI_1 c) (ih P (gr_u nt x 2) _ td (c + 1) ⟨fun i hi => iP i (List.mem_cons_of_mem _ hi), (List.nodup_cons.mp iN).2, fun i hi => ?_, fun i hi z => ?_, ?_, fun ρ h => (iC ρ h).2⟩ (xm_u (k := 2) hN (by omega)) hst.2 ?_ (by omega) ?_)))
        · by_cases q : i = x
          · subst q; rw [gr_us]; exact ⟨fun z => by omega, fun z => (xP z).elim⟩
          · rw [gr_un q, i1 i hi, List.mem_cons]
            exact ⟨fun z => z.elim (fun z => (q z).elim) id, Or.inr⟩
        · by_cases q : i = x
          · subst q
            have fin : ∀ y, y < n → nt y = 2 → ∃ f, gr_H kd pa pb f y := fun y hy z => (i2 y hy z).2.1
            refine ⟨xk, gr_H_i (fun z => (xk z).elim) (fun z => ?_), fun z => ?_⟩
            · obtain ⟨c1, c2⟩ := ch z
              have w := (W i xn).2 z
              have t1 := gr_L_to hL w.1
              have t2 := gr_L_to hL w.2
              exact ⟨gr_to_H t1 (fin _ (gr_to_n W t1 w.1) (c1 _ t1)), gr_to_H t2 (fin _ (gr_to_n W t2 w.2) (c2 _ t2))⟩
            · obtain ⟨c1, c2⟩ := ch z
              have up : ∀ y, nt y = 2 → gr_u nt i 2 y = 2 := fun y hy => by
                by_cases q : y = i
                · rw [q, gr_us]
                · rw [gr_un q]; exact hy
              exact ⟨fun y hy => up y (c1 y hy), fun y hy => up y (c2 y hy)⟩
          · rw [gr_un q] at z
            obtain ⟨z1, z2, z3⟩ := i2 i hi z
            have up : ∀ y, nt y = 2 → gr_u nt x 2 y = 2 := fun y hy => by
              by_cases q : y = x
              · rw [q, gr_us]
              · rw [gr_un q]; exact hy
            exact ⟨z1, z2, fun k => ⟨fun y hy => up y ((z3 k).1 y hy), fun y hy => up y ((z3 k).2 y hy)⟩⟩
        · rcases i0 with z | z
          · rcases List.mem_cons.mp z with z | z
            · exact Or.inr (by rw [z, gr_us])
            · exact Or.inl z
          · refine Or.inr ?_
            by_cases q : r0 = x
            · rw [q, gr_us]
            · rw [gr_un q]; exact z
        · rw [ct_c n (p := fun i => decide (gr_u nt x 2 i = 0)) (q := fun i => decide (nt i = 0)) (fun i hi => by
            by_cases q : i = x
            · rw [q, gr_us, hx1]; decide
            · rw [gr_un q])]
          omega
        · rw [ct_c n (p := fun i => decide (gr_u nt x 2 i = 0)) (q := fun i => decide (nt i = 0)) (fun i hi => by
            by_cases q : i = x
            · rw [q, gr_us, hx1]; decide
            · rw [gr_un q])]
          omega
      -- a part that wasn't seen is next
      have down : ∀ y, y < n → kd y ≠ 1000 → nt y = 0 → (∀ ρ, gr_V n kd pa pb ρ → tr_sz (ρ y) < tr_sz (ρ x)) → wX_containsItself_147 post (wX_containsItself_31 post f_tokenCount f_accepted f_lastPlace f_openCount f_draftOpen f_symbolCount f_stepCount f_bindingCount f_waitingCount f_clashPlace f_nodeCount f_todoCount (m + 1)) (nI (P.length + 1)) (nI c) (nI x) (nI y) f_tokenCount f_accepted f_lastPlace f_openCount f_draftOpen f_symbolCount f_stepCount f_bindingCount f_waitingCount f_clashPlace f_nodeCount f_todoCount a_kinds a_values a_declaredSize a_declaredNodes a_draftSize a_draftNodes a_symbols a_symbolPlaces a_steps a_stepPlaces a_bindings a_boundType a_waitingTypes a_waitingFirm a_shape a_left a_right a_link note td a_todoOther a_generalNode := by
        intro y yn yk y0 ysz
        have yx : y ≠ x := fun e => by rw [e] at y0; omega
        have yP : y ∉ x :: P := fun e => by rw [(i1 y yn).mpr e] at y0; omega
        have hct := ct_u (p := fun i => decide (nt i = 0)) (q := fun i => decide (gr_u nt y 1 i = 0)) (a := y) (by rw [y0]; rfl) (by rw [gr_us]; rfl) (fun i hi => by rw [gr_un hi]) n yn
        refine br_f (fun e => yx ((nI_eq (by omega) (by omega)).mp e)) (br_t (nI_lt (b := 4096) (by omega) (by decide)) ⟨vp_in_nI (by omega) (by decide), ?_⟩)
        rw [nI_clamp (by omega)]
        refine nm_e ⟨vp_in_nI (by omega) (by decide), ?_⟩
        rw [nI_clamp (by omega)]
        refine nm_e (nm_r (nI_1 _) (nm_r (nI_1 c) (ih (y :: x :: P) (gr_u nt y 1) _ _ (c + 1) ⟨fun i hi => ?_, List.nodup_cons.mpr ⟨yP, iN⟩, fun i hi => ?_, fun i hi z => ?_, ?_, fun ρ h => ⟨fun z hz => ?_, iC ρ h⟩⟩ (xm_u (k := 1) hN (by omega)) (st_1p (L := x :: P) hst) ?_ (by omega) ?_)))
        · rcases List.mem_cons.mp hi with z | z
          · rw [z]; exact ⟨yn, yk⟩
          · exact iP i z
        · by_cases q : i = y
          · subst q; rw [gr_us]; exact ⟨fun _ => List.mem_cons_self, fun _ => rfl⟩
          · rw [gr_un q, i1 i hi, List.mem_cons (a := i) (b := y)]
            exact ⟨Or.inr, fun z => z.elim (fun z => (q z).elim) id⟩
        · by_cases q : i = y
          · subst q; rw [gr_us] at z; omega
          · rw [gr_un q] at z
            obtain ⟨z1, z2, z3⟩ := i2 i hi z
            have up : ∀ w, nt w = 2 → gr_u nt y 1 w = 2 := fun w hw => by
              by_cases q : w = y
              · rw [q] at hw; omega
              · rw [gr_un q]; exact hw
            exact ⟨z1, z2, fun k => ⟨fun w hw => up w ((z3 k).1 w hw), fun w hw => up w ((z3 k).2 w hw)⟩⟩
        · rcases i0 with z | z
          · exact Or.inl (List.mem_cons_of_mem _ z)
          · refine Or.inr ?_
            by_cases q : r0 = y
            · rw [q] at z; omega
            · rw [gr_un q]; exact z
        · rcases List.mem_cons.mp hz with e | e
          · rw [e]; exact ysz ρ h
          · exact Nat.lt_trans (ysz ρ h) ((iC ρ h).1 z e)
        · rw [List.length_cons, List.length_cons]; omega
        · rw [List.length_cons, List.length_cons]; omega
      refine br_f (nI_ge (b := 8192) (by omega) (by decide)) (br_f (nI_nle (by rw [List.length_cons]; omega) (by rw [List.length_cons]; omega)) ?_)
      rw [List.length_cons, nI_pred]
      refine ⟨vl, ?_⟩
      rw [nI_clamp (by omega), hst.1]
      refine nm_e ?_
      refine xw_parts (k := kd x) (by omega) sx2 sx1 (fun hc1 => ?_) (fun hc0 => ?_)
      · have w := (W x xn).2 hc1
        have t1 := gr_L_to hL w.1
        have t2 := gr_L_to hL w.2
        generalize e1 : gr_f kd pa K (pa x) = y1 at t1
        generalize e2 : gr_f kd pa K (pb x) = y2 at t2
        have n1 := gr_to_n W t1 w.1
        have n2 := gr_to_n W t2 w.2
        have s1 : ∀ ρ, gr_V n kd pa pb ρ → tr_sz (ρ y1) < tr_sz (ρ x) := fun ρ h => by
          rw [gr_Vc h xn hc1, ← gr_to_V W h t1 w.1]; exact tr_sz_l _ _ _
        have s2 : ∀ ρ, gr_V n kd pa pb ρ → tr_sz (ρ y2) < tr_sz (ρ x) := fun ρ h => by
          rw [gr_Vc h xn hc1, ← gr_to_V W h t2 w.2]; exact tr_sz_r _ _ _
        have cyc : ∀ y, y < n → nt y = 1 → (∀ ρ, gr_V n kd pa pb ρ → tr_sz (ρ y) < tr_sz (ρ x)) → ∀ ρ, ¬ gr_V n kd pa pb ρ := by
          intro y yn y1 hs ρ h
          have a := hs ρ h
          rcases List.mem_cons.mp ((i1 y yn).mp y1) with e | e
          · rw [e] at a; omega
          · have b := (iC ρ h).1 y e; omega
        have v1 : vp_in (nI y1) 4096 := vp_in_nI (by omega) (by decide)
        have v2 : vp_in (nI y2) 4096 := vp_in_nI (by omega) (by decide)
        have q1 : note (nI y1).toNatClampNeg = nI (nt y1) := by rw [nI_clamp (by omega)]; exact (hN y1 n1).1
        have q2 : note (nI y2).toNatClampNeg = nI (nt y2) := by rw [nI_clamp (by omega)]; exact (hN y2 n2).1
        have b1 := (hN y1 n1).2
        have b2 := (hN y2 n2).2
        refine br_f (by decide) ⟨vx, ?_⟩
        rw [cx, (sx3 hc1).1, (sx3 hc1).2]
        refine xw_find hG (by omega) hL hK w.1 t1 ⟨vx, ?_⟩
        refine xw_find hG (by omega) hL hK w.2 t2 ⟨v1, ?_⟩
        rw [q1, q2]
        refine pk_eq (nt y1) 1 (fun z => h1 (cyc y1 n1 z s1) _ _) (fun z1 => ⟨v2, ?_⟩)
        refine pk_eq (nt y2) 1 (fun z => h1 (cyc y2 n2 z s2) _ _) (fun z2 => ⟨v1, ?_⟩)
        refine pk_eq (nt y1) 0 (fun z => down y1 n1 t1.1 z s1) (fun z3 => ⟨v2, ?_⟩)
        refine pk_eq (nt y2) 0 (fun z => down y2 n2 t2.1 z s2) (fun z4 => ?_)
        exact br_t rfl (done (fun _ => ⟨fun y hy => by rw [gr_to_u hy t1]; omega, fun y hy => by rw [gr_to_u hy t2]; omega⟩))
      · exact br_t rfl (br_t rfl (done (fun z => (hc0 z).elim)))
theorem xw_cyc {post : Int32 → SX → Prop} {t : Nat} (hn : n ≤ 4000) (W : gr_W n kd pa pb) (hG : xg_G n a_shape a_left a_right a_link kd pa pb) (hL : gr_L n kd pa K) (hK : K ≤ 4096) (ht : t < n)
    (h1 : (∀ ρ, ¬ gr_V n kd pa pb ρ) → ∀ note td, post 1 (f_tokenCount, f_accepted, f_lastPlace, f_openCount, f_draftOpen, f_symbolCount, f_stepCount, f_bindingCount, f_waitingCount, f_clashPlace, nI n, f_todoCount, a_kinds, a_values, a_declaredSize, a_declaredNodes, a_draftSize, a_draftNodes, a_symbols, a_symbolPlaces, a_steps, a_stepPlaces, a_bindings, a_boundType, a_waitingTypes, a_waitingFirm, a_shape, a_left, a_right, a_link, note, td, a_todoOther, a_generalNode))
    (h0 : ∀ S, ck_R n kd pa pb S → (∀ x, gr_to kd pa t x → S x) → ∀ note td, post 0 (f_tokenCount, f_accepted, f_lastPlace, f_openCount, f_draftOpen, f_symbolCount, f_stepCount, f_bindingCount, f_waitingCount, f_clashPlace, nI n, f_todoCount, a_kinds, a_values, a_declaredSize, a_declaredNodes, a_draftSize, a_draftNodes, a_symbols, a_symbolPlaces, a_steps, a_stepPlaces, a_bindings, a_boundType, a_waitingTypes, a_waitingFirm, a_shape, a_left, a_right, a_link, note, td, a_todoOther, a_generalNode)) :
    wpX_containsItself post (f_tokenCount, f_accepted, f_lastPlace, f_openCount, f_draftOpen, f_symbolCount, f_stepCount, f_bindingCount, f_waitingCount, f_clashPlace, nI n, f_todoCount, a_kinds, a_values, a_declaredSize, a_declaredNodes, a_draftSize, a_draftNodes, a_symbols, a_symbolPlaces, a_steps, a_stepPlaces, a_bindings, a_boundType, a_waitingTypes, a_waitingFirm, a_shape, a_left, a_right, a_link, a_note, a_todo, a_todoOther, a_generalNode) (nI t) := by
  have tt := gr_L_to hL ht
  generalize e : gr_f kd pa K t = r at tt
  have rn := gr_to_n W tt ht
  refine xw_clear (by omega) (fun note hz => ?_)
  refine xw_find hG (by omega) hL hK ht tt (nm_e ?_)
  have q : upd a_todo 0 (nI r) 0 = nI r := pk_us
  rw [q]
  refine ⟨vp_in_nI (by omega) (by decide), ?_⟩
  rw [nI_clamp (by omega)]
  refine nm_e ⟨2 * n + 1, ?_⟩
  have hct := ct_u (p := fun _ => true) (q := fun i => decide (gr_u (fun _ => 0) r 1 i = 0)) (a := r) rfl (by rw [gr_us]; rfl) (fun i hi => by rw [gr_un hi]; rfl) n rn
  have hc2 := ct_le (p := fun _ => true) n
  refine xw_cyc_l (r0 := r) hn W hG hL hK (fun z note td => h1 z note td) (fun nt h1' I note td => h0 (fun i => i < n ∧ nt i = 2) ?_ ?_ note td) (2 * n) [r] (gr_u (fun _ => 0) r 1) _ _ 0 ⟨fun i hi => ?_, ls_nd1 _, fun i hi => ?_, fun i hi z => ?_, Or.inl List.mem_cons_self, fun ρ h => ⟨fun y hy => (by cases hy), trivial⟩⟩ ?_ ?_ ?_ (by omega) ?_
  · intro x hx
    obtain ⟨z1, z2, z3⟩ := I.2.2.2.1 x hx.1 hx.2
    refine ⟨hx.1, z1, z2, fun k => ?_⟩
    have w := (W x hx.1).2 k
    exact ⟨fun y hy => ⟨gr_to_n W hy w.1, (z3 k).1 y hy⟩, fun y hy => ⟨gr_to_n W hy w.2, (z3 k).2 y hy⟩⟩
  · intro x hx
    rw [gr_to_u hx tt]
    rcases I.2.2.2.2.1 with z | z
    · cases z
    · exact ⟨rn, z⟩
  · rw [List.mem_singleton] at hi
    rw [hi]; exact ⟨rn, tt.1⟩
  · by_cases c : i = r
    · subst c; rw [gr_us]; exact ⟨fun _ => List.mem_cons_self, fun _ => rfl⟩
    · rw [gr_un c, List.mem_singleton]; exact ⟨fun z => by omega, fun z => (c z).elim⟩
  · by_cases c : i = r
    · subst c; rw [gr_us] at z; omega
    · rw [gr_un c] at z; omega
  · intro i hi
    by_cases c : i = r
    · subst c; rw [pk_us, gr_us]; exact ⟨rfl, by omega⟩
    · rw [pk_un c, gr_un c, hz i hi]; exact ⟨rfl, by omega⟩
  · exact st_1p (L := []) trivial
  · rw [List.length_singleton]; omega
  · rw [List.length_singleton]; omega
end
end
section
/-! the component makes a type general -/
section
variable {f_tokenCount f_accepted f_lastPlace f_openCount f_draftOpen f_symbolCount f_stepCount f_bindingCount f_waitingCount f_clashPlace f_nodeCount f_todoCount : Int32} {a_kinds a_values a_declaredSize a_declaredNodes a_draftSize a_draftNodes a_symbols a_symbolPlaces a_steps a_stepPlaces a_bindings a_boundType a_waitingTypes a_waitingFirm a_shape a_left a_right a_link a_note a_todo a_todoOther a_generalNode : Nat → Int32}
variable {kd pa pb : Nat → Nat} {n K : Nat}
/-- the nodes reached so far, in their order: in the array td, marked in note -/
def xq_I (n : Nat) (kd : Nat → Nat) (note td : Nat → Int32) (Q : List Nat) : Prop :=
  (∀ i, i ∈ Q → i < n ∧ kd i ≠ 1000) ∧ (∀ i, i < n → (i ∈ Q → note i = 1) ∧ (i ∉ Q → note i = 0)) ∧ (∀ (i x : Nat), Q[i]? = some x → td i = nI x) ∧ Q.Nodup ∧ Q.length + ct_n (fun i => decide (i ∉ Q)) n ≤ n
theorem xq_0 {kd : Nat → Nat} {note td : Nat → Int32} (h : ∀ i, i < n → note i = 0) : xq_I n kd note td [] := by
  refine ⟨fun i hi => (by cases hi), fun i hi => ⟨fun z => (by cases z), fun _ => h i hi⟩, fun i x hx => (by cases hx), List.nodup_nil, ?_⟩
  have := ct_le (p := fun i => decide (i ∉ ([] : List Nat))) n
  simpa using this
/-- reach: the node is among those reached then -/
theorem xw_reach {post : SX → Prop} {x : Nat} {Q : List Nat} (hn : n ≤ 4000) (I : xq_I n kd a_note a_todo Q) (hx : x < n) (hk : kd x ≠ 1000)
    (h1 : x ∈ Q → post (f_tokenCount, f_accepted, f_lastPlace, f_openCount, f_draftOpen, f_symbolCount, f_stepCount, f_bindingCount, f_waitingCount, f_clashPlace, f_nodeCount, nI Q.length, a_kinds, a_values, a_declaredSize, a_declaredNodes, a_draftSize, a_draftNodes, a_symbols, a_symbolPlaces, a_steps, a_stepPlaces, a_bindings, a_boundType, a_waitingTypes, a_waitingFirm, a_shape, a_left, a_right, a_link, a_note, a_todo, a_todoOther, a_generalNode))
    (h2 : x ∉ Q → ∀ note td, xq_I n kd note td (Q ++ [x]) → post (f_tokenCount, f_accepted, f_lastPlace, f_openCount, f_draftOpen, f_symbolCount, f_stepCount, f_bindingCount, f_waitingCount, f_clashPlace, f_nodeCount, nI (Q ++ [x]).length, a_kinds, a_values, a_declaredSize, a_declaredNodes, a_draftSize, a_draftNodes, a_symbols, a_symbolPlaces, a_steps, a_stepPlaces, a_bindings, a_boundType, a_waitingTypes, a_waitingFirm, a_shape, a_left, a_right, a_link, note, td, a_todoOther, a_generalNode)) : wpX_reach post (f_tokenCount, f_accepted, f_lastPlace, f_openCount, f_draftOpen, f_symbolCount, f_stepCount, f_bindingCount, f_waitingCount, f_clashPlace, f_nodeCount, nI Q.length, a_kinds, a_values, a_declaredSize, a_declaredNodes, a_draftSize, a_draftNodes, a_symbols, a_symbolPlaces, a_steps, a_stepPlaces, a_bindings, a_boundType, a_waitingTypes, a_waitingFirm, a_shape, a_left, a_right, a_link, a_note, a_todo, a_todoOther, a_generalNode) (nI x) := by
  obtain ⟨iP, iN, iT, iD, iC⟩ := I
  have vx : vp_in (nI x) 4096 := vp_in_nI (by omega) (by decide)
  refine ⟨vx, ?_⟩
  rw [nI_clamp (by omega)]
  by_cases c : x ∈ Q
  · rw [(iN x hx).1 c]
    exact br_f (by decide) (h1 c)
  · rw [(iN x hx).2 c]
    have hct := ct_u (p := fun i => decide (i ∉ Q)) (q := fun i => decide (i ∉ Q ++ [x])) (a := x) (by simpa using c) (by simp) (fun i hi => by simp [hi]) n hx
    refine br_t rfl (br_f (nI_ge (b := 4096) (by omega) (by decide)) ⟨vx, nm_e ⟨vp_in_nI (by omega) (by decide), ?_⟩⟩)
    rw [nI_clamp (by omega)]
    refine nm_e (nm_r (nI_1 Q.length) ?_)
    have z := h2 c (upd a_note x 1) (upd a_todo Q.length (nI x)) ⟨fun i hi => ?_, fun i hi => ⟨fun q => ?_, fun q => ?_⟩, fun i y hy => ?_, ?_, ?_⟩
    · rw [List.length_append, List.length_singleton] at z; exact z
    · rcases List.mem_append.mp hi with q | q
      · exact iP i q
      · rw [List.mem_singleton.mp q]; exact ⟨hx, hk⟩
    · by_cases e : i = x
      · rw [e, pk_us]
      · rw [pk_un e]
        rcases List.mem_append.mp q with q | q
        · exact (iN i hi).1 q
        · exact (e (List.mem_singleton.mp q)).elim
    · have e : i ≠ x := fun e => q (e ▸ List.mem_append.mpr (Or.inr List.mem_cons_self))
      rw [pk_un e]
      exact (iN i hi).2 (fun k => q (List.mem_append.mpr (Or.inl k)))
    · by_cases l : i < Q.length
      · rw [List.getElem?_append_left l] at hy
        rw [pk_un (by omega)]; exact iT i y hy
      · rw [List.getElem?_append_right (by omega)] at hy
        have e : i = Q.length := by
          by_cases q : i - Q.length = 0
          · omega
          · obtain ⟨w, hw⟩ : ∃ w, i - Q.length = w + 1 := ⟨i - Q.length - 1, by omega⟩
            rw [hw] at hy
            cases hy
        subst e
        rw [Nat.sub_self] at hy
        simp at hy
        rw [pk_us, hy]
    · rw [List.nodup_append]
      exact ⟨iD, ls_nd1 _, fun a ha b hb => by rw [List.mem_singleton.mp hb]; exact fun e => c (e ▸ ha)⟩
    · rw [List.length_append, List.length_singleton]; omega
theorem xq_len {note td : Nat → Int32} {Q : List Nat} (I : xq_I n kd note td Q) : Q.length ≤ n := by
  have := I.2.2.2.2
  omega
/-- reachParts from the place j on: P is kept, and all parts of the nodes from there on are reached -/
theorem xw_rparts_l {post : SX → Prop} {P : Nat → Prop} (hn : n ≤ 4000) (W : gr_W n kd pa pb) (hG : xg_G n a_shape a_left a_right a_link kd pa pb) (hL : gr_L n kd pa K) (hK : K ≤ 4096)
    (hP : ∀ i, i < n → P i → gr_cn (kd i) → (∀ x, gr_to kd pa (pa i) x → P x) ∧ ∀ x, gr_to kd pa (pb i) x → P x) (Q0 : List Nat) (j0 : Nat)
    (h : ∀ note td R, xq_I n kd note td (Q0 ++ R) → (∀ x, x ∈ R → P x) → (∀ (i x : Nat), j0 ≤ i → (Q0 ++ R)[i]? = some x → gr_cn (kd x) → (∀ y, gr_to kd pa (pa x) y → y ∈ Q0 ++ R) ∧ ∀ y, gr_to kd pa (pb x) y → y ∈ Q0 ++ R) → post (f_tokenCount, f_accepted, f_lastPlace, f_openCount, f_draftOpen, f_symbolCount, f_stepCount, f_bindingCount, f_waitingCount, f_clashPlace, f_nodeCount, nI (Q0 ++ R).length, a_kinds, a_values, a_declaredSize, a_declaredNodes, a_draftSize, a_draftNodes, a_symbols, a_symbolPlaces, a_steps, a_stepPlaces, a_bindings, a_boundType, a_waitingTypes, a_waitingFirm, a_shape, a_left, a_right, a_link, note, td, a_todoOther, a_generalNode)) :
    ∀ d j R note td, xq_I n kd note td (Q0 ++ R) → j0 ≤ j → j ≤ (Q0 ++ R).length → n ≤ j + d → (∀ x, x ∈ R → P x) → (∀ (i x : Nat), j0 ≤ i → (Q0 ++ R)[i]? = some x → P x) → (∀ (i x : Nat), j0 ≤ i → i < j → (Q0 ++ R)[i]? = some x → gr_cn (kd x) → (∀ y, gr_to kd pa (pa x) y → y ∈ Q0 ++ R) ∧ ∀ y, gr_to kd pa (pb x) y → y ∈ Q0 ++ R) → wX_reachParts_2 post (d + 1) (nI j) f_tokenCount f_accepted f_lastPlace f_openCount f_draftOpen f_symbolCount f_stepCount f_bindingCount f_waitingCount f_clashPlace f_nodeCount (nI (Q0 ++ R).length) a_kinds a_values a_declaredSize a_declaredNodes a_draftSize a_draftNodes a_symbols a_symbolPlaces a_steps a_stepPlaces a_bindings a_boundType a_waitingTypes a_waitingFirm a_shape a_left a_right a_link note td a_todoOther a_generalNode := by
  intro d
  induction d with
  | zero =>
    intro j R note td I h0 hj hd hR hq hc
    have := xq_len I
    refine br_t (nI_le (by omega) (by omega)) (h note td R I hR (fun i x hi hx => hc i x hi ?_ hx))
    have := (List.getElem?_eq_some_iff.mp hx).1
    omega
  | succ d ih =>
    intro j R note td I h0 hj hd hR hq hc
    have hlen := xq_len I
    by_cases c : j < (Q0 ++ R).length
    · obtain ⟨x, hx⟩ : ∃ x, (Q0 ++ R)[j]? = some x := ⟨(Q0 ++ R)[j], List.getElem?_eq_getElem c⟩
      have xQ : x ∈ Q0 ++ R := List.mem_of_getElem? hx
      obtain ⟨xn, xk⟩ := I.1 x xQ
      have etd : td j = nI x := I.2.2.1 j x hx
      have vj : vp_in (nI j) 4096 := vp_in_nI (by omega) (by decide)
      have vx : vp_in (nI x) 4096 := vp_in_nI (by omega) (by decide)
      have cj : (nI j).toNatClampNeg = j := nI_clamp (by omega)
      have cx : (nI x).toNatClampNeg = x := nI_clamp (by omega)
      obtain ⟨sx1, sx2, sx3⟩ := xg_sh hG xn xk
      refine br_f (nI_ge c (by omega)) (br_f (nI_ge (b := 4096) (by omega) (by decide)) ⟨vj, ?_⟩)
      rw [cj, etd]
      -- the next place, once the parts are reached
      have next : ∀ R' note' td', xq_I n kd note' td' (Q0 ++ R') → (∀ y, y ∈ Q0 ++ R → y ∈ Q0 ++ R') → (∀ (i y : Nat), (Q0 ++ R)[i]? = some y → (Q0 ++ R')[i]? = some y) → (∀ y, y ∈ R' → P y) → (∀ (i y : Nat), j0 ≤ i → (Q0 ++ R')[i]? = some y → P y) → (gr_cn (kd x) → (∀ y, gr_to kd pa (pa x) y → y ∈ Q0 ++ R') ∧ ∀ y, gr_to kd pa (pb x) y → y ∈ Q0 ++ R') → (Q0 ++ R).length ≤ (Q0 ++ R').length → wX_reachParts_2 post (d + 1) (nI (j + 1)) f_tokenCount f_accepted f_lastPlace f_openCount f_draftOpen f_symbolCount f_stepCount f_bindingCount f_waitingCount f_clashPlace f_nodeCount (nI (Q0 ++ R').length) a_kinds a_values a_declaredSize a_declaredNodes a_draftSize a_draftNodes a_symbols a_symbolPlaces a_steps a_stepPlaces a_bindings a_boundType a_waitingTypes a_waitingFirm a_shape a_left a_right a_link note' td' a_todoOther a_generalNode := by
        intro R' note' td' I' sub same hR' hq' hch hlen'
        refine ih (j + 1) R' note' td' I' (by omega) (by omega) (by omega) hR' hq' (fun i y hi hij hy hcy => ?_)
        by_cases e : i = j
        · subst e
          have e2 : y = x := by
            have := same _ _ hx
            rw [this] at hy
            exact (Option.some.inj hy).symm
          subst e2
          exact hch hcy
        · have li : i < (Q0 ++ R).length := by omega
          have hy' : (Q0 ++ R)[i]? = some y := by
            have := same i _ (List.getElem?_eq_getElem li)
            rw [this] at hy
            rw [List.getElem?_eq_getElem li]; exact hy
          obtain ⟨a1, a2⟩ := hc i y hi (by omega) hy' hcy
          exact ⟨fun w hw => sub w (a1 w hw), fun w hw => sub w (a2 w hw)⟩
      refine xw_parts (k := kd x) (by omega) sx2 sx1 (fun hc1 => ?_) (fun hc0 => ?_)
      · have w := (W x xn).2 hc1
        have t1 := gr_L_to hL w.1
        have t2 := gr_L_to hL w.2
        generalize e1 : gr_f kd pa K (pa x) = y1 at t1
        generalize e2 : gr_f kd pa K (pb x) = y2 at t2
        have n1 := gr_to_n W t1 w.1
        have n2 := gr_to_n W t2 w.2
        obtain ⟨p1, p2⟩ := hP x xn (hq j x h0 hx) hc1
        have q1 := p1 y1 t1
        have q2 := p2 y2 t2
        refine br_f (by decide) ⟨vj, vx, ?_⟩
        rw [cx, (sx3 hc1).1, (sx3 hc1).2]
        refine xw_find hG (by omega) hL hK w.1 t1 ⟨vj, vx, ?_⟩
        refine xw_find hG (by omega) hL hK w.2 t2 ?_
        have step2 : ∀ R1 note1 td1, xq_I n kd note1 td1 (Q0 ++ R1) → (∀ y, y ∈ Q0 ++ R → y ∈ Q0 ++ R1) → (∀ (i y : Nat), (Q0 ++ R)[i]? = some y → (Q0 ++ R1)[i]? = some y) → (∀ y, y ∈ R1 → P y) → (∀ (i y : Nat), j0 ≤ i → (Q0 ++ R1)[i]? = some y → P y) → y1 ∈ Q0 ++ R1 → (Q0 ++ R).length ≤ (Q0 ++ R1).length → wpX_reach (fun u => match u with | (f_tokenCount_9, f_accepted_9, f_lastPlace_9, f_openCount_9, f_draftOpen_9, f_symbolCount_9, f_stepCount_9, f_bindingCount_9, f_waitingCount_9, f_clashPlace_9, f_nodeCount_9, f_todoCount_9, a_kinds_9, a_values_9, a_declaredSize_9, a_declaredNodes_9, a_draftSize_9, a_draftNodes_9, a_symbols_9, a_symbolPlaces_9, a_steps_9, a_stepPlaces_9, a_bindings_9, a_boundType_9, a_waitingTypes_9, a_waitingFirm_9, a_shape_9, a_left_9, a_right_9, a_link_9, a_note_9, a_todo_9, a_todoOther_9, a_generalNode_9) => (∀ x2_185 : Int32, x2_185 = nI j + 1 → (wX_reachParts_2 post (d + 1) x2_185 f_tokenCount_9 f_accepted_9 f_lastPlace_9 f_openCount_9 f_draftOpen_9 f_symbolCount_9 f_stepCount_9 f_bindingCount_9 f_waitingCount_9 f_clashPlace_9 f_nodeCount_9 f_todoCount_9 a_kinds_9 a_values_9 a_declaredSize_9 a_declaredNodes_9 a_draftSize_9 a_draftNodes_9 a_symbols_9 a_symbolPlaces_9 a_steps_9 a_stepPlaces_9 a_bindings_9 a_boundType_9 a_waitingTypes_9 a_waitingFirm_9 a_shape_9 a_left_9 a_right_9 a_link_9 a_note_9 a_todo_9 a_todoOther_9 a_generalNode_9))) (f_tokenCount, f_accepted, f_lastPlace, f_openCount, f_draftOpen, f_symbolCount, f_stepCount, f_bindingCount, f_waitingCount, f_clashPlace, f_nodeCount, nI (Q0 ++ R1).length, a_kinds, a_values, a_declaredSize, a_declaredNodes, a_draftSize, a_draftNodes, a_symbols, a_symbolPlaces, a_steps, a_stepPlaces, a_bindings, a_boundType, a_waitingTypes, a_waitingFirm, a_shape, a_left, a_right, a_link, note1, td1, a_todoOther, a_generalNode) (nI y2) := by
          intro R1 note1 td1 I1 sub1 same1 hR1 hq1 hy1 hl1
          have fin : y2 ∈ Q0 ++ R1 → gr_cn (kd x) → (∀ y, gr_to kd pa (pa x) y → y ∈ Q0 ++ R1) ∧ ∀ y, gr_to kd pa (pb x) y → y ∈ Q0 ++ R1 := fun h2 _ => ⟨fun y hy => by rw [gr_to_u hy t1]; exact hy1, fun y hy => by rw [gr_to_u hy t2]; exact h2⟩
          refine xw_reach hn I1 n2 t2.1 (fun h2 => nm_r (nI_1 j) (next R1 note1 td1 I1 sub1 same1 hR1 hq1 (fin h2) hl1)) (fun h2 note2 td2 I2 => ?_)
          rw [List.append_assoc] at I2 ⊢
          have app : ∀ (i y : Nat), (Q0 ++ R1)[i]? = some y → (Q0 ++ (R1 ++ [y2]))[i]? = some y := fun i y hy => by
            rw [← List.append_assoc, List.getElem?_append_left (List.getElem?_eq_some_iff.mp hy).1]; exact hy
          have memb : ∀ y, y ∈ Q0 ++ R1 → y ∈ Q0 ++ (R1 ++ [y2]) := fun y hy => by rw [← List.append_assoc]; exact List.mem_append_left _ hy
          have last : y2 ∈ Q0 ++ (R1 ++ [y2]) := by rw [← List.append_assoc]; exact List.mem_append_right _ List.mem_cons_self
          refine nm_r (nI_1 j) (next (R1 ++ [y2]) note2 td2 I2 (fun y hy => memb y (sub1 y hy)) (fun i y hy => app i y (same1 i y hy)) (fun y hy => ?_) (fun i y hi hy => ?_) (fun _ => ⟨fun y hy => by rw [gr_to_u hy t1]; exact memb _ hy1, fun y hy => by rw [gr_to_u hy t2]; exact last⟩) (by simp only [List.length_append] at hl1 ⊢; omega))
          · rcases List.mem_append.mp hy with z | z
            · exact hR1 y z
            · rw [List.mem_singleton.mp z]; exact q2
          · by_cases l : i < (Q0 ++ R1).length
            · exact hq1 i y hi (by rw [← List.append_assoc, List.getElem?_append_left l] at hy; exact hy)
            · rw [← List.append_assoc, List.getElem?_append_right (by omega)] at hy
              have := List.mem_of_getElem? hy
              rw [List.mem_singleton.mp this]; exact q2
        refine xw_reach hn I n1 t1.1 (fun h1 => step2 R note td I (fun _ h => h) (fun _ _ h => h) hR hq h1 (Nat.le_refl _)) (fun h1 note1 td1 I1 => ?_)
        rw [List.append_assoc] at I1 ⊢
        refine step2 (R ++ [y1]) note1 td1 I1 (fun y hy => by rw [← List.append_assoc]; exact List.mem_append_left _ hy) (fun i y hy => by rw [← List.append_assoc, List.getElem?_append_left (List.getElem?_eq_some_iff.mp hy).1]; exact hy) (fun y hy => ?_) (fun i y hi hy => ?_) (by rw [← List.append_assoc]; exact List.mem_append_right _ List.mem_cons_self) (by simp only [List.length_append]; omega)
        · rcases List.mem_append.mp hy with z | z
          · exact hR y z
          · rw [List.mem_singleton.mp z]; exact q1
        · by_cases l : i < (Q0 ++ R).length
          · exact hq i y hi (by rw [← List.append_assoc, List.getElem?_append_left l] at hy; exact hy)
          · rw [← List.append_assoc, List.getElem?_append_right (by omega)] at hy
            have := List.mem_of_getElem? hy
            rw [List.mem_singleton.mp this]; exact q1
      · exact br_t rfl (nm_r (nI_1 j) (next R note td I (fun _ h => h) (fun _ _ h => h) hR hq (fun z => (hc0 z).elim) (Nat.le_refl _)))
    · refine br_t (nI_le (by omega) (by omega)) (h note td R I hR (fun i x hi hx => hc i x hi ?_ hx))
      have := (List.getElem?_eq_some_iff.mp hx).1
      omega
end
end
section
/-! the component's generalise as a whole -/
section
variable {f_tokenCount f_accepted f_lastPlace f_openCount f_draftOpen f_symbolCount f_stepCount f_bindingCount f_waitingCount f_clashPlace f_nodeCount f_todoCount : Int32} {a_kinds a_values a_declaredSize a_declaredNodes a_draftSize a_draftNodes a_symbols a_symbolPlaces a_steps a_stepPlaces a_bindings a_boundType a_waitingTypes a_waitingFirm a_shape a_left a_right a_link a_note a_todo a_todoOther a_generalNode : Nat → Int32}
variable {kd pa pb : Nat → Nat} {n K : Nat}
theorem xw_rparts {post : SX → Prop} {P : Nat → Prop} (hn : n ≤ 4000) (W : gr_W n kd pa pb) (hG : xg_G n a_shape a_left a_right a_link kd pa pb) (hL : gr_L n kd pa K) (hK : K ≤ 4096)
    (hP : ∀ i, i < n → P i → gr_cn (kd i) → (∀ x, gr_to kd pa (pa i) x → P x) ∧ ∀ x, gr_to kd pa (pb i) x → P x) (Q0 : List Nat) (j0 : Nat) (I : xq_I n kd a_note a_todo Q0) (hj : j0 ≤ Q0.length) (hq : ∀ (i x : Nat), j0 ≤ i → Q0[i]? = some x → P x)
    (h : ∀ note td R, xq_I n kd note td (Q0 ++ R) → (∀ x, x ∈ R → P x) → (∀ (i x : Nat), j0 ≤ i → (Q0 ++ R)[i]? = some x → gr_cn (kd x) → (∀ y, gr_to kd pa (pa x) y → y ∈ Q0 ++ R) ∧ ∀ y, gr_to kd pa (pb x) y → y ∈ Q0 ++ R) → post (f_tokenCount, f_accepted, f_lastPlace, f_openCount, f_draftOpen, f_symbolCount, f_stepCount, f_bindingCount, f_waitingCount, f_clashPlace, f_nodeCount, nI (Q0 ++ R).length, a_kinds, a_values, a_declaredSize, a_declaredNodes, a_draftSize, a_draftNodes, a_symbols, a_symbolPlaces, a_steps, a_stepPlaces, a_bindings, a_boundType, a_waitingTypes, a_waitingFirm, a_shape, a_left, a_right, a_link, note, td, a_todoOther, a_generalNode)) :
    wpX_reachParts post (f_tokenCount, f_accepted, f_lastPlace, f_openCount, f_draftOpen, f_symbolCount, f_stepCount, f_bindingCount, f_waitingCount, f_clashPlace, f_nodeCount, nI Q0.length, a_kinds, a_values, a_declaredSize, a_declaredNodes, a_draftSize, a_draftNodes, a_symbols, a_symbolPlaces, a_steps, a_stepPlaces, a_bindings, a_boundType, a_waitingTypes, a_waitingFirm, a_shape, a_left, a_right, a_link, a_note, a_todo, a_todoOther, a_generalNode) (nI j0) := by
  refine ⟨n + 1, ?_⟩
  have z := xw_rparts_l (post := post) hn W hG hL hK hP Q0 j0 h n j0 [] a_note a_todo (by rw [List.append_nil]; exact I) (Nat.le_refl _) (by rw [List.append_nil]; exact hj) (by omega) (fun x hx => by cases hx) (by rw [List.append_nil]; exact hq) (fun i x h1 h2 => by omega)
  rw [List.append_nil] at z
  exact z
/-- the variables reached from the place j0 on become general -/
theorem xw_g104 {post : SX → Prop} {Q : List Nat} (hn : n ≤ 4000) (I : xq_I n kd a_note a_todo Q) (hG : xg_G n a_shape a_left a_right a_link kd pa pb) (j0 : Nat)
    (h : ∀ sh kd', xg_G n sh a_left a_right a_link kd' pa pb → (∀ i, (kd i = 7 ∧ (∃ j, j0 ≤ j ∧ Q[j]? = some i) ∧ kd' i = 8) ∨ (¬ (kd i = 7 ∧ ∃ j, j0 ≤ j ∧ Q[j]? = some i) ∧ kd' i = kd i)) → post (f_tokenCount, f_accepted, f_lastPlace, f_openCount, f_draftOpen, f_symbolCount, f_stepCount, f_bindingCount, f_waitingCount, f_clashPlace, f_nodeCount, nI Q.length, a_kinds, a_values, a_declaredSize, a_declaredNodes, a_draftSize, a_draftNodes, a_symbols, a_symbolPlaces, a_steps, a_stepPlaces, a_bindings, a_boundType, a_waitingTypes, a_waitingFirm, sh, a_left, a_right, a_link, a_note, a_todo, a_todoOther, a_generalNode)) :
    ∀ d j sh kd', j0 ≤ j → j + d = Q.length → xg_G n sh a_left a_right a_link kd' pa pb → (∀ i, (kd i = 7 ∧ (∃ k, j0 ≤ k ∧ k < j ∧ Q[k]? = some i) ∧ kd' i = 8) ∨ (¬ (kd i = 7 ∧ ∃ k, j0 ≤ k ∧ k < j ∧ Q[k]? = some i) ∧ kd' i = kd i)) → wX_generalise_104 post f_tokenCount f_accepted f_lastPlace f_openCount f_draftOpen f_symbolCount f_stepCount f_bindingCount f_waitingCount f_clashPlace f_nodeCount (nI Q.length) (d + 1) (nI j) a_kinds a_values a_declaredSize a_declaredNodes a_draftSize a_draftNodes a_symbols a_symbolPlaces a_steps a_stepPlaces a_bindings a_boundType a_waitingTypes a_waitingFirm sh a_left a_right a_link a_note a_todo a_todoOther a_generalNode := by
  have hlen := xq_len I
  intro d
  induction d with
  | zero =>
    intro j sh kd' h0 hj hG' hk
    refine br_t (nI_le (by omega) (by omega)) (h sh kd' hG' (fun i => ?_))
    have e : (∃ k, j0 ≤ k ∧ k < j ∧ Q[k]? = some i) ↔ ∃ k, j0 ≤ k ∧ Q[k]? = some i := by
      constructor
      · intro ⟨k, k1, k2, k3⟩; exact ⟨k, k1, k3⟩
      · intro ⟨k, k1, k3⟩
        have := (List.getElem?_eq_some_iff.mp k3).1
        exact ⟨k, k1, by omega, k3⟩
    rw [← e]; exact hk i
  | succ d ih =>
    intro j sh kd' h0 hj hG' hk
    obtain ⟨x, hx⟩ : ∃ x, Q[j]? = some x := ⟨Q[j], List.getElem?_eq_getElem (by omega)⟩
    have xQ : x ∈ Q := List.mem_of_getElem? hx
    obtain ⟨xn, xk⟩ := I.1 x xQ
    have etd : a_todo j = nI x := I.2.2.1 j x hx
    have vj : vp_in (nI j) 4096 := vp_in_nI (by omega) (by decide)
    have vx : vp_in (nI x) 4096 := vp_in_nI (by omega) (by decide)
    have cx : (nI x).toNatClampNeg = x := nI_clamp (by omega)
    have notyet : ¬ ∃ k, j0 ≤ k ∧ k < j ∧ Q[k]? = some x := by
      intro ⟨k, k1, k2, k3⟩
      have l1 := (List.getElem?_eq_some_iff.mp k3)
      have l2 := (List.getElem?_eq_some_iff.mp hx)
      obtain ⟨l1, e1⟩ := l1
      obtain ⟨l2, e2⟩ := l2
      have := (List.getElem_inj I.2.2.2.1).mp (e1.trans e2.symm)
      omega
    have ekx : kd' x = kd x := by
      rcases hk x with z | z
      · exact (notyet z.2.1).elim
      · exact z.2
    have sx : kd' x < 30 ∧ sh x = nI (kd' x) := by
      have := xg_sh hG' xn (by rw [ekx]; exact xk)
      exact ⟨this.1, this.2.1⟩
    have up : ∀ i, (∃ k, j0 ≤ k ∧ k < j + 1 ∧ Q[k]? = some i) ↔ (∃ k, j0 ≤ k ∧ k < j ∧ Q[k]? = some i) ∨ i = x := by
      intro i
      constructor
      · intro ⟨k, k1, k2, k3⟩
        by_cases e : k = j
        · subst e; rw [hx] at k3; exact Or.inr (Option.some.inj k3).symm
        · exact Or.inl ⟨k, k1, by omega, k3⟩
      · intro z
        rcases z with ⟨k, k1, k2, k3⟩ | z
        · exact ⟨k, k1, by omega, k3⟩
        · rw [z]; exact ⟨j, h0, by omega, hx⟩
    refine br_f (nI_ge (by omega) (by omega)) ⟨vj, ?_⟩
    rw [nI_clamp (by omega), etd]
    refine ⟨vx, ?_⟩
    rw [cx, sx.2]
    refine pk_eq (kd' x) 7 (fun k7 => ⟨vj, vx, nm_e (nm_r (nI_1 j) ?_)⟩) (fun k7 => nm_r (nI_1 j) ?_)
    · refine ih (j + 1) _ (gr_u kd' x 8) (by omega) (by omega) (fun i hi => ?_) (fun i => ?_)
      · by_cases e : i = x
        · subst e
          rw [gr_us, pk_us]
          rcases hG' i hi with z | z
          · omega
          · exact Or.inr ⟨by omega, by omega, z.2.2.1, rfl, fun q => by omega⟩
        · rw [gr_un e, pk_un e]; exact hG' i hi
      · rw [up i]
        by_cases e : i = x
        · subst e
          rw [gr_us]
          exact Or.inl ⟨by omega, Or.inr rfl, rfl⟩
        · rw [gr_un e]
          rcases hk i with z | z
          · exact Or.inl ⟨z.1, Or.inl z.2.1, z.2.2⟩
          · exact Or.inr ⟨fun q => z.1 ⟨q.1, q.2.elim id (fun q => (e q).elim)⟩, z.2⟩
    · refine ih (j + 1) sh kd' (by omega) (by omega) hG' (fun i => ?_)
      rw [up i]
      by_cases e : i = x
      · subst e
        exact Or.inr ⟨fun q => by omega, ekx⟩
      · rcases hk i with z | z
        · exact Or.inl ⟨z.1, Or.inl z.2.1, z.2.2⟩
        · exact Or.inr ⟨fun q => z.1 ⟨q.1, q.2.elim id (fun q => (e q).elim)⟩, z.2⟩
end
end
section
/-! the component's generalise against the worlds -/
section
variable {f_tokenCount f_accepted f_lastPlace f_openCount f_draftOpen f_symbolCount f_stepCount f_bindingCount f_waitingCount f_clashPlace f_nodeCount f_todoCount : Int32} {a_kinds a_values a_declaredSize a_declaredNodes a_draftSize a_draftNodes a_symbols a_symbolPlaces a_steps a_stepPlaces a_bindings a_boundType a_waitingTypes a_waitingFirm a_shape a_left a_right a_link a_note a_todo a_todoOther a_generalNode : Nat → Int32}
variable {kd pa pb : Nat → Nat} {n K : Nat}
/-- the bindings' places and their types, the innermost first -/
def xb_B (bd bt : Nat → Int32) : List (Nat × Bool) → List Nat → Prop
  | [], [] => True
  | b :: bs, e :: env => bd bs.length = nI b.1 ∧ b.1 < 24 ∧ bt b.1 = nI e ∧ xb_B bd bt bs env
  | _, _ => False
theorem xb_at {bd bt : Nat → Int32} : ∀ (bs : List (Nat × Bool)) (env : List Nat), xb_B bd bt bs env → ∀ i, i < bs.length → ∃ pl e, bd i = nI pl ∧ pl < 24 ∧ bt pl = nI e ∧ e ∈ env := by
  intro bs
  induction bs with
  | nil => intro env _ i hi; simp at hi
  | cons b bs ih =>
    intro env h i hi
    cases env with
    | nil => exact h.elim
    | cons e env =>
      by_cases c : i = bs.length
      · subst c; exact ⟨b.1, e, h.1, h.2.1, h.2.2.1, List.mem_cons_self⟩
      · rw [List.length_cons] at hi
        obtain ⟨pl, x, h1, h2, h3, h4⟩ := ih env h.2.2.2 i (by omega)
        exact ⟨pl, x, h1, h2, h3, List.mem_cons_of_mem _ h4⟩
theorem xb_all {bd bt : Nat → Int32} : ∀ (bs : List (Nat × Bool)) (env : List Nat), xb_B bd bt bs env → ∀ e, e ∈ env → ∃ i pl, i < bs.length ∧ bd i = nI pl ∧ pl < 24 ∧ bt pl = nI e := by
  intro bs
  induction bs with
  | nil => intro env h e he; cases env with
    | nil => cases he
    | cons e env => exact h.elim
  | cons b bs ih =>
    intro env h e he
    cases env with
    | nil => exact h.elim
    | cons e' env =>
      rcases List.mem_cons.mp he with z | z
      · rw [z]; exact ⟨bs.length, b.1, by rw [List.length_cons]; omega, h.1, h.2.1, h.2.2.1⟩
      · obtain ⟨i, pl, h1, h2, h3, h4⟩ := ih env h.2.2.2 e z
        exact ⟨i, pl, by rw [List.length_cons]; omega, h2, h3, h4⟩
theorem gr_f_78 {kd' : Nat → Nat} (h : ∀ i, kd' i = 1000 ↔ kd i = 1000) : ∀ f i, gr_f kd' pa f i = gr_f kd pa f i := by
  intro f
  induction f with
  | zero => intro i; rfl
  | succ f ih =>
    intro i
    by_cases c : kd i = 1000
    · rw [gr_f_l c, gr_f_l ((h i).mpr c)]; exact ih _
    · rw [gr_f_r c, gr_f_r (fun z => c ((h i).mp z))]
theorem gr_L_78 {kd' : Nat → Nat} (h : ∀ i, kd' i = 1000 ↔ kd i = 1000) (hL : gr_L n kd pa K) : gr_L n kd' pa K := by
  intro i hi z
  rw [gr_f_78 h] at z
  exact hL i hi ((h _).mp z)
theorem gr_nr_78 {kd' : Nat → Nat} (h : ∀ i, kd' i = 1000 ↔ kd i = 1000) : ∀ n, gr_nr kd' n = gr_nr kd n := by
  intro n
  induction n with
  | zero => rfl
  | succ n ih =>
    unfold gr_nr
    rw [ih]
    by_cases c : kd n = 1000
    · rw [if_pos c, if_pos ((h n).mpr c)]
    · rw [if_neg c, if_neg (fun z => c ((h n).mp z))]
/-- nodes that stand for a node of a set that holds its nodes' parts -/
theorem xq_C {S : Nat → Prop} (W : gr_W n kd pa pb) (hS : ∀ r, S r → r < n ∧ kd r ≠ 1000 ∧ (gr_cn (kd r) → (∀ x, gr_to kd pa (pa r) x → S x) ∧ ∀ x, gr_to kd pa (pb r) x → S x)) (hL : gr_L n kd pa K) : gr_C n kd pa pb (fun i => i < n ∧ ∃ r, gr_to kd pa i r ∧ S r) := by
  intro i ⟨hi, r, t, s⟩
  refine ⟨hi, fun c => ⟨(W i hi).1 c, r, gr_to_p c t, s⟩, fun c => ?_⟩
  have e := gr_to_u t (gr_to_r (by omega))
  subst e
  have w := (W r hi).2 c
  obtain ⟨a, b⟩ := (hS r s).2.2 c
  have t1 := gr_L_to hL w.1
  have t2 := gr_L_to hL w.2
  exact ⟨⟨w.1, _, t1, a _ t1⟩, w.2, _, t2, b _ t2⟩
theorem xw_g38 {post : SX → Prop} {b0 nl : Nat} {op stk env : List Nat} {bs : List (Nat × Bool)} {V : dv_W} {t nm : Nat} (hn : n ≤ 4000) (hG : xg_G n a_shape a_left a_right a_link kd pa pb) (hL : gr_L n kd pa K) (hK : K ≤ 4096) (I : rp_I b0 nl n kd pa pb op (t :: stk) env bs V)
    (CI : ∀ ν E τ st τ' st', V ν (τ :: st) E → V ν (τ' :: st') E → V ν (τ' :: st) E) (hB : xb_B a_bindings a_boundType bs env) (hb : bs.length < 24) (hb0 : ∀ i, i < b0 → i ∈ op)
    (h : ∀ sh kd' note td tc, xg_G n sh a_left a_right a_link kd' pa pb → rp_I b0 n n kd' pa pb op stk (t :: env) ((nm, true) :: bs) (dv_bind V) → (∀ i, kd' i = 1000 ↔ kd i = 1000) → (∀ i, kd i = 8 → kd' i = 8) → post (f_tokenCount, f_accepted, f_lastPlace, f_openCount, f_draftOpen, f_symbolCount, f_stepCount, nI (bs.length + 1), f_waitingCount, f_clashPlace, nI n, tc, a_kinds, a_values, a_declaredSize, a_declaredNodes, a_draftSize, a_draftNodes, a_symbols, a_symbolPlaces, a_steps, a_stepPlaces, a_bindings, a_boundType, a_waitingTypes, a_waitingFirm, sh, a_left, a_right, a_link, note, td, a_todoOther, a_generalNode)) :
    ∀ d j Q note td, j + d = bs.length → xq_I n kd note td Q → (∀ x, x ∈ Q → ∀ ρ ρ', gr_V n kd pa pb ρ → gr_V n kd pa pb ρ' → op.map ρ = op.map ρ' → env.map ρ = env.map ρ' → ρ x = ρ' x) → (∀ x, x ∈ op → ∀ r, gr_to kd pa x r → r ∈ Q) → (∀ i pl e r, i < j → a_bindings i = nI pl → pl < 24 → a_boundType pl = nI e → e < n → gr_to kd pa e r → r ∈ Q) → wX_generalise_38 post (nI t) (d + 1) (nI j) f_tokenCount f_accepted f_lastPlace f_openCount f_draftOpen f_symbolCount f_stepCount (nI (bs.length + 1)) f_waitingCount f_clashPlace (nI n) (nI Q.length) a_kinds a_values a_declaredSize a_declaredNodes a_draftSize a_draftNodes a_symbols a_symbolPlaces a_steps a_stepPlaces a_bindings a_boundType a_waitingTypes a_waitingFirm a_shape a_left a_right a_link note td a_todoOther a_generalNode := by
  have W := I.1
  have A := I.2.1
  obtain ⟨M, Es, ⟨hM, gM, oM, sM, eM⟩, _, _, _, _⟩ := I.2.2.1
  have en := I.2.2.2.1
  have tn : t < n := (hM t (sM t List.mem_cons_self)).1
  intro d
  induction d with
  | zero =>
    intro j Q note td hj hQ hD ho he
    have ec : nI (bs.length + 1) - 1 = nI bs.length := nI_pred _
    refine br_t (by rw [ec]; exact nI_le (by omega) (by omega)) ?_
    refine xw_rparts (P := fun x => ∀ ρ ρ', gr_V n kd pa pb ρ → gr_V n kd pa pb ρ' → op.map ρ = op.map ρ' → env.map ρ = env.map ρ' → ρ x = ρ' x) hn W hG hL hK (fun i hi hPi hc => ?_) Q 0 hQ (by omega) (fun i x _ hx => hD x (List.mem_of_getElem? hx)) (fun note1 td1 R1 hQ1 hR1 hc1 => ?_)
    · have w := (W i hi).2 hc
      refine ⟨fun x hx ρ ρ' h1 h2 h3 h4 => ?_, fun x hx ρ ρ' h1 h2 h3 h4 => ?_⟩
      · have e := hPi ρ ρ' h1 h2 h3 h4
        rw [gr_Vc h1 hi hc, gr_Vc h2 hi hc] at e
        rw [← gr_to_V W h1 hx w.1, ← gr_to_V W h2 hx w.1]; exact (tr_con_inj e).2.1
      · have e := hPi ρ ρ' h1 h2 h3 h4
        rw [gr_Vc h1 hi hc, gr_Vc h2 hi hc] at e
        rw [← gr_to_V W h1 hx w.2, ← gr_to_V W h2 hx w.2]; exact (tr_con_inj e).2.2
    · have tt := gr_L_to hL tn
      generalize e0 : gr_f kd pa K t = r at tt
      have rn := gr_to_n W tt tn
      refine xw_find hG (by omega) hL hK tn tt ?_
      -- the last part: Q2 all that is reached in the end
      have last : ∀ Q2 note2 td2, xq_I n kd note2 td2 Q2 → (∀ x, x ∈ Q ++ R1 → x ∈ Q2) → (∀ i x, (Q ++ R1).length ≤ i → Q2[i]? = some x → x ∉ Q ++ R1) → (∀ x, x ∈ Q2 → x ∈ Q ++ R1 ∨ ∃ i : Nat, (Q ++ R1).length ≤ i ∧ Q2[i]? = some x) → (∀ (i x : Nat), (Q ++ R1).length ≤ i → Q2[i]? = some x → ∀ ρ ρ', gr_V n kd pa pb ρ → gr_V n kd pa pb ρ' → ρ t = ρ' t → ρ x = ρ' x) → (∀ x, x ∈ Q2 → gr_cn (kd x) → (∀ y, gr_to kd pa (pa x) y → y ∈ Q2) ∧ ∀ y, gr_to kd pa (pb x) y → y ∈ Q2) → r ∈ Q2 → (Q ++ R1).length ≤ Q2.length → ∃ n104 : Nat, wX_generalise_104 post f_tokenCount f_accepted f_lastPlace f_openCount f_draftOpen f_symbolCount f_stepCount (nI (bs.length + 1)) f_waitingCount f_clashPlace (nI n) (nI Q2.length) n104 (nI (Q ++ R1).length) a_kinds a_values a_declaredSize a_declaredNodes a_draftSize a_draftNodes a_symbols a_symbolPlaces a_steps a_stepPlaces a_bindings a_boundType a_waitingTypes a_waitingFirm a_shape a_left a_right a_link note2 td2 a_todoOther a_generalNode := by
        intro Q2 note2 td2 hQ2 sub out split det clo hr hl
        refine ⟨(Q2.length - (Q ++ R1).length) + 1, ?_⟩
        refine xw_g104 hn hQ2 hG (Q ++ R1).length (fun sh kd' hG' hk => ?_) _ (Q ++ R1).length a_shape kd (Nat.le_refl _) (by omega) hG (fun i => Or.inr ⟨fun q => ?_, rfl⟩)
        · have k1 : ∀ i, kd' i = 1000 ↔ kd i = 1000 := by
            intro i
            rcases hk i with z | z
            · omega
            · rw [z.2]
          refine h sh kd' note2 td2 _ hG' ?_ k1 (fun i k8 => ?_)
          · have FS : gr_C n kd pa pb (fun i => i < n ∧ ∃ r, gr_to kd pa i r ∧ r ∈ Q ++ R1) := by
              refine xq_C W (fun x hx => ⟨(hQ1.1 x hx).1, (hQ1.1 x hx).2, fun c => ?_⟩) hL
              obtain ⟨i, hi⟩ := List.getElem?_of_mem hx
              exact hc1 i x (by omega) hi c
            have QS : gr_C n kd pa pb (fun i => i < n ∧ ∃ r, gr_to kd pa i r ∧ r ∈ Q2) := by
              refine xq_C W (fun x hx => ⟨(hQ2.1 x hx).1, (hQ2.1 x hx).2, fun c => clo x hx c⟩) hL
            have inF : ∀ x, x ∈ Q → x ∈ Q ++ R1 := fun x hx => List.mem_append_left _ hx
            refine rp_gen (F := fun i => i < n ∧ ∃ r, gr_to kd pa i r ∧ r ∈ Q ++ R1) (R := fun i => i < n ∧ ∀ ρ ρ', gr_V n kd pa pb ρ → gr_V n kd pa pb ρ' → ρ t = ρ' t → ρ i = ρ' i) I CI FS ?_ ?_ ?_ (fun ρ ρ' h1 h2 e i hi => hi.2 ρ ρ' h1 h2 e) (fun ρ ρ' h1 h2 e => e t ⟨tn, fun _ _ _ _ q => q⟩) ?_ ?_
            · intro ρ ρ' h1 h2 h3 h4 _ i ⟨hi, x, hx, hxQ⟩
              rw [gr_to_V W h1 hx hi, gr_to_V W h2 hx hi]
              rcases List.mem_append.mp hxQ with z | z
              · exact hD x z ρ ρ' h1 h2 h3 h4
              · exact hR1 x z ρ ρ' h1 h2 h3 h4
            · intro ρ ρ' h1 h2 e
              refine ⟨mp_i fun x hx => ?_, mp_i fun x hx => ?_⟩
              · have xn := (hM x (oM x hx)).1
                have tx := gr_L_to hL xn
                exact e x ⟨xn, _, tx, inF _ (ho x hx _ tx)⟩
              · have xn := en x hx
                have tx := gr_L_to hL xn
                obtain ⟨i, pl, b1, b2, b3, b4⟩ := xb_all bs env hB x hx
                exact e x ⟨xn, _, tx, inF _ (he i pl x _ (by omega) b2 b3 b4 xn tx)⟩
            · intro i ⟨hi, hd⟩
              refine ⟨hi, fun c => ⟨(W i hi).1 c, fun ρ ρ' h1 h2 e => ?_⟩, fun c => ?_⟩
              · rw [← gr_Vl h1 hi c, ← gr_Vl h2 hi c]; exact hd ρ ρ' h1 h2 e
              · refine ⟨⟨((W i hi).2 c).1, fun ρ ρ' h1 h2 e => ?_⟩, ((W i hi).2 c).2, fun ρ ρ' h1 h2 e => ?_⟩
                · have q := hd ρ ρ' h1 h2 e
                  rw [gr_Vc h1 hi c, gr_Vc h2 hi c] at q
                  exact (tr_con_inj q).2.1
                · have q := hd ρ ρ' h1 h2 e
                  rw [gr_Vc h1 hi c, gr_Vc h2 hi c] at q
                  exact (tr_con_inj q).2.2
            · intro ρ ρ' h1 h2 e i hi
              have io := hb0 i hi
              have xn := (hM i (oM i io)).1
              have tx := gr_L_to hL xn
              exact e i ⟨xn, _, tx, inF _ (ho i io _ tx)⟩
            · intro i
              have eqv : (kd i = 7 ∧ (∃ j, (Q ++ R1).length ≤ j ∧ Q2[j]? = some i)) ↔ (kd i = 7 ∧ (i < n ∧ ∀ ρ ρ', gr_V n kd pa pb ρ → gr_V n kd pa pb ρ' → ρ t = ρ' t → ρ i = ρ' i) ∧ ¬ (i < n ∧ ∃ r, gr_to kd pa i r ∧ r ∈ Q ++ R1)) := by
                constructor
                · intro ⟨k7, j, j1, j2⟩
                  have iQ := List.mem_of_getElem? j2
                  refine ⟨k7, ⟨(hQ2.1 i iQ).1, det j i j1 j2⟩, fun ⟨_, x, hx, hxQ⟩ => ?_⟩
                  have e := gr_to_u hx (gr_to_r (by omega))
                  rw [e] at hxQ
                  exact out j i j1 j2 hxQ
                · intro ⟨k7, ⟨hi, hd⟩, nf⟩
                  have iQ : i ∈ Q2 := by
                    by_cases q : i ∈ Q2
                    · exact q
                    · exfalso
                      obtain ⟨ρ, h1, r1⟩ := gr_ex A (fun _ => tr_at 0)
                      obtain ⟨ρ', h2, r2⟩ := gr_ex A (fun j => if j = i then tr_at 1 else tr_at 0)
                      have et : ρ t = ρ' t := by
                        refine gr_agA A h1 h2 QS (fun j hj c => ?_) ⟨tn, r, tt, hr⟩
                        rw [r1 j hj.1 c, r2 j hj.1 c]
                        have ne : ¬ j = i := fun z => by
                          subst z
                          obtain ⟨x, hx, hxQ⟩ := hj.2
                          have e := gr_to_u hx (gr_to_r (by omega))
                          rw [e] at hxQ
                          exact q hxQ
                        rw [if_neg ne]
                      have ei := hd ρ ρ' h1 h2 et
                      rw [r1 i hi (Or.inl k7), r2 i hi (Or.inl k7), if_pos rfl] at ei
                      exact absurd (tr_at_inj ei) (by decide)
                  rcases split i iQ with z | z
                  · exact (nf ⟨hi, i, gr_to_r (by omega), z⟩).elim
                  · exact ⟨k7, z⟩
              rcases hk i with z | z
              · obtain ⟨e1, e2, e3⟩ := eqv.mp ⟨z.1, z.2.1⟩
                exact Or.inl ⟨e1, e2, e3, z.2.2⟩
              · exact Or.inr ⟨fun q => z.1 (eqv.mpr q), z.2⟩
          · rcases hk i with z | z
            · exact z.2.2
            · rw [z.2]; exact k8
        · obtain ⟨_, k, k1, k2, _⟩ := q
          omega
      have clo1 : ∀ x, x ∈ Q ++ R1 → gr_cn (kd x) → (∀ y, gr_to kd pa (pa x) y → y ∈ Q ++ R1) ∧ ∀ y, gr_to kd pa (pb x) y → y ∈ Q ++ R1 := by
        intro x hx c
        obtain ⟨i, hi⟩ := List.getElem?_of_mem hx
        exact hc1 i x (by omega) hi c
      have none : ∀ (i x : Nat), (Q ++ R1).length ≤ i → ¬ (Q ++ R1)[i]? = some x := by
        intro i x hi hx
        have := (List.getElem?_eq_some_iff.mp hx).1
        omega
      have hPt : ∀ i, i < n → (∀ ρ ρ', gr_V n kd pa pb ρ → gr_V n kd pa pb ρ' → ρ t = ρ' t → ρ i = ρ' i) → gr_cn (kd i) → (∀ x, gr_to kd pa (pa i) x → ∀ ρ ρ', gr_V n kd pa pb ρ → gr_V n kd pa pb ρ' → ρ t = ρ' t → ρ x = ρ' x) ∧ ∀ x, gr_to kd pa (pb i) x → ∀ ρ ρ', gr_V n kd pa pb ρ → gr_V n kd pa pb ρ' → ρ t = ρ' t → ρ x = ρ' x := by
        intro i hi hPi hc
        have w := (W i hi).2 hc
        refine ⟨fun x hx ρ ρ' h1 h2 h3 => ?_, fun x hx ρ ρ' h1 h2 h3 => ?_⟩
        · have e := hPi ρ ρ' h1 h2 h3
          rw [gr_Vc h1 hi hc, gr_Vc h2 hi hc] at e
          rw [← gr_to_V W h1 hx w.1, ← gr_to_V W h2 hx w.1]; exact (tr_con_inj e).2.1
        · have e := hPi ρ ρ' h1 h2 h3
          rw [gr_Vc h1 hi hc, gr_Vc h2 hi hc] at e
          rw [← gr_to_V W h1 hx w.2, ← gr_to_V W h2 hx w.2]; exact (tr_con_inj e).2.2
      refine xw_reach hn hQ1 rn tt.1 (fun hr => ?_) (fun hr note2 td2 hQ2 => ?_)
      · refine xw_rparts (P := fun x => ∀ ρ ρ', gr_V n kd pa pb ρ → gr_V n kd pa pb ρ' → ρ t = ρ' t → ρ x = ρ' x) hn W hG hL hK hPt (Q ++ R1) (Q ++ R1).length hQ1 (Nat.le_refl _) (fun i x hi hx => (none i x hi hx).elim) (fun note3 td3 R3 hQ3 hR3 hc3 => ?_)
        have nd := hQ3.2.2.2.1
        rw [List.nodup_append] at nd
        refine last _ note3 td3 hQ3 (fun x hx => List.mem_append_left _ hx) (fun i x hi hx hxQ => ?_) (fun x hx => ?_) (fun i x hi hx => ?_) (fun x hx c => ?_) (List.mem_append_left _ hr) (by simp only [List.length_append]; omega)
        · rw [List.getElem?_append_right hi] at hx
          exact nd.2.2 x hxQ x (List.mem_of_getElem? hx) rfl
        · rcases List.mem_append.mp hx with z | z
          · exact Or.inl z
          · obtain ⟨i, hi⟩ := List.getElem?_of_mem z
            refine Or.inr ⟨(Q ++ R1).length + i, by omega, ?_⟩
            rw [List.getElem?_append_right (by omega), Nat.add_sub_cancel_left]; exact hi
        · rw [List.getElem?_append_right hi] at hx
          exact hR3 x (List.mem_of_getElem? hx)
        · rcases List.mem_append.mp hx with z | z
          · obtain ⟨a1, a2⟩ := clo1 x z c
            exact ⟨fun y hy => List.mem_append_left _ (a1 y hy), fun y hy => List.mem_append_left _ (a2 y hy)⟩
          · obtain ⟨i, hi⟩ := List.getElem?_of_mem z
            refine hc3 ((Q ++ R1).length + i) x (by omega) ?_ c
            rw [List.getElem?_append_right (by omega), Nat.add_sub_cancel_left]; exact hi
      · have dr : ∀ ρ ρ', gr_V n kd pa pb ρ → gr_V n kd pa pb ρ' → ρ t = ρ' t → ρ r = ρ' r := fun ρ ρ' h1 h2 e => by
          rw [← gr_to_V W h1 tt tn, ← gr_to_V W h2 tt tn]; exact e
        have one : ∀ (i x : Nat), (Q ++ R1).length ≤ i → (Q ++ R1 ++ [r])[i]? = some x → x = r := by
          intro i x hi hx
          rw [List.getElem?_append_right hi] at hx
          exact List.mem_singleton.mp (List.mem_of_getElem? hx)
        refine xw_rparts (P := fun x => ∀ ρ ρ', gr_V n kd pa pb ρ → gr_V n kd pa pb ρ' → ρ t = ρ' t → ρ x = ρ' x) hn W hG hL hK hPt (Q ++ R1 ++ [r]) (Q ++ R1).length hQ2 (by rw [List.length_append (as := Q ++ R1)]; omega) (fun i x hi hx => by rw [one i x hi hx]; exact dr) (fun note3 td3 R3 hQ3 hR3 hc3 => ?_)
        have nd := hQ3.2.2.2.1
        have eq : Q ++ R1 ++ [r] ++ R3 = (Q ++ R1) ++ (r :: R3) := by rw [List.append_assoc (Q ++ R1)]; rfl
        rw [eq] at nd hQ3 hc3 ⊢
        rw [List.nodup_append] at nd
        have det : ∀ x, x ∈ r :: R3 → ∀ ρ ρ', gr_V n kd pa pb ρ → gr_V n kd pa pb ρ' → ρ t = ρ' t → ρ x = ρ' x := by
          intro x hx
          rcases List.mem_cons.mp hx with z | z
          · rw [z]; exact dr
          · exact hR3 x z
        refine last _ note3 td3 hQ3 (fun x hx => List.mem_append_left _ hx) (fun i x hi hx hxQ => ?_) (fun x hx => ?_) (fun i x hi hx => ?_) (fun x hx c => ?_) (List.mem_append_right _ List.mem_cons_self) (by rw [List.length_append (as := Q ++ R1)]; omega)
        · rw [List.getElem?_append_right hi] at hx
          exact nd.2.2 x hxQ x (List.mem_of_getElem? hx) rfl
        · rcases List.mem_append.mp hx with z | z
          · exact Or.inl z
          · obtain ⟨i, hi⟩ := List.getElem?_of_mem z
            refine Or.inr ⟨(Q ++ R1).length + i, by omega, ?_⟩
            rw [List.getElem?_append_right (by omega), Nat.add_sub_cancel_left]; exact hi
        · rw [List.getElem?_append_right hi] at hx
          exact det x (List.mem_of_getElem? hx)
        · rcases List.mem_append.mp hx with z | z
          · obtain ⟨a1, a2⟩ := clo1 x z c
            exact ⟨fun y hy => List.mem_append_left _ (a1 y hy), fun y hy => List.mem_append_left _ (a2 y hy)⟩
          · obtain ⟨i, hi⟩ := List.getElem?_of_mem z
            refine hc3 ((Q ++ R1).length + i) x (by omega) ?_ c
            rw [List.getElem?_append_right (by omega), Nat.add_sub_cancel_left]; exact hi
  | succ d ih =>
    intro j Q note td hj hQ hD ho he
    have ec : nI (bs.length + 1) - 1 = nI bs.length := nI_pred _
    obtain ⟨pl, e, b1, b2, b3, b4⟩ := xb_at bs env hB j (by omega)
    have xn := en e b4
    have te := gr_L_to hL xn
    generalize e0 : gr_f kd pa K e = r at te
    have rn := gr_to_n W te xn
    refine br_f (by rw [ec]; exact nI_ge (by omega) (by omega)) ⟨vp_in_nI (by omega) (by decide), ?_⟩
    rw [nI_clamp (by omega), b1]
    refine ⟨vp_in_nI (by omega) (by decide), ?_⟩
    rw [nI_clamp (by omega), b3]
    refine xw_find hG (by omega) hL hK xn te ?_
    have dr : ∀ ρ ρ', gr_V n kd pa pb ρ → gr_V n kd pa pb ρ' → op.map ρ = op.map ρ' → env.map ρ = env.map ρ' → ρ r = ρ' r := fun ρ ρ' h1 h2 _ h4 => by
      rw [← gr_to_V W h1 te xn, ← gr_to_V W h2 te xn]; exact mp_e h4 e b4
    have old : ∀ i pl' e' r', i < j + 1 → a_bindings i = nI pl' → pl' < 24 → a_boundType pl' = nI e' → e' < n → gr_to kd pa e' r' → r' ∈ Q ∨ r' = r := by
      intro i pl' e' r' hi h1 hpl h2 h3 h4
      by_cases c : i = j
      · subst c
        have e1 : pl' = pl := by
          rw [b1] at h1
          exact ((nI_eq (by omega) (by omega)).mp h1).symm
        subst e1
        rw [b3] at h2
        have e2 : e = e' := (nI_eq (by omega) (by omega)).mp h2
        subst e2
        exact Or.inr (gr_to_u h4 te)
      · exact Or.inl (he i pl' e' r' (by omega) h1 hpl h2 h3 h4)
    refine xw_reach hn hQ rn te.1 (fun hr => nm_r (nI_1 j) ?_) (fun hr note2 td2 hQ2 => nm_r (nI_1 j) ?_)
    · refine ih (j + 1) Q note td (by omega) hQ hD ho (fun i pl' e' r' hi h1 hpl h2 h3 h4 => ?_)
      rcases old i pl' e' r' hi h1 hpl h2 h3 h4 with z | z
      · exact z
      · rw [z]; exact hr
    · refine ih (j + 1) (Q ++ [r]) note2 td2 (by omega) hQ2 (fun x hx => ?_) (fun x hx r' h' => List.mem_append_left _ (ho x hx r' h')) (fun i pl' e' r' hi h1 hpl h2 h3 h4 => ?_)
      · rcases List.mem_append.mp hx with z | z
        · exact hD x z
        · rw [List.mem_singleton.mp z]; exact dr
      · rcases old i pl' e' r' hi h1 hpl h2 h3 h4 with z | z
        · exact List.mem_append_left _ z
        · rw [z]; exact List.mem_append_right _ List.mem_cons_self
end
section
variable {f_tokenCount f_accepted f_lastPlace f_openCount f_draftOpen f_symbolCount f_stepCount f_bindingCount f_waitingCount f_clashPlace f_nodeCount f_todoCount : Int32} {a_kinds a_values a_declaredSize a_declaredNodes a_draftSize a_draftNodes a_symbols a_symbolPlaces a_steps a_stepPlaces a_bindings a_boundType a_waitingTypes a_waitingFirm a_shape a_left a_right a_link a_note a_todo a_todoOther a_generalNode : Nat → Int32}
variable {kd pa pb : Nat → Nat} {n K : Nat}
theorem xw_generalise {post : SX → Prop} {nl : Nat} {stk env : List Nat} {bs : List (Nat × Bool)} {V : dv_W} {t nm oc : Nat} (hn : n ≤ 4000) (hG : xg_G n a_shape a_left a_right a_link kd pa pb) (hL : gr_L n kd pa K) (hK : K ≤ 4096) (I : rp_I oc nl n kd pa pb (List.range oc) (t :: stk) env bs V)
    (CI : ∀ ν E τ st τ' st', V ν (τ :: st) E → V ν (τ' :: st') E → V ν (τ' :: st) E) (hB : xb_B a_bindings a_boundType bs env) (hb : bs.length < 24)
    (h : ∀ sh kd' note td tc, xg_G n sh a_left a_right a_link kd' pa pb → rp_I oc n n kd' pa pb (List.range oc) stk (t :: env) ((nm, true) :: bs) (dv_bind V) → (∀ i, kd' i = 1000 ↔ kd i = 1000) → (∀ i, kd i = 8 → kd' i = 8) → post (f_tokenCount, f_accepted, f_lastPlace, nI oc, f_draftOpen, f_symbolCount, f_stepCount, nI (bs.length + 1), f_waitingCount, f_clashPlace, nI n, tc, a_kinds, a_values, a_declaredSize, a_declaredNodes, a_draftSize, a_draftNodes, a_symbols, a_symbolPlaces, a_steps, a_stepPlaces, a_bindings, a_boundType, a_waitingTypes, a_waitingFirm, sh, a_left, a_right, a_link, note, td, a_todoOther, a_generalNode)) :
    wpX_generalise post (f_tokenCount, f_accepted, f_lastPlace, nI oc, f_draftOpen, f_symbolCount, f_stepCount, nI (bs.length + 1), f_waitingCount, f_clashPlace, nI n, f_todoCount, a_kinds, a_values, a_declaredSize, a_declaredNodes, a_draftSize, a_draftNodes, a_symbols, a_symbolPlaces, a_steps, a_stepPlaces, a_bindings, a_boundType, a_waitingTypes, a_waitingFirm, a_shape, a_left, a_right, a_link, a_note, a_todo, a_todoOther, a_generalNode) (nI t) := by
  have W := I.1
  obtain ⟨M, Es, ⟨hM, gM, oM, sM, eM⟩, _, _, _, _⟩ := I.2.2.1
  have on : ∀ i, i < oc → i < n := fun i hi => (hM i (oM i (List.mem_range.mpr hi))).1
  have ocn : oc ≤ n := by
    by_cases c : oc = 0
    · omega
    · have := on (oc - 1) (by omega); omega
  unfold wpX_generalise
  refine xw_clear (by omega) (fun note hz => ?_)
  refine ⟨oc + 1, ?_⟩
  have loop : ∀ d j Q note td, j + d = oc → xq_I n kd note td Q → (∀ x, x ∈ Q → ∀ ρ ρ', gr_V n kd pa pb ρ → gr_V n kd pa pb ρ' → (List.range oc).map ρ = (List.range oc).map ρ' → env.map ρ = env.map ρ' → ρ x = ρ' x) → (∀ x, x < j → ∀ r, gr_to kd pa x r → r ∈ Q) → wX_generalise_11 post (nI t) (d + 1) (nI j) f_tokenCount f_accepted f_lastPlace (nI oc) f_draftOpen f_symbolCount f_stepCount (nI (bs.length + 1)) f_waitingCount f_clashPlace (nI n) (nI Q.length) a_kinds a_values a_declaredSize a_declaredNodes a_draftSize a_draftNodes a_symbols a_symbolPlaces a_steps a_stepPlaces a_bindings a_boundType a_waitingTypes a_waitingFirm a_shape a_left a_right a_link note td a_todoOther a_generalNode := by
    intro d
    induction d with
    | zero =>
      intro j Q note td hj hQ hD ho
      refine br_t (nI_le (by omega) (by omega)) ⟨bs.length + 1, ?_⟩
      exact xw_g38 hn hG hL hK I CI hB hb (fun i hi => List.mem_range.mpr hi) h bs.length 0 Q note td (by omega) hQ hD (fun x hx => ho x (by have := List.mem_range.mp hx; omega)) (fun i pl e r hi => by omega)
    | succ d ih =>
      intro j Q note td hj hQ hD ho
      have xn := on j (by omega)
      have te := gr_L_to hL xn
      generalize e0 : gr_f kd pa K j = r at te
      have rn := gr_to_n W te xn
      refine br_f (nI_ge (by omega) (by omega)) ?_
      refine xw_find hG (by omega) hL hK xn te ?_
      have old : ∀ x, x < j + 1 → ∀ r', gr_to kd pa x r' → r' ∈ Q ∨ r' = r := by
        intro x hx r' h'
        by_cases c : x = j
        · subst c; exact Or.inr (gr_to_u h' te)
        · exact Or.inl (ho x (by omega) r' h')
      refine xw_reach hn hQ rn te.1 (fun hr => nm_r (nI_1 j) ?_) (fun hr note2 td2 hQ2 => nm_r (nI_1 j) ?_)
      · refine ih (j + 1) Q note td (by omega) hQ hD (fun x hx r' h' => ?_)
        rcases old x hx r' h' with z | z
        · exact z
        · rw [z]; exact hr
      · refine ih (j + 1) (Q ++ [r]) note2 td2 (by omega) hQ2 (fun x hx => ?_) (fun x hx r' h' => ?_)
        · rcases List.mem_append.mp hx with z | z
          · exact hD x z
          · rw [List.mem_singleton.mp z]
            intro ρ ρ' h1 h2 h3 _
            rw [← gr_to_V W h1 te xn, ← gr_to_V W h2 te xn]; exact mp_e h3 j (List.mem_range.mpr (by omega))
        · rcases old x hx r' h' with z | z
          · exact List.mem_append_left _ z
          · rw [z]; exact List.mem_append_right _ List.mem_cons_self
  exact loop oc 0 [] note a_todo (by omega) (xq_0 hz) (fun x hx => by cases hx) (fun x hx => by omega)
end
end
section
/-! the component's copy of a type with new variables -/
section
variable {f_tokenCount f_accepted f_lastPlace f_openCount f_draftOpen f_symbolCount f_stepCount f_bindingCount f_waitingCount f_clashPlace f_nodeCount f_todoCount : Int32} {a_kinds a_values a_declaredSize a_declaredNodes a_draftSize a_draftNodes a_symbols a_symbolPlaces a_steps a_stepPlaces a_bindings a_boundType a_waitingTypes a_waitingFirm a_shape a_left a_right a_link a_note a_todo a_todoOther a_generalNode : Nat → Int32}
variable {kd pa pb : Nat → Nat} {n K : Nat}
theorem ct_nd : ∀ (P : List Nat) (p : Nat → Bool), P.Nodup → (∀ x, x ∈ P → x < n ∧ p x = true) → P.length ≤ ct_n p n := by
  intro P
  induction P with
  | nil => intro p _ _; exact Nat.zero_le _
  | cons x P ih =>
    intro p hd h
    obtain ⟨d1, d2⟩ := List.nodup_cons.mp hd
    obtain ⟨x1, x2⟩ := h x List.mem_cons_self
    have z := ih (fun i => if i = x then false else p i) d2 (fun y hy => ⟨(h y (List.mem_cons_of_mem _ hy)).1, by
      have ne : ¬ y = x := fun e => d1 (e ▸ hy)
      show (if y = x then false else p y) = true
      rw [if_neg ne]; exact (h y (List.mem_cons_of_mem _ hy)).2⟩)
    have c := ct_u (p := p) (q := fun i => if i = x then false else p i) (a := x) x2 (if_pos rfl) (fun i hi => if_neg hi) n x1
    rw [List.length_cons]; omega
theorem ct_from {b : Nat} {p : Nat → Bool} (h : ∀ i, p i = true → b ≤ i) : ∀ n, ct_n p n ≤ n - b := by
  intro n
  induction n with
  | zero => exact Nat.zero_le _
  | succ n ih =>
    unfold ct_n
    by_cases c : p n = true
    · rw [if_pos c]; have := h n c; omega
    · rw [if_neg c]; omega
theorem xw_copy {post : Int32 → SX → Prop} {x y1 y2 c1 c2 : Nat} (hn : n < 4096) (hG : xg_G n a_shape a_left a_right a_link kd pa pb) (hL : gr_L n kd pa K) (hK : K ≤ 4096) (W : gr_W n kd pa pb) (hx : x < n) (hk : kd x ≠ 1000)
    (h8 : kd x = 8 → post (nI n) (f_tokenCount, f_accepted, f_lastPlace, f_openCount, f_draftOpen, f_symbolCount, f_stepCount, f_bindingCount, f_waitingCount, f_clashPlace, nI (n + 1), f_todoCount, a_kinds, a_values, a_declaredSize, a_declaredNodes, a_draftSize, a_draftNodes, a_symbols, a_symbolPlaces, a_steps, a_stepPlaces, a_bindings, a_boundType, a_waitingTypes, a_waitingFirm, upd a_shape n (nI 7), upd a_left n (nI 0), upd a_right n (nI 0), upd a_link n (nI n), upd a_note n 0, a_todo, a_todoOther, a_generalNode))
    (h0 : kd x ≠ 8 → ¬ gr_cn (kd x) → post (nI x) (f_tokenCount, f_accepted, f_lastPlace, f_openCount, f_draftOpen, f_symbolCount, f_stepCount, f_bindingCount, f_waitingCount, f_clashPlace, nI n, f_todoCount, a_kinds, a_values, a_declaredSize, a_declaredNodes, a_draftSize, a_draftNodes, a_symbols, a_symbolPlaces, a_steps, a_stepPlaces, a_bindings, a_boundType, a_waitingTypes, a_waitingFirm, a_shape, a_left, a_right, a_link, a_note, a_todo, a_todoOther, a_generalNode))
    (hc : gr_cn (kd x) → gr_to kd pa (pa x) y1 ∧ gr_to kd pa (pb x) y2 ∧ a_note y1 = nI (c1 + 1) ∧ a_note y2 = nI (c2 + 1) ∧ c1 < 4096 ∧ c2 < 4096)
    (hs : gr_cn (kd x) → c1 = y1 → c2 = y2 → post (nI x) (f_tokenCount, f_accepted, f_lastPlace, f_openCount, f_draftOpen, f_symbolCount, f_stepCount, f_bindingCount, f_waitingCount, f_clashPlace, nI n, f_todoCount, a_kinds, a_values, a_declaredSize, a_declaredNodes, a_draftSize, a_draftNodes, a_symbols, a_symbolPlaces, a_steps, a_stepPlaces, a_bindings, a_boundType, a_waitingTypes, a_waitingFirm, a_shape, a_left, a_right, a_link, a_note, a_todo, a_todoOther, a_generalNode))
    (hm : gr_cn (kd x) → ¬ (c1 = y1 ∧ c2 = y2) → post (nI n) (f_tokenCount, f_accepted, f_lastPlace, f_openCount, f_draftOpen, f_symbolCount, f_stepCount, f_bindingCount, f_waitingCount, f_clashPlace, nI (n + 1), f_todoCount, a_kinds, a_values, a_declaredSize, a_declaredNodes, a_draftSize, a_draftNodes, a_symbols, a_symbolPlaces, a_steps, a_stepPlaces, a_bindings, a_boundType, a_waitingTypes, a_waitingFirm, upd a_shape n (nI (kd x)), upd a_left n (nI c1), upd a_right n (nI c2), upd a_link n (nI n), upd a_note n 0, a_todo, a_todoOther, a_generalNode)) :
    wpX_copyAboveParts post (f_tokenCount, f_accepted, f_lastPlace, f_openCount, f_draftOpen, f_symbolCount, f_stepCount, f_bindingCount, f_waitingCount, f_clashPlace, nI n, f_todoCount, a_kinds, a_values, a_declaredSize, a_declaredNodes, a_draftSize, a_draftNodes, a_symbols, a_symbolPlaces, a_steps, a_stepPlaces, a_bindings, a_boundType, a_waitingTypes, a_waitingFirm, a_shape, a_left, a_right, a_link, a_note, a_todo, a_todoOther, a_generalNode) (nI x) := by
  have vx : vp_in (nI x) 4096 := vp_in_nI (by omega) (by decide)
  have cx : (nI x).toNatClampNeg = x := nI_clamp (by omega)
  obtain ⟨sx1, sx2, sx3⟩ := xg_sh hG hx hk
  refine ⟨vx, ?_⟩
  rw [cx, sx2]
  refine pk_eq (kd x) 8 (fun k8 => ?_) (fun k8 => ?_)
  · exact xw_new hn (h8 k8)
  · refine xw_parts (k := kd x) (by omega) sx2 sx1 (fun hc1 => ?_) (fun hc0 => ?_)
    · obtain ⟨t1, t2, q1, q2, l1, l2⟩ := hc hc1
      have w := (W x hx).2 hc1
      have n1 := gr_to_n W t1 w.1
      have n2 := gr_to_n W t2 w.2
      refine br_f (by decide) ⟨vx, ?_⟩
      rw [(sx3 hc1).1, (sx3 hc1).2]
      refine xw_find hG (by omega) hL hK w.1 t1 ⟨vx, ?_⟩
      refine xw_find hG (by omega) hL hK w.2 t2 ⟨vp_in_nI (by omega) (by decide), ?_⟩
      rw [nI_clamp (by omega), q1]
      refine nm_r (nI_pred c1) ⟨vp_in_nI (by omega) (by decide), ?_⟩
      rw [nI_clamp (by omega), q2]
      refine nm_r (nI_pred c2) ?_
      have made : ¬ (c1 = y1 ∧ c2 = y2) → wX_copyAboveParts_86 post (nI x) (nI c1) (nI c2) f_tokenCount f_accepted f_lastPlace f_openCount f_draftOpen f_symbolCount f_stepCount f_bindingCount f_waitingCount f_clashPlace (nI n) f_todoCount a_kinds a_values a_declaredSize a_declaredNodes a_draftSize a_draftNodes a_symbols a_symbolPlaces a_steps a_stepPlaces a_bindings a_boundType a_waitingTypes a_waitingFirm a_shape a_left a_right a_link a_note a_todo a_todoOther a_generalNode := by
        intro ne
        refine ⟨vx, ?_⟩
        rw [cx, sx2]
        exact xw_new hn (hm hc1 ne)
      exact pk_eq c1 y1 (fun e1 => pk_eq c2 y2 (fun e2 => hs hc1 e1 e2) (fun e2 => made (fun z => e2 z.2))) (fun e1 => made (fun z => e1 z.1))
    · exact br_t rfl (h0 k8 hc0)
/-- what holds while the copy is at work: nt i = 0: no copy yet, else the copy's number and one; P the way down -/
def xi_I (b0 nl n n' : Nat) (kd pa pb kd' pa' pb' : Nat → Nat) (M E : Nat → Prop) (ρ : Nat → tr_T) (note : Nat → Int32) (nt : Nat → Nat) (r0 : Nat) (P : List Nat) : Prop :=
  ic_I n n' kd pa pb kd' pa' pb' (fun i => i < n ∧ nt i ≠ 0) (fun i => nt i - 1) ∧ (∀ i, i < n → note i = nI (nt i) ∧ nt i ≤ n') ∧
  (∀ i, i ∈ P → i < n ∧ kd i ≠ 1000 ∧ nt i = 0 ∧ E i) ∧ P.Nodup ∧ xm_c ρ P ∧ (r0 ∈ P ∨ nt r0 ≠ 0) ∧ (∀ i, i < n → nt i ≠ 0 → M i → nt i = i + 1) ∧
  (n' - n) + ct_n (fun i => decide (b0 ≤ i) && decide (nt i = 0)) nl ≤ nl - b0
theorem gr_to_s {kd' pa' pb' : Nat → Nat} (W : gr_W n kd pa pb) (s : ∀ i, i < n → kd' i = kd i ∧ pa' i = pa i ∧ pb' i = pb i) {i r : Nat} (hi : i < n) (h : gr_to kd pa i r) : gr_to kd' pa' i r := by
  have rn := gr_to_n W h hi
  obtain ⟨hr, f, e⟩ := h
  refine ⟨by rw [(s r rn).1]; exact hr, f, ?_⟩
  rw [gr_f_n W s f i hi]; exact e
def xi_K (n n' : Nat) (kd pa pb kd2 pa2 pb2 nt : Nat → Nat) (x y : Nat) : Prop := gr_cn (kd x) → ∃ z w, gr_to kd pa (pa x) z ∧ gr_to kd pa (pb x) w ∧ z < n ∧ w < n ∧ nt z ≠ 0 ∧ nt w ≠ 0 ∧ z ≠ x ∧ w ≠ x ∧ ((y = x ∧ nt z = z + 1 ∧ nt w = w + 1) ∨ (y = n' ∧ kd2 y = kd x ∧ pa2 y = nt z - 1 ∧ pb2 y = nt w - 1 ∧ ¬ (nt z = z + 1 ∧ nt w = w + 1)))
/-- the next node gets its copy y -/
theorem xi_fin {b0 nl n' n2 : Nat} {kd' pa' pb' kd2 pa2 pb2 : Nat → Nat} {M E : Nat → Prop} {ρ : Nat → tr_T} {note note2 : Nat → Int32} {nt : Nat → Nat} {r0 x y : Nat} {P : List Nat}
    (I : xi_I b0 nl n n' kd pa pb kd' pa' pb' M E ρ note nt r0 (x :: P)) (h1 : n' ≤ n2) (hs : ∀ i, i < n' → kd2 i = kd' i ∧ pa2 i = pa' i ∧ pb2 i = pb' i)
    (hy : (y = x ∧ n2 = n') ∨ (y = n' ∧ n2 = n' + 1)) (hx : x < n)
    (k8 : kd x = 8 → y = n' ∧ kd2 y = 7) (kc : xi_K n n' kd pa pb kd2 pa2 pb2 nt x y)
    (ko : kd x ≠ 8 → ¬ gr_cn (kd x) → y = x) (hM : gr_C n kd pa pb M) (gM : ∀ i, M i → kd i ≠ 8) (bE : ∀ i, E i → ¬ M i → b0 ≤ i ∧ i < nl) (hnote : ∀ i, i < n → note2 i = if i = x then nI (y + 1) else note i) :
    xi_I b0 nl n n2 kd pa pb kd2 pa2 pb2 M E ρ note2 (gr_u nt x (y + 1)) r0 P := by
  obtain ⟨ic, iN, iP, iD, iS, i0, iM, iC⟩ := I
  obtain ⟨j1, j2, j3, j4, j5⟩ := ic
  have ilt : ∀ r, r < n → nt r ≠ 0 → nt r - 1 < n' ∧ (nt r - 1 = r ∨ n ≤ nt r - 1) := fun r h1 h2 => ic_lt (⟨j1, j2, j3, j4, j5⟩ : ic_I n n' kd pa pb kd' pa' pb' (fun i => i < n ∧ nt i ≠ 0) (fun i => nt i - 1)) (r := r) ⟨h1, h2⟩
  dsimp only at j3 j4 j5
  obtain ⟨d1, d2⟩ := List.nodup_cons.mp iD
  obtain ⟨_, xk, x0, xE⟩ := iP x List.mem_cons_self
  have yx : M x → y = x := by
    intro m
    by_cases c8 : kd x = 8
    · exact (gM x m c8).elim
    · by_cases cc : gr_cn (kd x)
      · obtain ⟨z, w, t1, t2, zn, wn, z0, w0, _, _, q⟩ := kc cc
        rcases q with q | q
        · exact q.1
        · have mz := gr_to_C hM t1 ((hM x m).2.2 cc).1
          have mw := gr_to_C hM t2 ((hM x m).2.2 cc).2
          exact (q.2.2.2.2 ⟨iM z zn z0 mz, iM w wn w0 mw⟩).elim
      · exact ko c8 cc
  have bnd : y = n' → b0 ≤ x ∧ x < nl := by
    intro e
    refine bE x xE (fun m => ?_)
    have := yx m
    omega
  refine ⟨⟨by omega, fun i hi => ?_, fun r hr => ?_, fun r r' hr hr' h h' => ?_, fun m m1 m2 => ?_⟩, fun i hi => ?_, fun i hi => ?_, d2, iS.2, ?_, fun i hi h m => ?_, ?_⟩
  · obtain ⟨a, b, c⟩ := hs i (by omega)
    obtain ⟨a', b', c'⟩ := j2 i hi
    exact ⟨a.trans a', b.trans b', c.trans c'⟩
  · obtain ⟨rn, hr⟩ := hr
    dsimp only
    by_cases e : r = x
    · subst e
      simp only [gr_us, Nat.add_sub_cancel]
      refine ⟨rn, xk, fun c => ?_, fun c => ?_, fun c c' => ko c c'⟩
      · obtain ⟨a, b⟩ := k8 c
        exact ⟨by omega, by omega, b⟩
      · obtain ⟨z, w, t1, t2, zn, wn, z0, w0, zx, wx, q⟩ := kc c
        refine ⟨z, w, t1, t2, ⟨zn, by rw [gr_un zx]; exact z0⟩, ⟨wn, by rw [gr_un wx]; exact w0⟩, ?_⟩
        rw [gr_un zx, gr_un wx]
        rcases q with q | q
        · exact Or.inl ⟨q.1, by omega, by omega⟩
        · exact Or.inr ⟨by omega, by omega, q.2.1, q.2.2.1, q.2.2.2.1⟩
    · rw [gr_un e] at hr ⊢
      obtain ⟨a, b, c, d, g⟩ := j3 r ⟨rn, hr⟩
      refine ⟨a, b, fun q => ?_, fun q => ?_, g⟩
      · obtain ⟨c1, c2, c3⟩ := c q
        exact ⟨c1, by omega, by rw [(hs _ c2).1]; exact c3⟩
      · obtain ⟨z, w, t1, t2, ⟨zn, z0⟩, ⟨wn, w0⟩, q'⟩ := d q
        have zx : z ≠ x := fun e => z0 (e ▸ x0)
        have wx : w ≠ x := fun e => w0 (e ▸ x0)
        refine ⟨z, w, t1, t2, ⟨zn, by rw [gr_un zx]; exact z0⟩, ⟨wn, by rw [gr_un wx]; exact w0⟩, ?_⟩
        rw [gr_un zx, gr_un wx]
        rcases q' with q' | q'
        · exact Or.inl q'
        · obtain ⟨e1, e2, e3⟩ := hs _ q'.2.1
          exact Or.inr ⟨q'.1, by omega, by rw [e1]; exact q'.2.2.1, by rw [e2]; exact q'.2.2.2.1, by rw [e3]; exact q'.2.2.2.2⟩
  · obtain ⟨rn, hr⟩ := hr
    obtain ⟨rn', hr'⟩ := hr'
    dsimp only at h h'
    by_cases e : r = x
    · by_cases e' : r' = x
      · rw [e, e']
      · subst e
        simp only [gr_us, Nat.add_sub_cancel] at h h'
        rw [gr_un e'] at hr' h'
        have l := ilt r' rn' hr'
        omega
    · by_cases e' : r' = x
      · subst e'
        rw [gr_un e] at hr h h'
        simp only [gr_us, Nat.add_sub_cancel] at h'
        have l := ilt r rn hr
        omega
      · rw [gr_un e] at hr h h'
        rw [gr_un e'] at hr' h'
        exact j4 r r' ⟨rn, hr⟩ ⟨rn', hr'⟩ h h'
  · by_cases c : m < n'
    · obtain ⟨r, ⟨rn, hr⟩, e⟩ := j5 m m1 c
      have rx : r ≠ x := fun e => hr (e ▸ x0)
      exact ⟨r, ⟨rn, by rw [gr_un rx]; exact hr⟩, by dsimp only; rw [gr_un rx]; exact e⟩
    · refine ⟨x, ⟨hx, by rw [gr_us]; omega⟩, ?_⟩
      dsimp only
      rw [gr_us]; omega
  · rw [hnote i hi]
    by_cases e : i = x
    · rw [if_pos e, e, gr_us]; exact ⟨rfl, by omega⟩
    · rw [if_neg e, gr_un e]; have := iN i hi; exact ⟨this.1, by omega⟩
  · obtain ⟨a, b, c, d⟩ := iP i (List.mem_cons_of_mem _ hi)
    have ne : i ≠ x := fun e => d1 (e ▸ hi)
    exact ⟨a, b, by rw [gr_un ne]; exact c, d⟩
  · rcases i0 with z | z
    · rcases List.mem_cons.mp z with z | z
      · exact Or.inr (by rw [z, gr_us]; omega)
      · exact Or.inl z
    · refine Or.inr ?_
      by_cases e : r0 = x
      · rw [e, gr_us]; omega
      · rw [gr_un e]; exact z
  · by_cases e : i = x
    · subst e
      rw [gr_us, yx m]
    · rw [gr_un e] at h ⊢; exact iM i hi h m
  · by_cases q : y = n'
    · obtain ⟨b1, b2⟩ := bnd q
      have c := ct_u (p := fun i => decide (b0 ≤ i) && decide (nt i = 0)) (q := fun i => decide (b0 ≤ i) && decide (gr_u nt x (y + 1) i = 0)) (a := x) (by simp [b1, x0]) (by rw [gr_us]; simp) (fun i hi => by rw [gr_un hi]) nl b2
      omega
    · have e2 : n2 = n' := by omega
      have mono : ct_n (fun i => decide (b0 ≤ i) && decide (gr_u nt x (y + 1) i = 0)) nl ≤ ct_n (fun i => decide (b0 ≤ i) && decide (nt i = 0)) nl := by
        by_cases b2 : x < nl
        · by_cases b1 : b0 ≤ x
          · have c := ct_u (p := fun i => decide (b0 ≤ i) && decide (nt i = 0)) (q := fun i => decide (b0 ≤ i) && decide (gr_u nt x (y + 1) i = 0)) (a := x) (by simp [b1, x0]) (by rw [gr_us]; simp) (fun i hi => by rw [gr_un hi]) nl b2
            omega
          · exact Nat.le_of_eq (ct_c nl (fun i hi => by
              by_cases e : i = x
              · rw [e]; simp [b1]
              · rw [gr_un e]))
        · exact Nat.le_of_eq (ct_c nl (fun i hi => by rw [gr_un (by omega)]))
      omega
end
end
section
/-! the component's instance: the loop -/
section
variable {f_tokenCount f_accepted f_lastPlace f_openCount f_draftOpen f_symbolCount f_stepCount f_bindingCount f_waitingCount f_clashPlace f_nodeCount f_todoCount : Int32} {a_kinds a_values a_declaredSize a_declaredNodes a_draftSize a_draftNodes a_symbols a_symbolPlaces a_steps a_stepPlaces a_bindings a_boundType a_waitingTypes a_waitingFirm a_shape a_left a_right a_link a_note a_todo a_todoOther a_generalNode : Nat → Int32}
variable {kd pa pb : Nat → Nat} {n K : Nat}
theorem xi_down {b0 nl n' : Nat} {kd' pa' pb' : Nat → Nat} {M E : Nat → Prop} {ρ : Nat → tr_T} {note : Nat → Int32} {nt : Nat → Nat} {r0 x y : Nat} {P : List Nat}
    (I : xi_I b0 nl n n' kd pa pb kd' pa' pb' M E ρ note nt r0 (x :: P)) (yn : y < n) (yk : kd y ≠ 1000) (y0 : nt y = 0) (yE : E y) (ys : tr_sz (ρ y) < tr_sz (ρ x)) : xi_I b0 nl n n' kd pa pb kd' pa' pb' M E ρ note nt r0 (y :: x :: P) := by
  obtain ⟨ic, iN, iP, iD, iS, i0, iM, iC⟩ := I
  have lt : ∀ z, z ∈ x :: P → tr_sz (ρ y) < tr_sz (ρ z) := by
    intro z hz
    rcases List.mem_cons.mp hz with e | e
    · rw [e]; exact ys
    · exact Nat.lt_trans ys (iS.1 z e)
  refine ⟨ic, iN, fun i hi => ?_, List.nodup_cons.mpr ⟨fun z => Nat.lt_irrefl _ (lt y z), iD⟩, ⟨lt, iS⟩, i0.elim (fun z => Or.inl (List.mem_cons_of_mem _ z)) Or.inr, iM, iC⟩
  rcases List.mem_cons.mp hi with e | e
  · rw [e]; exact ⟨yn, yk, y0, yE⟩
  · exact iP i e
theorem xw_inst_l {post : Int32 → SX → Prop} {b0 nl r0 : Nat} {M E : Nat → Prop} {ρ : Nat → tr_T} (W : gr_W n kd pa pb) (hL : gr_L n kd pa K) (hK : K ≤ 4096) (hM : gr_C n kd pa pb M) (gM : ∀ i, M i → kd i ≠ 8) (cE : gr_C n kd pa pb E) (bE : ∀ i, E i → ¬ M i → b0 ≤ i ∧ i < nl) (hρ : gr_V n kd pa pb ρ) (hb : n + (nl - b0) ≤ 4000) (r0n : r0 < n)
    (h : ∀ n' kd' pa' pb' nt sh lf rt lk note td, xi_I b0 nl n n' kd pa pb kd' pa' pb' M E ρ note nt r0 [] → xg_G n' sh lf rt lk kd' pa' pb' → gr_L n' kd' pa' K → K + gr_nr kd' n' ≤ n' → post (nI (nt r0 - 1)) (f_tokenCount, f_accepted, f_lastPlace, f_openCount, f_draftOpen, f_symbolCount, f_stepCount, f_bindingCount, f_waitingCount, f_clashPlace, nI n', f_todoCount, a_kinds, a_values, a_declaredSize, a_declaredNodes, a_draftSize, a_draftNodes, a_symbols, a_symbolPlaces, a_steps, a_stepPlaces, a_bindings, a_boundType, a_waitingTypes, a_waitingFirm, sh, lf, rt, lk, note, td, a_todoOther, a_generalNode)) :
    ∀ m P n' kd' pa' pb' nt sh lf rt lk note td c, xi_I b0 nl n n' kd pa pb kd' pa' pb' M E ρ note nt r0 P → xg_G n' sh lf rt lk kd' pa' pb' → gr_L n' kd' pa' K → K + gr_nr kd' n' ≤ n' → st_1 td P → 2 * ct_n (fun i => decide (nt i = 0)) n ≤ m + P.length → c + m < 8192 → wX_instance_22 post (nI r0) (m + 1) (nI P.length) (nI c) f_tokenCount f_accepted f_lastPlace f_openCount f_draftOpen f_symbolCount f_stepCount f_bindingCount f_waitingCount f_clashPlace (nI n') f_todoCount a_kinds a_values a_declaredSize a_declaredNodes a_draftSize a_draftNodes a_symbols a_symbolPlaces a_steps a_stepPlaces a_bindings a_boundType a_waitingTypes a_waitingFirm sh lf rt lk note td a_todoOther a_generalNode := by
  intro m
  have done : ∀ m n' kd' pa' pb' nt sh lf rt lk note td c, xi_I b0 nl n n' kd pa pb kd' pa' pb' M E ρ note nt r0 [] → xg_G n' sh lf rt lk kd' pa' pb' → gr_L n' kd' pa' K → K + gr_nr kd' n' ≤ n' → c < 8192 → wX_instance_22 post (nI r0) (m + 1) (nI 0) (nI c) f_tokenCount f_accepted f_lastPlace f_openCount f_draftOpen f_symbolCount f_stepCount f_bindingCount f_waitingCount f_clashPlace (nI n') f_todoCount a_kinds a_values a_declaredSize a_declaredNodes a_draftSize a_draftNodes a_symbols a_symbolPlaces a_steps a_stepPlaces a_bindings a_boundType a_waitingTypes a_waitingFirm sh lf rt lk note td a_todoOther a_generalNode := by
    intro m n' kd' pa' pb' nt sh lf rt lk note td c I hG hL' hK' hc
    have r1 : nt r0 ≠ 0 := by
      rcases I.2.2.2.2.2.1 with z | z
      · cases z
      · exact z
    have q := (I.2.1 r0 r0n).1
    refine br_f (nI_ge (b := 8192) hc (by decide)) (br_t (nI_le (a := 0) (b := 0) (by omega) (by omega)) ⟨vp_in_nI (by omega) (by decide), ?_⟩)
    rw [nI_clamp (by omega), q]
    obtain ⟨k, ek⟩ : ∃ k, nt r0 = k + 1 := ⟨nt r0 - 1, by omega⟩
    have z := h n' kd' pa' pb' nt sh lf rt lk note td I hG hL' hK'
    rw [ek] at z ⊢
    rw [nI_pred]
    exact z
  induction m with
  | zero =>
    intro P n' kd' pa' pb' nt sh lf rt lk note td c I hG hL' hK' hst hm hc
    have pl := ct_nd (n := n) P (fun i => decide (nt i = 0)) I.2.2.2.1 (fun x hx => ⟨(I.2.2.1 x hx).1, by simpa using (I.2.2.1 x hx).2.2.1⟩)
    have e : P = [] := List.eq_nil_of_length_eq_zero (by omega)
    subst e
    exact done 0 n' kd' pa' pb' nt sh lf rt lk note td c I hG hL' hK' (by omega)
  | succ m ih =>
    intro P n' kd' pa' pb' nt sh lf rt lk note td c I hG hL' hK' hst hm hc
    cases P with
    | nil => exact done (m + 1) n' kd' pa' pb' nt sh lf rt lk note td c I hG hL' hK' (by omega)
    | cons x P =>
      have I' := I
      obtain ⟨ic, iN, iP, iD, iS, i0, iM, iC⟩ := I
      obtain ⟨xn, xk, x0, xE⟩ := iP x List.mem_cons_self
      have nn : n ≤ n' := ic.1
      have n4 : n' ≤ 4000 := by omega
      have sm := ic.2.1
      have pl := ct_nd (n := n) (x :: P) (fun i => decide (nt i = 0)) iD (fun y hy => ⟨(iP y hy).1, by simpa using (iP y hy).2.2.1⟩)
      rw [List.length_cons] at hm pl
      have cl := ct_le (p := fun i => decide (nt i = 0)) n
      have W' := ic_W ic W
      have vx : vp_in (nI x) 4096 := vp_in_nI (by omega) (by decide)
      have cx : (nI x).toNatClampNeg = x := nI_clamp (by omega)
      have vl : vp_in (nI P.length) 4096 := vp_in_nI (by omega) (by decide)
      have kx : kd' x = kd x := (sm x xn).1
      obtain ⟨sx1, sx2, sx3⟩ := xg_sh hG (by omega : x < n') (by rw [kx]; exact xk)
      rw [kx] at sx1 sx2 sx3
      rw [(sm x xn).2.1, (sm x xn).2.2] at sx3
      -- a node whose parts have copies gets its own
      have fin : (gr_cn (kd x) → ∃ y1 y2, gr_to kd pa (pa x) y1 ∧ gr_to kd pa (pb x) y2 ∧ nt y1 ≠ 0 ∧ nt y2 ≠ 0) → wX_instance_131 post (wX_instance_22 post (nI r0) (m + 1)) (nI r0) (nI (P.length + 1)) (nI c) (nI x) f_tokenCount f_accepted f_lastPlace f_openCount f_draftOpen f_symbolCount f_stepCount f_bindingCount f_waitingCount f_clashPlace (nI n') f_todoCount a_kinds a_values a_declaredSize a_declaredNodes a_draftSize a_draftNodes a_symbols a_symbolPlaces a_steps a_stepPlaces a_bindings a_boundType a_waitingTypes a_waitingFirm sh lf rt lk note td a_todoOther a_generalNode := by
        intro ch
        have ch' : ∃ y1 y2, gr_cn (kd x) → (gr_to kd pa (pa x) y1 ∧ gr_to kd pa (pb x) y2 ∧ nt y1 ≠ 0 ∧ nt y2 ≠ 0) := by
          by_cases q : gr_cn (kd x)
          · obtain ⟨y1, y2, z⟩ := ch q
            exact ⟨y1, y2, fun _ => z⟩
          · exact ⟨0, 0, fun z => (q z).elim⟩
        obtain ⟨y1, y2, ch'⟩ := ch'
        -- what the parts are
        have inf : gr_cn (kd x) → y1 < n ∧ y2 < n ∧ y1 ≠ x ∧ y2 ≠ x ∧ gr_to kd' pa' (pa' x) y1 ∧ gr_to kd' pa' (pb' x) y2 ∧ note y1 = nI (nt y1 - 1 + 1) ∧ note y2 = nI (nt y2 - 1 + 1) ∧ nt y1 - 1 < 4096 ∧ nt y2 - 1 < 4096 := by
          intro q
          obtain ⟨t1, t2, z1, z2⟩ := ch' q
          have w := (W x xn).2 q
          have n1 := gr_to_n W t1 w.1
          have n2 := gr_to_n W t2 w.2
          have b1 := iN y1 n1
          have b2 := iN y2 n2
          refine ⟨n1, n2, fun e => z1 (e ▸ x0), fun e => z2 (e ▸ x0), ?_, ?_, ?_, ?_, by omega, by omega⟩
          · rw [(sm x xn).2.1]; exact gr_to_s W sm w.1 t1
          · rw [(sm x xn).2.2]; exact gr_to_s W sm w.2 t2
          · rw [b1.1]; congr 1; omega
          · rw [b2.1]; congr 1; omega
        have cnt : ∀ y, ct_n (fun i => decide (gr_u nt x (y + 1) i = 0)) n + 1 = ct_n (fun i => decide (nt i = 0)) n := fun y => ct_u (p := fun i => decide (nt i = 0)) (q := fun i => decide (gr_u nt x (y + 1) i = 0)) (a := x) (by rw [x0]; rfl) (by rw [gr_us]; simp) (fun i hi => by rw [gr_un hi]) n xn
        have same : ∀ y, (y = x ∧ (kd x = 8 → False) ∧ (gr_cn (kd x) → nt y1 = y1 + 1 ∧ nt y2 = y2 + 1)) → vp_in (nI x) 4096 ∧ ∀ note' : Nat → Int32, note' = upd note (nI x).toNatClampNeg (nI y + 1) → ∀ x3 : Int32, x3 = nI (P.length + 1) + (-1) → ∀ x4 : Int32, x4 = nI c + 1 → wX_instance_22 post (nI r0) (m + 1) x3 x4 f_tokenCount f_accepted f_lastPlace f_openCount f_draftOpen f_symbolCount f_stepCount f_bindingCount f_waitingCount f_clashPlace (nI n') f_todoCount a_kinds a_values a_declaredSize a_declaredNodes a_draftSize a_draftNodes a_symbols a_symbolPlaces a_steps a_stepPlaces a_bindings a_boundType a_waitingTypes a_waitingFirm sh lf rt lk note' td a_todoOther a_generalNode := by
          intro y hy
          refine ⟨vx, ?_⟩
          rw [cx, nI_1]
          have hc2 := cnt y
          refine nm_e (nm_r (pk_m1 P.length) (nm_r (nI_1 c) (ih P n' kd' pa' pb' (gr_u nt x (y + 1)) sh lf rt lk _ td (c + 1) ?_ hG hL' hK' hst.2 (by omega) (by omega))))
          refine xi_fin (y := y) I' (Nat.le_refl _) (fun i _ => ⟨rfl, rfl, rfl⟩) (Or.inl ⟨hy.1, rfl⟩) xn (fun k => (hy.2.1 k).elim) (fun k => ?_) (fun _ _ => hy.1) hM gM bE (fun i hi => rfl)
          obtain ⟨t1, t2, z1, z2⟩ := ch' k
          obtain ⟨n1, n2, e1, e2, _⟩ := inf k
          exact ⟨y1, y2, t1, t2, n1, n2, z1, z2, e1, e2, Or.inl ⟨hy.1, hy.2.2 k⟩⟩
        have made : ∀ k a b, k < 30 → k ≠ 8 → (kd x = 8 → k = 7) → (gr_cn (kd x) → k = kd x ∧ a = nt y1 - 1 ∧ b = nt y2 - 1 ∧ ¬ (nt y1 = y1 + 1 ∧ nt y2 = y2 + 1)) → (kd x = 8 ∨ gr_cn (kd x)) → vp_in (nI x) 4096 ∧ ∀ note' : Nat → Int32, note' = upd (upd note n' 0) (nI x).toNatClampNeg (nI n' + 1) → ∀ x3 : Int32, x3 = nI (P.length + 1) + (-1) → ∀ x4 : Int32, x4 = nI c + 1 → wX_instance_22 post (nI r0) (m + 1) x3 x4 f_tokenCount f_accepted f_lastPlace f_openCount f_draftOpen f_symbolCount f_stepCount f_bindingCount f_waitingCount f_clashPlace (nI (n' + 1)) f_todoCount a_kinds a_values a_declaredSize a_declaredNodes a_draftSize a_draftNodes a_symbols a_symbolPlaces a_steps a_stepPlaces a_bindings a_boundType a_waitingTypes a_waitingFirm (upd sh n' (nI k)) (upd lf n' (nI a)) (upd rt n' (nI b)) (upd lk n' (nI n')) note' td a_todoOther a_generalNode := by
          intro k a b k30 k8 hk8 hkc hor
          refine ⟨vx, ?_⟩
          rw [cx, nI_1]
          have hc2 := cnt n'
          have k1 : gr_u kd' n' k n' ≠ 1000 := by rw [gr_us]; omega
          have nr2 : gr_nr (gr_u kd' n' k) (n' + 1) = gr_nr kd' n' + 1 := gr_nr_n (gr_same_u (pa := pa') (pb := pb') (a := a) (b := b)) k1
          have J := xi_fin (y := n') (n2 := n' + 1) (kd2 := gr_u kd' n' k) (pa2 := gr_u pa' n' a) (pb2 := gr_u pb' n' b) (note2 := upd (upd note n' 0) x (nI (n' + 1))) I' (by omega) gr_same_u (Or.inr ⟨rfl, rfl⟩) xn (fun q => ⟨rfl, by rw [gr_us]; exact hk8 q⟩) (fun q => by
              obtain ⟨t1, t2, z1, z2⟩ := ch' q
              obtain ⟨n1, n2, e1, e2, _⟩ := inf q
              obtain ⟨q1, q2, q3, q4⟩ := hkc q
              exact ⟨y1, y2, t1, t2, n1, n2, z1, z2, e1, e2, Or.inr ⟨rfl, by rw [gr_us]; exact q1, by rw [gr_us]; exact q2, by rw [gr_us]; exact q3, q4⟩⟩) (fun q1 q2 => (hor.elim q1 q2).elim) hM gM bE (fun i hi => by
              by_cases e : i = x
              · rw [if_pos e, e, pk_us]
              · rw [if_neg e, pk_un e, pk_un (by omega)])
          exact nm_e (nm_r (pk_m1 P.length) (nm_r (nI_1 c) (ih P (n' + 1) _ _ _ _ _ _ _ _ _ td (c + 1) J (xg_new hG k30) (gr_L_n W' (gr_same_u (pb := pb') (b := b)) hL' k1) (by omega) hst.2 (by omega) (by omega))))
        refine xw_copy (x := x) (y1 := y1) (y2 := y2) (c1 := nt y1 - 1) (c2 := nt y2 - 1) (by omega) hG hL' hK W' (by omega) (by rw [kx]; exact xk) (fun k8 => ?_) (fun k8 kc => ?_) (fun kc => ?_) (fun kc e1 e2 => ?_) (fun kc ne => ?_)
        · rw [kx] at k8
          exact made 7 0 0 (by omega) (by omega) (fun _ => rfl) (fun q => by omega) (Or.inl k8)
        · rw [kx] at k8 kc
          exact same x ⟨rfl, k8, fun q => (kc q).elim⟩
        · rw [kx] at kc
          obtain ⟨_, _, _, _, a1, a2, a3, a4, a5, a6⟩ := inf kc
          exact ⟨a1, a2, a3, a4, a5, a6⟩
        · rw [kx] at kc
          obtain ⟨_, _, z1, z2⟩ := ch' kc
          exact same x ⟨rfl, fun q => by omega, fun _ => ⟨by omega, by omega⟩⟩
        · rw [kx] at kc ⊢
          obtain ⟨_, _, z1, z2⟩ := ch' kc
          exact made (kd x) (nt y1 - 1) (nt y2 - 1) sx1 (by omega) (fun q => by omega) (fun _ => ⟨rfl, rfl, rfl, fun q => ne ⟨by omega, by omega⟩⟩) (Or.inr kc)
      have down : ∀ y, y < n → kd y ≠ 1000 → nt y = 0 → E y → tr_sz (ρ y) < tr_sz (ρ x) → wX_instance_115 post (wX_instance_22 post (nI r0) (m + 1)) (nI r0) (nI (P.length + 1)) (nI c) (nI x) (nI y) f_tokenCount f_accepted f_lastPlace f_openCount f_draftOpen f_symbolCount f_stepCount f_bindingCount f_waitingCount f_clashPlace (nI n') f_todoCount a_kinds a_values a_declaredSize a_declaredNodes a_draftSize a_draftNodes a_symbols a_symbolPlaces a_steps a_stepPlaces a_bindings a_boundType a_waitingTypes a_waitingFirm sh lf rt lk note td a_todoOther a_generalNode := by
        intro y yn yk y0 yE ys
        have yx : y ≠ x := fun e => by rw [e] at ys; exact Nat.lt_irrefl _ ys
        refine br_f (fun e => yx ((nI_eq (by omega) (by omega)).mp e)) (br_t (nI_lt (b := 4096) (by omega) (by decide)) ⟨vp_in_nI (by omega) (by decide), ?_⟩)
        rw [nI_clamp (by omega)]
        refine nm_e (nm_r (nI_1 _) (nm_r (nI_1 c) (ih (y :: x :: P) n' kd' pa' pb' nt sh lf rt lk note _ (c + 1) (xi_down I' yn yk y0 yE ys) hG hL' hK' (st_1p (L := x :: P) hst) (by rw [List.length_cons, List.length_cons]; omega) (by omega))))
      refine br_f (nI_ge (b := 8192) (by omega) (by decide)) (br_f (nI_nle (by rw [List.length_cons]; omega) (by rw [List.length_cons]; omega)) ?_)
      rw [List.length_cons, nI_pred]
      refine ⟨vl, ?_⟩
      rw [nI_clamp (by omega), hst.1]
      refine nm_e ?_
      refine xw_parts (k := kd x) (by omega) sx2 sx1 (fun hc1 => ?_) (fun hc0 => ?_)
      · have w := (W x xn).2 hc1
        have t1 := gr_L_to hL w.1
        have t2 := gr_L_to hL w.2
        generalize e1 : gr_f kd pa K (pa x) = y1 at t1
        generalize e2 : gr_f kd pa K (pb x) = y2 at t2
        have n1 := gr_to_n W t1 w.1
        have n2 := gr_to_n W t2 w.2
        have s1 : tr_sz (ρ y1) < tr_sz (ρ x) := by
          rw [gr_Vc hρ xn hc1, ← gr_to_V W hρ t1 w.1]; exact tr_sz_l _ _ _
        have s2 : tr_sz (ρ y2) < tr_sz (ρ x) := by
          rw [gr_Vc hρ xn hc1, ← gr_to_V W hρ t2 w.2]; exact tr_sz_r _ _ _
        have E1 : E y1 := gr_to_C cE t1 ((cE x xE).2.2 hc1).1
        have E2 : E y2 := gr_to_C cE t2 ((cE x xE).2.2 hc1).2
        have v1 : vp_in (nI y1) 4096 := vp_in_nI (by omega) (by decide)
        have v2 : vp_in (nI y2) 4096 := vp_in_nI (by omega) (by decide)
        have q1 : note (nI y1).toNatClampNeg = nI (nt y1) := by rw [nI_clamp (by omega)]; exact (iN y1 n1).1
        have q2 : note (nI y2).toNatClampNeg = nI (nt y2) := by rw [nI_clamp (by omega)]; exact (iN y2 n2).1
        have b1 := (iN y1 n1).2
        have b2 := (iN y2 n2).2
        refine br_f (by decide) ⟨vx, ?_⟩
        rw [cx, (sx3 hc1).1, (sx3 hc1).2]
        refine xw_find hG (by omega) hL' hK (by omega) (gr_to_s W sm w.1 t1) ⟨vx, ?_⟩
        refine xw_find hG (by omega) hL' hK (by omega) (gr_to_s W sm w.2 t2) ⟨v1, ?_⟩
        rw [q1, q2]
        refine pk_eq (nt y1) 0 (fun z => down y1 n1 t1.1 z E1 s1) (fun z1 => ⟨v2, ?_⟩)
        refine pk_eq (nt y2) 0 (fun z => down y2 n2 t2.1 z E2 s2) (fun z2 => ?_)
        exact br_t rfl (fin (fun _ => ⟨y1, y2, t1, t2, z1, z2⟩))
      · exact br_t rfl (br_t rfl (fin (fun z => (hc0 z).elim)))
/-- the component's instance -/
theorem xw_instance {post : Int32 → SX → Prop} {b0 nl t : Nat} {M E : Nat → Prop} (W : gr_W n kd pa pb) (A : gr_A n kd pa pb) (hG : xg_G n a_shape a_left a_right a_link kd pa pb) (hL : gr_L n kd pa K) (hK : K + gr_nr kd n ≤ n) (hM : gr_C n kd pa pb M) (gM : ∀ i, M i → kd i ≠ 8) (cE : gr_C n kd pa pb E) (bE : ∀ i, E i → ¬ M i → b0 ≤ i ∧ i < nl) (hb : n + (nl - b0) ≤ 4000) (ht : E t)
    (h : ∀ n' kd' pa' pb' (nt : Nat → Nat) r0 sh lf rt lk note td, gr_to kd pa t r0 → nt r0 ≠ 0 → ic_I n n' kd pa pb kd' pa' pb' (fun i => i < n ∧ nt i ≠ 0) (fun i => nt i - 1) → n' ≤ n + (nl - b0) → xg_G n' sh lf rt lk kd' pa' pb' → gr_L n' kd' pa' K → K + gr_nr kd' n' ≤ n' → post (nI (nt r0 - 1)) (f_tokenCount, f_accepted, f_lastPlace, f_openCount, f_draftOpen, f_symbolCount, f_stepCount, f_bindingCount, f_waitingCount, f_clashPlace, nI n', f_todoCount, a_kinds, a_values, a_declaredSize, a_declaredNodes, a_draftSize, a_draftNodes, a_symbols, a_symbolPlaces, a_steps, a_stepPlaces, a_bindings, a_boundType, a_waitingTypes, a_waitingFirm, sh, lf, rt, lk, note, td, a_todoOther, a_generalNode)) :
    wpX_instance post (f_tokenCount, f_accepted, f_lastPlace, f_openCount, f_draftOpen, f_symbolCount, f_stepCount, f_bindingCount, f_waitingCount, f_clashPlace, nI n, f_todoCount, a_kinds, a_values, a_declaredSize, a_declaredNodes, a_draftSize, a_draftNodes, a_symbols, a_symbolPlaces, a_steps, a_stepPlaces, a_bindings, a_boundType, a_waitingTypes, a_waitingFirm, a_shape, a_left, a_right, a_link, a_note, a_todo, a_todoOther, a_generalNode) (nI t) := by
  have tn : t < n := (cE t ht).1
  have tt := gr_L_to hL tn
  generalize e : gr_f kd pa K t = r at tt
  have rn := gr_to_n W tt tn
  obtain ⟨ρ, hρ, _⟩ := gr_ex A (fun _ => tr_at 0)
  unfold wpX_instance
  refine xw_clear (by omega) (fun note hz => ?_)
  refine xw_find hG (by omega) hL (by omega) tn tt (nm_e ⟨2 * n + 1, ?_⟩)
  have cl := ct_le (p := fun i => decide ((fun _ => 0 : Nat → Nat) i = 0)) n
  have cf := ct_from (b := b0) (p := fun i => decide (b0 ≤ i) && decide ((fun _ => 0 : Nat → Nat) i = 0)) (fun i hi => by simp at hi; exact hi) nl
  refine xw_inst_l (r0 := r) W hL (by omega) hM gM cE bE hρ hb rn (fun n' kd' pa' pb' nt sh lf rt lk note td I hG' hL' hK' => h n' kd' pa' pb' nt r sh lf rt lk note td tt ?_ I.1 ?_ hG' hL' hK') (2 * n) [r] n kd pa pb (fun _ => 0) _ _ _ _ _ _ 0 ⟨⟨Nat.le_refl _, fun i _ => ⟨rfl, rfl, rfl⟩, fun r hr => (hr.2 rfl).elim, fun r _ hr => (hr.2 rfl).elim, fun m h1 h2 => by omega⟩, fun i hi => ⟨hz i hi, Nat.zero_le _⟩, fun i hi => ?_, ls_nd1 _, ⟨fun y hy => (by cases hy), trivial⟩, Or.inl List.mem_cons_self, fun i _ h => (h rfl).elim, ?_⟩ hG hL hK (st_1p (L := []) trivial) ?_ (by omega)
  · rcases I.2.2.2.2.2.1 with z | z
    · cases z
    · exact z
  · have := I.2.2.2.2.2.2.2
    have := I.1.1
    omega
  · rw [List.mem_singleton] at hi
    rw [hi]; exact ⟨rn, tt.1, rfl, gr_to_C cE tt ht⟩
  · rw [Nat.sub_self, Nat.zero_add]; exact cf
  · exact Nat.le_trans (Nat.mul_le_mul_left 2 (ct_le n)) (by rw [List.length_singleton]; omega)
end
end
section
/-! the component's demand, and the waiting types -/
section
variable {f_tokenCount f_accepted f_lastPlace f_openCount f_draftOpen f_symbolCount f_stepCount f_bindingCount f_waitingCount f_clashPlace f_nodeCount f_todoCount : Int32} {a_kinds a_values a_declaredSize a_declaredNodes a_draftSize a_draftNodes a_symbols a_symbolPlaces a_steps a_stepPlaces a_bindings a_boundType a_waitingTypes a_waitingFirm a_shape a_left a_right a_link a_note a_todo a_todoOther a_generalNode : Nat → Int32}
variable {kd pa pb : Nat → Nat} {n K : Nat}
def xt_I (oc nl n K : Nat) (kd pa pb : Nat → Nat) (stk env : List Nat) (bs : List (Nat × Bool)) (V : dv_W) (sh lf rt lk : Nat → Int32) : Prop :=
  rp_I oc nl n kd pa pb (List.range oc) stk env bs V ∧ xg_G n sh lf rt lk kd pa pb ∧ gr_L n kd pa K ∧ K + gr_nr kd n ≤ n
/-- nodes that are valid, whatever they mean -/
def xt_C (n : Nat) (sh lf rt lk : Nat → Int32) : Prop := ∃ kd pa pb K, gr_W n kd pa pb ∧ xg_G n sh lf rt lk kd pa pb ∧ gr_L n kd pa K ∧ K + gr_nr kd n ≤ n
theorem xt_CI {oc nl : Nat} {stk env : List Nat} {bs : List (Nat × Bool)} {V : dv_W} {sh lf rt lk : Nat → Int32} (I : xt_I oc nl n K kd pa pb stk env bs V sh lf rt lk) : xt_C n sh lf rt lk := ⟨kd, pa, pb, K, I.1.1, I.2.1, I.2.2.1, I.2.2.2⟩
theorem xw_demand {post : SX → Prop} {oc nl s t p : Nat} {stk env : List Nat} {bs : List (Nat × Bool)} {V : dv_W} (I : xt_I oc nl n K kd pa pb stk env bs V a_shape a_left a_right a_link) (hn : n ≤ 4000) (hs : s ∈ stk ∨ s ∈ mo_l bs env) (ht : t ∈ stk ∨ t ∈ mo_l bs env) (f : dv_W) (hf : ∀ ρ : Nat → tr_T, f ((List.range oc).map ρ) (stk.map ρ) (env.map ρ) ↔ ρ s = ρ t)
    (hok : ∀ kd' pa' K' lk note td tdo, xt_I oc nl n K' kd' pa' pb stk env bs (fun ν st E => V ν st E ∧ f ν st E) a_shape a_left a_right lk → post (f_tokenCount, f_accepted, f_lastPlace, f_openCount, f_draftOpen, f_symbolCount, f_stepCount, f_bindingCount, f_waitingCount, -1, nI n, 0, a_kinds, a_values, a_declaredSize, a_declaredNodes, a_draftSize, a_draftNodes, a_symbols, a_symbolPlaces, a_steps, a_stepPlaces, a_bindings, a_boundType, a_waitingTypes, a_waitingFirm, a_shape, a_left, a_right, lk, note, td, tdo, a_generalNode))
    (hbad : (∀ ν st E, ¬ (V ν st E ∧ f ν st E)) → ∀ lk note td tdo tc, xt_C n a_shape a_left a_right lk → post (f_tokenCount, f_accepted, f_lastPlace, f_openCount, f_draftOpen, f_symbolCount, f_stepCount, f_bindingCount, f_waitingCount, nI p, nI n, tc, a_kinds, a_values, a_declaredSize, a_declaredNodes, a_draftSize, a_draftNodes, a_symbols, a_symbolPlaces, a_steps, a_stepPlaces, a_bindings, a_boundType, a_waitingTypes, a_waitingFirm, a_shape, a_left, a_right, lk, note, td, tdo, a_generalNode)) :
    wpX_demand post (f_tokenCount, f_accepted, f_lastPlace, f_openCount, f_draftOpen, f_symbolCount, f_stepCount, f_bindingCount, f_waitingCount, -1, nI n, f_todoCount, a_kinds, a_values, a_declaredSize, a_declaredNodes, a_draftSize, a_draftNodes, a_symbols, a_symbolPlaces, a_steps, a_stepPlaces, a_bindings, a_boundType, a_waitingTypes, a_waitingFirm, a_shape, a_left, a_right, a_link, a_note, a_todo, a_todoOther, a_generalNode) (nI s) (nI t) (nI p) := by
  obtain ⟨J, hG, hL, hK⟩ := I
  have J' := J
  obtain ⟨W, A, ⟨M, E, ⟨hM, gM, oM, sM, eM⟩, cE, mE, eE, bE⟩, en, hl, hP, hV⟩ := J
  have ms : M s := hs.elim (sM s) (eM s)
  have mt : M t := ht.elim (sM t) (eM t)
  have tn : t < n := (hM t mt).1
  unfold wpX_demand
  refine br_t (by decide) ?_
  refine xw_eq hn W hM gM ms mt hG hL hK (fun un kd1 pa1 K1 tc lk td tdo w1 g1 l1 k1 => ?_) (fun kd1 pa1 K1 lk td tdo U g1 l1 k1 => ?_)
  · exact br_t rfl (hbad (rp_ne J' un f hf) lk a_note td tdo tc ⟨kd1, pa1, pb, K1, w1, g1, l1, k1⟩)
  · refine br_f (by decide) ?_
    have w1 := U.1
    refine xw_cyc hn w1 g1 l1 (by omega) tn (fun no note td' => ?_) (fun S hS h0 note td' => ?_)
    · refine br_f (by decide) (hbad (fun ν st E ⟨v, u⟩ => ?_) lk note td' tdo _ ⟨kd1, pa1, pb, K1, w1, g1, l1, k1⟩)
      obtain ⟨ρ, h, e1, e2, e3⟩ := (hV _ _ _).mp v
      rw [← e1, ← e2, ← e3] at u
      exact no ρ ((U.2.1 ρ).mp ⟨h, (hf ρ).mp u⟩).1
    · refine br_t rfl (hok kd1 pa1 K1 lk note td' tdo ⟨?_, g1, l1, k1⟩)
      exact rp_eq J' oM sM eM U l1 hS (Or.inr h0) f hf (fun i _ k8 m => gM i m k8) cE mE eE bE
/-- a stack of truth values -/
def st_b (a : Nat → Int32) : List Bool → Prop
  | [] => True
  | b :: L => a L.length = (if b = true then 1 else 0) ∧ st_b a L
theorem st_bu {a : Nat → Int32} {k : Nat} {x : Int32} : ∀ L : List Bool, L.length ≤ k → st_b a L → st_b (upd a k x) L := by
  intro L
  induction L with
  | nil => intro _ _; trivial
  | cons y L ih =>
    intro h z
    rw [List.length_cons] at h
    refine ⟨?_, ih (by omega) z.2⟩
    rw [pk_un (by omega)]; exact z.1
theorem st_bp {a : Nat → Int32} {b : Bool} {L : List Bool} (h : st_b a L) : st_b (upd a L.length (if b = true then 1 else 0)) (b :: L) := ⟨pk_us, st_bu L (Nat.le_refl _) h⟩
theorem xw_push {post : SX → Prop} {h : Nat} {x : Int32} {b : Bool} (hh : h < 64) (hp : post (f_tokenCount, f_accepted, f_lastPlace, f_openCount, f_draftOpen, f_symbolCount, f_stepCount, f_bindingCount, nI (h + 1), f_clashPlace, f_nodeCount, f_todoCount, a_kinds, a_values, a_declaredSize, a_declaredNodes, a_draftSize, a_draftNodes, a_symbols, a_symbolPlaces, a_steps, a_stepPlaces, a_bindings, a_boundType, upd a_waitingTypes h x, upd a_waitingFirm h (if b = true then 1 else 0), a_shape, a_left, a_right, a_link, a_note, a_todo, a_todoOther, a_generalNode)) : wpX_pushType post (f_tokenCount, f_accepted, f_lastPlace, f_openCount, f_draftOpen, f_symbolCount, f_stepCount, f_bindingCount, nI h, f_clashPlace, f_nodeCount, f_todoCount, a_kinds, a_values, a_declaredSize, a_declaredNodes, a_draftSize, a_draftNodes, a_symbols, a_symbolPlaces, a_steps, a_stepPlaces, a_bindings, a_boundType, a_waitingTypes, a_waitingFirm, a_shape, a_left, a_right, a_link, a_note, a_todo, a_todoOther, a_generalNode) x (if b = true then 1 else 0) := by
  have e : (nI h).toNatClampNeg = h := nI_clamp (by omega)
  have hi : vp_in (nI h) 64 := vp_in_nI hh (by decide)
  refine br_f (nI_ge (b := 64) hh (by decide)) ⟨hi, ?_⟩
  rw [e]
  have nb : vp_nar .boolean (if b = true then 1 else 0) = if b = true then 1 else 0 := by
    cases b
    · rfl
    · rfl
  rw [nb]
  exact nm_e ⟨hi, nm_e (nm_r (nI_1 h) hp)⟩
theorem xw_pop {post : Int32 → SX → Prop} {h : Nat} (hh : h < 64) (hp : post (a_waitingTypes h) (f_tokenCount, f_accepted, f_lastPlace, f_openCount, f_draftOpen, f_symbolCount, f_stepCount, f_bindingCount, nI h, f_clashPlace, f_nodeCount, f_todoCount, a_kinds, a_values, a_declaredSize, a_declaredNodes, a_draftSize, a_draftNodes, a_symbols, a_symbolPlaces, a_steps, a_stepPlaces, a_bindings, a_boundType, a_waitingTypes, a_waitingFirm, a_shape, a_left, a_right, a_link, a_note, a_todo, a_todoOther, a_generalNode)) : wpX_popType post (f_tokenCount, f_accepted, f_lastPlace, f_openCount, f_draftOpen, f_symbolCount, f_stepCount, f_bindingCount, nI (h + 1), f_clashPlace, f_nodeCount, f_todoCount, a_kinds, a_values, a_declaredSize, a_declaredNodes, a_draftSize, a_draftNodes, a_symbols, a_symbolPlaces, a_steps, a_stepPlaces, a_bindings, a_boundType, a_waitingTypes, a_waitingFirm, a_shape, a_left, a_right, a_link, a_note, a_todo, a_todoOther, a_generalNode) := by
  have e : (nI h).toNatClampNeg = h := nI_clamp (by omega)
  refine br_f (nI_nle (by omega) (by omega)) (nm_r (nI_pred h) ⟨vp_in_nI hh (by decide), ?_⟩)
  rw [e]
  exact hp
theorem xw_firm {post : Int32 → Prop} {h : Nat} {b : Bool} (hh : h < 64) (hb : a_waitingFirm h = if b = true then 1 else 0) (hp : post (if b = true then 1 else 0)) : wpX_isTopFirm post (f_tokenCount, f_accepted, f_lastPlace, f_openCount, f_draftOpen, f_symbolCount, f_stepCount, f_bindingCount, nI (h + 1), f_clashPlace, f_nodeCount, f_todoCount, a_kinds, a_values, a_declaredSize, a_declaredNodes, a_draftSize, a_draftNodes, a_symbols, a_symbolPlaces, a_steps, a_stepPlaces, a_bindings, a_boundType, a_waitingTypes, a_waitingFirm, a_shape, a_left, a_right, a_link, a_note, a_todo, a_todoOther, a_generalNode) := by
  refine br_f (nI_nle (by omega) (by omega)) ?_
  rw [nI_pred]
  refine ⟨vp_in_nI hh (by decide), ?_⟩
  rw [nI_clamp (by omega), hb]
  cases b with
  | true => exact br_f (by decide) hp
  | false => exact br_t rfl hp
theorem xw_setFirm {post : SX → Prop} {h : Nat} (hh : h < 64) (hp : post (f_tokenCount, f_accepted, f_lastPlace, f_openCount, f_draftOpen, f_symbolCount, f_stepCount, f_bindingCount, nI (h + 1), f_clashPlace, f_nodeCount, f_todoCount, a_kinds, a_values, a_declaredSize, a_declaredNodes, a_draftSize, a_draftNodes, a_symbols, a_symbolPlaces, a_steps, a_stepPlaces, a_bindings, a_boundType, a_waitingTypes, upd a_waitingFirm h (if false = true then 1 else 0), a_shape, a_left, a_right, a_link, a_note, a_todo, a_todoOther, a_generalNode)) : wpX_setTopFirm post (f_tokenCount, f_accepted, f_lastPlace, f_openCount, f_draftOpen, f_symbolCount, f_stepCount, f_bindingCount, nI (h + 1), f_clashPlace, f_nodeCount, f_todoCount, a_kinds, a_values, a_declaredSize, a_declaredNodes, a_draftSize, a_draftNodes, a_symbols, a_symbolPlaces, a_steps, a_stepPlaces, a_bindings, a_boundType, a_waitingTypes, a_waitingFirm, a_shape, a_left, a_right, a_link, a_note, a_todo, a_todoOther, a_generalNode) 0 := by
  refine br_f (nI_nle (by omega) (by omega)) ?_
  rw [nI_pred]
  refine ⟨vp_in_nI hh (by decide), ?_⟩
  rw [nI_clamp (by omega)]
  exact nm_e hp
end
end
section
/-! new nodes on top of what waits (component and reference alike), and what the parts of a step come to -/
section
variable {kd pa pb : Nat → Nat} {b0 nl n K : Nat} {op stk env : List Nat} {bs : List (Nat × Bool)} {V : dv_W}
def ls_g (i : Nat) (st : List tr_T) : tr_T := st.getD i (tr_at 0)
theorem rp_var (I : rp_I b0 nl n kd pa pb op stk env bs V) {a b : Nat} : rp_I b0 nl (n + 1) (gr_u kd n 7) (gr_u pa n a) (gr_u pb n b) op (n :: stk) env bs (fun ν st E => ∃ τ st0, st = τ :: st0 ∧ V ν st0 E) := by
  have z := rp_push (kd' := gr_u kd n 7) (pa' := gr_u pa n a) (pb' := gr_u pb n b) I (fun i hi => ⟨gr_un (by omega), gr_un (by omega), gr_un (by omega)⟩) (fun _ _ _ => tr_at 0) (fun _ _ _ => tr_at 0) (by rw [gr_us]; omega) (by rw [gr_us]; omega) (fun q => by rw [gr_us] at q; omega)
  refine rp_cg (fun ν st E => ?_) z
  rw [gr_us]
  constructor
  · intro ⟨τ, s0, e, v, _, _⟩; exact ⟨τ, s0, e, v⟩
  · intro ⟨τ, s0, e, v⟩; exact ⟨τ, s0, e, v, fun q => by omega, fun _ q => (q rfl).elim⟩
theorem rp_leaf (I : rp_I b0 nl n kd pa pb op stk env bs V) {k a b : Nat} (hk : k ≠ 1000) (h2 : ¬ gr_cn k) (h3 : ¬ gr_fr k) : rp_I b0 nl (n + 1) (gr_u kd n k) (gr_u pa n a) (gr_u pb n b) op (n :: stk) env bs (fun ν st E => ∃ st0, st = tr_at k :: st0 ∧ V ν st0 E) := by
  have z := rp_push (kd' := gr_u kd n k) (pa' := gr_u pa n a) (pb' := gr_u pb n b) I (fun i hi => ⟨gr_un (by omega), gr_un (by omega), gr_un (by omega)⟩) (fun _ _ _ => tr_at 0) (fun _ _ _ => tr_at 0) (by rw [gr_us]; exact hk) (by rw [gr_us]; omega) (fun q => by rw [gr_us] at q; exact (h2 q).elim)
  refine rp_cg (fun ν st E => ?_) z
  rw [gr_us]
  constructor
  · intro ⟨τ, s0, e, v, _, q⟩; exact ⟨s0, by rw [e, q h2 (by omega)], v⟩
  · intro ⟨s0, e, v⟩; exact ⟨_, s0, e, v, fun q => (h2 q).elim, fun _ _ => rfl⟩
theorem rp_con (I : rp_I b0 nl n kd pa pb op stk env bs V) {k a b : Nat} (hk : gr_cn k) (ha : a ∈ stk ∨ a ∈ mo_l bs env) (hb : b ∈ stk ∨ b ∈ mo_l bs env) (A B : List tr_T → List tr_T → List tr_T → tr_T) (hA : ∀ ρ : Nat → tr_T, A (op.map ρ) (stk.map ρ) (env.map ρ) = ρ a) (hB : ∀ ρ : Nat → tr_T, B (op.map ρ) (stk.map ρ) (env.map ρ) = ρ b) : rp_I b0 nl (n + 1) (gr_u kd n k) (gr_u pa n a) (gr_u pb n b) op (n :: stk) env bs (fun ν st E => ∃ st0, st = tr_con k (A ν st0 E) (B ν st0 E) :: st0 ∧ V ν st0 E) := by
  have z := rp_push (kd' := gr_u kd n k) (pa' := gr_u pa n a) (pb' := gr_u pb n b) I (fun i hi => ⟨gr_un (by omega), gr_un (by omega), gr_un (by omega)⟩) A B (by rw [gr_us]; omega) (by rw [gr_us]; omega) (fun q => by
    rw [gr_us, gr_us]
    exact ⟨ha.elim Or.inl (fun z => Or.inr (Or.inr z)), hb.elim Or.inl (fun z => Or.inr (Or.inr z)), fun ρ => ⟨hA ρ, hB ρ⟩⟩)
  refine rp_cg (fun ν st E => ?_) z
  rw [gr_us]
  constructor
  · intro ⟨τ, s0, e, v, q, _⟩; exact ⟨s0, by rw [e, q hk], v⟩
  · intro ⟨s0, e, v⟩; exact ⟨_, s0, e, v, fun _ => rfl, fun q => (q hk).elim⟩
/-- the links' lengths, with a new node -/
theorem xt_L {k a b : Nat} (W : gr_W n kd pa pb) (hL : gr_L n kd pa K) (hK : K + gr_nr kd n ≤ n) (hk : k ≠ 1000) : gr_L (n + 1) (gr_u kd n k) (gr_u pa n a) K ∧ K + gr_nr (gr_u kd n k) (n + 1) ≤ n + 1 := by
  have s : gr_same n kd pa pb (gr_u kd n k) (gr_u pa n a) (gr_u pb n b) := gr_same_u
  have k1 : gr_u kd n k n ≠ 1000 := by rw [gr_us]; exact hk
  refine ⟨gr_L_n W s hL k1, ?_⟩
  rw [gr_nr_n s k1]; omega
/-! equivalences: what the nodes come to is what the steps mean -/
theorem xe_l1 {h e : Nat} (hl : dv_len (h + 1) e V) {ν st E : List tr_T} (v : V ν st E) : ∃ x r, st = x :: r := by
  have := (hl _ _ _ v).1
  cases st with
  | nil => simp at this
  | cons x r => exact ⟨x, r, rfl⟩
theorem xe_l2 {h e : Nat} (hl : dv_len (h + 2) e V) {ν st E : List tr_T} (v : V ν st E) : ∃ x y r, st = x :: y :: r := by
  have := (hl _ _ _ v).1
  cases st with
  | nil => simp at this
  | cons x r =>
    cases r with
    | nil => simp at this
    | cons y r => exact ⟨x, y, r, rfl⟩
theorem xe_l3 {h e : Nat} (hl : dv_len (h + 3) e V) {ν st E : List tr_T} (v : V ν st E) : ∃ x y z r, st = x :: y :: z :: r := by
  have := (hl _ _ _ v).1
  cases st with
  | nil => simp at this
  | cons x r =>
    cases r with
    | nil => simp at this
    | cons y r =>
      cases r with
      | nil => simp at this
      | cons z r => exact ⟨x, y, z, r, rfl⟩
theorem xe_app {h e : Nat} (hl : dv_len (h + 2) e V) (ν st' E : List tr_T) : (∃ st, ((∃ s0, st = tr_con 6 (ls_g 1 s0) (ls_g 0 s0) :: s0 ∧ ∃ τ s1, s0 = τ :: s1 ∧ V ν s1 E) ∧ ls_g 3 st = ls_g 0 st) ∧ ls_g 1 st :: st.drop 4 = st') ↔ dv_app V ν st' E := by
  constructor
  · intro ⟨st, ⟨⟨s0, e1, τ, s1, e2, v⟩, c⟩, e3⟩
    obtain ⟨x, y, r, e4⟩ := xe_l2 hl v
    subst e4 e2 e1 e3
    simp [ls_g] at c
    refine ⟨(x, τ), r, rfl, ?_⟩
    rw [c] at v
    exact v
  · intro ⟨c, r, e, v⟩
    exact ⟨_, ⟨⟨_, rfl, c.2, _, rfl, v⟩, rfl⟩, e.symm⟩
theorem xe_pair {h e : Nat} (hl : dv_len (h + 2) e V) (ν st' E : List tr_T) : (∃ st, (∃ s0, st = tr_con 5 (ls_g 1 s0) (ls_g 0 s0) :: s0 ∧ V ν s0 E) ∧ ls_g 0 st :: st.drop 3 = st') ↔ dv_pair V ν st' E := by
  constructor
  · intro ⟨st, ⟨s0, e1, v⟩, e3⟩
    obtain ⟨x, y, r, e4⟩ := xe_l2 hl v
    subst e4 e1 e3
    exact ⟨(x, y), r, rfl, v⟩
  · intro ⟨c, r, e, v⟩
    exact ⟨_, ⟨_, rfl, v⟩, e.symm⟩
theorem xe_cons {h e : Nat} (hl : dv_len (h + 2) e V) (ν st' E : List tr_T) : (∃ st, ((∃ s0, st = tr_con 3 (ls_g 1 s0) (ls_g 1 s0) :: s0 ∧ V ν s0 E) ∧ ls_g 1 st = ls_g 0 st) ∧ ls_g 1 st :: st.drop 3 = st') ↔ dv_cons V ν st' E := by
  constructor
  · intro ⟨st, ⟨⟨s0, e1, v⟩, c⟩, e3⟩
    obtain ⟨x, y, r, e4⟩ := xe_l2 hl v
    subst e4 e1 e3
    simp [ls_g] at c
    refine ⟨y, r, by simp [ls_g, c], ?_⟩
    rw [c] at v
    exact v
  · intro ⟨c, r, e, v⟩
    exact ⟨_, ⟨⟨_, rfl, v⟩, rfl⟩, e.symm⟩
theorem xe_asg {h e : Nat} (hl : dv_len (h + 2) e V) (ν st' E : List tr_T) : (∃ st, (∃ s2, st = tr_at 2 :: s2 ∧ (∃ s0, s2 = tr_con 4 (ls_g 0 s0) (ls_g 0 s0) :: s0 ∧ V ν s0 E) ∧ ls_g 2 s2 = ls_g 0 s2) ∧ ls_g 0 st :: st.drop 4 = st') ↔ dv_asg V ν st' E := by
  constructor
  · intro ⟨st, ⟨s2, e0, ⟨s0, e1, v⟩, c⟩, e3⟩
    obtain ⟨x, y, r, e4⟩ := xe_l2 hl v
    subst e4 e1 e0 e3
    simp [ls_g] at c
    refine ⟨x, r, rfl, ?_⟩
    rw [c] at v
    exact v
  · intro ⟨c, r, e, v⟩
    exact ⟨_, ⟨_, rfl, ⟨_, rfl, v⟩, rfl⟩, e.symm⟩
theorem xe_num {k h e : Nat} (hl : dv_len (h + 2) e V) (ν st' E : List tr_T) : (∃ st, (∃ s2, st = tr_at k :: s2 ∧ (((∃ s0, s2 = tr_at 0 :: s0 ∧ V ν s0 E) ∧ ls_g 2 s2 = ls_g 0 s2) ∧ ls_g 1 s2 = ls_g 0 s2)) ∧ ls_g 0 st :: st.drop 4 = st') ↔ dv_num k V ν st' E := by
  constructor
  · intro ⟨st, ⟨s2, e0, ⟨⟨s0, e1, v⟩, c1⟩, c2⟩, e3⟩
    obtain ⟨x, y, r, e4⟩ := xe_l2 hl v
    subst e4 e1 e0 e3
    simp [ls_g] at c1 c2
    refine ⟨(), r, rfl, ?_⟩
    rw [c1, c2] at v
    exact v
  · intro ⟨c, r, e, v⟩
    exact ⟨_, ⟨_, rfl, ⟨⟨_, rfl, v⟩, rfl⟩, rfl⟩, e.symm⟩
theorem xe_if {h e : Nat} (hl : dv_len (h + 3) e V) (ν st' E : List tr_T) : (∃ st, (((∃ s0, st = tr_at 1 :: s0 ∧ V ν s0 E) ∧ ls_g 3 st = ls_g 0 st) ∧ ls_g 1 st = ls_g 2 st) ∧ ls_g 2 st :: st.drop 4 = st') ↔ dv_if V ν st' E := by
  constructor
  · intro ⟨st, ⟨⟨⟨s0, e1, v⟩, c1⟩, c2⟩, e3⟩
    obtain ⟨x, y, z, r, e4⟩ := xe_l3 hl v
    subst e4 e1 e3
    simp [ls_g] at c1 c2
    refine ⟨y, r, rfl, ?_⟩
    rw [c1, c2] at v
    exact v
  · intro ⟨c, r, e, v⟩
    exact ⟨_, ⟨⟨⟨_, rfl, v⟩, rfl⟩, rfl⟩, e.symm⟩
end
end
section
/-! the component's inference of applications, operators and conditions -/
/-- how a handler of a step may go on: a type t waits, the worlds are V' -/
def xh_O (oc nl nb : Nat) (stk env : List Nat) (bs : List (Nat × Bool)) (fl : List Bool) (V' : dv_W) (u : SX) (post : SX → Prop) : Prop :=
  match u with
  | (f_tokenCount, f_accepted, f_lastPlace, f_openCount, f_draftOpen, f_symbolCount, f_stepCount, f_bindingCount, f_waitingCount, f_clashPlace, f_nodeCount, f_todoCount, a_kinds, a_values, a_declaredSize, a_declaredNodes, a_draftSize, a_draftNodes, a_symbols, a_symbolPlaces, a_steps, a_stepPlaces, a_bindings, a_boundType, a_waitingTypes, a_waitingFirm, a_shape, a_left, a_right, a_link, a_note, a_todo, a_todoOther, a_generalNode) => ∀ n' K' kd' pa' pb' t sh lf rt lk note td tdo wt wf tc gn, n' ≤ nb → xt_I oc nl n' K' kd' pa' pb' (t :: stk) env bs V' sh lf rt lk → st_1 wt (t :: stk) → st_b wf fl → post (f_tokenCount, f_accepted, f_lastPlace, f_openCount, f_draftOpen, f_symbolCount, f_stepCount, f_bindingCount, nI (stk.length + 1), -1, nI n', tc, a_kinds, a_values, a_declaredSize, a_declaredNodes, a_draftSize, a_draftNodes, a_symbols, a_symbolPlaces, a_steps, a_stepPlaces, a_bindings, a_boundType, wt, wf, sh, lf, rt, lk, note, td, tdo, gn)
/-- no world is left -/
def xh_B (nb p : Nat) (V' : dv_W) (u : SX) (post : SX → Prop) : Prop :=
  match u with
  | (f_tokenCount, f_accepted, f_lastPlace, f_openCount, f_draftOpen, f_symbolCount, f_stepCount, f_bindingCount, f_waitingCount, f_clashPlace, f_nodeCount, f_todoCount, a_kinds, a_values, a_declaredSize, a_declaredNodes, a_draftSize, a_draftNodes, a_symbols, a_symbolPlaces, a_steps, a_stepPlaces, a_bindings, a_boundType, a_waitingTypes, a_waitingFirm, a_shape, a_left, a_right, a_link, a_note, a_todo, a_todoOther, a_generalNode) => (∀ ν st E, ¬ V' ν st E) → ∀ n' sh lf rt lk note td tdo wt wf tc wc gn bt, n' ≤ nb → xt_C n' sh lf rt lk → post (f_tokenCount, f_accepted, f_lastPlace, f_openCount, f_draftOpen, f_symbolCount, f_stepCount, f_bindingCount, wc, nI p, nI n', tc, a_kinds, a_values, a_declaredSize, a_declaredNodes, a_draftSize, a_draftNodes, a_symbols, a_symbolPlaces, a_steps, a_stepPlaces, a_bindings, bt, wt, wf, sh, lf, rt, lk, note, td, tdo, gn)
section
variable {f_tokenCount f_accepted f_lastPlace f_openCount f_draftOpen f_symbolCount f_stepCount f_bindingCount f_waitingCount f_clashPlace f_nodeCount f_todoCount : Int32} {a_kinds a_values a_declaredSize a_declaredNodes a_draftSize a_draftNodes a_symbols a_symbolPlaces a_steps a_stepPlaces a_bindings a_boundType a_waitingTypes a_waitingFirm a_shape a_left a_right a_link a_note a_todo a_todoOther a_generalNode : Nat → Int32}
variable {kd pa pb : Nat → Nat} {n K : Nat}
theorem xt_Cn {sh lf rt lk : Nat → Int32} {k a b : Nat} (h : xt_C n sh lf rt lk) (hk : k < 30) (hp : gr_cn k → a < n ∧ b < n) : xt_C (n + 1) (upd sh n (nI k)) (upd lf n (nI a)) (upd rt n (nI b)) (upd lk n (nI n)) := by
  obtain ⟨kd, pa, pb, K, w, g, l, q⟩ := h
  obtain ⟨l', q'⟩ := xt_L (k := k) (a := a) (b := b) w l q (by omega)
  refine ⟨gr_u kd n k, gr_u pa n a, gr_u pb n b, K, fun i hi => ?_, xg_new g hk, l', q'⟩
  by_cases c : i = n
  · subst c
    rw [gr_us, gr_us, gr_us]
    exact ⟨fun z => by omega, fun z => by have := hp z; omega⟩
  · rw [gr_un c, gr_un c, gr_un c]
    have := w i (by omega)
    exact ⟨fun z => by have := this.1 z; omega, fun z => by have := this.2 z; omega⟩
theorem xw_apply {post : SX → Prop} {oc nl p a f : Nat} {stk env : List Nat} {bs : List (Nat × Bool)} {fl : List Bool} {V : dv_W} {e : Nat} (I : xt_I oc nl n K kd pa pb (a :: f :: stk) env bs V a_shape a_left a_right a_link) (hn : n + 2 ≤ 4000) (hl : dv_len (stk.length + 2) e V) (h1 : st_1 a_waitingTypes (a :: f :: stk)) (h2 : st_b a_waitingFirm fl) (hfl : fl.length = stk.length) (hs : stk.length + 2 < 64)
    (hok : xh_O oc nl (n + 2) stk env bs (false :: fl) (dv_app V) (f_tokenCount, f_accepted, f_lastPlace, f_openCount, f_draftOpen, f_symbolCount, f_stepCount, f_bindingCount, f_waitingCount, f_clashPlace, f_nodeCount, f_todoCount, a_kinds, a_values, a_declaredSize, a_declaredNodes, a_draftSize, a_draftNodes, a_symbols, a_symbolPlaces, a_steps, a_stepPlaces, a_bindings, a_boundType, a_waitingTypes, a_waitingFirm, a_shape, a_left, a_right, a_link, a_note, a_todo, a_todoOther, a_generalNode) post) (hbad : xh_B (n + 2) p (dv_app V) (f_tokenCount, f_accepted, f_lastPlace, f_openCount, f_draftOpen, f_symbolCount, f_stepCount, f_bindingCount, f_waitingCount, f_clashPlace, f_nodeCount, f_todoCount, a_kinds, a_values, a_declaredSize, a_declaredNodes, a_draftSize, a_draftNodes, a_symbols, a_symbolPlaces, a_steps, a_stepPlaces, a_bindings, a_boundType, a_waitingTypes, a_waitingFirm, a_shape, a_left, a_right, a_link, a_note, a_todo, a_todoOther, a_generalNode) post) : wpX_inferApply post (f_tokenCount, f_accepted, f_lastPlace, f_openCount, f_draftOpen, f_symbolCount, f_stepCount, f_bindingCount, nI (stk.length + 2), -1, nI n, f_todoCount, a_kinds, a_values, a_declaredSize, a_declaredNodes, a_draftSize, a_draftNodes, a_symbols, a_symbolPlaces, a_steps, a_stepPlaces, a_bindings, a_boundType, a_waitingTypes, a_waitingFirm, a_shape, a_left, a_right, a_link, a_note, a_todo, a_todoOther, a_generalNode) (nI p) := by
  obtain ⟨J, hG, hL, hK⟩ := I
  have am : a ∈ a :: f :: stk := List.mem_cons_self
  have J1 := rp_var J (a := 0) (b := 0)
  obtain ⟨L1, K1⟩ := xt_L (k := 7) (a := 0) (b := 0) J.1 hL hK (by omega)
  have J2 := rp_con (k := 6) (a := a) (b := n) J1 (by omega) (Or.inl (List.mem_cons_of_mem _ am)) (Or.inl List.mem_cons_self) (fun _ st _ => ls_g 1 st) (fun _ st _ => ls_g 0 st) (fun ρ => rfl) (fun ρ => rfl)
  obtain ⟨L2, K2⟩ := xt_L (k := 6) (a := a) (b := n) J1.1 L1 K1 (by omega)
  unfold wpX_inferApply
  refine xw_pop (by omega) ?_
  rw [show a_waitingTypes (stk.length + 1) = nI a from h1.1]
  refine xw_pop (by omega) ?_
  rw [h1.2.1]
  refine xw_new (by omega) ?_
  refine xw_new (by omega) ?_
  refine xw_demand (oc := oc) (nl := nl) (p := p) (I := ⟨J2, xg_new (k := 6) (xg_new (k := 7) hG (by omega)) (by omega), L2, K2⟩) (by omega) (Or.inl (List.mem_cons_of_mem _ (List.mem_cons_of_mem _ (List.mem_cons_of_mem _ List.mem_cons_self)))) (Or.inl List.mem_cons_self) (fun _ st _ => ls_g 3 st = ls_g 0 st) (fun ρ => Iff.rfl) (fun kd' pa' K' lk note td tdo I' => ?_) (fun no lk note td tdo tc C' => ?_)
  · refine xw_push (b := false) (by omega) ?_
    refine hok (n + 2) K' kd' pa' _ n _ _ _ lk note td tdo _ _ _ _ (Nat.le_refl _) ⟨?_, I'.2⟩ (st_1p h1.2.2) ?_
    · refine rp_cg (xe_app hl) (rp_sel I'.1 (stk' := n :: stk) (fun _ st _ => ls_g 1 st :: st.drop 4) (fun x hx => ?_) (fun ρ => rfl))
      rcases List.mem_cons.mp hx with z | z
      · rw [z]; exact Or.inl (List.mem_cons_of_mem _ List.mem_cons_self)
      · exact Or.inl (List.mem_cons_of_mem _ (List.mem_cons_of_mem _ (List.mem_cons_of_mem _ (List.mem_cons_of_mem _ z))))
    · rw [← hfl]; exact st_bp h2
  · refine xw_push (b := false) (by omega) ?_
    refine hbad (fun ν st E v => ?_) (n + 2) _ _ _ lk note td tdo _ _ tc _ _ _ (Nat.le_refl _) C'
    obtain ⟨st0, ⟨v1, v2⟩, _⟩ := (xe_app hl ν st E).mpr v
    exact no ν st0 E ⟨v1, v2⟩
theorem xw_if {post : SX → Prop} {oc nl p a b c0 : Nat} {stk env : List Nat} {bs : List (Nat × Bool)} {fl : List Bool} {V : dv_W} {e : Nat} (I : xt_I oc nl n K kd pa pb (a :: b :: c0 :: stk) env bs V a_shape a_left a_right a_link) (hn : n + 2 ≤ 4000) (hl : dv_len (stk.length + 3) e V) (h1 : st_1 a_waitingTypes (a :: b :: c0 :: stk)) (h2 : st_b a_waitingFirm fl) (hfl : fl.length = stk.length) (hs : stk.length + 3 < 64) (hp : p < 24)
    (hok : xh_O oc nl (n + 1) stk env bs (false :: fl) (dv_if V) (f_tokenCount, f_accepted, f_lastPlace, f_openCount, f_draftOpen, f_symbolCount, f_stepCount, f_bindingCount, f_waitingCount, f_clashPlace, f_nodeCount, f_todoCount, a_kinds, a_values, a_declaredSize, a_declaredNodes, a_draftSize, a_draftNodes, a_symbols, a_symbolPlaces, a_steps, a_stepPlaces, a_bindings, a_boundType, a_waitingTypes, a_waitingFirm, a_shape, a_left, a_right, a_link, a_note, a_todo, a_todoOther, a_generalNode) post) (hbad : xh_B (n + 1) p (dv_if V) (f_tokenCount, f_accepted, f_lastPlace, f_openCount, f_draftOpen, f_symbolCount, f_stepCount, f_bindingCount, f_waitingCount, f_clashPlace, f_nodeCount, f_todoCount, a_kinds, a_values, a_declaredSize, a_declaredNodes, a_draftSize, a_draftNodes, a_symbols, a_symbolPlaces, a_steps, a_stepPlaces, a_bindings, a_boundType, a_waitingTypes, a_waitingFirm, a_shape, a_left, a_right, a_link, a_note, a_todo, a_todoOther, a_generalNode) post) : wpX_inferIf post (f_tokenCount, f_accepted, f_lastPlace, f_openCount, f_draftOpen, f_symbolCount, f_stepCount, f_bindingCount, nI (stk.length + 3), -1, nI n, f_todoCount, a_kinds, a_values, a_declaredSize, a_declaredNodes, a_draftSize, a_draftNodes, a_symbols, a_symbolPlaces, a_steps, a_stepPlaces, a_bindings, a_boundType, a_waitingTypes, a_waitingFirm, a_shape, a_left, a_right, a_link, a_note, a_todo, a_todoOther, a_generalNode) (nI p) := by
  obtain ⟨J, hG, hL, hK⟩ := I
  have J1 := rp_leaf (k := 1) J (a := 0) (b := 0) (by omega) (by omega) (by omega)
  obtain ⟨L1, K1⟩ := xt_L (k := 1) (a := 0) (b := 0) J.1 hL hK (by omega)
  have m1 : ∀ (w x y z : Nat) (l : List Nat), x ∈ w :: x :: y :: z :: l ∧ y ∈ w :: x :: y :: z :: l ∧ z ∈ w :: x :: y :: z :: l := fun w x y z l => by simp
  unfold wpX_inferIf
  refine xw_pop (by omega) ?_
  rw [show a_waitingTypes (stk.length + 2) = nI a from h1.1]
  refine xw_pop (by omega) ?_
  rw [show a_waitingTypes (stk.length + 1) = nI b from h1.2.1]
  refine xw_pop (by omega) ?_
  rw [h1.2.2.1]
  refine xw_new (by omega) ?_
  refine xw_demand (oc := oc) (nl := nl) (p := p) (I := ⟨J1, xg_new (k := 1) hG (by omega), L1, K1⟩) (by omega) (Or.inl (m1 n a b c0 stk).2.2) (Or.inl List.mem_cons_self) (fun _ st _ => ls_g 3 st = ls_g 0 st) (fun ρ => Iff.rfl) (fun kd' pa' K' lk note td tdo I' => ?_) (fun no lk note td tdo tc C' => ?_)
  · refine xw_demand (oc := oc) (nl := nl) (p := p) (I := I') (by omega) (Or.inl (m1 n a b c0 stk).1) (Or.inl (m1 n a b c0 stk).2.1) (fun _ st _ => ls_g 1 st = ls_g 2 st) (fun ρ => Iff.rfl) (fun kd' pa' K' lk note td tdo I' => ?_) (fun no lk note td tdo tc C' => ?_)
    · refine xw_push (b := false) (by omega) ?_
      refine hok (n + 1) K' kd' pa' _ b _ _ _ lk note td tdo _ _ _ _ (Nat.le_refl _) ⟨?_, I'.2⟩ (st_1p h1.2.2.2) ?_
      · refine rp_cg (xe_if hl) (rp_sel I'.1 (stk' := b :: stk) (fun _ st _ => ls_g 2 st :: st.drop 4) (fun x hx => ?_) (fun ρ => rfl))
        rcases List.mem_cons.mp hx with z | z
        · rw [z]; exact Or.inl (m1 n a b c0 stk).2.1
        · exact Or.inl (List.mem_cons_of_mem _ (List.mem_cons_of_mem _ (List.mem_cons_of_mem _ (List.mem_cons_of_mem _ z))))
      · rw [← hfl]; exact st_bp h2
    · refine xw_push (b := false) (by omega) ?_
      refine hbad (fun ν st E v => ?_) (n + 1) _ _ _ lk note td tdo _ _ tc _ _ _ (Nat.le_refl _) C'
      obtain ⟨st0, v1, _⟩ := (xe_if hl ν st E).mpr v
      exact no ν st0 E v1
  · refine br_f (by exact nI_pos (by omega)) ?_
    refine xw_push (b := false) (by omega) ?_
    refine hbad (fun ν st E v => ?_) (n + 1) _ _ _ lk note td tdo _ _ tc _ _ _ (Nat.le_refl _) C'
    obtain ⟨st0, ⟨v1, _⟩, _⟩ := (xe_if hl ν st E).mpr v
    exact no ν st0 E v1
theorem xw_operator {post : SX → Prop} {oc nl p a b kp : Nat} {stk env : List Nat} {bs : List (Nat × Bool)} {fl : List Bool} {f1 f2 : Bool} {V : dv_W} {e : Nat} (I : xt_I oc nl n K kd pa pb (a :: b :: stk) env bs V a_shape a_left a_right a_link) (hn : n + 2 ≤ 4000) (hl : dv_len (stk.length + 2) e V) (h1 : st_1 a_waitingTypes (a :: b :: stk)) (h2 : st_b a_waitingFirm (f1 :: f2 :: fl)) (hfl : fl.length = stk.length) (hs : stk.length + 2 < 64) (hp : p < 24) (hkp : a_kinds p = nI kp) (hk : kp = 17 ∨ kp = 18 ∨ kp = 19 ∨ kp = 20 ∨ kp = 21 ∨ kp = 25)
    (hok : xh_O oc nl (n + 2) stk env bs (((decide (kp = 17) || decide (kp = 18)) && f1 && f2) :: fl) (if kp = 17 then dv_pair V else if kp = 18 then dv_cons V else if kp = 25 then dv_asg V else if kp = 21 then dv_num 1 V else dv_num 0 V) (f_tokenCount, f_accepted, f_lastPlace, f_openCount, f_draftOpen, f_symbolCount, f_stepCount, f_bindingCount, f_waitingCount, f_clashPlace, f_nodeCount, f_todoCount, a_kinds, a_values, a_declaredSize, a_declaredNodes, a_draftSize, a_draftNodes, a_symbols, a_symbolPlaces, a_steps, a_stepPlaces, a_bindings, a_boundType, a_waitingTypes, a_waitingFirm, a_shape, a_left, a_right, a_link, a_note, a_todo, a_todoOther, a_generalNode) post) (hbad : xh_B (n + 2) p (if kp = 17 then dv_pair V else if kp = 18 then dv_cons V else if kp = 25 then dv_asg V else if kp = 21 then dv_num 1 V else dv_num 0 V) (f_tokenCount, f_accepted, f_lastPlace, f_openCount, f_draftOpen, f_symbolCount, f_stepCount, f_bindingCount, f_waitingCount, f_clashPlace, f_nodeCount, f_todoCount, a_kinds, a_values, a_declaredSize, a_declaredNodes, a_draftSize, a_draftNodes, a_symbols, a_symbolPlaces, a_steps, a_stepPlaces, a_bindings, a_boundType, a_waitingTypes, a_waitingFirm, a_shape, a_left, a_right, a_link, a_note, a_todo, a_todoOther, a_generalNode) post) : wpX_inferOperator post (f_tokenCount, f_accepted, f_lastPlace, f_openCount, f_draftOpen, f_symbolCount, f_stepCount, f_bindingCount, nI (stk.length + 2), -1, nI n, f_todoCount, a_kinds, a_values, a_declaredSize, a_declaredNodes, a_draftSize, a_draftNodes, a_symbols, a_symbolPlaces, a_steps, a_stepPlaces, a_bindings, a_boundType, a_waitingTypes, a_waitingFirm, a_shape, a_left, a_right, a_link, a_note, a_todo, a_todoOther, a_generalNode) (nI p) := by
  obtain ⟨J, hG, hL, hK⟩ := I
  have vp : vp_in (nI p) 24 := vp_in_nI hp (by decide)
  have cp : (nI p).toNatClampNeg = p := nI_clamp (by omega)
  have m1 : ∀ (w x y : Nat) (l : List Nat), x ∈ w :: x :: y :: l ∧ y ∈ w :: x :: y :: l := fun w x y l => by simp
  have am : a ∈ a :: b :: stk ∧ b ∈ a :: b :: stk := by simp
  have body : ∀ f : Bool, f = (f1 && f2) → wX_inferOperator_26 post (nI p) (nI a) (if f = true then 1 else 0) f_tokenCount f_accepted f_lastPlace f_openCount f_draftOpen f_symbolCount f_stepCount f_bindingCount (nI (stk.length + 1)) (-1) (nI n) f_todoCount a_kinds a_values a_declaredSize a_declaredNodes a_draftSize a_draftNodes a_symbols a_symbolPlaces a_steps a_stepPlaces a_bindings a_boundType a_waitingTypes a_waitingFirm a_shape a_left a_right a_link a_note a_todo a_todoOther a_generalNode := by
    intro f hf
    refine xw_pop (by omega) ?_
    rw [h1.2.1]
    refine ⟨vp, ?_⟩
    rw [cp, hkp]
    refine nm_e ?_
    by_cases k17 : kp = 17
    · subst k17
      refine br_t rfl ?_
      have J1 := rp_con (k := 5) (a := b) (b := a) J (by omega) (Or.inl am.2) (Or.inl am.1) (fun _ st _ => ls_g 1 st) (fun _ st _ => ls_g 0 st) (fun ρ => rfl) (fun ρ => rfl)
      obtain ⟨L1, K1⟩ := xt_L (k := 5) (a := b) (b := a) J.1 hL hK (by omega)
      refine xw_new (by omega) ?_
      refine xw_push (b := f) (by omega) ?_
      refine hok (n + 1) K _ _ _ n _ _ _ _ _ _ _ _ _ _ _ (by omega) ⟨?_, xg_new (k := 5) hG (by omega), L1, K1⟩ (st_1p h1.2.2) ?_
      · refine rp_cg (xe_pair hl) (rp_sel J1 (stk' := n :: stk) (fun _ st _ => ls_g 0 st :: st.drop 3) (fun x hx => ?_) (fun ρ => rfl))
        rcases List.mem_cons.mp hx with z | z
        · rw [z]; exact Or.inl List.mem_cons_self
        · exact Or.inl (List.mem_cons_of_mem _ (List.mem_cons_of_mem _ (List.mem_cons_of_mem _ z)))
      · rw [← hfl, hf]; exact st_bp (b := f1 && f2) h2.2.2
    · have n17 : ¬ nI kp = 17 := fun z => k17 ((nI_eq (b := 17) (by omega) (by omega)).mp z)
      refine br_f n17 ?_
      by_cases k18 : kp = 18
      · subst k18
        refine br_t rfl ?_
        have J1 := rp_con (k := 3) (a := b) (b := b) J (by omega) (Or.inl am.2) (Or.inl am.2) (fun _ st _ => ls_g 1 st) (fun _ st _ => ls_g 1 st) (fun ρ => rfl) (fun ρ => rfl)
        obtain ⟨L1, K1⟩ := xt_L (k := 3) (a := b) (b := b) J.1 hL hK (by omega)
        refine xw_new (by omega) ?_
        refine xw_demand (oc := oc) (nl := nl) (p := p) (I := ⟨J1, xg_new (k := 3) hG (by omega), L1, K1⟩) (by omega) (Or.inl (m1 n a b stk).1) (Or.inl List.mem_cons_self) (fun _ st _ => ls_g 1 st = ls_g 0 st) (fun ρ => Iff.rfl) (fun kd' pa' K' lk note td tdo I' => ?_) (fun no lk note td tdo tc C' => ?_)
        · refine xw_push (b := f) (by omega) ?_
          refine hok (n + 1) K' kd' pa' _ a _ _ _ lk note td tdo _ _ _ _ (by omega) ⟨?_, I'.2⟩ (st_1p h1.2.2) ?_
          · refine rp_cg (xe_cons hl) (rp_sel I'.1 (stk' := a :: stk) (fun _ st _ => ls_g 1 st :: st.drop 3) (fun x hx => ?_) (fun ρ => rfl))
            rcases List.mem_cons.mp hx with z | z
            · rw [z]; exact Or.inl (m1 n a b stk).1
            · exact Or.inl (List.mem_cons_of_mem _ (List.mem_cons_of_mem _ (List.mem_cons_of_mem _ z)))
          · rw [← hfl, hf]; exact st_bp (b := f1 && f2) h2.2.2
        · refine xw_push (b := f) (by omega) ?_
          refine hbad (fun ν st E v => ?_) (n + 1) _ _ _ lk note td tdo _ _ tc _ _ _ (by omega) C'
          obtain ⟨st0, v1, _⟩ := (xe_cons hl ν st E).mpr v
          exact no ν st0 E v1
      · have n18 : ¬ nI kp = 18 := fun z => k18 ((nI_eq (b := 18) (by omega) (by omega)).mp z)
        refine br_f n18 ?_
        by_cases k25 : kp = 25
        · subst k25
          refine br_t rfl ?_
          have J1 := rp_con (k := 4) (a := a) (b := a) J (by omega) (Or.inl am.1) (Or.inl am.1) (fun _ st _ => ls_g 0 st) (fun _ st _ => ls_g 0 st) (fun ρ => rfl) (fun ρ => rfl)
          obtain ⟨L1, K1⟩ := xt_L (k := 4) (a := a) (b := a) J.1 hL hK (by omega)
          refine xw_new (by omega) ?_
          refine xw_demand (oc := oc) (nl := nl) (p := p) (I := ⟨J1, xg_new (k := 4) hG (by omega), L1, K1⟩) (by omega) (Or.inl (m1 n a b stk).2) (Or.inl List.mem_cons_self) (fun _ st _ => ls_g 2 st = ls_g 0 st) (fun ρ => Iff.rfl) (fun kd' pa' K' lk note td tdo I' => ?_) (fun no lk note td tdo tc C' => ?_)
          · have J2 := rp_leaf (k := 2) I'.1 (a := 0) (b := 0) (by omega) (by omega) (by omega)
            obtain ⟨L2, K2⟩ := xt_L (k := 2) (a := 0) (b := 0) I'.1.1 I'.2.2.1 I'.2.2.2 (by omega)
            refine xw_new (by omega) ?_
            refine xw_push (b := false) (by omega) ?_
            refine hok (n + 2) K' _ _ _ (n + 1) _ _ _ _ _ td tdo _ _ _ _ (by omega) ⟨?_, xg_new (k := 2) I'.2.1 (by omega), L2, K2⟩ (st_1p h1.2.2) ?_
            · refine rp_cg (xe_asg hl) (rp_sel J2 (stk' := (n + 1) :: stk) (fun _ st _ => ls_g 0 st :: st.drop 4) (fun x hx => ?_) (fun ρ => rfl))
              rcases List.mem_cons.mp hx with z | z
              · rw [z]; exact Or.inl List.mem_cons_self
              · exact Or.inl (List.mem_cons_of_mem _ (List.mem_cons_of_mem _ (List.mem_cons_of_mem _ (List.mem_cons_of_mem _ z))))
            · rw [← hfl]; exact st_bp (b := false) h2.2.2
          · refine xw_new (by omega) ?_
            refine xw_push (b := false) (by omega) ?_
            refine hbad (fun ν st E v => ?_) (n + 2) _ _ _ _ _ td tdo _ _ tc _ _ _ (by omega) (xt_Cn (k := 2) C' (by omega) (fun z => by omega))
            obtain ⟨st0, ⟨s2, _, v1⟩, _⟩ := (xe_asg hl ν st E).mpr v
            exact no ν s2 E v1
        · have n25 : ¬ nI kp = 25 := fun z => k25 ((nI_eq (b := 25) (by omega) (by omega)).mp z)
          refine br_f n25 ?_
          have J1 := rp_leaf (k := 0) J (a := 0) (b := 0) (by omega) (by omega) (by omega)
          obtain ⟨L1, K1⟩ := xt_L (k := 0) (a := 0) (b := 0) J.1 hL hK (by omega)
          have ev : (if kp = 17 then dv_pair V else if kp = 18 then dv_cons V else if kp = 25 then dv_asg V else if kp = 21 then dv_num 1 V else dv_num 0 V) = dv_num (if kp = 21 then 1 else 0) V := by
            rw [if_neg k17, if_neg k18, if_neg k25]
            by_cases k : kp = 21
            · rw [if_pos k, if_pos k]
            · rw [if_neg k, if_neg k]
          have eb : ((decide (kp = 17) || decide (kp = 18)) && f1 && f2) = false := by simp [k17, k18]
          rw [ev] at hok hbad
          rw [eb] at hok
          refine xw_new (by omega) ?_
          refine xw_demand (oc := oc) (nl := nl) (p := p) (I := ⟨J1, xg_new (k := 0) hG (by omega), L1, K1⟩) (by omega) (Or.inl (m1 n a b stk).2) (Or.inl List.mem_cons_self) (fun _ st _ => ls_g 2 st = ls_g 0 st) (fun ρ => Iff.rfl) (fun kd' pa' K' lk note td tdo I' => ?_) (fun no lk note td tdo tc C' => ?_)
          · refine xw_demand (oc := oc) (nl := nl) (p := p) (I := I') (by omega) (Or.inl (m1 n a b stk).1) (Or.inl List.mem_cons_self) (fun _ st _ => ls_g 1 st = ls_g 0 st) (fun ρ => Iff.rfl) (fun kd' pa' K' lk note td tdo I' => ?_) (fun no lk note td tdo tc C' => ?_)
            · refine ⟨vp, ?_⟩
              rw [hkp]
              have fin : ∀ kk, kk < 2 → kk = (if kp = 21 then 1 else 0) → wX_inferOperator_200 post (nI kk) f_tokenCount f_accepted f_lastPlace f_openCount f_draftOpen f_symbolCount f_stepCount f_bindingCount (nI stk.length) (-1) (nI (n + 1)) 0 a_kinds a_values a_declaredSize a_declaredNodes a_draftSize a_draftNodes a_symbols a_symbolPlaces a_steps a_stepPlaces a_bindings a_boundType a_waitingTypes a_waitingFirm (upd a_shape n (nI 0)) (upd a_left n (nI 0)) (upd a_right n (nI 0)) lk note td tdo a_generalNode := by
                intro kk hkk e
                have J2 := rp_leaf (k := kk) I'.1 (a := 0) (b := 0) (by omega) (by omega) (by omega)
                obtain ⟨L2, K2⟩ := xt_L (k := kk) (a := 0) (b := 0) I'.1.1 I'.2.2.1 I'.2.2.2 (by omega)
                refine xw_new (by omega) ?_
                refine xw_push (b := false) (by omega) ?_
                refine hok (n + 2) K' _ _ _ (n + 1) _ _ _ _ _ td tdo _ _ _ _ (by omega) ⟨?_, xg_new (k := kk) I'.2.1 (by omega), L2, K2⟩ (st_1p h1.2.2) ?_
                · rw [← e]
                  refine rp_cg (xe_num hl) (rp_sel J2 (stk' := (n + 1) :: stk) (fun _ st _ => ls_g 0 st :: st.drop 4) (fun x hx => ?_) (fun ρ => rfl))
                  rcases List.mem_cons.mp hx with z | z
                  · rw [z]; exact Or.inl List.mem_cons_self
                  · exact Or.inl (List.mem_cons_of_mem _ (List.mem_cons_of_mem _ (List.mem_cons_of_mem _ (List.mem_cons_of_mem _ z))))
                · rw [← hfl]; exact st_bp (b := false) h2.2.2
              refine pk_eq kp 21 (fun k => fin 1 (by omega) (by rw [if_pos k])) (fun k => fin 0 (by omega) (by rw [if_neg k]))
            · refine ⟨vp, ?_⟩
              rw [hkp]
              have fin : ∀ kk, kk < 2 → wX_inferOperator_200 post (nI kk) f_tokenCount f_accepted f_lastPlace f_openCount f_draftOpen f_symbolCount f_stepCount f_bindingCount (nI stk.length) (nI p) (nI (n + 1)) tc a_kinds a_values a_declaredSize a_declaredNodes a_draftSize a_draftNodes a_symbols a_symbolPlaces a_steps a_stepPlaces a_bindings a_boundType a_waitingTypes a_waitingFirm (upd a_shape n (nI 0)) (upd a_left n (nI 0)) (upd a_right n (nI 0)) lk note td tdo a_generalNode := by
                intro kk hkk
                refine xw_new (by omega) ?_
                refine xw_push (b := false) (by omega) ?_
                refine hbad (fun ν st E v => ?_) (n + 2) _ _ _ _ _ td tdo _ _ tc _ _ _ (by omega) (xt_Cn (k := kk) C' (by omega) (fun z => by omega))
                obtain ⟨st0, ⟨s2, _, v1⟩, _⟩ := (xe_num hl ν st E).mpr v
                exact no ν s2 E v1
              exact pk_eq kp 21 (fun k => fin 1 (by omega)) (fun k => fin 0 (by omega))
          · refine br_f (by exact nI_pos (by omega)) ⟨vp, ?_⟩
            rw [hkp]
            have fin : ∀ kk, kk < 2 → wX_inferOperator_200 post (nI kk) f_tokenCount f_accepted f_lastPlace f_openCount f_draftOpen f_symbolCount f_stepCount f_bindingCount (nI stk.length) (nI p) (nI (n + 1)) tc a_kinds a_values a_declaredSize a_declaredNodes a_draftSize a_draftNodes a_symbols a_symbolPlaces a_steps a_stepPlaces a_bindings a_boundType a_waitingTypes a_waitingFirm (upd a_shape n (nI 0)) (upd a_left n (nI 0)) (upd a_right n (nI 0)) lk note td tdo a_generalNode := by
              intro kk hkk
              refine xw_new (by omega) ?_
              refine xw_push (b := false) (by omega) ?_
              refine hbad (fun ν st E v => ?_) (n + 2) _ _ _ _ _ td tdo _ _ tc _ _ _ (by omega) (xt_Cn (k := kk) C' (by omega) (fun z => by omega))
              obtain ⟨st0, ⟨s2, _, v1, _⟩, _⟩ := (xe_num hl ν st E).mpr v
              exact no ν s2 E v1
            exact pk_eq kp 21 (fun k => fin 1 (by omega)) (fun k => fin 0 (by omega))
  unfold wpX_inferOperator
  refine xw_firm (b := f1) (by omega) ?_ ?_
  · rw [show a_waitingFirm (stk.length + 1) = (if f1 = true then 1 else 0) from by
      have := h2.1
      rw [List.length_cons, hfl] at this
      exact this]
  refine xw_pop (by omega) ?_
  rw [show a_waitingTypes (stk.length + 1) = nI a from h1.1]
  cases f1 with
  | false => exact br_t rfl (body false rfl)
  | true =>
    refine br_f (by decide) ?_
    refine xw_firm (b := f2) (by omega) ?_ ?_
    · have := h2.2.1
      rw [hfl] at this
      exact this
    cases f2 with
    | false => exact br_t rfl (body false rfl)
    | true => exact br_f (by decide) (body true rfl)
end
end
section
/-! the component's types of constants -/
theorem cs_22 (τ : tr_T) : cs_T 22 τ ↔ ∃ a, τ = tr_con 3 a a := by
  unfold cs_T
  simp
theorem cs_23 (τ : tr_T) : cs_T 23 τ ↔ ∃ a, τ = tr_con 6 a (tr_con 4 a a) := by
  unfold cs_T
  simp
theorem cs_24 (τ : tr_T) : cs_T 24 τ ↔ ∃ a, τ = tr_con 6 (tr_con 4 a a) a := by
  unfold cs_T
  simp
theorem cs_26 (τ : tr_T) : cs_T 26 τ ↔ ∃ a, τ = tr_con 6 (tr_con 3 a a) a := by
  unfold cs_T
  simp
theorem cs_27 (τ : tr_T) : cs_T 27 τ ↔ ∃ a, τ = tr_con 6 (tr_con 3 a a) (tr_con 3 a a) := by
  unfold cs_T
  simp
theorem cs_28 (τ : tr_T) : cs_T 28 τ ↔ ∃ a, τ = tr_con 6 (tr_con 3 a a) (tr_at 1) := by
  unfold cs_T
  simp
theorem cs_29 (τ : tr_T) : cs_T 29 τ ↔ ∃ a b, τ = tr_con 6 (tr_con 5 a b) a := by
  unfold cs_T
  simp
theorem cs_30 (τ : tr_T) : cs_T 30 τ ↔ ∃ a b, τ = tr_con 6 (tr_con 5 a b) b := by
  unfold cs_T
  simp
theorem cs_0 (τ : tr_T) : cs_T 0 τ ↔ τ = tr_at 0 := by
  unfold cs_T
  simp
theorem cs_1 (τ : tr_T) : cs_T 1 τ ↔ τ = tr_at 1 := by
  unfold cs_T
  simp
theorem cs_2 (τ : tr_T) : cs_T 2 τ ↔ τ = tr_at 1 := by
  unfold cs_T
  simp
section
variable {V : dv_W}
theorem xe_c0 (ν st' E : List tr_T) : (∃ st, (∃ s1, st = tr_at 0 :: s1 ∧ V ν s1 E) ∧ ls_g 0 st :: st.drop 1 = st') ↔ dv_psh (fun _ _ τ => cs_T 0 τ) V ν st' E := by
  constructor
  · intro ⟨st, ⟨s1, e1, v⟩, e⟩
    subst e1 e
    exact ⟨_, _, rfl, v, (cs_0 _).mpr rfl⟩
  · intro ⟨τ, s0, e, v, c⟩
    have c := (cs_0 τ).mp c
    subst c
    exact ⟨_, ⟨_, rfl, v⟩, e.symm⟩
theorem xe_c1 (ν st' E : List tr_T) : (∃ st, (∃ s1, st = tr_at 1 :: s1 ∧ V ν s1 E) ∧ ls_g 0 st :: st.drop 1 = st') ↔ dv_psh (fun _ _ τ => cs_T 1 τ) V ν st' E := by
  constructor
  · intro ⟨st, ⟨s1, e1, v⟩, e⟩
    subst e1 e
    exact ⟨_, _, rfl, v, (cs_1 _).mpr rfl⟩
  · intro ⟨τ, s0, e, v, c⟩
    have c := (cs_1 τ).mp c
    subst c
    exact ⟨_, ⟨_, rfl, v⟩, e.symm⟩
theorem xe_c2 (ν st' E : List tr_T) : (∃ st, (∃ s1, st = tr_at 1 :: s1 ∧ V ν s1 E) ∧ ls_g 0 st :: st.drop 1 = st') ↔ dv_psh (fun _ _ τ => cs_T 2 τ) V ν st' E := by
  constructor
  · intro ⟨st, ⟨s1, e1, v⟩, e⟩
    subst e1 e
    exact ⟨_, _, rfl, v, (cs_2 _).mpr rfl⟩
  · intro ⟨τ, s0, e, v, c⟩
    have c := (cs_2 τ).mp c
    subst c
    exact ⟨_, ⟨_, rfl, v⟩, e.symm⟩
theorem xe_c22 (ν st' E : List tr_T) : (∃ st, (∃ s2, st = tr_con 3 (ls_g 0 s2) (ls_g 0 s2) :: s2 ∧ (∃ τ1 s1, s2 = τ1 :: s1 ∧ V ν s1 E)) ∧ ls_g 0 st :: st.drop 2 = st') ↔ dv_psh (fun _ _ τ => cs_T 22 τ) V ν st' E := by
  constructor
  · intro ⟨st, ⟨s2, e2, ⟨t1, s1, e1, v⟩⟩, e⟩
    subst e1 e2 e
    exact ⟨_, _, rfl, v, (cs_22 _).mpr ⟨_, rfl⟩⟩
  · intro ⟨τ, s0, e, v, c⟩
    obtain ⟨a, c⟩ := (cs_22 τ).mp c
    subst c
    exact ⟨_, ⟨_, rfl, ⟨a, _, rfl, v⟩⟩, e.symm⟩
theorem xe_c23 (ν st' E : List tr_T) : (∃ st, (∃ s3, st = tr_con 6 (ls_g 1 s3) (ls_g 0 s3) :: s3 ∧ (∃ s2, s3 = tr_con 4 (ls_g 0 s2) (ls_g 0 s2) :: s2 ∧ (∃ τ1 s1, s2 = τ1 :: s1 ∧ V ν s1 E))) ∧ ls_g 0 st :: st.drop 3 = st') ↔ dv_psh (fun _ _ τ => cs_T 23 τ) V ν st' E := by
  constructor
  · intro ⟨st, ⟨s3, e3, ⟨s2, e2, ⟨t1, s1, e1, v⟩⟩⟩, e⟩
    subst e1 e2 e3 e
    exact ⟨_, _, rfl, v, (cs_23 _).mpr ⟨_, rfl⟩⟩
  · intro ⟨τ, s0, e, v, c⟩
    obtain ⟨a, c⟩ := (cs_23 τ).mp c
    subst c
    exact ⟨_, ⟨_, rfl, ⟨_, rfl, ⟨a, _, rfl, v⟩⟩⟩, e.symm⟩
theorem xe_c24 (ν st' E : List tr_T) : (∃ st, (∃ s3, st = tr_con 6 (ls_g 0 s3) (ls_g 1 s3) :: s3 ∧ (∃ s2, s3 = tr_con 4 (ls_g 0 s2) (ls_g 0 s2) :: s2 ∧ (∃ τ1 s1, s2 = τ1 :: s1 ∧ V ν s1 E))) ∧ ls_g 0 st :: st.drop 3 = st') ↔ dv_psh (fun _ _ τ => cs_T 24 τ) V ν st' E := by
  constructor
  · intro ⟨st, ⟨s3, e3, ⟨s2, e2, ⟨t1, s1, e1, v⟩⟩⟩, e⟩
    subst e1 e2 e3 e
    exact ⟨_, _, rfl, v, (cs_24 _).mpr ⟨_, rfl⟩⟩
  · intro ⟨τ, s0, e, v, c⟩
    obtain ⟨a, c⟩ := (cs_24 τ).mp c
    subst c
    exact ⟨_, ⟨_, rfl, ⟨_, rfl, ⟨a, _, rfl, v⟩⟩⟩, e.symm⟩
theorem xe_c26 (ν st' E : List tr_T) : (∃ st, (∃ s3, st = tr_con 6 (ls_g 0 s3) (ls_g 1 s3) :: s3 ∧ (∃ s2, s3 = tr_con 3 (ls_g 0 s2) (ls_g 0 s2) :: s2 ∧ (∃ τ1 s1, s2 = τ1 :: s1 ∧ V ν s1 E))) ∧ ls_g 0 st :: st.drop 3 = st') ↔ dv_psh (fun _ _ τ => cs_T 26 τ) V ν st' E := by
  constructor
  · intro ⟨st, ⟨s3, e3, ⟨s2, e2, ⟨t1, s1, e1, v⟩⟩⟩, e⟩
    subst e1 e2 e3 e
    exact ⟨_, _, rfl, v, (cs_26 _).mpr ⟨_, rfl⟩⟩
  · intro ⟨τ, s0, e, v, c⟩
    obtain ⟨a, c⟩ := (cs_26 τ).mp c
    subst c
    exact ⟨_, ⟨_, rfl, ⟨_, rfl, ⟨a, _, rfl, v⟩⟩⟩, e.symm⟩
theorem xe_c27 (ν st' E : List tr_T) : (∃ st, (∃ s3, st = tr_con 6 (ls_g 0 s3) (ls_g 0 s3) :: s3 ∧ (∃ s2, s3 = tr_con 3 (ls_g 0 s2) (ls_g 0 s2) :: s2 ∧ (∃ τ1 s1, s2 = τ1 :: s1 ∧ V ν s1 E))) ∧ ls_g 0 st :: st.drop 3 = st') ↔ dv_psh (fun _ _ τ => cs_T 27 τ) V ν st' E := by
  constructor
  · intro ⟨st, ⟨s3, e3, ⟨s2, e2, ⟨t1, s1, e1, v⟩⟩⟩, e⟩
    subst e1 e2 e3 e
    exact ⟨_, _, rfl, v, (cs_27 _).mpr ⟨_, rfl⟩⟩
  · intro ⟨τ, s0, e, v, c⟩
    obtain ⟨a, c⟩ := (cs_27 τ).mp c
    subst c
    exact ⟨_, ⟨_, rfl, ⟨_, rfl, ⟨a, _, rfl, v⟩⟩⟩, e.symm⟩
theorem xe_c28 (ν st' E : List tr_T) : (∃ st, (∃ s4, st = tr_con 6 (ls_g 1 s4) (ls_g 0 s4) :: s4 ∧ (∃ s3, s4 = tr_at 1 :: s3 ∧ (∃ s2, s3 = tr_con 3 (ls_g 0 s2) (ls_g 0 s2) :: s2 ∧ (∃ τ1 s1, s2 = τ1 :: s1 ∧ V ν s1 E)))) ∧ ls_g 0 st :: st.drop 4 = st') ↔ dv_psh (fun _ _ τ => cs_T 28 τ) V ν st' E := by
  constructor
  · intro ⟨st, ⟨s4, e4, ⟨s3, e3, ⟨s2, e2, ⟨t1, s1, e1, v⟩⟩⟩⟩, e⟩
    subst e1 e2 e3 e4 e
    exact ⟨_, _, rfl, v, (cs_28 _).mpr ⟨_, rfl⟩⟩
  · intro ⟨τ, s0, e, v, c⟩
    obtain ⟨a, c⟩ := (cs_28 τ).mp c
    subst c
    exact ⟨_, ⟨_, rfl, ⟨_, rfl, ⟨_, rfl, ⟨a, _, rfl, v⟩⟩⟩⟩, e.symm⟩
theorem xe_c29 (ν st' E : List tr_T) : (∃ st, (∃ s4, st = tr_con 6 (ls_g 0 s4) (ls_g 2 s4) :: s4 ∧ (∃ s3, s4 = tr_con 5 (ls_g 1 s3) (ls_g 0 s3) :: s3 ∧ (∃ τ2 s2, s3 = τ2 :: s2 ∧ (∃ τ1 s1, s2 = τ1 :: s1 ∧ V ν s1 E)))) ∧ ls_g 0 st :: st.drop 4 = st') ↔ dv_psh (fun _ _ τ => cs_T 29 τ) V ν st' E := by
  constructor
  · intro ⟨st, ⟨s4, e4, ⟨s3, e3, ⟨t2, s2, e2, ⟨t1, s1, e1, v⟩⟩⟩⟩, e⟩
    subst e1 e2 e3 e4 e
    exact ⟨_, _, rfl, v, (cs_29 _).mpr ⟨_, _, rfl⟩⟩
  · intro ⟨τ, s0, e, v, c⟩
    obtain ⟨a, b, c⟩ := (cs_29 τ).mp c
    subst c
    exact ⟨_, ⟨_, rfl, ⟨_, rfl, ⟨b, _, rfl, ⟨a, _, rfl, v⟩⟩⟩⟩, e.symm⟩
theorem xe_c30 (ν st' E : List tr_T) : (∃ st, (∃ s4, st = tr_con 6 (ls_g 0 s4) (ls_g 1 s4) :: s4 ∧ (∃ s3, s4 = tr_con 5 (ls_g 1 s3) (ls_g 0 s3) :: s3 ∧ (∃ τ2 s2, s3 = τ2 :: s2 ∧ (∃ τ1 s1, s2 = τ1 :: s1 ∧ V ν s1 E)))) ∧ ls_g 0 st :: st.drop 4 = st') ↔ dv_psh (fun _ _ τ => cs_T 30 τ) V ν st' E := by
  constructor
  · intro ⟨st, ⟨s4, e4, ⟨s3, e3, ⟨t2, s2, e2, ⟨t1, s1, e1, v⟩⟩⟩⟩, e⟩
    subst e1 e2 e3 e4 e
    exact ⟨_, _, rfl, v, (cs_30 _).mpr ⟨_, _, rfl⟩⟩
  · intro ⟨τ, s0, e, v, c⟩
    obtain ⟨a, b, c⟩ := (cs_30 τ).mp c
    subst c
    exact ⟨_, ⟨_, rfl, ⟨_, rfl, ⟨b, _, rfl, ⟨a, _, rfl, v⟩⟩⟩⟩, e.symm⟩
end
section
variable {f_tokenCount f_accepted f_lastPlace f_openCount f_draftOpen f_symbolCount f_stepCount f_bindingCount f_waitingCount f_clashPlace f_nodeCount f_todoCount : Int32} {a_kinds a_values a_declaredSize a_declaredNodes a_draftSize a_draftNodes a_symbols a_symbolPlaces a_steps a_stepPlaces a_bindings a_boundType a_waitingTypes a_waitingFirm a_shape a_left a_right a_link a_note a_todo a_todoOther a_generalNode : Nat → Int32}
variable {kd pa pb : Nat → Nat} {n K : Nat}
theorem xw_const {post : Int32 → SX → Prop} {oc nl k : Nat} {stk env : List Nat} {bs : List (Nat × Bool)} {V : dv_W} (I : xt_I oc nl n K kd pa pb stk env bs V a_shape a_left a_right a_link) (hn : n + 4 ≤ 4000) (hk : pm_alone k = true) (h3 : k ≠ 3)
    (h : ∀ n' kd' pa' pb' t sh lf rt lk note, n' ≤ n + 4 → xt_I oc nl n' K kd' pa' pb' (t :: stk) env bs (dv_psh (fun _ _ τ => cs_T k τ) V) sh lf rt lk → post (nI t) (f_tokenCount, f_accepted, f_lastPlace, f_openCount, f_draftOpen, f_symbolCount, f_stepCount, f_bindingCount, f_waitingCount, f_clashPlace, nI n', f_todoCount, a_kinds, a_values, a_declaredSize, a_declaredNodes, a_draftSize, a_draftNodes, a_symbols, a_symbolPlaces, a_steps, a_stepPlaces, a_bindings, a_boundType, a_waitingTypes, a_waitingFirm, sh, lf, rt, lk, note, a_todo, a_todoOther, a_generalNode)) : wpX_typeOfConstant post (f_tokenCount, f_accepted, f_lastPlace, f_openCount, f_draftOpen, f_symbolCount, f_stepCount, f_bindingCount, f_waitingCount, f_clashPlace, nI n, f_todoCount, a_kinds, a_values, a_declaredSize, a_declaredNodes, a_draftSize, a_draftNodes, a_symbols, a_symbolPlaces, a_steps, a_stepPlaces, a_bindings, a_boundType, a_waitingTypes, a_waitingFirm, a_shape, a_left, a_right, a_link, a_note, a_todo, a_todoOther, a_generalNode) (nI k) := by
  obtain ⟨J, hG, hL, hK⟩ := I
  have hk' : k = 0 ∨ k = 1 ∨ k = 2 ∨ k = 22 ∨ k = 23 ∨ k = 24 ∨ k = 26 ∨ k = 27 ∨ k = 28 ∨ k = 29 ∨ k = 30 := by
    unfold pm_alone at hk
    simp at hk
    omega
  unfold wpX_typeOfConstant
  rcases hk' with rfl | rfl | rfl | rfl | rfl | rfl | rfl | rfl | rfl | rfl | rfl
  · have J0 := rp_leaf (k := 0) J (a := 0) (b := 0) (by omega) (by omega) (by omega)
    obtain ⟨L0, K0⟩ := xt_L (k := 0) (a := 0) (b := 0) J.1 hL hK (by omega)
    refine br_t rfl ?_
    refine xw_new (by omega) ?_
    refine h (n + 1) _ _ _ (n) _ _ _ _ _ (by omega) ⟨rp_cg xe_c0 (rp_sel J0 (stk' := (n) :: stk) (fun _ st _ => ls_g 0 st :: st.drop 1) (fun x hx => ?_) (fun ρ => rfl)), (xg_new (k := 0) (a := 0) (b := 0) hG (by omega)), L0, K0⟩
    rcases List.mem_cons.mp hx with z | z
    · rw [z]; exact Or.inl List.mem_cons_self
    · exact Or.inl (List.mem_cons_of_mem _ z)
  · have J0 := rp_leaf (k := 1) J (a := 0) (b := 0) (by omega) (by omega) (by omega)
    obtain ⟨L0, K0⟩ := xt_L (k := 1) (a := 0) (b := 0) J.1 hL hK (by omega)
    refine br_f (by decide) ?_
    refine br_t rfl ?_
    refine xw_new (by omega) ?_
    refine h (n + 1) _ _ _ (n) _ _ _ _ _ (by omega) ⟨rp_cg xe_c1 (rp_sel J0 (stk' := (n) :: stk) (fun _ st _ => ls_g 0 st :: st.drop 1) (fun x hx => ?_) (fun ρ => rfl)), (xg_new (k := 1) (a := 0) (b := 0) hG (by omega)), L0, K0⟩
    rcases List.mem_cons.mp hx with z | z
    · rw [z]; exact Or.inl List.mem_cons_self
    · exact Or.inl (List.mem_cons_of_mem _ z)
  · have J0 := rp_leaf (k := 1) J (a := 0) (b := 0) (by omega) (by omega) (by omega)
    obtain ⟨L0, K0⟩ := xt_L (k := 1) (a := 0) (b := 0) J.1 hL hK (by omega)
    refine br_f (by decide) ?_
    refine br_f (by decide) ?_
    refine br_t rfl ?_
    refine xw_new (by omega) ?_
    refine h (n + 1) _ _ _ (n) _ _ _ _ _ (by omega) ⟨rp_cg xe_c2 (rp_sel J0 (stk' := (n) :: stk) (fun _ st _ => ls_g 0 st :: st.drop 1) (fun x hx => ?_) (fun ρ => rfl)), (xg_new (k := 1) (a := 0) (b := 0) hG (by omega)), L0, K0⟩
    rcases List.mem_cons.mp hx with z | z
    · rw [z]; exact Or.inl List.mem_cons_self
    · exact Or.inl (List.mem_cons_of_mem _ z)
  · have J0 := rp_var J (a := 0) (b := 0)
    obtain ⟨L0, K0⟩ := xt_L (k := 7) (a := 0) (b := 0) J.1 hL hK (by omega)
    have J1 := rp_con (k := 3) (a := n) (b := n) J0 (by omega) (Or.inl (by simp)) (Or.inl (by simp)) (fun _ st _ => ls_g 0 st) (fun _ st _ => ls_g 0 st) (fun ρ => rfl) (fun ρ => rfl)
    obtain ⟨L1, K1⟩ := xt_L (k := 3) (a := n) (b := n) J0.1 L0 K0 (by omega)
    refine br_f (by decide) ?_
    refine br_f (by decide) ?_
    refine br_f (by decide) ?_
    refine xw_new (by omega) ?_
    refine br_f (by decide) ?_
    refine br_f (by decide) ?_
    refine br_f (by decide) ?_
    refine br_f (by decide) ?_
    refine xw_new (by omega) ?_
    refine br_t (by decide) ?_
    refine h (n + 2) _ _ _ (n + 1) _ _ _ _ _ (by omega) ⟨rp_cg xe_c22 (rp_sel J1 (stk' := (n + 1) :: stk) (fun _ st _ => ls_g 0 st :: st.drop 2) (fun x hx => ?_) (fun ρ => rfl)), (xg_new (k := 3) (a := n) (b := n) (xg_new (k := 7) (a := 0) (b := 0) hG (by omega)) (by omega)), L1, K1⟩
    rcases List.mem_cons.mp hx with z | z
    · rw [z]; exact Or.inl List.mem_cons_self
    · exact Or.inl (List.mem_cons_of_mem _ (List.mem_cons_of_mem _ z))
  · have J0 := rp_var J (a := 0) (b := 0)
    obtain ⟨L0, K0⟩ := xt_L (k := 7) (a := 0) (b := 0) J.1 hL hK (by omega)
    have J1 := rp_con (k := 4) (a := n) (b := n) J0 (by omega) (Or.inl (by simp)) (Or.inl (by simp)) (fun _ st _ => ls_g 0 st) (fun _ st _ => ls_g 0 st) (fun ρ => rfl) (fun ρ => rfl)
    obtain ⟨L1, K1⟩ := xt_L (k := 4) (a := n) (b := n) J0.1 L0 K0 (by omega)
    have J2 := rp_con (k := 6) (a := n) (b := n + 1) J1 (by omega) (Or.inl (by simp)) (Or.inl (by simp)) (fun _ st _ => ls_g 1 st) (fun _ st _ => ls_g 0 st) (fun ρ => rfl) (fun ρ => rfl)
    obtain ⟨L2, K2⟩ := xt_L (k := 6) (a := n) (b := n + 1) J1.1 L1 K1 (by omega)
    refine br_f (by decide) ?_
    refine br_f (by decide) ?_
    refine br_f (by decide) ?_
    refine xw_new (by omega) ?_
    refine br_f (by decide) ?_
    refine br_f (by decide) ?_
    refine br_t rfl ?_
    unfold wX_typeOfConstant_102
    refine xw_new (by omega) ?_
    refine br_f (by decide) ?_
    refine br_f (by decide) ?_
    refine br_t rfl ?_
    refine xw_new (by omega) ?_
    refine h (n + 3) _ _ _ (n + 2) _ _ _ _ _ (by omega) ⟨rp_cg xe_c23 (rp_sel J2 (stk' := (n + 2) :: stk) (fun _ st _ => ls_g 0 st :: st.drop 3) (fun x hx => ?_) (fun ρ => rfl)), (xg_new (k := 6) (a := n) (b := n + 1) (xg_new (k := 4) (a := n) (b := n) (xg_new (k := 7) (a := 0) (b := 0) hG (by omega)) (by omega)) (by omega)), L2, K2⟩
    rcases List.mem_cons.mp hx with z | z
    · rw [z]; exact Or.inl List.mem_cons_self
    · exact Or.inl (List.mem_cons_of_mem _ (List.mem_cons_of_mem _ (List.mem_cons_of_mem _ z)))
  · have J0 := rp_var J (a := 0) (b := 0)
    obtain ⟨L0, K0⟩ := xt_L (k := 7) (a := 0) (b := 0) J.1 hL hK (by omega)
    have J1 := rp_con (k := 4) (a := n) (b := n) J0 (by omega) (Or.inl (by simp)) (Or.inl (by simp)) (fun _ st _ => ls_g 0 st) (fun _ st _ => ls_g 0 st) (fun ρ => rfl) (fun ρ => rfl)
    obtain ⟨L1, K1⟩ := xt_L (k := 4) (a := n) (b := n) J0.1 L0 K0 (by omega)
    have J2 := rp_con (k := 6) (a := n + 1) (b := n) J1 (by omega) (Or.inl (by simp)) (Or.inl (by simp)) (fun _ st _ => ls_g 0 st) (fun _ st _ => ls_g 1 st) (fun ρ => rfl) (fun ρ => rfl)
    obtain ⟨L2, K2⟩ := xt_L (k := 6) (a := n + 1) (b := n) J1.1 L1 K1 (by omega)
    refine br_f (by decide) ?_
    refine br_f (by decide) ?_
    refine br_f (by decide) ?_
    refine xw_new (by omega) ?_
    refine br_f (by decide) ?_
    refine br_f (by decide) ?_
    refine br_f (by decide) ?_
    refine br_t rfl ?_
    unfold wX_typeOfConstant_102
    refine xw_new (by omega) ?_
    refine br_f (by decide) ?_
    refine br_f (by decide) ?_
    refine br_f (by decide) ?_
    refine br_t rfl ?_
    refine xw_new (by omega) ?_
    refine h (n + 3) _ _ _ (n + 2) _ _ _ _ _ (by omega) ⟨rp_cg xe_c24 (rp_sel J2 (stk' := (n + 2) :: stk) (fun _ st _ => ls_g 0 st :: st.drop 3) (fun x hx => ?_) (fun ρ => rfl)), (xg_new (k := 6) (a := n + 1) (b := n) (xg_new (k := 4) (a := n) (b := n) (xg_new (k := 7) (a := 0) (b := 0) hG (by omega)) (by omega)) (by omega)), L2, K2⟩
    rcases List.mem_cons.mp hx with z | z
    · rw [z]; exact Or.inl List.mem_cons_self
    · exact Or.inl (List.mem_cons_of_mem _ (List.mem_cons_of_mem _ (List.mem_cons_of_mem _ z)))
  · have J0 := rp_var J (a := 0) (b := 0)
    obtain ⟨L0, K0⟩ := xt_L (k := 7) (a := 0) (b := 0) J.1 hL hK (by omega)
    have J1 := rp_con (k := 3) (a := n) (b := n) J0 (by omega) (Or.inl (by simp)) (Or.inl (by simp)) (fun _ st _ => ls_g 0 st) (fun _ st _ => ls_g 0 st) (fun ρ => rfl) (fun ρ => rfl)
    obtain ⟨L1, K1⟩ := xt_L (k := 3) (a := n) (b := n) J0.1 L0 K0 (by omega)
    have J2 := rp_con (k := 6) (a := n + 1) (b := n) J1 (by omega) (Or.inl (by simp)) (Or.inl (by simp)) (fun _ st _ => ls_g 0 st) (fun _ st _ => ls_g 1 st) (fun ρ => rfl) (fun ρ => rfl)
    obtain ⟨L2, K2⟩ := xt_L (k := 6) (a := n + 1) (b := n) J1.1 L1 K1 (by omega)
    refine br_f (by decide) ?_
    refine br_f (by decide) ?_
    refine br_f (by decide) ?_
    refine xw_new (by omega) ?_
    refine br_f (by decide) ?_
    refine br_f (by decide) ?_
    refine br_f (by decide) ?_
    refine br_f (by decide) ?_
    refine xw_new (by omega) ?_
    refine br_f (by decide) ?_
    refine br_f (by decide) ?_
    refine br_f (by decide) ?_
    refine br_f (by decide) ?_
    refine br_f (by decide) ?_
    refine br_t rfl ?_
    refine xw_new (by omega) ?_
    refine h (n + 3) _ _ _ (n + 2) _ _ _ _ _ (by omega) ⟨rp_cg xe_c26 (rp_sel J2 (stk' := (n + 2) :: stk) (fun _ st _ => ls_g 0 st :: st.drop 3) (fun x hx => ?_) (fun ρ => rfl)), (xg_new (k := 6) (a := n + 1) (b := n) (xg_new (k := 3) (a := n) (b := n) (xg_new (k := 7) (a := 0) (b := 0) hG (by omega)) (by omega)) (by omega)), L2, K2⟩
    rcases List.mem_cons.mp hx with z | z
    · rw [z]; exact Or.inl List.mem_cons_self
    · exact Or.inl (List.mem_cons_of_mem _ (List.mem_cons_of_mem _ (List.mem_cons_of_mem _ z)))
  · have J0 := rp_var J (a := 0) (b := 0)
    obtain ⟨L0, K0⟩ := xt_L (k := 7) (a := 0) (b := 0) J.1 hL hK (by omega)
    have J1 := rp_con (k := 3) (a := n) (b := n) J0 (by omega) (Or.inl (by simp)) (Or.inl (by simp)) (fun _ st _ => ls_g 0 st) (fun _ st _ => ls_g 0 st) (fun ρ => rfl) (fun ρ => rfl)
    obtain ⟨L1, K1⟩ := xt_L (k := 3) (a := n) (b := n) J0.1 L0 K0 (by omega)
    have J2 := rp_con (k := 6) (a := n + 1) (b := n + 1) J1 (by omega) (Or.inl (by simp)) (Or.inl (by simp)) (fun _ st _ => ls_g 0 st) (fun _ st _ => ls_g 0 st) (fun ρ => rfl) (fun ρ => rfl)
    obtain ⟨L2, K2⟩ := xt_L (k := 6) (a := n + 1) (b := n + 1) J1.1 L1 K1 (by omega)
    refine br_f (by decide) ?_
    refine br_f (by decide) ?_
    refine br_f (by decide) ?_
    refine xw_new (by omega) ?_
    refine br_f (by decide) ?_
    refine br_f (by decide) ?_
    refine br_f (by decide) ?_
    refine br_f (by decide) ?_
    refine xw_new (by omega) ?_
    refine br_f (by decide) ?_
    refine br_f (by decide) ?_
    refine br_f (by decide) ?_
    refine br_f (by decide) ?_
    refine br_f (by decide) ?_
    refine br_f (by decide) ?_
    refine br_t rfl ?_
    refine xw_new (by omega) ?_
    refine h (n + 3) _ _ _ (n + 2) _ _ _ _ _ (by omega) ⟨rp_cg xe_c27 (rp_sel J2 (stk' := (n + 2) :: stk) (fun _ st _ => ls_g 0 st :: st.drop 3) (fun x hx => ?_) (fun ρ => rfl)), (xg_new (k := 6) (a := n + 1) (b := n + 1) (xg_new (k := 3) (a := n) (b := n) (xg_new (k := 7) (a := 0) (b := 0) hG (by omega)) (by omega)) (by omega)), L2, K2⟩
    rcases List.mem_cons.mp hx with z | z
    · rw [z]; exact Or.inl List.mem_cons_self
    · exact Or.inl (List.mem_cons_of_mem _ (List.mem_cons_of_mem _ (List.mem_cons_of_mem _ z)))
  · have J0 := rp_var J (a := 0) (b := 0)
    obtain ⟨L0, K0⟩ := xt_L (k := 7) (a := 0) (b := 0) J.1 hL hK (by omega)
    have J1 := rp_con (k := 3) (a := n) (b := n) J0 (by omega) (Or.inl (by simp)) (Or.inl (by simp)) (fun _ st _ => ls_g 0 st) (fun _ st _ => ls_g 0 st) (fun ρ => rfl) (fun ρ => rfl)
    obtain ⟨L1, K1⟩ := xt_L (k := 3) (a := n) (b := n) J0.1 L0 K0 (by omega)
    have J2 := rp_leaf (k := 1) J1 (a := 0) (b := 0) (by omega) (by omega) (by omega)
    obtain ⟨L2, K2⟩ := xt_L (k := 1) (a := 0) (b := 0) J1.1 L1 K1 (by omega)
    have J3 := rp_con (k := 6) (a := n + 1) (b := n + 2) J2 (by omega) (Or.inl (by simp)) (Or.inl (by simp)) (fun _ st _ => ls_g 1 st) (fun _ st _ => ls_g 0 st) (fun ρ => rfl) (fun ρ => rfl)
    obtain ⟨L3, K3⟩ := xt_L (k := 6) (a := n + 1) (b := n + 2) J2.1 L2 K2 (by omega)
    refine br_f (by decide) ?_
    refine br_f (by decide) ?_
    refine br_f (by decide) ?_
    refine xw_new (by omega) ?_
    refine br_f (by decide) ?_
    refine br_f (by decide) ?_
    refine br_f (by decide) ?_
    refine br_f (by decide) ?_
    refine xw_new (by omega) ?_
    refine br_f (by decide) ?_
    refine br_f (by decide) ?_
    refine br_f (by decide) ?_
    refine br_f (by decide) ?_
    refine br_f (by decide) ?_
    refine br_f (by decide) ?_
    refine br_f (by decide) ?_
    refine br_t rfl ?_
    refine xw_new (by omega) ?_
    refine xw_new (by omega) ?_
    refine h (n + 4) _ _ _ (n + 3) _ _ _ _ _ (by omega) ⟨rp_cg xe_c28 (rp_sel J3 (stk' := (n + 3) :: stk) (fun _ st _ => ls_g 0 st :: st.drop 4) (fun x hx => ?_) (fun ρ => rfl)), (xg_new (k := 6) (a := n + 1) (b := n + 2) (xg_new (k := 1) (a := 0) (b := 0) (xg_new (k := 3) (a := n) (b := n) (xg_new (k := 7) (a := 0) (b := 0) hG (by omega)) (by omega)) (by omega)) (by omega)), L3, K3⟩
    rcases List.mem_cons.mp hx with z | z
    · rw [z]; exact Or.inl List.mem_cons_self
    · exact Or.inl (List.mem_cons_of_mem _ (List.mem_cons_of_mem _ (List.mem_cons_of_mem _ (List.mem_cons_of_mem _ z))))
  · have J0 := rp_var J (a := 0) (b := 0)
    obtain ⟨L0, K0⟩ := xt_L (k := 7) (a := 0) (b := 0) J.1 hL hK (by omega)
    have J1 := rp_var J0 (a := 0) (b := 0)
    obtain ⟨L1, K1⟩ := xt_L (k := 7) (a := 0) (b := 0) J0.1 L0 K0 (by omega)
    have J2 := rp_con (k := 5) (a := n) (b := n + 1) J1 (by omega) (Or.inl (by simp)) (Or.inl (by simp)) (fun _ st _ => ls_g 1 st) (fun _ st _ => ls_g 0 st) (fun ρ => rfl) (fun ρ => rfl)
    obtain ⟨L2, K2⟩ := xt_L (k := 5) (a := n) (b := n + 1) J1.1 L1 K1 (by omega)
    have J3 := rp_con (k := 6) (a := n + 2) (b := n) J2 (by omega) (Or.inl (by simp)) (Or.inl (by simp)) (fun _ st _ => ls_g 0 st) (fun _ st _ => ls_g 2 st) (fun ρ => rfl) (fun ρ => rfl)
    obtain ⟨L3, K3⟩ := xt_L (k := 6) (a := n + 2) (b := n) J2.1 L2 K2 (by omega)
    refine br_f (by decide) ?_
    refine br_f (by decide) ?_
    refine br_f (by decide) ?_
    refine xw_new (by omega) ?_
    refine br_t rfl ?_
    refine xw_new (by omega) ?_
    refine xw_new (by omega) ?_
    refine br_t rfl ?_
    refine xw_new (by omega) ?_
    refine h (n + 4) _ _ _ (n + 3) _ _ _ _ _ (by omega) ⟨rp_cg xe_c29 (rp_sel J3 (stk' := (n + 3) :: stk) (fun _ st _ => ls_g 0 st :: st.drop 4) (fun x hx => ?_) (fun ρ => rfl)), (xg_new (k := 6) (a := n + 2) (b := n) (xg_new (k := 5) (a := n) (b := n + 1) (xg_new (k := 7) (a := 0) (b := 0) (xg_new (k := 7) (a := 0) (b := 0) hG (by omega)) (by omega)) (by omega)) (by omega)), L3, K3⟩
    rcases List.mem_cons.mp hx with z | z
    · rw [z]; exact Or.inl List.mem_cons_self
    · exact Or.inl (List.mem_cons_of_mem _ (List.mem_cons_of_mem _ (List.mem_cons_of_mem _ (List.mem_cons_of_mem _ z))))
  · have J0 := rp_var J (a := 0) (b := 0)
    obtain ⟨L0, K0⟩ := xt_L (k := 7) (a := 0) (b := 0) J.1 hL hK (by omega)
    have J1 := rp_var J0 (a := 0) (b := 0)
    obtain ⟨L1, K1⟩ := xt_L (k := 7) (a := 0) (b := 0) J0.1 L0 K0 (by omega)
    have J2 := rp_con (k := 5) (a := n) (b := n + 1) J1 (by omega) (Or.inl (by simp)) (Or.inl (by simp)) (fun _ st _ => ls_g 1 st) (fun _ st _ => ls_g 0 st) (fun ρ => rfl) (fun ρ => rfl)
    obtain ⟨L2, K2⟩ := xt_L (k := 5) (a := n) (b := n + 1) J1.1 L1 K1 (by omega)
    have J3 := rp_con (k := 6) (a := n + 2) (b := n + 1) J2 (by omega) (Or.inl (by simp)) (Or.inl (by simp)) (fun _ st _ => ls_g 0 st) (fun _ st _ => ls_g 1 st) (fun ρ => rfl) (fun ρ => rfl)
    obtain ⟨L3, K3⟩ := xt_L (k := 6) (a := n + 2) (b := n + 1) J2.1 L2 K2 (by omega)
    refine br_f (by decide) ?_
    refine br_f (by decide) ?_
    refine br_f (by decide) ?_
    refine xw_new (by omega) ?_
    refine br_f (by decide) ?_
    refine br_t rfl ?_
    refine xw_new (by omega) ?_
    refine xw_new (by omega) ?_
    refine br_f (by decide) ?_
    refine xw_new (by omega) ?_
    refine h (n + 4) _ _ _ (n + 3) _ _ _ _ _ (by omega) ⟨rp_cg xe_c30 (rp_sel J3 (stk' := (n + 3) :: stk) (fun _ st _ => ls_g 0 st :: st.drop 4) (fun x hx => ?_) (fun ρ => rfl)), (xg_new (k := 6) (a := n + 2) (b := n + 1) (xg_new (k := 5) (a := n) (b := n + 1) (xg_new (k := 7) (a := 0) (b := 0) (xg_new (k := 7) (a := 0) (b := 0) hG (by omega)) (by omega)) (by omega)) (by omega)), L3, K3⟩
    rcases List.mem_cons.mp hx with z | z
    · rw [z]; exact Or.inl List.mem_cons_self
    · exact Or.inl (List.mem_cons_of_mem _ (List.mem_cons_of_mem _ (List.mem_cons_of_mem _ (List.mem_cons_of_mem _ z))))
end
end
section
/-! the component's bindings -/
/-- the tokens: c of them, K their kinds (99 behind the last), N their values where they are names or type variables -/
def tk_T (ks vs : Nat → Int32) (c : Nat) (K N : Nat → Nat) : Prop :=
  c ≤ 24 ∧ (∀ i, c ≤ i → K i = 99) ∧ ∀ i, i < c → ks i = nI (K i) ∧ K i < 38 ∧ (K i = 3 → vs i = nI (N i) ∧ N i < 12) ∧ (K i = 35 → vs i = nI (N i) ∧ N i < 4)
/-- places fall from the innermost binding to the outermost -/
def bs_S : List (Nat × Bool) → Prop
  | [] => True
  | b :: bs => (∀ x, x ∈ bs → x.1 < b.1) ∧ bs_S bs
theorem bs_len : ∀ (bs : List (Nat × Bool)) (m : Nat), bs_S bs → (∀ x, x ∈ bs → x.1 < m) → bs.length ≤ m := by
  intro bs
  induction bs with
  | nil => intro m _ _; exact Nat.zero_le _
  | cons b bs ih =>
    intro m h hm
    have z := ih b.1 h.2 h.1
    have := hm b List.mem_cons_self
    rw [List.length_cons]; omega
theorem bs_app : ∀ (A B : List (Nat × Bool)), bs_S (A ++ B) → bs_S B := by
  intro A
  induction A with
  | nil => intro B h; exact h
  | cons a A ih => intro B h; exact ih B h.2
theorem bs_ns {p : Nat} {bs : List (Nat × Bool)} (h : bs_S bs) (hx : ∀ x, x ∈ bs → x.1 ≤ p) : ∀ m, bs_S (pd_ns p m ++ bs) ∧ ∀ x, x ∈ pd_ns p m ++ bs → x.1 ≤ p + m := by
  intro m
  induction m with
  | zero => exact ⟨h, fun x z => hx x z⟩
  | succ m ih =>
    refine ⟨⟨fun x z => ?_, ih.1⟩, fun x z => ?_⟩
    · have := ih.2 x z
      show x.1 < p + 1 + m
      omega
    · rcases List.mem_cons.mp z with z | z
      · rw [z]; show p + 1 + m ≤ p + (m + 1); omega
      · have := ih.2 x z; omega
section
variable {f_tokenCount f_accepted f_lastPlace f_openCount f_draftOpen f_symbolCount f_stepCount f_bindingCount f_waitingCount f_clashPlace f_nodeCount f_todoCount : Int32} {a_kinds a_values a_declaredSize a_declaredNodes a_draftSize a_draftNodes a_symbols a_symbolPlaces a_steps a_stepPlaces a_bindings a_boundType a_waitingTypes a_waitingFirm a_shape a_left a_right a_link a_note a_todo a_todoOther a_generalNode : Nat → Int32}
variable {kd pa pb : Nat → Nat} {n K : Nat}
def xb_P (bd : Nat → Int32) : List (Nat × Bool) → Prop
  | [] => True
  | b :: bs => bd bs.length = nI b.1 ∧ b.1 < 24 ∧ xb_P bd bs
theorem xb_Pu {bd : Nat → Int32} {k : Nat} {x : Int32} : ∀ bs : List (Nat × Bool), bs.length ≤ k → xb_P bd bs → xb_P (upd bd k x) bs := by
  intro bs
  induction bs with
  | nil => intro _ _; trivial
  | cons b bs ih =>
    intro h z
    rw [List.length_cons] at h
    refine ⟨?_, z.2.1, ih (by omega) z.2.2⟩
    rw [pk_un (by omega)]; exact z.1
theorem xb_Pp {bd : Nat → Int32} {b : Nat × Bool} {bs : List (Nat × Bool)} (h : xb_P bd bs) (hb : b.1 < 24) : xb_P (upd bd bs.length (nI b.1)) (b :: bs) := ⟨pk_us, hb, xb_Pu bs (Nat.le_refl _) h⟩
theorem xb_PB {bd bt : Nat → Int32} : ∀ (bs : List (Nat × Bool)) (env : List Nat), xb_B bd bt bs env → xb_P bd bs := by
  intro bs
  induction bs with
  | nil => intro env _; trivial
  | cons b bs ih =>
    intro env h
    cases env with
    | nil => exact h.elim
    | cons e env => exact ⟨h.1, h.2.1, ih env h.2.2.2⟩
theorem xb_Papp {bd : Nat → Int32} : ∀ (A B : List (Nat × Bool)), xb_P bd (A ++ B) → xb_P bd B := by
  intro A
  induction A with
  | nil => intro B h; exact h
  | cons a A ih => intro B h; exact ih B h.2.2
theorem xw_bind {post : SX → Prop} {h : Nat} {x : Int32} (hh : h < 24) (hp : post (f_tokenCount, f_accepted, f_lastPlace, f_openCount, f_draftOpen, f_symbolCount, f_stepCount, nI (h + 1), f_waitingCount, f_clashPlace, f_nodeCount, f_todoCount, a_kinds, a_values, a_declaredSize, a_declaredNodes, a_draftSize, a_draftNodes, a_symbols, a_symbolPlaces, a_steps, a_stepPlaces, upd a_bindings h x, a_boundType, a_waitingTypes, a_waitingFirm, a_shape, a_left, a_right, a_link, a_note, a_todo, a_todoOther, a_generalNode)) : wpX_bind post (f_tokenCount, f_accepted, f_lastPlace, f_openCount, f_draftOpen, f_symbolCount, f_stepCount, nI h, f_waitingCount, f_clashPlace, f_nodeCount, f_todoCount, a_kinds, a_values, a_declaredSize, a_declaredNodes, a_draftSize, a_draftNodes, a_symbols, a_symbolPlaces, a_steps, a_stepPlaces, a_bindings, a_boundType, a_waitingTypes, a_waitingFirm, a_shape, a_left, a_right, a_link, a_note, a_todo, a_todoOther, a_generalNode) x := by
  refine br_f (nI_ge (b := 24) hh (by decide)) ⟨vp_in_nI hh (by decide), ?_⟩
  rw [nI_clamp (by omega)]
  exact nm_e (nm_r (nI_1 h) hp)
theorem xw_unbind {post : SX → Prop} {h m : Nat} (hm : 0 < h) (hh : h + m < 100) (hp : post (f_tokenCount, f_accepted, f_lastPlace, f_openCount, f_draftOpen, f_symbolCount, f_stepCount, nI h, f_waitingCount, f_clashPlace, f_nodeCount, f_todoCount, a_kinds, a_values, a_declaredSize, a_declaredNodes, a_draftSize, a_draftNodes, a_symbols, a_symbolPlaces, a_steps, a_stepPlaces, a_bindings, a_boundType, a_waitingTypes, a_waitingFirm, a_shape, a_left, a_right, a_link, a_note, a_todo, a_todoOther, a_generalNode)) : wpX_unbind post (f_tokenCount, f_accepted, f_lastPlace, f_openCount, f_draftOpen, f_symbolCount, f_stepCount, nI (h + m), f_waitingCount, f_clashPlace, f_nodeCount, f_todoCount, a_kinds, a_values, a_declaredSize, a_declaredNodes, a_draftSize, a_draftNodes, a_symbols, a_symbolPlaces, a_steps, a_stepPlaces, a_bindings, a_boundType, a_waitingTypes, a_waitingFirm, a_shape, a_left, a_right, a_link, a_note, a_todo, a_todoOther, a_generalNode) (nI m) := by
  refine br_f (nI_ge (by omega) (by omega)) (nm_r ?_ hp)
  rw [pk_sub (by omega)]
  congr 1
  omega
theorem xw_unbind0 {post : SX → Prop} {m : Nat} (hp : post (f_tokenCount, f_accepted, f_lastPlace, f_openCount, f_draftOpen, f_symbolCount, f_stepCount, nI 0, f_waitingCount, f_clashPlace, f_nodeCount, f_todoCount, a_kinds, a_values, a_declaredSize, a_declaredNodes, a_draftSize, a_draftNodes, a_symbols, a_symbolPlaces, a_steps, a_stepPlaces, a_bindings, a_boundType, a_waitingTypes, a_waitingFirm, a_shape, a_left, a_right, a_link, a_note, a_todo, a_todoOther, a_generalNode)) : wpX_unbind post (f_tokenCount, f_accepted, f_lastPlace, f_openCount, f_draftOpen, f_symbolCount, f_stepCount, nI m, f_waitingCount, f_clashPlace, f_nodeCount, f_todoCount, a_kinds, a_values, a_declaredSize, a_declaredNodes, a_draftSize, a_draftNodes, a_symbols, a_symbolPlaces, a_steps, a_stepPlaces, a_bindings, a_boundType, a_waitingTypes, a_waitingFirm, a_shape, a_left, a_right, a_link, a_note, a_todo, a_todoOther, a_generalNode) (nI m) := br_t (Int32.le_refl _) hp
theorem xw_unbindA {post : SX → Prop} {h m : Nat} (hh : h + m < 100) (hp : post (f_tokenCount, f_accepted, f_lastPlace, f_openCount, f_draftOpen, f_symbolCount, f_stepCount, nI h, f_waitingCount, f_clashPlace, f_nodeCount, f_todoCount, a_kinds, a_values, a_declaredSize, a_declaredNodes, a_draftSize, a_draftNodes, a_symbols, a_symbolPlaces, a_steps, a_stepPlaces, a_bindings, a_boundType, a_waitingTypes, a_waitingFirm, a_shape, a_left, a_right, a_link, a_note, a_todo, a_todoOther, a_generalNode)) : wpX_unbind post (f_tokenCount, f_accepted, f_lastPlace, f_openCount, f_draftOpen, f_symbolCount, f_stepCount, nI (h + m), f_waitingCount, f_clashPlace, f_nodeCount, f_todoCount, a_kinds, a_values, a_declaredSize, a_declaredNodes, a_draftSize, a_draftNodes, a_symbols, a_symbolPlaces, a_steps, a_stepPlaces, a_bindings, a_boundType, a_waitingTypes, a_waitingFirm, a_shape, a_left, a_right, a_link, a_note, a_todo, a_todoOther, a_generalNode) (nI m) := by
  by_cases c : h = 0
  · subst c
    rw [Nat.zero_add]
    exact xw_unbind0 hp
  · exact xw_unbind (by omega) hh hp
theorem xw_equals {post : Int32 → Prop} {c p : Nat} {N mq Kt : Nat → Nat} (hT : tk_T a_kinds a_values c Kt N) (hf : pd_fn Kt mq p) (hp : p + mq p + 1 < c) (h : post (nI (p + mq p + 1))) : wpX_equalsBehind post (nI c, f_accepted, f_lastPlace, f_openCount, f_draftOpen, f_symbolCount, f_stepCount, f_bindingCount, f_waitingCount, f_clashPlace, f_nodeCount, f_todoCount, a_kinds, a_values, a_declaredSize, a_declaredNodes, a_draftSize, a_draftNodes, a_symbols, a_symbolPlaces, a_steps, a_stepPlaces, a_bindings, a_boundType, a_waitingTypes, a_waitingFirm, a_shape, a_left, a_right, a_link, a_note, a_todo, a_todoOther, a_generalNode) (nI p) := by
  obtain ⟨c24, _, tk⟩ := hT
  obtain ⟨_, f0, f1, f2⟩ := hf
  have loop : ∀ d j, p ≤ j → j + d = p + mq p + 1 → wX_equalsBehind_2 post (nI c) f_accepted f_lastPlace f_openCount f_draftOpen f_symbolCount f_stepCount f_bindingCount f_waitingCount f_clashPlace f_nodeCount f_todoCount a_kinds a_values a_declaredSize a_declaredNodes a_draftSize a_draftNodes a_symbols a_symbolPlaces a_steps a_stepPlaces a_bindings a_boundType a_waitingTypes a_waitingFirm a_shape a_left a_right a_link a_note a_todo a_todoOther a_generalNode (d + 1) (nI j) := by
    intro d
    induction d with
    | zero =>
      intro j h1 h2
      have e : j = p + mq p + 1 := by omega
      subst e
      refine br_f (nI_ge (by omega) (by omega)) ⟨vp_in_nI (by omega) (by decide), ?_⟩
      rw [nI_clamp (by omega), (tk _ hp).1, f2]
      exact br_t rfl h
    | succ d ih =>
      intro j h1 h2
      refine br_f (nI_ge (by omega) (by omega)) ⟨vp_in_nI (by omega) (by decide), ?_⟩
      rw [nI_clamp (by omega), (tk j (by omega)).1]
      have k9 : Kt j ≠ 9 := by
        by_cases e : j = p
        · rw [e, f0]; decide
        · rw [f1 j (by omega) (by omega)]; decide
      refine br_f (fun z => k9 ((nI_eq (b := 9) (by have := (tk j (by omega)).2.1; omega) (by omega)).mp z)) (nm_r (nI_1 j) (ih (j + 1) (by omega) (by omega)))
  exact ⟨mq p + 2, loop (mq p + 1) p (Nat.le_refl _) (by omega)⟩
theorem xw_bindingOf {post : Int32 → Prop} {nm : Nat} {N : Nat → Nat} (hnm : nm < 12) : ∀ bs : List (Nat × Bool), bs.length ≤ 24 → xb_P a_bindings bs → (∀ b, b ∈ bs → a_values b.1 = nI (N b.1) ∧ N b.1 < 12) → (∀ j b, bx_ix N bs nm = some j → bs[j]? = some b → post (nI b.1)) → (bx_ix N bs nm = none → post (-1)) → wpX_bindingOf post (f_tokenCount, f_accepted, f_lastPlace, f_openCount, f_draftOpen, f_symbolCount, f_stepCount, nI bs.length, f_waitingCount, f_clashPlace, f_nodeCount, f_todoCount, a_kinds, a_values, a_declaredSize, a_declaredNodes, a_draftSize, a_draftNodes, a_symbols, a_symbolPlaces, a_steps, a_stepPlaces, a_bindings, a_boundType, a_waitingTypes, a_waitingFirm, a_shape, a_left, a_right, a_link, a_note, a_todo, a_todoOther, a_generalNode) (nI nm) := by
  intro bs hlen hP hN h1 h2
  have loop : ∀ (bs' : List (Nat × Bool)), bs'.length ≤ 24 → xb_P a_bindings bs' → (∀ b, b ∈ bs' → a_values b.1 = nI (N b.1) ∧ N b.1 < 12) → (∀ j b, bx_ix N bs' nm = some j → bs'[j]? = some b → post (nI b.1)) → (bx_ix N bs' nm = none → post (-1)) → wX_bindingOf_7 post (nI nm) f_tokenCount f_accepted f_lastPlace f_openCount f_draftOpen f_symbolCount f_stepCount (nI bs.length) f_waitingCount f_clashPlace f_nodeCount f_todoCount a_kinds a_values a_declaredSize a_declaredNodes a_draftSize a_draftNodes a_symbols a_symbolPlaces a_steps a_stepPlaces a_bindings a_boundType a_waitingTypes a_waitingFirm a_shape a_left a_right a_link a_note a_todo a_todoOther a_generalNode (bs'.length + 1) (nI bs'.length + (-1)) := by
    intro bs'
    induction bs' with
    | nil =>
      intro _ _ _ _ k2
      exact br_t (by decide) (k2 rfl)
    | cons b bs' ih =>
      intro k0 kP kN k1 k2
      rw [List.length_cons] at k0 ⊢
      rw [pk_m1]
      obtain ⟨v1, v2⟩ := kN b List.mem_cons_self
      refine br_f (nI_pos (by omega)) ⟨vp_in_nI (by omega) (by decide), ?_⟩
      rw [nI_clamp (by omega), kP.1]
      refine ⟨vp_in_nI kP.2.1 (by decide), ?_⟩
      rw [nI_clamp (by have := kP.2.1; omega), v1]
      refine pk_eq (N b.1) nm (fun e => ⟨vp_in_nI (by omega) (by decide), ?_⟩) (fun e => nm_e ?_)
      · exact k1 0 b (by unfold bx_ix; rw [if_pos e]) rfl
      · refine ih (by omega) kP.2.2 (fun b' hb' => kN b' (List.mem_cons_of_mem _ hb')) (fun j b' hj hb' => ?_) (fun q => ?_)
        · refine k1 (j + 1) b' ?_ (by rw [List.getElem?_cons_succ]; exact hb')
          unfold bx_ix
          rw [if_neg e, hj]; rfl
        · refine k2 ?_
          unfold bx_ix
          rw [if_neg e, q]; rfl
  unfold wpX_bindingOf
  refine nm_e ⟨bs.length + 1, ?_⟩
  have e : nI bs.length - 1 = nI bs.length + (-1) := by
    rw [Int32.sub_eq_add_neg]
  rw [e]
  exact loop bs hlen hP hN h1 h2
end
end
section
/-! the component's bindAndUnbind -/
section
variable {f_tokenCount f_accepted f_lastPlace f_openCount f_draftOpen f_symbolCount f_stepCount f_bindingCount f_waitingCount f_clashPlace f_nodeCount f_todoCount : Int32} {a_kinds a_values a_declaredSize a_declaredNodes a_draftSize a_draftNodes a_symbols a_symbolPlaces a_steps a_stepPlaces a_bindings a_boundType a_waitingTypes a_waitingFirm a_shape a_left a_right a_link a_note a_todo a_todoOther a_generalNode : Nat → Int32}
def xb_T (bt : Nat → Int32) : List (Nat × Bool) → List Nat → Prop
  | [], [] => True
  | b :: bs, e :: env => bt b.1 = nI e ∧ xb_T bt bs env
  | _, _ => False
theorem xb_PT {bd bt : Nat → Int32} : ∀ (bs : List (Nat × Bool)) (env : List Nat), xb_P bd bs → xb_T bt bs env → xb_B bd bt bs env := by
  intro bs
  induction bs with
  | nil => intro env _ h; cases env with
    | nil => trivial
    | cons e env => exact h.elim
  | cons b bs ih =>
    intro env hP hT
    cases env with
    | nil => exact hT.elim
    | cons e env => exact ⟨hP.1, hP.2.1, hT.1, ih env hP.2.2 hT.2⟩
theorem xb_Tu {bt : Nat → Int32} {k : Nat} {x : Int32} : ∀ (bs : List (Nat × Bool)) (env : List Nat), (∀ b, b ∈ bs → b.1 ≠ k) → xb_T bt bs env → xb_T (upd bt k x) bs env := by
  intro bs
  induction bs with
  | nil => intro env _ h; cases env with
    | nil => trivial
    | cons e env => exact h.elim
  | cons b bs ih =>
    intro env hk h
    cases env with
    | nil => exact h.elim
    | cons e env =>
      refine ⟨?_, ih env (fun b' hb' => hk b' (List.mem_cons_of_mem _ hb')) h.2⟩
      rw [pk_un (hk b List.mem_cons_self)]; exact h.1
theorem xb_Tapp {bt : Nat → Int32} : ∀ (A B : List (Nat × Bool)) (env : List Nat), xb_T bt (A ++ B) env → ∃ e1 e2, env = e1 ++ e2 ∧ e1.length = A.length ∧ xb_T bt A e1 ∧ xb_T bt B e2 := by
  intro A
  induction A with
  | nil => intro B env h; exact ⟨[], env, rfl, rfl, trivial, h⟩
  | cons a A ih =>
    intro B env h
    cases env with
    | nil => exact h.elim
    | cons e env =>
      obtain ⟨e1, e2, q1, q2, q3, q4⟩ := ih B env h.2
      exact ⟨e :: e1, e2, by rw [q1]; rfl, by rw [List.length_cons, List.length_cons, q2], ⟨h.1, q3⟩, q4⟩
theorem xw_bau87 {post : SX → Prop} {p m : Nat} {bs : List (Nat × Bool)} (hS : bs_S bs) (hx : ∀ x, x ∈ bs → x.1 ≤ p) (hm : p + m < 24)
    (h : ∀ bd, xb_P bd (pd_ns p m ++ bs) → post (f_tokenCount, f_accepted, f_lastPlace, f_openCount, f_draftOpen, f_symbolCount, f_stepCount, nI (pd_ns p m ++ bs).length, f_waitingCount, f_clashPlace, f_nodeCount, f_todoCount, a_kinds, a_values, a_declaredSize, a_declaredNodes, a_draftSize, a_draftNodes, a_symbols, a_symbolPlaces, a_steps, a_stepPlaces, bd, a_boundType, a_waitingTypes, a_waitingFirm, a_shape, a_left, a_right, a_link, a_note, a_todo, a_todoOther, a_generalNode)) :
    ∀ d i bd, i + d = m → xb_P bd (pd_ns p i ++ bs) → wX_bindAndUnbind_61 post (nI (p + m + 1)) (d + 1) (nI (p + 1 + i)) f_tokenCount f_accepted f_lastPlace f_openCount f_draftOpen f_symbolCount f_stepCount (nI (pd_ns p i ++ bs).length) f_waitingCount f_clashPlace f_nodeCount f_todoCount a_kinds a_values a_declaredSize a_declaredNodes a_draftSize a_draftNodes a_symbols a_symbolPlaces a_steps a_stepPlaces bd a_boundType a_waitingTypes a_waitingFirm a_shape a_left a_right a_link a_note a_todo a_todoOther a_generalNode := by
  intro d
  induction d with
  | zero =>
    intro i bd hi hP
    have e : i = m := by omega
    subst e
    exact br_t (nI_le (by omega) (by omega)) (h bd hP)
  | succ d ih =>
    intro i bd hi hP
    have q := bs_ns hS hx i
    have l := bs_len _ (p + i + 1) q.1 (fun x z => by have := q.2 x z; omega)
    refine br_f (nI_ge (by omega) (by omega)) ?_
    refine xw_bind (by omega) (nm_r (nI_1 _) ?_)
    exact ih (i + 1) _ (by omega) (xb_Pp (b := (p + 1 + i, false)) hP (by show p + 1 + i < 24; omega))
theorem xw_bau {post : SX → Prop} {s p c : Nat} {bs : List (Nat × Bool)} {fl : List Bool} {V : dv_W} {N mq Kt : Nat → Nat} (hT : tk_T a_kinds a_values c Kt N) (pre : dd_pre Kt mq c bs fl V s p) (hS : bs_S bs) (hP : xb_P a_bindings bs)
    (h : ∀ bd, bs_S (dd_bs mq bs fl s p) → xb_P bd (dd_bs mq bs fl s p) → post (nI c, f_accepted, f_lastPlace, f_openCount, f_draftOpen, f_symbolCount, f_stepCount, nI (dd_bs mq bs fl s p).length, f_waitingCount, f_clashPlace, f_nodeCount, f_todoCount, a_kinds, a_values, a_declaredSize, a_declaredNodes, a_draftSize, a_draftNodes, a_symbols, a_symbolPlaces, a_steps, a_stepPlaces, bd, a_boundType, a_waitingTypes, a_waitingFirm, a_shape, a_left, a_right, a_link, a_note, a_todo, a_todoOther, a_generalNode)) : wpX_bindAndUnbind post (nI c, f_accepted, f_lastPlace, f_openCount, f_draftOpen, f_symbolCount, f_stepCount, nI bs.length, f_waitingCount, f_clashPlace, f_nodeCount, f_todoCount, a_kinds, a_values, a_declaredSize, a_declaredNodes, a_draftSize, a_draftNodes, a_symbols, a_symbolPlaces, a_steps, a_stepPlaces, a_bindings, a_boundType, a_waitingTypes, a_waitingFirm, a_shape, a_left, a_right, a_link, a_note, a_todo, a_todoOther, a_generalNode) (nI s) (nI p) := by
  have c24 := hT.1
  obtain ⟨pc, _, s80, s90, _, _, _, _, q85, q86, q87, q88, q89, q90⟩ := pre
  have same : dd_bs mq bs fl s p = bs → post (nI c, f_accepted, f_lastPlace, f_openCount, f_draftOpen, f_symbolCount, f_stepCount, nI bs.length, f_waitingCount, f_clashPlace, f_nodeCount, f_todoCount, a_kinds, a_values, a_declaredSize, a_declaredNodes, a_draftSize, a_draftNodes, a_symbols, a_symbolPlaces, a_steps, a_stepPlaces, a_bindings, a_boundType, a_waitingTypes, a_waitingFirm, a_shape, a_left, a_right, a_link, a_note, a_todo, a_todoOther, a_generalNode) := fun e => by
    have z := h a_bindings
    rw [e] at z
    exact z hS hP
  have bnd : ∀ b : Bool, p + 1 < c → (∀ x, x ∈ bs → x.1 ≤ p) → dd_bs mq bs fl s p = (p + 1, b) :: bs → wX_bindAndUnbind_40 post (nI p) (nI c) f_accepted f_lastPlace f_openCount f_draftOpen f_symbolCount f_stepCount (nI bs.length) f_waitingCount f_clashPlace f_nodeCount f_todoCount a_kinds a_values a_declaredSize a_declaredNodes a_draftSize a_draftNodes a_symbols a_symbolPlaces a_steps a_stepPlaces a_bindings a_boundType a_waitingTypes a_waitingFirm a_shape a_left a_right a_link a_note a_todo a_todoOther a_generalNode := by
    intro b hc hx e
    have l := bs_len bs (p + 1) hS (fun x z => by have := hx x z; omega)
    have z := h (upd a_bindings bs.length (nI (p + 1)))
    rw [e] at z
    unfold wX_bindAndUnbind_40
    rw [nI_1]
    refine xw_bind (by omega) ?_
    exact z ⟨fun x q => by have := hx x q; show x.1 < p + 1; omega, hS⟩ (xb_Pp (b := (p + 1, b)) hP (by show p + 1 < 24; omega))
  have unb : ∀ b bs0, bs = b :: bs0 → bs0.length < 90 → dd_bs mq bs fl s p = bs0 → wX_bindAndUnbind_109 post (nI c) f_accepted f_lastPlace f_openCount f_draftOpen f_symbolCount f_stepCount (nI bs.length) f_waitingCount f_clashPlace f_nodeCount f_todoCount a_kinds a_values a_declaredSize a_declaredNodes a_draftSize a_draftNodes a_symbols a_symbolPlaces a_steps a_stepPlaces a_bindings a_boundType a_waitingTypes a_waitingFirm a_shape a_left a_right a_link a_note a_todo a_todoOther a_generalNode := by
    intro b bs0 e l0 e2
    have z := h a_bindings
    rw [e2] at z
    rw [e] at hS hP
    unfold wX_bindAndUnbind_109
    rw [e, List.length_cons]
    exact xw_unbindA (m := 1) (by omega) (z hS.2 hP.2.2)
  have lb : ∀ b bs0, bs = b :: bs0 → bs0.length < 90 := by
    intro b bs0 e
    rw [e] at hS hP
    have := bs_len bs0 b.1 hS.2 hS.1
    have := hP.2.1
    omega
  unfold wpX_bindAndUnbind
  by_cases c85 : s < 85
  · refine br_t (nI_lt (b := 85) c85 (by decide)) (same ?_)
    unfold dd_bs
    rw [if_neg (by omega), if_neg (by omega), if_neg (by omega), if_neg (by omega), if_neg (by omega), if_neg (by omega)]
  · refine br_f (nI_nlt (b := 85) (by omega) (by omega)) (br_f (nI_nlt (a := 90) (by omega) (by omega)) ?_)
    have hs : s = 85 ∨ s = 86 ∨ s = 87 ∨ s = 88 ∨ s = 89 ∨ s = 90 := by omega
    rcases hs with rfl | rfl | rfl | rfl | rfl | rfl
    · obtain ⟨a1, _, a2⟩ := q85 rfl
      exact br_t rfl (bnd false a1 a2 rfl)
    · obtain ⟨_, _, bs0, e⟩ := q86 rfl
      refine br_f (by decide) (br_t rfl (unb _ bs0 e (lb _ _ e) ?_))
      rw [e]; rfl
    · obtain ⟨hf, hp, hx⟩ := q87 rfl
      refine br_f (by decide) (br_f (by decide) (br_t rfl ?_))
      refine xw_equals hT hf hp (nm_r (nI_1 p) ⟨mq p + 1, ?_⟩)
      exact xw_bau87 hS hx (by omega) (fun bd hbd => h bd (bs_ns hS hx (mq p)).1 hbd) (mq p) 0 a_bindings (by omega) hP
    · obtain ⟨hf, hp, _, bs0, e, _, hx⟩ := q88 rfl
      refine br_f (by decide) (br_f (by decide) (br_f (by decide) (br_t rfl ?_)))
      refine xw_equals hT hf hp ?_
      have ed : dd_bs mq bs fl 88 p = (p + 1, true) :: bs0 := by
        unfold dd_bs
        rw [if_neg (by omega), if_neg (by omega), if_neg (by omega), if_pos rfl, e]
        rw [List.drop_left' (pd_ns_len p (mq p))]
      have em : nI (p + mq p + 1) - nI p - 1 = nI (mq p) := by
        rw [pk_sub (by omega)]
        have : p + mq p + 1 - p = mq p + 1 := by omega
        rw [this, nI_pred]
      have el : bs.length = bs0.length + mq p := by rw [e, List.length_append, pd_ns_len]; omega
      rw [e] at hS hP
      have hS0 := bs_app _ _ hS
      have hP0 := xb_Papp _ _ hP
      have l := bs_len bs0 (p + 1) hS0 (fun x z => by have := hx x z; omega)
      rw [em, el]
      refine xw_unbindA (by omega) ?_
      rw [nI_1]
      refine xw_bind (by omega) ?_
      have z := h (upd a_bindings bs0.length (nI (p + 1)))
      rw [ed] at z
      exact z ⟨fun x q => by have := hx x q; show x.1 < p + 1; omega, hS0⟩ (xb_Pp (b := (p + 1, true)) hP0 (by show p + 1 < 24; omega))
    · obtain ⟨a1, _, _, _, a2⟩ := q89 rfl
      exact br_f (by decide) (br_f (by decide) (br_f (by decide) (br_f (by decide) (br_t rfl (bnd _ a1 a2 rfl)))))
    · obtain ⟨_, ne⟩ := q90 rfl
      cases bs with
      | nil => exact (ne rfl).elim
      | cons b bs0 => exact br_f (by decide) (br_f (by decide) (br_f (by decide) (br_f (by decide) (br_f (by decide) (br_t rfl (unb b bs0 rfl (lb _ _ rfl) rfl))))))
end
end
section
/-! the component builds a declared type's nodes -/
section
variable {f_tokenCount f_accepted f_lastPlace f_openCount f_draftOpen f_symbolCount f_stepCount f_bindingCount f_waitingCount f_clashPlace f_nodeCount f_todoCount : Int32} {a_kinds a_values a_declaredSize a_declaredNodes a_draftSize a_draftNodes a_symbols a_symbolPlaces a_steps a_stepPlaces a_bindings a_boundType a_waitingTypes a_waitingFirm a_shape a_left a_right a_link a_note a_todo a_todoOther a_generalNode : Nat → Int32}
variable {kd pa pb : Nat → Nat} {n K : Nat}
theorem xw_take {post : Int32 → SX → Prop} {x : Nat} {L : List Nat} (hL : L.length < 4000) (h1 : st_1 a_todo (x :: L)) (h : post (nI x) (f_tokenCount, f_accepted, f_lastPlace, f_openCount, f_draftOpen, f_symbolCount, f_stepCount, f_bindingCount, f_waitingCount, f_clashPlace, f_nodeCount, nI L.length, a_kinds, a_values, a_declaredSize, a_declaredNodes, a_draftSize, a_draftNodes, a_symbols, a_symbolPlaces, a_steps, a_stepPlaces, a_bindings, a_boundType, a_waitingTypes, a_waitingFirm, a_shape, a_left, a_right, a_link, a_note, a_todo, a_todoOther, a_generalNode)) : wpX_takeTodo post (f_tokenCount, f_accepted, f_lastPlace, f_openCount, f_draftOpen, f_symbolCount, f_stepCount, f_bindingCount, f_waitingCount, f_clashPlace, f_nodeCount, nI (L.length + 1), a_kinds, a_values, a_declaredSize, a_declaredNodes, a_draftSize, a_draftNodes, a_symbols, a_symbolPlaces, a_steps, a_stepPlaces, a_bindings, a_boundType, a_waitingTypes, a_waitingFirm, a_shape, a_left, a_right, a_link, a_note, a_todo, a_todoOther, a_generalNode) := by
  refine br_f (nI_nle (by omega) (by omega)) (nm_r (nI_pred _) ⟨vp_in_nI (by omega) (by decide), ?_⟩)
  rw [nI_clamp (by omega), h1.1]
  exact h
def xb_N (gna : Nat → Int32) (gn : Nat → Option Nat) : Prop := ∀ g, g < 12 → (∀ x, gn g = some x → gna g = nI x) ∧ (gn g = none → gna g = -1)
theorem xw_bd35 {post : Int32 → SX → Prop} {v gk oc : Nat} {codes : List Nat} (hv : v < 12) (hnd : ∀ (k x : Nat), codes[k]? = some x → a_declaredNodes (v * 12 + k) = nI x) (hlen : codes.length ≤ 12) (hwf : cd_wf oc codes) (h1 : cd_n codes = 1) (hoc : oc ≤ n) (hgk : gk = 7 ∨ gk = 8) (hn : n + 12 ≤ 4000)
    (h : ∀ n' kd' pa' pb' gn t sh lf rt lk note td tdo gna tc, n' ≤ n + 12 → bd_I oc gk n n' kd pa pb kd' pa' pb' gn [t] codes → xg_G n' sh lf rt lk kd' pa' pb' → gr_L n' kd' pa' K → K + gr_nr kd' n' ≤ n' → post (nI t) (f_tokenCount, f_accepted, f_lastPlace, f_openCount, f_draftOpen, f_symbolCount, f_stepCount, f_bindingCount, f_waitingCount, f_clashPlace, nI n', tc, a_kinds, a_values, a_declaredSize, a_declaredNodes, a_draftSize, a_draftNodes, a_symbols, a_symbolPlaces, a_steps, a_stepPlaces, a_bindings, a_boundType, a_waitingTypes, a_waitingFirm, sh, lf, rt, lk, note, td, tdo, gna)) :
    ∀ pre cs n' kd' pa' pb' gn L sh lf rt lk note td tdo gna, codes = pre ++ cs → n' ≤ n + cs.length → bd_I oc gk n n' kd pa pb kd' pa' pb' gn L cs → L.length = cd_n cs → xg_G n' sh lf rt lk kd' pa' pb' → gr_L n' kd' pa' K → K + gr_nr kd' n' ≤ n' → st_1 td L → xb_N gna gn → wX_buildDeclared_35 post (nI v) (nI gk) (pre.length + 1) (nI pre.length + (-1)) f_tokenCount f_accepted f_lastPlace f_openCount f_draftOpen f_symbolCount f_stepCount f_bindingCount f_waitingCount f_clashPlace (nI n') (nI L.length) a_kinds a_values a_declaredSize a_declaredNodes a_draftSize a_draftNodes a_symbols a_symbolPlaces a_steps a_stepPlaces a_bindings a_boundType a_waitingTypes a_waitingFirm sh lf rt lk note td tdo gna := by
  intro pre
  induction hj : pre.length generalizing pre with
  | zero =>
    intro cs n' kd' pa' pb' gn L sh lf rt lk note td tdo gna e1 e2 I l hG hL hK hst hN
    have ep : pre = [] := List.eq_nil_of_length_eq_zero hj
    subst ep
    rw [List.nil_append] at e1
    subst e1
    rw [h1] at l
    obtain ⟨t, et⟩ := List.length_eq_one_iff.mp l
    subst et
    refine br_t (by decide) ?_
    rw [show td 0 = nI t from hst.1]
    exact h n' kd' pa' pb' gn t sh lf rt lk note td tdo gna _ (by omega) I hG hL hK
  | succ j ih =>
    intro cs n' kd' pa' pb' gn L sh lf rt lk note td tdo gna e1 e2 I l hG hL hK hst hN
    obtain ⟨pre', c, ep⟩ : ∃ pre' c, pre = pre' ++ [c] := ⟨pre.dropLast, pre.getLast (by intro z; rw [z] at hj; simp at hj), (List.dropLast_concat_getLast _).symm⟩
    have hj' : pre'.length = j := by rw [ep, List.length_append] at hj; simp at hj; exact hj
    have e3 : codes = pre' ++ (c :: cs) := by rw [e1, ep, List.append_assoc]; rfl
    have hc : codes[j]? = some c := by
      rw [e3, List.getElem?_append_right (by omega), hj', Nat.sub_self]; rfl
    have lc : pre'.length + (cs.length + 1) ≤ 12 := by
      rw [e3, List.length_append, List.length_cons] at hlen; exact hlen
    have wfc : cd_wf oc (c :: cs) := by
      have : ∀ (A B : List Nat), cd_wf oc (A ++ B) → cd_wf oc B := by
        intro A
        induction A with
        | nil => intro B q; exact q
        | cons x A ihA => intro B q; exact ihA B q.2.2
      rw [e3] at hwf
      exact this _ _ hwf
    obtain ⟨w1, w2, w3⟩ := wfc
    have Ll : L.length ≤ 12 := by
      have : ∀ l : List Nat, cd_n l ≤ l.length := by
        intro l
        induction l with
        | nil => exact Nat.le_refl 0
        | cons x l ihl => unfold cd_n; rw [List.length_cons]; omega
      have := this cs
      omega
    -- the node x for this code is put on top
    have next : ∀ n2 kd2 pa2 pb2 gn2 x L2 sh2 lf2 rt2 lk2 note2 td2 gna2, n2 ≤ n + (cs.length + 1) → bd_I oc gk n n2 kd pa pb kd2 pa2 pb2 gn2 (x :: L2) (c :: cs) → (x :: L2).length = cd_n (c :: cs) → xg_G n2 sh2 lf2 rt2 lk2 kd2 pa2 pb2 → gr_L n2 kd2 pa2 K → K + gr_nr kd2 n2 ≤ n2 → st_1 td2 L2 → xb_N gna2 gn2 → wX_buildDeclared_99 post (wX_buildDeclared_35 post (nI v) (nI gk) (j + 1)) (nI v) (nI gk) (nI j) (nI x) f_tokenCount f_accepted f_lastPlace f_openCount f_draftOpen f_symbolCount f_stepCount f_bindingCount f_waitingCount f_clashPlace (nI n2) (nI L2.length) a_kinds a_values a_declaredSize a_declaredNodes a_draftSize a_draftNodes a_symbols a_symbolPlaces a_steps a_stepPlaces a_bindings a_boundType a_waitingTypes a_waitingFirm sh2 lf2 rt2 lk2 note2 td2 tdo gna2 := by
      intro n2 kd2 pa2 pb2 gn2 x L2 sh2 lf2 rt2 lk2 note2 td2 gna2 q1 q2 q3 q4 q5 q6 q7 q8
      have l2 : L2.length ≤ 12 := by
        have : ∀ l : List Nat, cd_n l ≤ l.length := by
          intro l
          induction l with
          | nil => exact Nat.le_refl 0
          | cons x l ihl => unfold cd_n; rw [List.length_cons]; omega
        have := this (c :: cs)
        rw [List.length_cons] at q3 this
        omega
      refine xw_addPair (by omega) (nm_e ?_)
      exact ih pre' hj' (c :: cs) n2 kd2 pa2 pb2 gn2 (x :: L2) sh2 lf2 rt2 lk2 note2 _ _ gna2 e3 q1 q2 q3 q4 q5 q6 (st_1p q7) q8
    rw [pk_m1]
    refine br_f (nI_pos (by omega)) ?_
    have ei : nI v * 12 + nI j = nI (v * 12 + j) := by
      rw [show (12 : Int32) = nI 12 from rfl, pk_mul, nI_add]
    rw [ei]
    refine ⟨vp_in_nI (by omega) (by decide), ?_⟩
    rw [nI_clamp (by omega), hnd j c hc]
    refine nm_e ?_
    have cn := cd_n cs
    by_cases c1 : 100 ≤ c
    · have q : 100 ≤ c ∧ c < 100 + oc := by omega
      refine br_f (nI_nlt (b := 100) q.1 (by omega)) ?_
      refine nm_r (e' := nI (c - 100)) ?_ ?_
      · rw [show (100 : Int32) = nI 100 from rfl, pk_sub q.1]
      · refine next n' kd' pa' pb' gn (c - 100) L sh lf rt lk note td gna (by omega) (bd_op I q.1 q.2) ?_ hG hL hK hst hN
        unfold cd_n cd_ar
        rw [if_neg (by omega), if_neg (by omega), List.length_cons, l, Nat.sub_zero]
    · refine br_t (nI_lt (b := 100) (by omega) (by decide)) ?_
      by_cases c2 : 10 ≤ c
      · have q : 10 ≤ c ∧ c < 22 := by omega
        have ar : ((c - 10) :: L).length = cd_n (c :: cs) := by
          unfold cd_n cd_ar
          rw [if_neg (by omega), if_neg (by omega), List.length_cons, l, Nat.sub_zero]
        rw [List.length_cons] at ar
        refine br_f (nI_nlt (b := 10) q.1 (by omega)) ?_
        have es : nI c - 10 = nI (c - 10) := by rw [show (10 : Int32) = nI 10 from rfl, pk_sub q.1]
        rw [es]
        have vg : vp_in (nI (c - 10)) 12 := vp_in_nI (by omega) (by decide)
        refine ⟨vg, ?_⟩
        rw [nI_clamp (by omega)]
        cases eg : gn (c - 10) with
        | some x =>
          have xv := (hN (c - 10) (by omega)).1 x eg
          have xn := (I.2.2.2.2.2.2.1 _ _ eg).2.1
          rw [xv]
          exact br_t (nI_pos' (by omega)) ⟨vg, next n' kd' pa' pb' gn x L sh lf rt lk note td gna (by omega) (bd_g I q.1 q.2 eg) (by rw [List.length_cons]; exact ar) hG hL hK hst hN⟩
        | none =>
          have xv := (hN (c - 10) (by omega)).2 eg
          rw [xv]
          obtain ⟨L2, K2⟩ := xt_L (k := gk) (a := 0) (b := 0) I.2.2.1 hL hK (by omega)
          refine br_f (by decide) ?_
          refine xw_new (by omega) ⟨vg, ?_⟩
          refine nm_e ⟨vg, ?_⟩
          rw [pk_us]
          refine next (n' + 1) _ _ _ (bd_u gn (c - 10) n') n' L _ _ _ _ _ td _ (by omega) (bd_gn I q.1 q.2 eg hgk) (by rw [List.length_cons]; exact ar) (xg_new (k := gk) hG (by omega)) L2 K2 hst (fun g hg => ?_)
          by_cases e : g = c - 10
          · subst e
            rw [pk_us]
            refine ⟨fun x hx => ?_, fun hx => ?_⟩
            · unfold bd_u at hx; rw [if_pos rfl] at hx; cases hx; rfl
            · unfold bd_u at hx; rw [if_pos rfl] at hx; cases hx
          · rw [pk_un e]
            unfold bd_u
            rw [if_neg e]; exact hN g hg
      · refine br_t (nI_lt (b := 10) (by omega) (by decide)) ?_
        have hc7 : c < 7 := by omega
        unfold wpX_buildShape
        by_cases c3 : c < 3
        · refine br_f (nI_ge (b := 3) c3 (by decide)) ?_
          obtain ⟨L2, K2⟩ := xt_L (k := c) (a := 0) (b := 0) I.2.2.1 hL hK (by omega)
          refine xw_new (by omega) ?_
          refine next (n' + 1) _ _ _ gn n' L _ _ _ _ _ td gna (by omega) (bd_con (k := c) (a := 0) (b := 0) I hoc hc7 rfl (Or.inl ⟨c3, rfl⟩)) ?_ (xg_new (k := c) hG (by omega)) L2 K2 hst hN
          unfold cd_n cd_ar
          rw [if_neg (by omega), if_neg (by omega), List.length_cons, l, Nat.sub_zero]
        · refine br_t (nI_le (a := 3) (by omega) (by omega)) ?_
          unfold cd_ar at w2
          cases L with
          | nil =>
            exfalso
            rw [List.length_nil] at l
            by_cases q : c = 5 ∨ c = 6
            · rw [if_pos q] at w2; omega
            · rw [if_neg q, if_pos (by omega)] at w2; omega
          | cons a L1 =>
            rw [List.length_cons] at l Ll ⊢
            refine xw_take (by omega) hst ?_
            have two : c = 5 ∨ c = 6 → wX_buildShape_29 (fun r_9 u => match u with | (f_tokenCount_9, f_accepted_9, f_lastPlace_9, f_openCount_9, f_draftOpen_9, f_symbolCount_9, f_stepCount_9, f_bindingCount_9, f_waitingCount_9, f_clashPlace_9, f_nodeCount_9, f_todoCount_9, a_kinds_9, a_values_9, a_declaredSize_9, a_declaredNodes_9, a_draftSize_9, a_draftNodes_9, a_symbols_9, a_symbolPlaces_9, a_steps_9, a_stepPlaces_9, a_bindings_9, a_boundType_9, a_waitingTypes_9, a_waitingFirm_9, a_shape_9, a_left_9, a_right_9, a_link_9, a_note_9, a_todo_9, a_todoOther_9, a_generalNode_9) => wX_buildDeclared_99 post (wX_buildDeclared_35 post (nI v) (nI gk) (j + 1)) (nI v) (nI gk) (nI j) r_9 f_tokenCount_9 f_accepted_9 f_lastPlace_9 f_openCount_9 f_draftOpen_9 f_symbolCount_9 f_stepCount_9 f_bindingCount_9 f_waitingCount_9 f_clashPlace_9 f_nodeCount_9 f_todoCount_9 a_kinds_9 a_values_9 a_declaredSize_9 a_declaredNodes_9 a_draftSize_9 a_draftNodes_9 a_symbols_9 a_symbolPlaces_9 a_steps_9 a_stepPlaces_9 a_bindings_9 a_boundType_9 a_waitingTypes_9 a_waitingFirm_9 a_shape_9 a_left_9 a_right_9 a_link_9 a_note_9 a_todo_9 a_todoOther_9 a_generalNode_9) (nI c) (nI a) f_tokenCount f_accepted f_lastPlace f_openCount f_draftOpen f_symbolCount f_stepCount f_bindingCount f_waitingCount f_clashPlace (nI n') (nI L1.length) a_kinds a_values a_declaredSize a_declaredNodes a_draftSize a_draftNodes a_symbols a_symbolPlaces a_steps a_stepPlaces a_bindings a_boundType a_waitingTypes a_waitingFirm sh lf rt lk note td tdo gna := by
              intro q
              rw [if_pos q] at w2
              cases L1 with
              | nil => rw [List.length_nil] at l; omega
              | cons b L2 =>
                rw [List.length_cons] at l Ll ⊢
                unfold wX_buildShape_29
                refine xw_take (by omega) hst.2 ?_
                obtain ⟨L3, K3⟩ := xt_L (k := c) (a := a) (b := b) I.2.2.1 hL hK (by omega)
                refine xw_new (by omega) ?_
                refine next (n' + 1) _ _ _ gn n' L2 _ _ _ _ _ td gna (by omega) (bd_con (k := c) (a := a) (b := b) I hoc hc7 rfl (Or.inr (Or.inr (Or.inr ⟨q, rfl⟩)))) ?_ (xg_new (k := c) hG (by omega)) L3 K3 hst.2.2 hN
                unfold cd_n cd_ar
                rw [if_pos q, List.length_cons]; omega
            refine pk_eq c 5 (fun q => two (Or.inl q)) (fun q5 => ?_)
            refine pk_eq c 6 (fun q => two (Or.inr q)) (fun q6 => ?_)
            obtain ⟨L3, K3⟩ := xt_L (k := c) (a := a) (b := a) I.2.2.1 hL hK (by omega)
            unfold wX_buildShape_37
            refine xw_new (by omega) ?_
            refine next (n' + 1) _ _ _ gn n' L1 _ _ _ _ _ td gna (by omega) (bd_con (k := c) (a := a) (b := a) I hoc hc7 rfl ?_) ?_ (xg_new (k := c) hG (by omega)) L3 K3 hst.2 hN
            · by_cases q3 : c = 3
              · exact Or.inr (Or.inl ⟨q3, rfl, rfl⟩)
              · exact Or.inr (Or.inr (Or.inl ⟨by omega, rfl, rfl⟩))
            · unfold cd_n cd_ar
              rw [if_neg (by omega), if_pos (by omega), List.length_cons]; omega
theorem xw_declared {post : Int32 → SX → Prop} {v gk oc : Nat} {codes : List Nat} (hv : v < 12) (hsz : a_declaredSize v = nI codes.length) (hnd : ∀ (k x : Nat), codes[k]? = some x → a_declaredNodes (v * 12 + k) = nI x) (hlen : codes.length ≤ 12) (hwf : cd_wf oc codes) (h1 : cd_n codes = 1) (hoc : oc ≤ n) (hgk : gk = 7 ∨ gk = 8) (hn : n + 12 ≤ 4000) (W : gr_W n kd pa pb) (A : gr_A n kd pa pb) (hG : xg_G n a_shape a_left a_right a_link kd pa pb) (hL : gr_L n kd pa K) (hK : K + gr_nr kd n ≤ n)
    (h : ∀ n' kd' pa' pb' gn t sh lf rt lk note td tdo gna tc, n' ≤ n + 12 → bd_I oc gk n n' kd pa pb kd' pa' pb' gn [t] codes → xg_G n' sh lf rt lk kd' pa' pb' → gr_L n' kd' pa' K → K + gr_nr kd' n' ≤ n' → post (nI t) (f_tokenCount, f_accepted, f_lastPlace, f_openCount, f_draftOpen, f_symbolCount, f_stepCount, f_bindingCount, f_waitingCount, f_clashPlace, nI n', tc, a_kinds, a_values, a_declaredSize, a_declaredNodes, a_draftSize, a_draftNodes, a_symbols, a_symbolPlaces, a_steps, a_stepPlaces, a_bindings, a_boundType, a_waitingTypes, a_waitingFirm, sh, lf, rt, lk, note, td, tdo, gna)) : wpX_buildDeclared post (f_tokenCount, f_accepted, f_lastPlace, f_openCount, f_draftOpen, f_symbolCount, f_stepCount, f_bindingCount, f_waitingCount, f_clashPlace, nI n, f_todoCount, a_kinds, a_values, a_declaredSize, a_declaredNodes, a_draftSize, a_draftNodes, a_symbols, a_symbolPlaces, a_steps, a_stepPlaces, a_bindings, a_boundType, a_waitingTypes, a_waitingFirm, a_shape, a_left, a_right, a_link, a_note, a_todo, a_todoOther, a_generalNode) (nI v) (nI gk) := by
  unfold wpX_buildDeclared
  refine ⟨13, ?_⟩
  have loop : ∀ d i gna, i + d = 12 → (∀ g, g < i → gna g = -1) → wX_buildDeclared_2 post (nI v) (nI gk) f_tokenCount f_accepted f_lastPlace f_openCount f_draftOpen f_symbolCount f_stepCount f_bindingCount f_waitingCount f_clashPlace (nI n) f_todoCount (d + 1) (nI i) a_kinds a_values a_declaredSize a_declaredNodes a_draftSize a_draftNodes a_symbols a_symbolPlaces a_steps a_stepPlaces a_bindings a_boundType a_waitingTypes a_waitingFirm a_shape a_left a_right a_link a_note a_todo a_todoOther gna := by
    intro d
    induction d with
    | zero =>
      intro i gna hi hz
      refine br_t (nI_le (a := 12) (by omega) (by omega)) ⟨vp_in_nI hv (by decide), ?_⟩
      rw [nI_clamp (by omega), hsz]
      have e : nI codes.length - 1 = nI codes.length + (-1) := by rw [Int32.sub_eq_add_neg]
      rw [e]
      refine nm_e ⟨codes.length + 1, ?_⟩
      exact xw_bd35 hv hnd hlen hwf h1 hoc hgk hn h codes [] n kd pa pb (fun _ => none) [] _ _ _ _ _ _ _ gna (by rw [List.append_nil]) (Nat.le_refl _) (bd_0 W A) rfl hG hL hK trivial (fun g hg => ⟨fun x hx => (by cases hx), fun _ => hz g (by omega)⟩)
    | succ d ih =>
      intro i gna hi hz
      refine br_f (nI_ge (b := 12) (by omega) (by decide)) ⟨vp_in_nI (by omega) (by decide), ?_⟩
      rw [nI_clamp (by omega)]
      refine nm_e (nm_r (nI_1 i) (ih (i + 1) _ (by omega) (fun g hg => ?_)))
      by_cases e : g = i
      · rw [e, pk_us]
      · rw [pk_un e]; exact hz g (by omega)
  exact loop 12 0 a_generalNode (by omega) (fun g hg => by omega)
end
end
section
/-! the component's inference of atoms -/
/-- the declared types: dc the codes of each name, none for a name that isn't declared -/
def Dc_U (dc : Nat → List Nat) (nm : Nat) (ν : List tr_T) (τ : tr_T) : Prop := ∃ γ : Nat → tr_T, cd_ev (fun o => ls_g o ν) γ (dc nm) = [τ]
def xd_D (oc : Nat) (dc : Nat → List Nat) (sz nd : Nat → Int32) : Prop :=
  ∀ v, v < 12 → sz v = nI (dc v).length ∧ (dc v).length ≤ 12 ∧ (dc v ≠ [] → cd_wf oc (dc v) ∧ cd_n (dc v) = 1) ∧ ∀ (k x : Nat), (dc v)[k]? = some x → nd (v * 12 + k) = nI x
theorem bx_ix_lt {N : Nat → Nat} {nm : Nat} : ∀ (bs : List (Nat × Bool)) (j : Nat), bx_ix N bs nm = some j → ∃ b, bs[j]? = some b := by
  intro bs
  induction bs with
  | nil => intro j h; cases h
  | cons b bs ih =>
    intro j h
    unfold bx_ix at h
    by_cases c : N b.1 = nm
    · rw [if_pos c] at h
      cases h
      exact ⟨b, rfl⟩
    · rw [if_neg c] at h
      cases e : bx_ix N bs nm with
      | none => rw [e] at h; cases h
      | some i =>
        rw [e] at h
        cases h
        obtain ⟨b', hb'⟩ := ih i e
        exact ⟨b', by rw [List.getElem?_cons_succ]; exact hb'⟩
theorem mo_at {α : Type} : ∀ (bs : List (Nat × Bool)) (env : List α) (j q : Nat) (t : α), bs[j]? = some (q, false) → env[j]? = some t → t ∈ mo_l bs env := by
  intro bs
  induction bs with
  | nil => intro env j q t h; cases h
  | cons b bs ih =>
    intro env j q t h h'
    cases env with
    | nil => cases h'
    | cons e env =>
      cases j with
      | zero =>
        simp at h h'
        subst h h'
        rw [mo_f]; exact List.mem_cons_self
      | succ j =>
        rw [List.getElem?_cons_succ] at h h'
        have z := ih env j q t h h'
        obtain ⟨m, p⟩ := b
        cases p with
        | true => rw [mo_t]; exact z
        | false => rw [mo_f]; exact List.mem_cons_of_mem _ z
theorem ls_map_range {ρ : Nat → tr_T} {oc o : Nat} (h : o < oc) : ls_g o ((List.range oc).map ρ) = ρ o := by
  unfold ls_g
  rw [List.getD_eq_getElem?_getD, List.getElem?_map, List.getElem?_range h]
  rfl
theorem cd_wf_op {oc : Nat} : ∀ cs, cd_wf oc cs → ∀ c, c ∈ cs → 100 ≤ c → c - 100 < oc := by
  intro cs
  induction cs with
  | nil => intro _ c h; cases h
  | cons d cs ih =>
    intro h c hc h1
    rcases List.mem_cons.mp hc with z | z
    · subst z; have := h.1; omega
    · exact ih h.2.2 c z h1
theorem rp_decl {b0 nl n n' oc t nm : Nat} {kd pa pb kd' pa' pb' : Nat → Nat} {stk env : List Nat} {bs : List (Nat × Bool)} {V : dv_W} {gn : Nat → Option Nat} {dc : Nat → List Nat} (I : rp_I b0 nl n kd pa pb (List.range oc) stk env bs V) (D : bd_I oc 7 n n' kd pa pb kd' pa' pb' gn [t] (dc nm)) (wf : cd_wf oc (dc nm)) : rp_I b0 nl n' kd' pa' pb' (List.range oc) (t :: stk) env bs (dv_psh (fun ν _ τ => Dc_U dc nm ν τ) V) := by
  obtain ⟨i1, i2, i3, i4, i5, i6, i7, i8, i9, i10, i11⟩ := D
  have I' := I
  obtain ⟨W, A, ⟨M, E, ⟨hM, gM, oM, sM, eM⟩, cE, mE, eE, bE⟩, en, hl, hP, hV⟩ := I
  have rs : ∀ ρ, gr_V n' kd' pa' pb' ρ → gr_V n kd pa pb ρ := fun ρ h i hi => by
    have e := h i (by omega)
    rw [(i2 i hi).1, (i2 i hi).2.1, (i2 i hi).2.2] at e
    exact e
  have vl : ∀ ρ, gr_V n' kd' pa' pb' ρ → [ρ t] = cd_ev (fun o => ls_g o ((List.range oc).map ρ)) (fun g => ((gn g).map ρ).getD (tr_at 0)) (dc nm) := fun ρ h => by
    have e := i10 ρ h
    rw [List.map_cons, List.map_nil] at e
    rw [e]
    exact cd_ev_c _ (fun c hc h1 => (ls_map_range (cd_wf_op _ wf c hc h1)).symm) (fun _ _ _ _ => rfl)
  refine rp_ext I' i1 i2 i3 i4 (fun m m1 m2 => ?_) ?_ (fun ν st E => ?_)
  · obtain ⟨q1, q2, q3⟩ := i5 m m1 m2
    refine ⟨fun z => by have := q2 z; omega, q1, fun z => ?_⟩
    have := q3 z
    exact ⟨this.1.elim (fun q => Or.inl (List.mem_range.mpr q)) Or.inr, this.2.elim (fun q => Or.inl (List.mem_range.mpr q)) Or.inr⟩
  · exact (i6 t List.mem_cons_self).elim (fun q => Or.inl (List.mem_range.mpr q)) Or.inr
  · constructor
    · intro ⟨τ, st0, e, v, γ, hγ⟩
      obtain ⟨ρ, h, e1, e2, e3⟩ := (hV _ _ _).mp v
      obtain ⟨ρ', h', a', b'⟩ := i11 ρ h γ
      have eo : (List.range oc).map ρ' = ν := by
        rw [← e1]; exact mp_i fun x hx => a' x (hM x (oM x hx)).1
      refine ⟨ρ', h', eo, ?_, ?_⟩
      · rw [List.map_cons, e, ← e2]
        congr 1
        · have z := vl ρ' h'
          rw [eo] at z
          have z2 : cd_ev (fun o => ls_g o ν) (fun g => ((gn g).map ρ').getD (tr_at 0)) (dc nm) = cd_ev (fun o => ls_g o ν) γ (dc nm) := by
            refine cd_ev_c _ (fun _ _ _ => rfl) (fun c hc h1 h2 => ?_)
            cases eg : gn (c - 10) with
            | none => exact (i9 c hc h1 h2 eg).elim
            | some x => show ρ' x = _; exact b' _ x eg
          rw [z2, hγ] at z
          exact List.head_eq_of_cons_eq z
        · exact mp_i fun x hx => a' x (hM x (sM x hx)).1
      · rw [← e3]; exact mp_i fun x hx => a' x (en x hx)
    · intro ⟨ρ, h, e1, e2, e3⟩
      refine ⟨ρ t, stk.map ρ, by rw [← e2, List.map_cons], (hV _ _ _).mpr ⟨ρ, rs ρ h, e1, rfl, e3⟩, (fun g => ((gn g).map ρ).getD (tr_at 0)), ?_⟩
      rw [← e1]; exact (vl ρ h).symm
section
variable {f_tokenCount f_accepted f_lastPlace f_openCount f_draftOpen f_symbolCount f_stepCount f_bindingCount f_waitingCount f_clashPlace f_nodeCount f_todoCount : Int32} {a_kinds a_values a_declaredSize a_declaredNodes a_draftSize a_draftNodes a_symbols a_symbolPlaces a_steps a_stepPlaces a_bindings a_boundType a_waitingTypes a_waitingFirm a_shape a_left a_right a_link a_note a_todo a_todoOther a_generalNode : Nat → Int32}
variable {kd pa pb : Nat → Nat} {n K : Nat}
theorem xb_T_at {bt : Nat → Int32} : ∀ (bs : List (Nat × Bool)) (env : List Nat) (j : Nat) (b : Nat × Bool), xb_T bt bs env → bs[j]? = some b → ∃ t, env[j]? = some t ∧ bt b.1 = nI t := by
  intro bs
  induction bs with
  | nil => intro env j b _ h; cases h
  | cons b' bs ih =>
    intro env j b hT h
    cases env with
    | nil => exact hT.elim
    | cons e env =>
      cases j with
      | zero =>
        simp at h
        subst h
        exact ⟨e, rfl, hT.1⟩
      | succ j =>
        rw [List.getElem?_cons_succ] at h
        obtain ⟨t, h1, h2⟩ := ih env j b hT.2 h
        exact ⟨t, by rw [List.getElem?_cons_succ]; exact h1, h2⟩
theorem xw_atom {post : SX → Prop} {oc nl p c : Nat} {stk env : List Nat} {bs : List (Nat × Bool)} {fl : List Bool} {V : dv_W} {N Kt : Nat → Nat} {dc : Nat → List Nat} (I : xt_I oc nl n K kd pa pb stk env bs V a_shape a_left a_right a_link) (hn : n + 12 ≤ 4000) (hn2 : Kt p = 3 → n + (nl - oc) ≤ 4000) (hT : tk_T a_kinds a_values c Kt N) (hD : xd_D oc dc a_declaredSize a_declaredNodes) (hp : p < c) (hk : pm_alone (Kt p) = true) (hS : bs_S bs) (hP : xb_P a_bindings bs) (hB : xb_T a_boundType bs env) (hN : ∀ b, b ∈ bs → b.1 < c ∧ Kt b.1 = 3) (hb : bs.length ≤ 24) (h1 : st_1 a_waitingTypes stk) (h2 : st_b a_waitingFirm fl) (hfl : fl.length = stk.length) (hs : stk.length < 64) (hoc : oc ≤ n)
    (hun : Kt p = 3 → bx_ix N bs (N p) = none → dc (N p) ≠ [])
    (hok : xh_O oc nl (if Kt p = 3 then n + 12 + (nl - oc) else n + 5) stk env bs (true :: fl) (if Kt p = 3 then dv_psh (dd_name N (Dc_U dc) bs V (N p)) V else dv_psh (fun _ _ τ => cs_T (Kt p) τ) V) (f_tokenCount, f_accepted, f_lastPlace, f_openCount, f_draftOpen, f_symbolCount, f_stepCount, nI bs.length, f_waitingCount, f_clashPlace, f_nodeCount, f_todoCount, a_kinds, a_values, a_declaredSize, a_declaredNodes, a_draftSize, a_draftNodes, a_symbols, a_symbolPlaces, a_steps, a_stepPlaces, a_bindings, a_boundType, a_waitingTypes, a_waitingFirm, a_shape, a_left, a_right, a_link, a_note, a_todo, a_todoOther, a_generalNode) post) : wpX_inferAtom post (f_tokenCount, f_accepted, f_lastPlace, f_openCount, f_draftOpen, f_symbolCount, f_stepCount, nI bs.length, nI stk.length, -1, nI n, f_todoCount, a_kinds, a_values, a_declaredSize, a_declaredNodes, a_draftSize, a_draftNodes, a_symbols, a_symbolPlaces, a_steps, a_stepPlaces, a_bindings, a_boundType, a_waitingTypes, a_waitingFirm, a_shape, a_left, a_right, a_link, a_note, a_todo, a_todoOther, a_generalNode) (nI p) := by
  have I0 := I
  obtain ⟨J, hG, hL, hK⟩ := I
  have c24 := hT.1
  obtain ⟨t1, t2, t3, _⟩ := hT.2.2 p hp
  have vp : vp_in (nI p) 24 := vp_in_nI (by omega) (by decide)
  have cp : (nI p).toNatClampNeg = p := nI_clamp (by omega)
  have J' := J
  obtain ⟨W, A, ⟨M, E, ⟨hM, gM, oM, sM, eM⟩, cE, mE, eE, bE⟩, en, hl, hPr, hV⟩ := J
  unfold wpX_inferAtom
  refine ⟨vp, ?_⟩
  rw [cp, t1]
  refine pk_eq (Kt p) 3 (fun k3 => ⟨vp, ?_⟩) (fun k3 => ?_)
  · obtain ⟨v1, v2⟩ := t3 k3
    rw [v1]
    simp only [if_pos k3] at hok
    refine xw_bindingOf (N := N) v2 bs hb hP (fun b hb' => ?_) (fun j b hj hb' => ?_) (fun no => ?_)
    · obtain ⟨q1, q2⟩ := hN b hb'
      exact (hT.2.2 b.1 q1).2.2.1 q2
    · have b24 : b.1 < 24 := by
        have := (hN b (List.mem_of_getElem? hb')).1
        omega
      obtain ⟨t, ht, bt⟩ := xb_T_at bs env j b hB hb'
      have tE : E t := eE t (List.mem_of_getElem? ht)
      refine br_f (nI_pos (by omega)) ⟨vp_in_nI b24 (by decide), ?_⟩
      rw [nI_clamp (by omega), bt]
      refine xw_instance W A hG hL hK hM gM cE bE (hn2 k3) tE (fun n' kd' pa' pb' nt r0 sh lf rt lk note td tr nr ic hn' hG' hL' hK' => ?_)
      refine xw_push (b := true) (by omega) ?_
      refine hok n' K kd' pa' pb' (nt r0 - 1) sh lf rt lk note td _ _ _ _ _ (by omega) ⟨?_, hG', hL', hK'⟩ (st_1p h1) ?_
      · have r0n := gr_to_n W tr (cE t tE).1
        have eU : dd_name N (Dc_U dc) bs V (N p) = if (bs[j]?).map Prod.snd = some true then dd_poly bs V j else dd_mono j := by
          unfold dd_name
          rw [hj]
        rw [eU, hb']
        obtain ⟨q, fb⟩ := b
        cases fb with
        | true =>
          have e1 : Option.map Prod.snd (some (q, true)) = some true := rfl
          rw [if_pos e1]
          obtain ⟨u1, u2⟩ := rp_ug J' ht hb'
          have z := rp_use (r0 := r0) (U := dd_poly bs V j) J' ic (cE t tE).1 tr ⟨r0n, nr⟩ u1 u2
          exact z
        | false =>
          have e1 : ¬ Option.map Prod.snd (some (q, false)) = some true := by simp
          rw [if_neg e1]
          obtain ⟨u1, u2⟩ := rp_um J' ht (mo_at bs env j q t hb' ht)
          have z := rp_use (r0 := r0) (U := dd_mono j) J' ic (cE t tE).1 tr ⟨r0n, nr⟩ u1 u2
          exact z
      · rw [← hfl]; exact st_bp h2
    · have ne := hun k3 no
      obtain ⟨d1, d2, d3, d4⟩ := hD (N p) v2
      obtain ⟨wf, one⟩ := d3 ne
      refine br_t (by decide) ⟨vp, ?_⟩
      rw [cp, t1, k3]
      refine br_t rfl ⟨vp, ?_⟩
      rw [v1]
      refine xw_declared (gk := 7) v2 d1 d4 d2 wf one hoc (Or.inl rfl) hn W A hG hL hK (fun n' kd' pa' pb' gn t sh lf rt lk note td tdo gna tc hn' bd hG' hL' hK' => ?_)
      refine xw_push (b := true) (by omega) ?_
      refine hok n' K kd' pa' pb' t sh lf rt lk note td tdo _ _ tc _ (by omega) ⟨?_, hG', hL', hK'⟩ (st_1p h1) ?_
      · have eU : dd_name N (Dc_U dc) bs V (N p) = fun ν _ τ => Dc_U dc (N p) ν τ := by
          unfold dd_name
          rw [no]
        rw [eU]
        exact rp_decl J' bd wf
      · rw [← hfl]; exact st_bp h2
  · simp only [if_neg k3] at hok
    refine br_t (by decide) ⟨vp, ?_⟩
    rw [cp, t1]
    refine br_f (fun z => k3 ((nI_eq (b := 3) (by omega) (by omega)).mp z)) ⟨vp, ?_⟩
    refine xw_const I0 (by omega) hk k3 (fun n' kd' pa' pb' t sh lf rt lk note hn' It => ?_)
    refine xw_push (b := true) (by omega) ?_
    refine hok n' K kd' pa' pb' t sh lf rt lk note _ _ _ _ _ _ (by omega) It (st_1p h1) ?_
    rw [← hfl]; exact st_bp h2
end
end
section
/-! the component: unit, fn, val, and the names of a fun -/
theorem xe_unit {V : dv_W} (ν st E : List tr_T) : (∃ st0, st = tr_at 2 :: st0 ∧ V ν st0 E) ↔ dv_psh (fun _ _ τ => τ = tr_at 2) V ν st E := by
  constructor
  · intro ⟨s, e, v⟩; exact ⟨_, s, e, v, rfl⟩
  · intro ⟨τ, s, e, v, c⟩; exact ⟨s, by rw [e, c], v⟩
theorem xe_fn {V : dv_W} {h e : Nat} (hl : dv_len (h + 1) e V) (ν st E : List tr_T) : (∃ τ, ∃ st1, (∃ s0, st1 = tr_con 6 (ls_g 0 (τ :: E)) (ls_g 0 s0) :: s0 ∧ V ν s0 (τ :: E)) ∧ ls_g 0 st1 :: st1.drop 2 = st) ↔ dv_fn V ν st E := by
  constructor
  · intro ⟨τ, st1, ⟨s0, e1, v⟩, e2⟩
    obtain ⟨x, r, e3⟩ := xe_l1 hl v
    subst e3 e1 e2
    exact ⟨τ, x, r, rfl, v⟩
  · intro ⟨x, c, s0, e1, v⟩
    exact ⟨x, _, ⟨_, rfl, v⟩, e1.symm⟩
theorem dv_lams_s {V : dv_W} {i : Nat} (ν st E : List tr_T) : (∃ τ E0, E = τ :: E0 ∧ ∃ τ' st0, τ :: st = τ' :: st0 ∧ dv_lams i V ν st0 E0) ↔ dv_lams (i + 1) V ν st E := by
  constructor
  · intro ⟨τ, E0, e, τ', st0, e1, xs, E1, e2, l, v⟩
    injection e1 with e3 e4
    subst e4 e2 e
    exact ⟨τ :: xs, E1, rfl, by rw [List.length_cons, l], v⟩
  · intro ⟨xs, E1, e, l, v⟩
    cases xs with
    | nil => simp at l
    | cons x xs =>
      subst e
      exact ⟨x, xs ++ E1, rfl, x, st, rfl, xs, E1, rfl, by simpa using l, v⟩
theorem dv_lams_0 {V : dv_W} (ν st E : List tr_T) : V ν st E ↔ dv_lams 0 V ν st E := by
  constructor
  · intro v; exact ⟨[], E, rfl, rfl, v⟩
  · intro ⟨xs, E1, e, l, v⟩
    have : xs = [] := List.eq_nil_of_length_eq_zero l
    subst this
    rw [e]; exact v
theorem rp_lam {b0 nl n : Nat} {kd pa pb : Nat → Nat} {op stk env : List Nat} {bs : List (Nat × Bool)} {V : dv_W} {i a b : Nat} (q : Nat) (I : rp_I b0 nl n kd pa pb op stk env bs (dv_lams i V)) : rp_I b0 nl (n + 1) (gr_u kd n 7) (gr_u pa n a) (gr_u pb n b) op stk (n :: env) ((q, false) :: bs) (dv_lams (i + 1) V) :=
  rp_cg dv_lams_s (rp_bind q (rp_var I))
section
variable {f_tokenCount f_accepted f_lastPlace f_openCount f_draftOpen f_symbolCount f_stepCount f_bindingCount f_waitingCount f_clashPlace f_nodeCount f_todoCount : Int32} {a_kinds a_values a_declaredSize a_declaredNodes a_draftSize a_draftNodes a_symbols a_symbolPlaces a_steps a_stepPlaces a_bindings a_boundType a_waitingTypes a_waitingFirm a_shape a_left a_right a_link a_note a_todo a_todoOther a_generalNode : Nat → Int32}
variable {kd pa pb : Nat → Nat} {n K : Nat}
theorem xw_unit {post : SX → Prop} {oc nl : Nat} {stk env : List Nat} {bs : List (Nat × Bool)} {fl : List Bool} {V : dv_W} (I : xt_I oc nl n K kd pa pb stk env bs V a_shape a_left a_right a_link) (hn : n + 1 ≤ 4000) (h1 : st_1 a_waitingTypes stk) (h2 : st_b a_waitingFirm fl) (hfl : fl.length = stk.length) (hs : stk.length < 64)
    (hok : xh_O oc nl (n + 1) stk env bs (true :: fl) (dv_psh (fun _ _ τ => τ = tr_at 2) V) (f_tokenCount, f_accepted, f_lastPlace, f_openCount, f_draftOpen, f_symbolCount, f_stepCount, f_bindingCount, f_waitingCount, f_clashPlace, f_nodeCount, f_todoCount, a_kinds, a_values, a_declaredSize, a_declaredNodes, a_draftSize, a_draftNodes, a_symbols, a_symbolPlaces, a_steps, a_stepPlaces, a_bindings, a_boundType, a_waitingTypes, a_waitingFirm, a_shape, a_left, a_right, a_link, a_note, a_todo, a_todoOther, a_generalNode) post) : wpX_inferUnit post (f_tokenCount, f_accepted, f_lastPlace, f_openCount, f_draftOpen, f_symbolCount, f_stepCount, f_bindingCount, nI stk.length, -1, nI n, f_todoCount, a_kinds, a_values, a_declaredSize, a_declaredNodes, a_draftSize, a_draftNodes, a_symbols, a_symbolPlaces, a_steps, a_stepPlaces, a_bindings, a_boundType, a_waitingTypes, a_waitingFirm, a_shape, a_left, a_right, a_link, a_note, a_todo, a_todoOther, a_generalNode) := by
  obtain ⟨J, hG, hL, hK⟩ := I
  obtain ⟨L1, K1⟩ := xt_L (k := 2) (a := 0) (b := 0) J.1 hL hK (by omega)
  unfold wpX_inferUnit
  refine xw_new (by omega) ?_
  refine xw_push (b := true) (by omega) ?_
  refine hok (n + 1) K _ _ _ n _ _ _ _ _ _ _ _ _ _ _ (Nat.le_refl _) ⟨rp_cg xe_unit (rp_leaf (k := 2) J (a := 0) (b := 0) (by omega) (by omega) (by omega)), xg_new (k := 2) hG (by omega), L1, K1⟩ (st_1p h1) ?_
  rw [← hfl]; exact st_bp h2
theorem xw_fn {post : SX → Prop} {oc nl p x b : Nat} {stk env : List Nat} {bs : List (Nat × Bool)} {fl : List Bool} {V : dv_W} {e : Nat} (I : xt_I oc nl n K kd pa pb (b :: stk) (x :: env) ((p + 1, false) :: bs) V a_shape a_left a_right a_link) (hl : dv_len (stk.length + 1) e V) (hn : n + 1 ≤ 4000) (hp : p + 1 < 24) (hb : a_boundType (p + 1) = nI x) (h1 : st_1 a_waitingTypes (b :: stk)) (h2 : st_b a_waitingFirm fl) (hfl : fl.length = stk.length) (hs : stk.length + 1 < 64)
    (hok : xh_O oc nl (n + 1) stk env bs (true :: fl) (dv_fn V) (f_tokenCount, f_accepted, f_lastPlace, f_openCount, f_draftOpen, f_symbolCount, f_stepCount, f_bindingCount, f_waitingCount, f_clashPlace, f_nodeCount, f_todoCount, a_kinds, a_values, a_declaredSize, a_declaredNodes, a_draftSize, a_draftNodes, a_symbols, a_symbolPlaces, a_steps, a_stepPlaces, a_bindings, a_boundType, a_waitingTypes, a_waitingFirm, a_shape, a_left, a_right, a_link, a_note, a_todo, a_todoOther, a_generalNode) post) : wpX_inferFn post (f_tokenCount, f_accepted, f_lastPlace, f_openCount, f_draftOpen, f_symbolCount, f_stepCount, f_bindingCount, nI (stk.length + 1), -1, nI n, f_todoCount, a_kinds, a_values, a_declaredSize, a_declaredNodes, a_draftSize, a_draftNodes, a_symbols, a_symbolPlaces, a_steps, a_stepPlaces, a_bindings, a_boundType, a_waitingTypes, a_waitingFirm, a_shape, a_left, a_right, a_link, a_note, a_todo, a_todoOther, a_generalNode) (nI p) := by
  obtain ⟨J, hG, hL, hK⟩ := I
  obtain ⟨L1, K1⟩ := xt_L (k := 6) (a := x) (b := b) J.1 hL hK (by omega)
  have J1 := rp_con (k := 6) (a := x) (b := b) J (by omega) (Or.inr (by rw [mo_f]; exact List.mem_cons_self)) (Or.inl List.mem_cons_self) (fun _ _ E => ls_g 0 E) (fun _ st _ => ls_g 0 st) (fun ρ => rfl) (fun ρ => rfl)
  unfold wpX_inferFn
  refine xw_pop (by omega) ?_
  rw [h1.1, nI_1]
  refine ⟨vp_in_nI hp (by decide), ?_⟩
  rw [nI_clamp (by omega), hb]
  refine xw_new (by omega) ?_
  refine xw_push (b := true) (by omega) ?_
  refine hok (n + 1) K _ _ _ n _ _ _ _ _ _ _ _ _ _ _ (Nat.le_refl _) ⟨rp_cg (xe_fn hl) (rp_unbind (rp_sel J1 (stk' := n :: stk) (fun _ st _ => ls_g 0 st :: st.drop 2) (fun y hy => ?_) (fun ρ => rfl))), xg_new (k := 6) hG (by omega), L1, K1⟩ (st_1p h1.2) ?_
  · rcases List.mem_cons.mp hy with z | z
    · rw [z]; exact Or.inl List.mem_cons_self
    · exact Or.inl (List.mem_cons_of_mem _ (List.mem_cons_of_mem _ z))
  · rw [← hfl]; exact st_bp h2
/-- the names of a fun get their variables -/
theorem xw_bfun {post : SX → Prop} {oc nl p m c : Nat} {stk env : List Nat} {bs : List (Nat × Bool)} {V : dv_W} {N mq Kt : Nat → Nat} (hT : tk_T a_kinds a_values c Kt N) (hf : pd_fn Kt mq p) (hp : p + mq p + 1 < c) (hm : m = mq p) (hx : ∀ x, x ∈ bs → x.1 ≤ p) (I : xt_I oc nl n K kd pa pb stk env bs V a_shape a_left a_right a_link) (hn : n + m ≤ 4000) (hB : xb_T a_boundType bs env)
    (h : ∀ kd' pa' pb' env' sh lf rt lk note bt, xt_I oc nl (n + m) K kd' pa' pb' stk env' (pd_ns p m ++ bs) (dv_lams m V) sh lf rt lk → xb_T bt (pd_ns p m ++ bs) env' → post (nI c, f_accepted, f_lastPlace, f_openCount, f_draftOpen, f_symbolCount, f_stepCount, f_bindingCount, f_waitingCount, f_clashPlace, nI (n + m), f_todoCount, a_kinds, a_values, a_declaredSize, a_declaredNodes, a_draftSize, a_draftNodes, a_symbols, a_symbolPlaces, a_steps, a_stepPlaces, a_bindings, bt, a_waitingTypes, a_waitingFirm, sh, lf, rt, lk, note, a_todo, a_todoOther, a_generalNode)) : wpX_beginFun post (nI c, f_accepted, f_lastPlace, f_openCount, f_draftOpen, f_symbolCount, f_stepCount, f_bindingCount, f_waitingCount, f_clashPlace, nI n, f_todoCount, a_kinds, a_values, a_declaredSize, a_declaredNodes, a_draftSize, a_draftNodes, a_symbols, a_symbolPlaces, a_steps, a_stepPlaces, a_bindings, a_boundType, a_waitingTypes, a_waitingFirm, a_shape, a_left, a_right, a_link, a_note, a_todo, a_todoOther, a_generalNode) (nI p) := by
  have c24 := hT.1
  unfold wpX_beginFun
  refine xw_equals hT hf hp (nm_r (nI_1 p) ⟨m + 1, ?_⟩)
  have loop : ∀ d i kd' pa' pb' env' sh lf rt lk note bt, i + d = m → xt_I oc nl (n + i) K kd' pa' pb' stk env' (pd_ns p i ++ bs) (dv_lams i V) sh lf rt lk → xb_T bt (pd_ns p i ++ bs) env' → wX_beginFun_10 post (nI (p + mq p + 1)) (d + 1) (nI (p + 1 + i)) (nI c) f_accepted f_lastPlace f_openCount f_draftOpen f_symbolCount f_stepCount f_bindingCount f_waitingCount f_clashPlace (nI (n + i)) f_todoCount a_kinds a_values a_declaredSize a_declaredNodes a_draftSize a_draftNodes a_symbols a_symbolPlaces a_steps a_stepPlaces a_bindings bt a_waitingTypes a_waitingFirm sh lf rt lk note a_todo a_todoOther a_generalNode := by
    intro d
    induction d with
    | zero =>
      intro i kd' pa' pb' env' sh lf rt lk note bt hi It hb
      have e : i = m := by omega
      subst e
      exact br_t (nI_le (by omega) (by omega)) (h kd' pa' pb' env' sh lf rt lk note bt It hb)
    | succ d ih =>
      intro i kd' pa' pb' env' sh lf rt lk note bt hi It hb
      obtain ⟨J, hG, hL, hK⟩ := It
      obtain ⟨L1, K1⟩ := xt_L (k := 7) (a := 0) (b := 0) J.1 hL hK (by omega)
      refine br_f (nI_ge (by omega) (by omega)) ?_
      refine xw_new (by omega) ⟨vp_in_nI (by omega) (by decide), ?_⟩
      rw [nI_clamp (by omega)]
      refine nm_e (nm_r (nI_1 _) ?_)
      refine ih (i + 1) _ _ _ ((n + i) :: env') _ _ _ _ _ _ (by omega) ⟨rp_lam (a := 0) (b := 0) (p + 1 + i) J, xg_new (k := 7) hG (by omega), L1, K1⟩ ⟨?_, ?_⟩
      · show upd bt (p + 1 + i) (nI (n + i)) (p + 1 + i) = _
        rw [pk_us]
      · refine xb_Tu _ _ (fun y hy => ?_) hb
        have : y.1 ≤ p + i := by
          rcases List.mem_append.mp hy with z | z
          · exact (pd_ns_lt p i y z).2
          · have := hx y z; omega
        omega
  obtain ⟨J, hG, hL, hK⟩ := I
  exact loop m 0 kd pa pb env _ _ _ _ _ _ (by omega) ⟨rp_cg dv_lams_0 J, hG, hL, hK⟩ hB
/-- val: what waits gets the name -/
theorem xw_val {post : SX → Prop} {oc nl p t : Nat} {stk env : List Nat} {bs : List (Nat × Bool)} {fl : List Bool} {f : Bool} {V : dv_W} (I : xt_I oc nl n K kd pa pb (t :: stk) env bs V a_shape a_left a_right a_link) (hn : n ≤ 4000) (CI : ∀ ν E τ st τ' st', V ν (τ :: st) E → V ν (τ' :: st') E → V ν (τ' :: st) E) (hp : p + 1 < 24) (hx : ∀ x, x ∈ bs → x.1 ≤ p) (hS : bs_S bs) (hP : xb_P a_bindings bs) (hB : xb_T a_boundType bs env) (h1 : st_1 a_waitingTypes (t :: stk)) (h2 : st_b a_waitingFirm (f :: fl)) (hfl : fl.length = stk.length) (hs : stk.length + 1 < 64)
    (h : ∀ kd' sh note td tc bt nl', (nl' = nl ∨ nl' = n) → xt_I oc nl' n K kd' pa pb stk (t :: env) ((p + 1, f) :: bs) (dv_bind V) sh a_left a_right a_link → xb_T bt ((p + 1, f) :: bs) (t :: env) → post (f_tokenCount, f_accepted, f_lastPlace, nI oc, f_draftOpen, f_symbolCount, f_stepCount, nI (bs.length + 1), nI stk.length, -1, nI n, tc, a_kinds, a_values, a_declaredSize, a_declaredNodes, a_draftSize, a_draftNodes, a_symbols, a_symbolPlaces, a_steps, a_stepPlaces, a_bindings, bt, a_waitingTypes, a_waitingFirm, sh, a_left, a_right, a_link, note, td, a_todoOther, a_generalNode)) : wpX_completeVal post (f_tokenCount, f_accepted, f_lastPlace, nI oc, f_draftOpen, f_symbolCount, f_stepCount, nI (bs.length + 1), nI (stk.length + 1), -1, nI n, f_todoCount, a_kinds, a_values, a_declaredSize, a_declaredNodes, a_draftSize, a_draftNodes, a_symbols, a_symbolPlaces, a_steps, a_stepPlaces, a_bindings, a_boundType, a_waitingTypes, a_waitingFirm, a_shape, a_left, a_right, a_link, a_note, a_todo, a_todoOther, a_generalNode) (nI p) := by
  obtain ⟨J, hG, hL, hK⟩ := I
  have lb := bs_len bs (p + 1) hS (fun x z => by have := hx x z; omega)
  have B' : xb_T (upd a_boundType (p + 1) (nI t)) bs env := xb_Tu _ _ (fun y hy => by have := hx y hy; omega) hB
  have B2 : ∀ f, xb_T (upd a_boundType (p + 1) (nI t)) ((p + 1, f) :: bs) (t :: env) := fun f => ⟨by show upd a_boundType (p + 1) (nI t) (p + 1) = _; rw [pk_us], B'⟩
  have vp : vp_in (nI (p + 1)) 24 := vp_in_nI hp (by decide)
  unfold wpX_completeVal
  refine xw_firm (b := f) (by omega) ?_ ?_
  · have := h2.1
    rw [hfl] at this
    exact this
  refine xw_pop (by omega) ?_
  rw [h1.1, nI_1]
  refine ⟨vp, ?_⟩
  rw [nI_clamp (by omega)]
  refine nm_e ?_
  cases f with
  | false =>
    exact br_t rfl (h kd a_shape a_note a_todo _ _ nl (Or.inl rfl) ⟨rp_bind (p + 1) J, hG, hL, hK⟩ (B2 false))
  | true =>
    refine br_f (by decide) ⟨vp, ?_⟩
    rw [pk_us]
    refine xw_generalise (nm := p + 1) hn hG hL (by omega) J CI (xb_PT bs env hP B') (by omega) (fun sh kd' note td tc hG' J' k1 _ => ?_)
    exact h kd' sh note td tc _ n (Or.inr rfl) ⟨J', hG', gr_L_78 k1 hL, by rw [gr_nr_78 k1]; exact hK⟩ (B2 true)
end
end
section
/-! the component's fun -/
section
variable {f_tokenCount f_accepted f_lastPlace f_openCount f_draftOpen f_symbolCount f_stepCount f_bindingCount f_waitingCount f_clashPlace f_nodeCount f_todoCount : Int32} {a_kinds a_values a_declaredSize a_declaredNodes a_draftSize a_draftNodes a_symbols a_symbolPlaces a_steps a_stepPlaces a_bindings a_boundType a_waitingTypes a_waitingFirm a_shape a_left a_right a_link a_note a_todo a_todoOther a_generalNode : Nat → Int32}
variable {kd pa pb : Nat → Nat} {n K : Nat}
/-- generalise over nodes that mean nothing any more: it ends, and the nodes stay valid -/
theorem xw_gsafe {post : SX → Prop} {t oc b : Nat} (hn : n ≤ 4000) (C : xt_C n a_shape a_left a_right a_link) (ht : t < n) (hoc : oc ≤ n) (hb : b < 24) (hB : ∀ i, i < b → ∃ pl e, a_bindings i = nI pl ∧ pl < 24 ∧ a_boundType pl = nI e ∧ e < n)
    (h : ∀ sh note td tc, xt_C n sh a_left a_right a_link → post (f_tokenCount, f_accepted, f_lastPlace, nI oc, f_draftOpen, f_symbolCount, f_stepCount, nI (b + 1), f_waitingCount, f_clashPlace, nI n, tc, a_kinds, a_values, a_declaredSize, a_declaredNodes, a_draftSize, a_draftNodes, a_symbols, a_symbolPlaces, a_steps, a_stepPlaces, a_bindings, a_boundType, a_waitingTypes, a_waitingFirm, sh, a_left, a_right, a_link, note, td, a_todoOther, a_generalNode)) : wpX_generalise post (f_tokenCount, f_accepted, f_lastPlace, nI oc, f_draftOpen, f_symbolCount, f_stepCount, nI (b + 1), f_waitingCount, f_clashPlace, nI n, f_todoCount, a_kinds, a_values, a_declaredSize, a_declaredNodes, a_draftSize, a_draftNodes, a_symbols, a_symbolPlaces, a_steps, a_stepPlaces, a_bindings, a_boundType, a_waitingTypes, a_waitingFirm, a_shape, a_left, a_right, a_link, a_note, a_todo, a_todoOther, a_generalNode) (nI t) := by
  obtain ⟨kd, pa, pb, K, W, hG, hL, hK⟩ := C
  have K4 : K ≤ 4096 := by omega
  have fin : ∀ Q1 Q2 note2 td2, xq_I n kd note2 td2 Q2 → Q1 ≤ Q2.length → ∃ n104 : Nat, wX_generalise_104 post f_tokenCount f_accepted f_lastPlace (nI oc) f_draftOpen f_symbolCount f_stepCount (nI (b + 1)) f_waitingCount f_clashPlace (nI n) (nI Q2.length) n104 (nI Q1) a_kinds a_values a_declaredSize a_declaredNodes a_draftSize a_draftNodes a_symbols a_symbolPlaces a_steps a_stepPlaces a_bindings a_boundType a_waitingTypes a_waitingFirm a_shape a_left a_right a_link note2 td2 a_todoOther a_generalNode := by
    intro Q1 Q2 note2 td2 hQ2 hl
    refine ⟨(Q2.length - Q1) + 1, ?_⟩
    refine xw_g104 hn hQ2 hG Q1 (fun sh kd' hG' hk => ?_) _ Q1 a_shape kd (Nat.le_refl _) (by omega) hG (fun i => Or.inr ⟨fun q => ?_, rfl⟩)
    · have k78 : ∀ i, kd' i = kd i ∨ gr_fr (kd' i) ∧ gr_fr (kd i) := by
        intro i
        rcases hk i with z | z
        · exact Or.inr ⟨Or.inr z.2.2, Or.inl z.1⟩
        · exact Or.inl z.2
      have k1 : ∀ i, kd' i = 1000 ↔ kd i = 1000 := by
        intro i
        rcases k78 i with z | z
        · rw [z]
        · omega
      refine h sh note2 td2 _ ⟨kd', pa, pb, K, fun i hi => ?_, hG', gr_L_78 k1 hL, by rw [gr_nr_78 k1]; exact hK⟩
      rw [k1]
      refine ⟨(W i hi).1, fun z => (W i hi).2 ?_⟩
      rcases k78 i with q | q
      · rw [← q]; exact z
      · omega
    · obtain ⟨_, k, q1, q2, _⟩ := q
      omega
  have tail : ∀ Q note td, xq_I n kd note td Q → wX_generalise_38 post (nI t) 1 (nI b) f_tokenCount f_accepted f_lastPlace (nI oc) f_draftOpen f_symbolCount f_stepCount (nI (b + 1)) f_waitingCount f_clashPlace (nI n) (nI Q.length) a_kinds a_values a_declaredSize a_declaredNodes a_draftSize a_draftNodes a_symbols a_symbolPlaces a_steps a_stepPlaces a_bindings a_boundType a_waitingTypes a_waitingFirm a_shape a_left a_right a_link note td a_todoOther a_generalNode := by
    intro Q note td hQ
    refine br_t (by rw [nI_pred]; exact nI_le (by omega) (by omega)) ?_
    refine xw_rparts (P := fun _ => True) hn W hG hL K4 (fun _ _ _ _ => ⟨fun _ _ => trivial, fun _ _ => trivial⟩) Q 0 hQ (by omega) (fun _ _ _ _ => trivial) (fun note1 td1 R1 hQ1 _ _ => ?_)
    have tt := gr_L_to hL ht
    refine xw_find hG (by omega) hL K4 ht tt ?_
    refine xw_reach hn hQ1 (gr_to_n W tt ht) tt.1 (fun hr => ?_) (fun hr note2 td2 hQ2 => ?_)
    · refine xw_rparts (P := fun _ => True) hn W hG hL K4 (fun _ _ _ _ => ⟨fun _ _ => trivial, fun _ _ => trivial⟩) (Q ++ R1) _ hQ1 (Nat.le_refl _) (fun _ _ _ _ => trivial) (fun note3 td3 R3 hQ3 _ _ => ?_)
      exact fin _ _ note3 td3 hQ3 (by simp only [List.length_append]; omega)
    · refine xw_rparts (P := fun _ => True) hn W hG hL K4 (fun _ _ _ _ => ⟨fun _ _ => trivial, fun _ _ => trivial⟩) _ (Q ++ R1).length hQ2 (by simp only [List.length_append]; omega) (fun _ _ _ _ => trivial) (fun note3 td3 R3 hQ3 _ _ => ?_)
      exact fin _ _ note3 td3 hQ3 (by simp only [List.length_append]; omega)
  have l38 : ∀ d j Q note td, j + d = b → xq_I n kd note td Q → wX_generalise_38 post (nI t) (d + 1) (nI j) f_tokenCount f_accepted f_lastPlace (nI oc) f_draftOpen f_symbolCount f_stepCount (nI (b + 1)) f_waitingCount f_clashPlace (nI n) (nI Q.length) a_kinds a_values a_declaredSize a_declaredNodes a_draftSize a_draftNodes a_symbols a_symbolPlaces a_steps a_stepPlaces a_bindings a_boundType a_waitingTypes a_waitingFirm a_shape a_left a_right a_link note td a_todoOther a_generalNode := by
    intro d
    induction d with
    | zero =>
      intro j Q note td hj hQ
      have e : j = b := by omega
      subst e
      exact tail Q note td hQ
    | succ d ih =>
      intro j Q note td hj hQ
      obtain ⟨pl, e, b1, b2, b3, b4⟩ := hB j (by omega)
      have te := gr_L_to hL b4
      refine br_f (by rw [nI_pred]; exact nI_ge (by omega) (by omega)) ⟨vp_in_nI (by omega) (by decide), ?_⟩
      rw [nI_clamp (by omega), b1]
      refine ⟨vp_in_nI (by omega) (by decide), ?_⟩
      rw [nI_clamp (by omega), b3]
      refine xw_find hG (by omega) hL K4 b4 te ?_
      refine xw_reach hn hQ (gr_to_n W te b4) te.1 (fun hr => nm_r (nI_1 j) ?_) (fun hr note2 td2 hQ2 => nm_r (nI_1 j) ?_)
      · exact ih (j + 1) Q note td (by omega) hQ
      · exact ih (j + 1) _ note2 td2 (by omega) hQ2
  have l11 : ∀ d j Q note td, j + d = oc → xq_I n kd note td Q → wX_generalise_11 post (nI t) (d + 1) (nI j) f_tokenCount f_accepted f_lastPlace (nI oc) f_draftOpen f_symbolCount f_stepCount (nI (b + 1)) f_waitingCount f_clashPlace (nI n) (nI Q.length) a_kinds a_values a_declaredSize a_declaredNodes a_draftSize a_draftNodes a_symbols a_symbolPlaces a_steps a_stepPlaces a_bindings a_boundType a_waitingTypes a_waitingFirm a_shape a_left a_right a_link note td a_todoOther a_generalNode := by
    intro d
    induction d with
    | zero =>
      intro j Q note td hj hQ
      exact br_t (nI_le (by omega) (by omega)) ⟨b + 1, l38 b 0 Q note td (by omega) hQ⟩
    | succ d ih =>
      intro j Q note td hj hQ
      have te := gr_L_to hL (by omega : j < n)
      refine br_f (nI_ge (by omega) (by omega)) ?_
      refine xw_find hG (by omega) hL K4 (by omega) te ?_
      refine xw_reach hn hQ (gr_to_n W te (by omega)) te.1 (fun hr => nm_r (nI_1 j) ?_) (fun hr note2 td2 hQ2 => nm_r (nI_1 j) ?_)
      · exact ih (j + 1) Q note td (by omega) hQ
      · exact ih (j + 1) _ note2 td2 (by omega) hQ2
  unfold wpX_generalise
  refine xw_clear (by omega) (fun note hz => ?_)
  exact ⟨oc + 1, l11 oc 0 [] note a_todo (by omega) (xq_0 hz)⟩
end
/-- what waits on top has been made the function of i parameters -/
def dv_arrs (i : Nat) (V : dv_W) : dv_W := fun ν st E => ∃ τ st0 c, st = τ :: st0 ∧ V ν (c :: st0) E ∧ τ = dv_arr (E.take i) c
theorem dv_arr_s : ∀ (l : List tr_T) (x c : tr_T), dv_arr (l ++ [x]) c = tr_con 6 x (dv_arr l c) := by
  intro l
  induction l with
  | nil => intro x c; rfl
  | cons y l ih => intro x c; exact ih x (tr_con 6 y c)
theorem dv_arrs_s {V : dv_W} {i h e : Nat} (hl : dv_len h e V) (hi : i < e) (ν st E : List tr_T) : (∃ st1, (∃ s0, st1 = tr_con 6 (ls_g i E) (ls_g 0 s0) :: s0 ∧ dv_arrs i V ν s0 E) ∧ ls_g 0 st1 :: st1.drop 2 = st) ↔ dv_arrs (i + 1) V ν st E := by
  have tk : ∀ s, V ν s E → E.take (i + 1) = E.take i ++ [ls_g i E] := fun s v => by
    have := (hl _ _ _ v).2
    rw [List.take_add_one]
    congr 1
    unfold ls_g
    rw [List.getD_eq_getElem?_getD, List.getElem?_eq_getElem (by omega)]
    rfl
  constructor
  · intro ⟨st1, ⟨s0, e1, τ, st0, c, e2, v, e3⟩, e4⟩
    subst e3 e2 e1 e4
    refine ⟨_, st0, c, rfl, v, ?_⟩
    rw [tk _ v, dv_arr_s]
    rfl
  · intro ⟨τ, st0, c, e1, v, e2⟩
    refine ⟨_, ⟨_, rfl, _, st0, c, rfl, v, rfl⟩, ?_⟩
    rw [e1, e2, tk _ v, dv_arr_s]
    rfl
theorem dv_arrs_0 {V : dv_W} {h e : Nat} (hl : dv_len (h + 1) e V) (ν st E : List tr_T) : V ν st E ↔ dv_arrs 0 V ν st E := by
  constructor
  · intro v
    obtain ⟨x, r, e1⟩ := xe_l1 hl v
    subst e1
    exact ⟨x, r, x, rfl, v, rfl⟩
  · intro ⟨τ, st0, c, e1, v, e2⟩
    rw [e1, e2]; exact v
/-- several bindings end -/
theorem rp_unbinds {b0 nl n : Nat} {kd pa pb : Nat → Nat} {op stk : List Nat} : ∀ (e1 : List Nat) (A B : List (Nat × Bool)) (e2 : List Nat) (V : dv_W), e1.length = A.length → rp_I b0 nl n kd pa pb op stk (e1 ++ e2) (A ++ B) V → rp_I b0 nl n kd pa pb op stk e2 B (fun ν st E => ∃ xs, xs.length = e1.length ∧ V ν st (xs ++ E)) := by
  intro e1
  induction e1 with
  | nil =>
    intro A B e2 V hl I
    have : A = [] := List.eq_nil_of_length_eq_zero hl.symm
    subst this
    refine rp_cg (fun ν st E => ?_) I
    constructor
    · intro v; exact ⟨[], rfl, v⟩
    · intro ⟨xs, l, v⟩
      have : xs = [] := List.eq_nil_of_length_eq_zero l
      subst this
      exact v
  | cons x e1 ih =>
    intro A B e2 V hl I
    cases A with
    | nil => simp at hl
    | cons a A =>
      have z := ih A B e2 _ (by simpa using hl) (rp_unbind I)
      refine rp_cg (fun ν st E => ?_) z
      constructor
      · intro ⟨xs, l, τ, v⟩
        exact ⟨τ :: xs, by rw [List.length_cons, List.length_cons, l], v⟩
      · intro ⟨xs, l, v⟩
        cases xs with
        | nil => simp at l
        | cons y xs => exact ⟨xs, by simpa using l, y, v⟩
theorem xe_fun {V : dv_W} {m h e : Nat} (hl : dv_len (h + 1) (e + m + 1) V) (ν st' E : List tr_T) : (∃ xs, xs.length = m + 1 ∧ ∃ st, (dv_arrs m V ν st (xs ++ E) ∧ ls_g m (xs ++ E) = ls_g 0 st) ∧ ls_g m (xs ++ E) :: st.drop 1 = st') ↔ dv_fun m V ν st' E := by
  constructor
  · intro ⟨xs, l, st, ⟨⟨τ, st0, c, e1, v, e2⟩, e3⟩, e4⟩
    obtain ⟨ys, f, ef⟩ : ∃ ys f, xs = ys ++ [f] := ⟨xs.dropLast, xs.getLast (by intro z; rw [z] at l; simp at l), (List.dropLast_concat_getLast _).symm⟩
    subst ef
    have ly : ys.length = m := by simpa using l
    have g1 : ls_g m (ys ++ [f] ++ E) = f := by
      unfold ls_g
      rw [List.append_assoc, List.getD_eq_getElem?_getD, List.getElem?_append_right (by omega), ly, Nat.sub_self]
      rfl
    have g2 : (ys ++ [f] ++ E).take m = ys := by
      rw [List.append_assoc, ← ly]
      exact List.take_left
    rw [g1] at e3 e4
    rw [g2] at e2
    subst e1
    refine ⟨f, st0, ys, c, e4.symm, ly, ?_, ?_⟩
    · rw [e3]; exact e2
    · rw [List.append_assoc] at v; exact v
  · intro ⟨f, st0, ys, c, e1, ly, e2, v⟩
    have g1 : ls_g m (ys ++ [f] ++ E) = f := by
      unfold ls_g
      rw [List.append_assoc, List.getD_eq_getElem?_getD, List.getElem?_append_right (by omega), ly, Nat.sub_self]
      rfl
    have g2 : (ys ++ [f] ++ E).take m = ys := by
      rw [List.append_assoc, ← ly]
      exact List.take_left
    refine ⟨ys ++ [f], by simp [ly], f :: st0, ⟨⟨f, st0, c, rfl, by rw [List.append_assoc]; exact v, by rw [g2]; exact e2⟩, by rw [g1]; rfl⟩, ?_⟩
    rw [g1, e1]
    rfl
end
section
/-! the component's completeFun -/
theorem xb_ns {bt : Nat → Int32} {p : Nat} : ∀ (m : Nat) (e1 : List Nat), xb_T bt (pd_ns p m) e1 → e1.length = m ∧ ∀ (i : Nat), i < m → ∃ x, e1[i]? = some x ∧ bt (p + m - i) = nI x := by
  intro m
  induction m with
  | zero => intro e1 h; cases e1 with
    | nil => exact ⟨rfl, fun i hi => by omega⟩
    | cons e e1 => exact h.elim
  | succ m ih =>
    intro e1 h
    cases e1 with
    | nil => exact h.elim
    | cons e e1 =>
      obtain ⟨l, q⟩ := ih e1 h.2
      refine ⟨by rw [List.length_cons, l], fun i hi => ?_⟩
      cases i with
      | zero =>
        refine ⟨e, rfl, ?_⟩
        have := h.1
        rw [show p + (m + 1) - 0 = p + 1 + m by omega]; exact this
      | succ i =>
        obtain ⟨x, hx, hb⟩ := q i (by omega)
        refine ⟨x, by rw [List.getElem?_cons_succ]; exact hx, ?_⟩
        rw [show p + (m + 1) - (i + 1) = p + m - i by omega]; exact hb
theorem mo_ns {α : Type} {p : Nat} {bs : List (Nat × Bool)} : ∀ (m : Nat) (e1 e2 : List α), e1.length = m → ∀ x, x ∈ e1 → x ∈ mo_l (pd_ns p m ++ bs) (e1 ++ e2) := by
  intro m
  induction m with
  | zero =>
    intro e1 e2 h x hx
    have : e1 = [] := List.eq_nil_of_length_eq_zero h
    subst this
    cases hx
  | succ m ih =>
    intro e1 e2 h x hx
    cases e1 with
    | nil => cases hx
    | cons e e1 =>
      show x ∈ mo_l ((p + 1 + m, false) :: (pd_ns p m ++ bs)) (e :: (e1 ++ e2))
      rw [mo_f]
      rcases List.mem_cons.mp hx with z | z
      · rw [z]; exact List.mem_cons_self
      · exact List.mem_cons_of_mem _ (ih e1 e2 (by simpa using h) x z)
theorem ls_g_map {ρ : Nat → tr_T} {l : List Nat} {i x : Nat} (h : l[i]? = some x) : ls_g i (l.map ρ) = ρ x := by
  unfold ls_g
  rw [List.getD_eq_getElem?_getD, List.getElem?_map, h]
  rfl
section
variable {f_tokenCount f_accepted f_lastPlace f_openCount f_draftOpen f_symbolCount f_stepCount f_bindingCount f_waitingCount f_clashPlace f_nodeCount f_todoCount : Int32} {a_kinds a_values a_declaredSize a_declaredNodes a_draftSize a_draftNodes a_symbols a_symbolPlaces a_steps a_stepPlaces a_bindings a_boundType a_waitingTypes a_waitingFirm a_shape a_left a_right a_link a_note a_todo a_todoOther a_generalNode : Nat → Int32}
variable {kd pa pb : Nat → Nat} {n K : Nat}
theorem xw_cfun {post : SX → Prop} {oc nl p m c ct : Nat} {stk e1 e2 : List Nat} {bs : List (Nat × Bool)} {V : dv_W} {N mq Kt : Nat → Nat} (hT : tk_T a_kinds a_values c Kt N) (hf : pd_fn Kt mq p) (hp : p + mq p + 1 < c) (hm : mq p = m + 1) (I : xt_I oc nl n K kd pa pb (ct :: stk) (e1 ++ e2) (pd_ns p (m + 1) ++ bs) V a_shape a_left a_right a_link)
    (hl : dv_len (stk.length + 1) (bs.length + m + 1) V) (hC : dv_CI stk.length bs.length V) (hx : ∀ x, x ∈ bs → x.1 ≤ p) (hS : bs_S bs) (hP : xb_P a_bindings bs) (hB1 : xb_T a_boundType (pd_ns p (m + 1)) e1) (hB2 : xb_T a_boundType bs e2) (h1 : st_1 a_waitingTypes (ct :: stk)) (hn : n + m ≤ 4000) (hs : stk.length + 1 < 64) (hoc : oc ≤ n)
    (hok : ∀ n' K' kd' pa' pb' t sh lf rt lk note td tdo tc, n' ≤ n + m → xt_I oc n' n' K' kd' pa' pb' stk (t :: e2) ((p + 1, true) :: bs) (dv_bind (dv_fun m V)) sh lf rt lk → xb_T a_boundType ((p + 1, true) :: bs) (t :: e2) → post (nI c, f_accepted, f_lastPlace, nI oc, f_draftOpen, f_symbolCount, f_stepCount, nI (bs.length + 1), nI stk.length, -1, nI n', tc, a_kinds, a_values, a_declaredSize, a_declaredNodes, a_draftSize, a_draftNodes, a_symbols, a_symbolPlaces, a_steps, a_stepPlaces, a_bindings, a_boundType, a_waitingTypes, a_waitingFirm, sh, lf, rt, lk, note, td, tdo, a_generalNode))
    (hbad : xh_B (n + m) (p + m + 2) (dv_bind (dv_fun m V)) (nI c, f_accepted, f_lastPlace, nI oc, f_draftOpen, f_symbolCount, f_stepCount, nI (bs.length + 1), f_waitingCount, f_clashPlace, f_nodeCount, f_todoCount, a_kinds, a_values, a_declaredSize, a_declaredNodes, a_draftSize, a_draftNodes, a_symbols, a_symbolPlaces, a_steps, a_stepPlaces, a_bindings, a_boundType, a_waitingTypes, a_waitingFirm, a_shape, a_left, a_right, a_link, a_note, a_todo, a_todoOther, a_generalNode) post) :
    wpX_completeFun post (nI c, f_accepted, f_lastPlace, nI oc, f_draftOpen, f_symbolCount, f_stepCount, nI (bs.length + 1), nI (stk.length + 1), -1, nI n, f_todoCount, a_kinds, a_values, a_declaredSize, a_declaredNodes, a_draftSize, a_draftNodes, a_symbols, a_symbolPlaces, a_steps, a_stepPlaces, a_bindings, a_boundType, a_waitingTypes, a_waitingFirm, a_shape, a_left, a_right, a_link, a_note, a_todo, a_todoOther, a_generalNode) (nI p) := by
  have c24 := hT.1
  obtain ⟨le1, hpl⟩ := xb_ns (m + 1) e1 hB1
  have lb := bs_len bs (p + 1) hS (fun x z => by have := hx x z; omega)
  have le2 : e2.length = bs.length := by
    have := I.1.2.2.2.2.1
    rw [List.length_append, List.length_append, pd_ns_len, le1] at this
    omega
  unfold wpX_completeFun
  refine xw_equals hT hf hp ?_
  refine xw_pop (by omega) ?_
  rw [h1.1]
  refine nm_r (e' := nI (p + m + 1)) ?_ ⟨m + 1, ?_⟩
  · rw [hm, show p + (m + 1) + 1 = (p + m + 1) + 1 by omega, nI_pred]
  have loop : ∀ d i kd' pa' pb' w sh lf rt lk note, i + d = m → xt_I oc nl (n + i) K kd' pa' pb' (w :: stk) (e1 ++ e2) (pd_ns p (m + 1) ++ bs) (dv_arrs i V) sh lf rt lk → wX_completeFun_16 post (nI p) (nI (p + mq p + 1)) (d + 1) (nI w) (nI (p + m + 1 - i)) (nI c) f_accepted f_lastPlace (nI oc) f_draftOpen f_symbolCount f_stepCount (nI (bs.length + 1)) (nI stk.length) (-1) (nI (n + i)) f_todoCount a_kinds a_values a_declaredSize a_declaredNodes a_draftSize a_draftNodes a_symbols a_symbolPlaces a_steps a_stepPlaces a_bindings a_boundType a_waitingTypes a_waitingFirm sh lf rt lk note a_todo a_todoOther a_generalNode := by
    intro d
    induction d with
    | zero =>
      intro i kd' pa' pb' w sh lf rt lk note hi It
      have e : i = m := by omega
      subst e
      obtain ⟨f, hf1, hf2⟩ := hpl i (by omega)
      have ep : p + (i + 1) - i = p + 1 := by omega
      rw [ep] at hf2
      have fe : f ∈ e1 := List.mem_of_getElem? hf1
      have fg : (e1 ++ e2)[i]? = some f := by rw [List.getElem?_append_left (by omega)]; exact hf1
      have e5 : p + i + 1 - i = p + 1 := by omega
      have vp : vp_in (nI (p + 1)) 24 := vp_in_nI (by omega) (by decide)
      have cp1 : (nI (p + 1)).toNatClampNeg = p + 1 := nI_clamp (by omega)
      rw [e5]
      refine br_t (by rw [nI_1]; exact nI_le (by omega) (by omega)) ?_
      rw [nI_1]
      refine ⟨vp, ?_⟩
      rw [cp1, hf2]
      have eq : p + mq p + 1 = p + i + 2 := by omega
      rw [eq]
      refine xw_demand (oc := oc) (nl := nl) (p := p + i + 2) (I := It) (by omega) (Or.inr (mo_ns (i + 1) e1 e2 le1 f fe)) (Or.inl List.mem_cons_self) (fun _ st E => ls_g i E = ls_g 0 st) (fun ρ => by rw [ls_g_map fg]; exact Iff.rfl) (fun kd1 pa1 K1 lk1 note1 td1 tdo1 I1 => ⟨vp, ?_⟩) (fun no lk1 note1 td1 tdo1 tc1 C1 => ⟨vp, ?_⟩)
      · rw [hf2]
        have J3 := rp_unbinds e1 (pd_ns p (i + 1)) bs e2 _ (by rw [le1, pd_ns_len]) (rp_sel I1.1 (stk' := f :: stk) (fun _ st E => ls_g i E :: st.drop 1) (fun y hy => by
          rcases List.mem_cons.mp hy with z | z
          · rw [z]; exact Or.inr (mo_ns (i + 1) e1 e2 le1 f fe)
          · exact Or.inl (List.mem_cons_of_mem _ z)) (fun ρ => by rw [ls_g_map fg]; rfl))
        rw [le1] at J3
        have J4 := rp_cg (xe_fun hl) J3
        have ci := dv_CI_top (dv_len_fun hl) (dv_CI_fun hl (Nat.le_refl _) hC)
        refine xw_generalise (nm := p + 1) (by omega) I1.2.1 I1.2.2.1 (by have := I1.2.2.2; omega) J4 ci (xb_PT bs e2 hP hB2) (by omega) (fun sh2 kd2 note2 td2 tc2 hG2 J5 k1 _ => ?_)
        exact hok (n + i) K1 kd2 pa1 pb' f sh2 _ _ lk1 note2 td2 tdo1 tc2 (Nat.le_refl _) ⟨J5, hG2, gr_L_78 k1 I1.2.2.1, by rw [gr_nr_78 k1]; exact I1.2.2.2⟩ ⟨hf2, hB2⟩
      · rw [hf2]
        have fn : f < n + i := It.1.2.2.2.1 f (List.mem_append_left _ fe)
        refine xw_gsafe (b := bs.length) (by omega) C1 fn (by omega) (by omega) (fun j hj => ?_) (fun sh2 note2 td2 tc2 C2 => ?_)
        · obtain ⟨pl, e, q1, q2, q3, q4⟩ := xb_at bs e2 (xb_PT bs e2 hP hB2) j hj
          exact ⟨pl, e, q1, q2, q3, It.1.2.2.2.1 e (List.mem_append_right _ q4)⟩
        · refine hbad (fun ν st E ⟨τ, E0, _, v⟩ => ?_) (n + i) sh2 _ _ lk1 note2 td2 tdo1 _ _ tc2 _ _ _ (Nat.le_refl _) C2
          obtain ⟨xs, _, s, v1, _⟩ := (xe_fun hl ν _ _).mpr v
          exact no ν s (xs ++ E0) v1
    | succ d ih =>
      intro i kd' pa' pb' w sh lf rt lk note hi It
      obtain ⟨x, hx1, hx2⟩ := hpl i (by omega)
      have xe : x ∈ e1 := List.mem_of_getElem? hx1
      have xg : (e1 ++ e2)[i]? = some x := by rw [List.getElem?_append_left (by omega)]; exact hx1
      have e5 : p + (m + 1) - i = p + m + 1 - i := by omega
      rw [e5] at hx2
      obtain ⟨J, hG, hL, hK⟩ := It
      obtain ⟨L1, K1⟩ := xt_L (k := 6) (a := x) (b := w) J.1 hL hK (by omega)
      have J1 := rp_con (k := 6) (a := x) (b := w) J (by omega) (Or.inr (mo_ns (m + 1) e1 e2 le1 x xe)) (Or.inl List.mem_cons_self) (fun _ _ E => ls_g i E) (fun _ st _ => ls_g 0 st) (fun ρ => ls_g_map xg) (fun ρ => rfl)
      refine br_f (by rw [nI_1]; exact nI_ge (by omega) (by omega)) ⟨vp_in_nI (by omega) (by decide), ?_⟩
      rw [nI_clamp (by omega), hx2]
      refine xw_new (by omega) ?_
      refine nm_r (e' := nI (p + m + 1 - (i + 1))) ?_ ?_
      · rw [show p + m + 1 - i = (p + m + 1 - (i + 1)) + 1 by omega, pk_m1]
      refine ih (i + 1) _ _ _ (n + i) _ _ _ _ _ (by omega) ⟨rp_cg (dv_arrs_s hl (by omega)) (rp_sel J1 (stk' := (n + i) :: stk) (fun _ st _ => ls_g 0 st :: st.drop 2) (fun y hy => ?_) (fun ρ => rfl)), xg_new (k := 6) hG (by omega), L1, K1⟩
      rcases List.mem_cons.mp hy with z | z
      · rw [z]; exact Or.inl List.mem_cons_self
      · exact Or.inl (List.mem_cons_of_mem _ (List.mem_cons_of_mem _ z))
  obtain ⟨J, hG, hL, hK⟩ := I
  have z := loop m 0 kd pa pb ct a_shape a_left a_right a_link a_note (by omega) ⟨rp_cg (dv_arrs_0 hl) J, hG, hL, hK⟩
  exact z
end
end
section
/-! the component's typeFault -/
def gd_E (K N mq : Nat → Nat) (Dc : Nat → List tr_T → tr_T → Prop) : pm_L → List (Nat × Bool) → List Bool → dv_W → List (Nat × Bool) × List Bool × dv_W
  | [], bs, fl, V => (bs, fl, V)
  | (s, p) :: sp, bs, fl, V => gd_E K N mq Dc sp (dd_bs mq bs fl s p) (dd_fl K fl s p) (dd_V K N mq Dc bs V s p)
def xs_S (sts pls : Nat → Int32) (sp : pm_L) : Prop := ∀ (i s p : Nat), sp[i]? = some (s, p) → sts i = nI s ∧ pls i = nI p
def xd_I (oc nl n K : Nat) (kd pa pb : Nat → Nat) (stk env : List Nat) (bs : List (Nat × Bool)) (fl : List Bool) (V : dv_W) (x : Nat × Nat × Nat) (c : Nat) (Kt : Nat → Nat) (sh lf rt lk bd bt wt wf : Nat → Int32) : Prop :=
  xt_I oc nl n K kd pa pb stk env bs V sh lf rt lk ∧ xb_P bd bs ∧ xb_T bt bs env ∧ bs_S bs ∧ (∀ b, b ∈ bs → b.1 < c ∧ Kt b.1 = 3) ∧ st_1 wt stk ∧ st_b wf fl ∧ fl.length = stk.length ∧ n ≤ oc + x.1 ∧ nl ≤ oc + Nat.max x.2.1 x.2.2 ∧ oc ≤ n
theorem ls_1 {α : Type} {l : List α} (h : 1 ≤ l.length) : ∃ a r, l = a :: r := by
  cases l with
  | nil => simp at h
  | cons a r => exact ⟨a, r, rfl⟩
theorem ls_2 {α : Type} {l : List α} (h : 2 ≤ l.length) : ∃ a b r, l = a :: b :: r := by
  obtain ⟨a, r, e⟩ := ls_1 (l := l) (by omega)
  subst e
  rw [List.length_cons] at h
  obtain ⟨b, r', e⟩ := ls_1 (l := r) (by omega)
  subst e
  exact ⟨a, b, r', rfl⟩
theorem ls_3 {α : Type} {l : List α} (h : 3 ≤ l.length) : ∃ a b c r, l = a :: b :: c :: r := by
  obtain ⟨a, b, r, e⟩ := ls_2 (l := l) (by omega)
  subst e
  rw [List.length_cons, List.length_cons] at h
  obtain ⟨c, r', e⟩ := ls_1 (l := r) (by omega)
  subst e
  exact ⟨a, b, c, r', rfl⟩
theorem st_bd {a : Nat → Int32} : ∀ (L : List Bool) (i : Nat), st_b a L → st_b a (L.drop i) := by
  intro L
  induction L with
  | nil => intro i h; rw [List.drop_nil]; trivial
  | cons b L ih =>
    intro i h
    cases i with
    | zero => exact h
    | succ i => rw [List.drop_succ_cons]; exact ih i h.2
section
variable {f_tokenCount f_accepted f_lastPlace f_openCount f_draftOpen f_symbolCount f_stepCount f_bindingCount f_waitingCount f_clashPlace f_nodeCount f_todoCount : Int32} {a_kinds a_values a_declaredSize a_declaredNodes a_draftSize a_draftNodes a_symbols a_symbolPlaces a_steps a_stepPlaces a_bindings a_boundType a_waitingTypes a_waitingFirm a_shape a_left a_right a_link a_note a_todo a_todoOther a_generalNode : Nat → Int32}
variable {kd pa pb : Nat → Nat} {n K : Nat}
theorem xt_oc {b0 nl n oc : Nat} {kd pa pb : Nat → Nat} {stk env : List Nat} {bs : List (Nat × Bool)} {V : dv_W} (I : rp_I b0 nl n kd pa pb (List.range oc) stk env bs V) : oc ≤ n := by
  obtain ⟨M, Es, ⟨hM, gM, oM, sM, eM⟩, _, _, _, _⟩ := I.2.2.1
  by_cases c : oc = 0
  · omega
  · have := (hM (oc - 1) (oM _ (List.mem_range.mpr (by omega)))).1
    omega
theorem xw_tfbad {post : Int32 → SX → Prop} {m j q : Nat} (hq : q < 100) (h : post (nI q) (f_tokenCount, f_accepted, f_lastPlace, f_openCount, f_draftOpen, f_symbolCount, f_stepCount, f_bindingCount, f_waitingCount, nI q, f_nodeCount, f_todoCount, a_kinds, a_values, a_declaredSize, a_declaredNodes, a_draftSize, a_draftNodes, a_symbols, a_symbolPlaces, a_steps, a_stepPlaces, a_bindings, a_boundType, a_waitingTypes, a_waitingFirm, a_shape, a_left, a_right, a_link, a_note, a_todo, a_todoOther, a_generalNode)) : wX_typeFault_23 post (m + 1) (nI j) f_tokenCount f_accepted f_lastPlace f_openCount f_draftOpen f_symbolCount f_stepCount f_bindingCount f_waitingCount (nI q) f_nodeCount f_todoCount a_kinds a_values a_declaredSize a_declaredNodes a_draftSize a_draftNodes a_symbols a_symbolPlaces a_steps a_stepPlaces a_bindings a_boundType a_waitingTypes a_waitingFirm a_shape a_left a_right a_link a_note a_todo a_todoOther a_generalNode :=
  br_c (fun _ => h) (fun _ => br_t (nI_pos' (by omega)) h)
end
section
variable {f_tokenCount f_accepted f_lastPlace f_openCount f_draftOpen f_symbolCount f_stepCount f_bindingCount f_waitingCount f_clashPlace f_nodeCount f_todoCount : Int32} {a_kinds a_values a_declaredSize a_declaredNodes a_draftSize a_draftNodes a_symbols a_symbolPlaces a_steps a_stepPlaces a_bindings a_boundType a_waitingTypes a_waitingFirm a_shape a_left a_right a_link a_note a_todo a_todoOther a_generalNode : Nat → Int32}
theorem xw_tf {post : Int32 → SX → Prop} {oc c : Nat} {N mq Kt : Nat → Nat} {dc : Nat → List Nat} {sp0 : pm_L} {Fin : List (Nat × Bool) → List Bool → Prop} (hT : tk_T a_kinds a_values c Kt N) (hD : xd_D oc dc a_declaredSize a_declaredNodes) (hsp : xs_S a_steps a_stepPlaces sp0) (hl60 : sp0.length ≤ 60) (hoc : oc ≤ 144) :
    ∀ (sp2 pre : pm_L) (nl n K : Nat) (kd pa pb : Nat → Nat) (stk env : List Nat) (bs : List (Nat × Bool)) (fl : List Bool) (V : dv_W) (x : Nat × Nat × Nat) (tc : Int32) (bd bt wt wf sh lf rt lk note td tdo gn : Nat → Int32), sp0 = pre ++ sp2 → gd_ok Kt N mq (Dc_U dc) c Fin sp2 bs fl V x → gn_N Kt N mq dc sp2 bs fl none → xd_I oc nl n K kd pa pb stk env bs fl V x c Kt sh lf rt lk bd bt wt wf → stk.length ≤ pre.length →
    (∀ nl' n' K' kd' pa' pb' stk' env' x' tc bd bt wt wf sh lf rt lk note td tdo gn, gc_C Kt N mq (Dc_U dc) sp2 bs fl V none → Fin (gd_E Kt N mq (Dc_U dc) sp2 bs fl V).1 (gd_E Kt N mq (Dc_U dc) sp2 bs fl V).2.1 → x'.1 ≤ 1503 ∨ x' = x → xd_I oc nl' n' K' kd' pa' pb' stk' env' (gd_E Kt N mq (Dc_U dc) sp2 bs fl V).1 (gd_E Kt N mq (Dc_U dc) sp2 bs fl V).2.1 (gd_E Kt N mq (Dc_U dc) sp2 bs fl V).2.2 x' c Kt sh lf rt lk bd bt wt wf → post (-1) (nI c, f_accepted, f_lastPlace, nI oc, f_draftOpen, f_symbolCount, nI sp0.length, nI (gd_E Kt N mq (Dc_U dc) sp2 bs fl V).1.length, nI stk'.length, -1, nI n', tc, a_kinds, a_values, a_declaredSize, a_declaredNodes, a_draftSize, a_draftNodes, a_symbols, a_symbolPlaces, a_steps, a_stepPlaces, bd, bt, wt, wf, sh, lf, rt, lk, note, td, tdo, gn)) →
    (∀ q bc wc nc tc bd bt wt wf sh lf rt lk note td tdo gn, gc_C Kt N mq (Dc_U dc) sp2 bs fl V (some q) → q < 24 → post (nI q) (nI c, f_accepted, f_lastPlace, nI oc, f_draftOpen, f_symbolCount, nI sp0.length, bc, wc, nI q, nc, tc, a_kinds, a_values, a_declaredSize, a_declaredNodes, a_draftSize, a_draftNodes, a_symbols, a_symbolPlaces, a_steps, a_stepPlaces, bd, bt, wt, wf, sh, lf, rt, lk, note, td, tdo, gn)) →
    wX_typeFault_23 post (sp2.length + 1) (nI pre.length) (nI c) f_accepted f_lastPlace (nI oc) f_draftOpen f_symbolCount (nI sp0.length) (nI bs.length) (nI stk.length) (-1) (nI n) tc a_kinds a_values a_declaredSize a_declaredNodes a_draftSize a_draftNodes a_symbols a_symbolPlaces a_steps a_stepPlaces bd bt wt wf sh lf rt lk note td tdo gn := by
  intro sp2
  have c24 := hT.1
  induction sp2 with
  | nil =>
    intro pre nl n K kd pa pb stk env bs fl V x tc bd bt wt wf sh lf rt lk note td tdo gn e g gn0 I hst hok hbad
    rw [List.append_nil] at e
    subst e
    exact br_t (nI_le (by omega) (by omega)) (hok nl n K kd pa pb stk env x tc bd bt wt wf sh lf rt lk note td tdo gn rfl g (Or.inr rfl) I)
  | cons y sp2 ih =>
    obtain ⟨s, p⟩ := y
    intro pre nl n K kd pa pb stk env bs fl V x tc bd bt wt wf sh lf rt lk note td tdo gn e g gn0 I hst hok hbad
    obtain ⟨pr, cst, g⟩ := g
    have pr0 := pr
    have ln : pre.length < sp0.length := by rw [e, List.length_append, List.length_cons]; omega
    have hi : sp0[pre.length]? = some (s, p) := by rw [e, List.getElem?_append_right (Nat.le_refl _), Nat.sub_self]; rfl
    obtain ⟨es, ep⟩ := hsp _ s p hi
    have e2 : sp0 = (pre ++ [(s, p)]) ++ sp2 := by rw [e, List.append_assoc]; rfl
    have l2 : (pre ++ [(s, p)]).length = pre.length + 1 := by rw [List.length_append]; rfl
    obtain ⟨It, hP, hB, hS, hN, h1, h2, hfl, hn, hnl, hocn⟩ := I
    obtain ⟨pc, hlen, s80, s90, q80, q82, q83, q84, q85, q86, q87, q88, q89, q90⟩ := pr
    have vi : vp_in (nI pre.length) 64 := vp_in_nI (by omega) (by decide)
    have ci : (nI pre.length).toNatClampNeg = pre.length := nI_clamp (by omega)
    have n4 : n ≤ 1700 := by
      have : x.1 ≤ (cr_1 Kt mq x s p).1 := Nat.le_add_right _ _
      omega
    -- no unbound name here
    have gn1 : ¬ (s = 80 ∧ Kt p = 3 ∧ bx_ix N bs (N p) = none ∧ dc (N p) = []) := by
      intro z
      unfold gn_N at gn0
      rw [if_pos z] at gn0
      cases gn0
    have gn2 : gn_N Kt N mq dc sp2 (dd_bs mq bs fl s p) (dd_fl Kt fl s p) none := by
      unfold gn_N at gn0
      rw [if_neg gn1] at gn0
      exact gn0
    -- on with the next step
    have go : ∀ nl' n' K' kd' pa' pb' stk' env' tc bd bt wt wf sh lf rt lk note td tdo gn, xd_I oc nl' n' K' kd' pa' pb' stk' env' (dd_bs mq bs fl s p) (dd_fl Kt fl s p) (dd_V Kt N mq (Dc_U dc) bs V s p) (cr_1 Kt mq x s p) c Kt sh lf rt lk bd bt wt wf → stk'.length ≤ pre.length + 1 → wX_typeFault_23 post (sp2.length + 1) (nI (pre.length + 1)) (nI c) f_accepted f_lastPlace (nI oc) f_draftOpen f_symbolCount (nI sp0.length) (nI (dd_bs mq bs fl s p).length) (nI stk'.length) (-1) (nI n') tc a_kinds a_values a_declaredSize a_declaredNodes a_draftSize a_draftNodes a_symbols a_symbolPlaces a_steps a_stepPlaces bd bt wt wf sh lf rt lk note td tdo gn := by
      intro nl' n' K' kd' pa' pb' stk' env' tc bd bt wt wf sh lf rt lk note td tdo gn I' hst'
      have some := rp_some I'.1.1
      rw [← l2]
      refine ih (pre ++ [(s, p)]) nl' n' K' kd' pa' pb' stk' env' _ _ _ _ tc bd bt wt wf sh lf rt lk note td tdo gn e2 g gn2 I' (by rw [l2]; exact hst') (fun nl'' n'' K'' kd'' pa'' pb'' stk'' env'' x'' tc bd bt wt wf sh lf rt lk note td tdo gn gc fin hx I'' => ?_) (fun q bc wc nc tc bd bt wt wf sh lf rt lk note td tdo gn gc hq => ?_)
      · refine hok nl'' n'' K'' kd'' pa'' pb'' stk'' env'' x'' tc bd bt wt wf sh lf rt lk note td tdo gn (Or.inl ⟨some, gc⟩) fin ?_ I''
        rcases hx with z | z
        · exact Or.inl z
        · rw [z]; exact Or.inl cst
      · exact hbad q bc wc nc tc bd bt wt wf sh lf rt lk note td tdo gn (Or.inl ⟨some, gc⟩) hq
    -- no world is left
    have stop : ∀ bc wc nc tc bd bt wt wf sh lf rt lk note td tdo gn, (∀ ν st E, ¬ dd_V Kt N mq (Dc_U dc) bs V s p ν st E) → (if s = 88 then p + mq p + 1 else p) < 24 → wX_typeFault_23 post (sp2.length + 1) (nI (pre.length + 1)) (nI c) f_accepted f_lastPlace (nI oc) f_draftOpen f_symbolCount (nI sp0.length) bc wc (nI (if s = 88 then p + mq p + 1 else p)) nc tc a_kinds a_values a_declaredSize a_declaredNodes a_draftSize a_draftNodes a_symbols a_symbolPlaces a_steps a_stepPlaces bd bt wt wf sh lf rt lk note td tdo gn := by
      intro bc wc nc tc bd bt wt wf sh lf rt lk note td tdo gn no hq
      exact xw_tfbad (by omega) (hbad _ bc wc nc tc bd bt wt wf sh lf rt lk note td tdo gn (Or.inr ⟨no, rfl⟩) hq)
    have stop' : ∀ bc wc nc tc bd bt wt wf sh lf rt lk note td tdo gn, s ≠ 88 → (∀ ν st E, ¬ dd_V Kt N mq (Dc_U dc) bs V s p ν st E) → wX_typeFault_23 post (sp2.length + 1) (nI (pre.length + 1)) (nI c) f_accepted f_lastPlace (nI oc) f_draftOpen f_symbolCount (nI sp0.length) bc wc (nI p) nc tc a_kinds a_values a_declaredSize a_declaredNodes a_draftSize a_draftNodes a_symbols a_symbolPlaces a_steps a_stepPlaces bd bt wt wf sh lf rt lk note td tdo gn := by
      intro bc wc nc tc bd bt wt wf sh lf rt lk note td tdo gn ns no
      have z := stop bc wc nc tc bd bt wt wf sh lf rt lk note td tdo gn no (by rw [if_neg ns]; omega)
      rw [if_neg ns] at z
      exact z
    have nmN : ∀ q, q < c → Kt q = 3 → q < c ∧ Kt q = 3 := fun q a b => ⟨a, b⟩
    refine br_f (nI_ge ln (by omega)) (br_f (by decide) ⟨vi, ?_⟩)
    rw [ci, ep]
    refine nm_e ⟨vi, ?_⟩
    rw [es]
    refine xw_bau (V := V) (fl := fl) hT pr0 hS hP (fun bd' hS' hP' => ⟨vi, ?_⟩)
    rw [es]
    refine nm_e ?_
    have nlK : nl ≤ oc + Nat.max (cr_1 Kt mq x s p).2.1 (cr_1 Kt mq x s p).2.2 := Nat.le_trans hnl (Nat.add_le_add_left (Nat.le_max_left _ _) _)
    have c1 : (cr_1 Kt mq x s p).1 = x.1 + cr_c Kt mq (Nat.max x.2.1 x.2.2) s p := rfl
    have hs : s = 80 ∨ s = 81 ∨ s = 82 ∨ s = 83 ∨ s = 84 ∨ s = 85 ∨ s = 86 ∨ s = 87 ∨ s = 88 ∨ s = 89 ∨ s = 90 := by omega
    rcases hs with rfl | rfl | rfl | rfl | rfl | rfl | rfl | rfl | rfl | rfl | rfl
    · have c2 : cr_c Kt mq (Nat.max x.2.1 x.2.2) 80 p = if Kt p = 3 then Nat.max x.2.1 x.2.2 + 12 else 5 := rfl
      refine br_f (by decide) (br_f (by decide) (br_t rfl ?_))
      have bl := bs_len bs c hS (fun b hb => (hN b hb).1)
      refine xw_atom (f_waitingCount := 0) (f_clashPlace := 0) (f_nodeCount := 0) (N := N) (dc := dc) (bs := bs) It (by omega) (fun k3 => ?_) hT hD pc (q80 rfl) hS hP' hB hN (Nat.le_trans bl c24) h1 h2 hfl (by omega) hocn (fun k3 no ne => gn1 ⟨rfl, k3, no, ne⟩) ?_
      · rw [if_pos k3] at c2
        omega
      · intro n' K' kd' pa' pb' t sh lf rt lk note td tdo wt wf tc gn hn' It' h1' h2'
        refine nm_r (nI_1 _) (go _ _ _ _ _ _ _ _ _ _ _ _ _ _ _ _ _ _ _ _ _ ⟨It', hP', hB, hS', hN, h1', h2', by rw [eF_80, List.length_cons, List.length_cons, hfl], ?_, nlK, xt_oc It'.1⟩ (by rw [List.length_cons]; omega))
        by_cases k3 : Kt p = 3
        · rw [if_pos k3] at c2 hn'
          omega
        · rw [if_neg k3] at c2 hn'
          omega
    · have c2 : cr_c Kt mq (Nat.max x.2.1 x.2.2) 81 p = 1 := rfl
      refine br_f (by decide) (br_f (by decide) (br_f (by decide) (br_t rfl ?_)))
      refine xw_unit (f_waitingCount := 0) (f_clashPlace := 0) (f_nodeCount := 0) It (by omega) h1 h2 hfl (by omega) ?_
      intro n' K' kd' pa' pb' t sh lf rt lk note td tdo wt wf tc gn hn' It' h1' h2'
      exact nm_r (nI_1 _) (go _ _ _ _ _ _ _ _ _ _ _ _ _ _ _ _ _ _ _ _ _ ⟨It', hP', hB, hS', hN, h1', h2', by rw [eF_81, List.length_cons, List.length_cons, hfl], by omega, nlK, (xt_oc It'.1)⟩ (by rw [List.length_cons]; omega))
    · have c2 : cr_c Kt mq (Nat.max x.2.1 x.2.2) 82 p = 3 := rfl
      refine br_f (by decide) (br_f (by decide) (br_f (by decide) (br_f (by decide) (br_t rfl ?_))))
      obtain ⟨a, f, stk1, e3⟩ := ls_2 (l := stk) (by have := q82 rfl; omega)
      subst e3
      obtain ⟨b1, b2, fl1, e4⟩ := ls_2 (l := fl) (q82 rfl)
      subst e4
      rw [List.length_cons, List.length_cons] at hst hfl
      have hf1 : fl1.length = stk1.length := by simpa using hfl
      rw [List.length_cons, List.length_cons, hf1] at hlen
      refine xw_apply (f_waitingCount := 0) (f_clashPlace := 0) (f_nodeCount := 0) It (by omega) hlen h1 h2.2.2 hf1 (by omega) ?_ ?_
      · intro n' K' kd' pa' pb' t sh lf rt lk note td tdo wt wf tc gn hn' It' h1' h2'
        exact nm_r (nI_1 _) (go _ _ _ _ _ _ _ _ _ _ _ _ _ _ _ _ _ _ _ _ _ ⟨It', hP', hB, hS', hN, h1', h2', by rw [eF_82]; simp [hf1], by omega, nlK, (xt_oc It'.1)⟩ (by rw [List.length_cons]; omega))
      · exact (fun no n' sh lf rt lk note td tdo wt wf tc wc gn bt hn' C' => nm_r (nI_1 _) (stop' _ _ _ _ _ _ _ _ _ _ _ _ _ _ _ _ (by decide) no))
    · have c2 : cr_c Kt mq (Nat.max x.2.1 x.2.2) 83 p = 3 := rfl
      refine br_f (by decide) (br_f (by decide) (br_f (by decide) (br_f (by decide) (br_f (by decide) (br_t rfl ?_)))))
      obtain ⟨qa, qk⟩ := q83 rfl
      obtain ⟨a, f, stk1, e3⟩ := ls_2 (l := stk) (by omega)
      subst e3
      obtain ⟨b1, b2, fl1, e4⟩ := ls_2 (l := fl) qa
      subst e4
      rw [List.length_cons, List.length_cons] at hst hfl
      have hf1 : fl1.length = stk1.length := by simpa using hfl
      rw [List.length_cons, List.length_cons, hf1] at hlen
      refine xw_operator (f_waitingCount := 0) (f_clashPlace := 0) (f_nodeCount := 0) (kp := Kt p) It (by omega) hlen h1 h2 hf1 (by omega) (by omega) (hT.2.2 p pc).1 qk ?_ ?_
      · intro n' K' kd' pa' pb' t sh lf rt lk note td tdo wt wf tc gn hn' It' h1' h2'
        exact nm_r (nI_1 _) (go _ _ _ _ _ _ _ _ _ _ _ _ _ _ _ _ _ _ _ _ _ ⟨It', hP', hB, hS', hN, h1', h2', by rw [eF_83]; simp [hf1], by omega, nlK, (xt_oc It'.1)⟩ (by rw [List.length_cons]; omega))
      · exact (fun no n' sh lf rt lk note td tdo wt wf tc wc gn bt hn' C' => nm_r (nI_1 _) (stop' _ _ _ _ _ _ _ _ _ _ _ _ _ _ _ _ (by decide) no))
    · have c2 : cr_c Kt mq (Nat.max x.2.1 x.2.2) 84 p = 2 := rfl
      refine br_f (by decide) (br_f (by decide) (br_f (by decide) (br_f (by decide) (br_f (by decide) (br_f (by decide) (br_t rfl ?_))))))
      obtain ⟨a, f, d, stk1, e3⟩ := ls_3 (l := stk) (by have := q84 rfl; omega)
      subst e3
      obtain ⟨b1, b2, b3, fl1, e4⟩ := ls_3 (l := fl) (q84 rfl)
      subst e4
      rw [List.length_cons, List.length_cons, List.length_cons] at hst hfl
      have hf1 : fl1.length = stk1.length := by simpa using hfl
      rw [List.length_cons, List.length_cons, List.length_cons, hf1] at hlen
      refine xw_if (f_waitingCount := 0) (f_clashPlace := 0) (f_nodeCount := 0) It (by omega) hlen h1 h2.2.2.2 hf1 (by omega) (by omega) ?_ ?_
      · intro n' K' kd' pa' pb' t sh lf rt lk note td tdo wt wf tc gn hn' It' h1' h2'
        exact nm_r (nI_1 _) (go _ _ _ _ _ _ _ _ _ _ _ _ _ _ _ _ _ _ _ _ _ ⟨It', hP', hB, hS', hN, h1', h2', by rw [eF_84]; simp [hf1], by omega, nlK, (xt_oc It'.1)⟩ (by rw [List.length_cons]; omega))
      · exact (fun no n' sh lf rt lk note td tdo wt wf tc wc gn bt hn' C' => nm_r (nI_1 _) (stop' _ _ _ _ _ _ _ _ _ _ _ _ _ _ _ _ (by decide) no))
    · have c2 : cr_c Kt mq (Nat.max x.2.1 x.2.2) 85 p = 1 := rfl
      obtain ⟨a1, a2, a3⟩ := q85 rfl
      obtain ⟨J, hG, hL, hK⟩ := It
      obtain ⟨L1, K1⟩ := xt_L (k := 7) (a := 0) (b := 0) J.1 hL hK (by omega)
      have J1 := rp_lam (a := 0) (b := 0) (p + 1) (rp_cg dv_lams_0 J)
      refine br_f (by decide) (br_f (by decide) (br_f (by decide) (br_f (by decide) (br_f (by decide) (br_f (by decide) (br_f (by decide) (br_t rfl ?_)))))))
      refine xw_new (by omega) ?_
      rw [nI_1]
      refine ⟨vp_in_nI (by omega) (by decide), ?_⟩
      rw [nI_clamp (by omega)]
      refine nm_e (nm_r (nI_1 _) (go _ _ _ _ _ _ _ _ _ _ _ _ _ _ _ _ _ _ _ _ _ ⟨⟨J1, xg_new (k := 7) hG (by omega), L1, K1⟩, hP', ⟨by show upd bt (p + 1) (nI n) (p + 1) = _; rw [pk_us], xb_Tu bs env (fun y hy => by have := a3 y hy; omega) hB⟩, hS', fun b hb => ?_, h1, h2, hfl, by omega, nlK, by omega⟩ (by omega)))
      rcases List.mem_cons.mp hb with z | z
      · rw [z]; exact ⟨a1, a2⟩
      · exact hN b z
    · have c2 : cr_c Kt mq (Nat.max x.2.1 x.2.2) 86 p = 1 := rfl
      obtain ⟨a1, a2, bs0, a3⟩ := q86 rfl
      subst a3
      obtain ⟨b, stk1, e3⟩ := ls_1 (l := stk) (by omega)
      subst e3
      obtain ⟨b1, fl1, e4⟩ := ls_1 (l := fl) a1
      subst e4
      have hf1 : fl1.length = stk1.length := by simpa using hfl
      rw [List.length_cons] at hst
      rw [List.length_cons, hf1] at hlen
      refine br_f (by decide) (br_f (by decide) (br_f (by decide) (br_f (by decide) (br_f (by decide) (br_f (by decide) (br_f (by decide) (br_f (by decide) (br_t rfl ?_))))))))
      cases env with
      | nil => exact hB.elim
      | cons xe env0 =>
        refine xw_fn (f_waitingCount := 0) (f_clashPlace := 0) (f_nodeCount := 0) It hlen (by omega) (by omega) hB.1 h1 h2.2 hf1 (by omega) ?_
        intro n' K' kd' pa' pb' t sh lf rt lk note td tdo wt wf tc gn hn' It' h1' h2'
        exact nm_r (nI_1 _) (go _ _ _ _ _ _ _ _ _ _ _ _ _ _ _ _ _ _ _ _ _ ⟨It', hP', hB.2, hS', fun b hb => hN b (List.mem_cons_of_mem _ hb), h1', h2', by rw [eF_86]; simp [hf1], by omega, nlK, xt_oc It'.1⟩ (by rw [List.length_cons]; omega))
    · have c2 : cr_c Kt mq (Nat.max x.2.1 x.2.2) 87 p = mq p := rfl
      obtain ⟨a1, a2, a3⟩ := q87 rfl
      refine br_f (by decide) (br_f (by decide) (br_f (by decide) (br_f (by decide) (br_f (by decide) (br_f (by decide) (br_f (by decide) (br_f (by decide) (br_f (by decide) (br_t rfl ?_)))))))))
      refine xw_bfun (mq := mq) hT a1 a2 rfl a3 It (by omega) hB (fun kd' pa' pb' env' sh lf rt lk note bt It' hB' => ?_)
      refine nm_r (nI_1 _) (go _ _ _ _ _ _ _ _ _ _ _ _ _ _ _ _ _ _ _ _ _ ⟨It', hP', hB', hS', fun b hb => ?_, h1, h2, hfl, by omega, nlK, xt_oc It'.1⟩ (by omega))
      rcases List.mem_append.mp hb with z | z
      · have := pd_ns_lt p (mq p) b z
        exact ⟨by omega, a1.2.2.1 b.1 (by omega) (by omega)⟩
      · exact hN b z
    · have c2 : cr_c Kt mq (Nat.max x.2.1 x.2.2) 88 p = mq p := rfl
      obtain ⟨a1, a2, a3, bs0, a4, a5, a6⟩ := q88 rfl
      obtain ⟨m, em⟩ : ∃ m, mq p = m + 1 := ⟨mq p - 1, by have := a1.1; omega⟩
      have ed : dd_bs mq bs fl 88 p = (p + 1, true) :: bs0 := by
        rw [eB_88, a4, List.drop_left' (pd_ns_len p (mq p))]
      have evm : dd_V Kt N mq (Dc_U dc) bs V 88 p = dv_bind (dv_fun m V) := by
        rw [eV_88, em]; rfl
      rw [em] at a4
      subst a4
      obtain ⟨e1, e2', q1, q2, hB1, hB2⟩ := xb_Tapp _ _ _ hB
      subst q1
      obtain ⟨b, stk1, e3⟩ := ls_1 (l := stk) (by omega)
      subst e3
      obtain ⟨b1, fl1, e4⟩ := ls_1 (l := fl) a3
      subst e4
      have hf1 : fl1.length = stk1.length := by simpa using hfl
      rw [List.length_cons] at hst
      rw [List.length_cons, hf1, List.length_append, pd_ns_len] at hlen
      have hlen' : dv_len (stk1.length + 1) (bs0.length + m + 1) V := by
        have z : m + 1 + bs0.length = bs0.length + m + 1 := by omega
        rw [z] at hlen; exact hlen
      have hC' : dv_CI stk1.length bs0.length V := by
        rw [List.length_cons, Nat.add_sub_cancel, hf1] at a5; exact a5
      have hS0 := bs_app _ _ hS
      have cq : (cr_1 Kt mq x 88 p).2.2 = x.1 + cr_c Kt mq (Nat.max x.2.1 x.2.2) 88 p := rfl
      rw [ed] at hP' hS' ⊢
      rw [List.length_cons]
      refine br_f (by decide) (br_f (by decide) (br_f (by decide) (br_f (by decide) (br_f (by decide) (br_f (by decide) (br_f (by decide) (br_f (by decide) (br_f (by decide) (br_f (by decide) (br_t rfl ?_))))))))))
      refine xw_cfun (f_waitingCount := 0) (f_clashPlace := 0) (f_nodeCount := 0) hT a1 a2 em It hlen' hC' a6 hS0 hP'.2.2 hB1 hB2 h1 (by omega) (by omega) hocn (fun n' K' kd' pa' pb' t sh lf rt lk note td tdo tc hn' It' hB' => ?_) ?_
      · have g2 := go n' n' K' kd' pa' pb' stk1 (t :: e2') tc bd' bt wt wf sh lf rt lk note td tdo gn
        rw [ed, evm] at g2
        refine nm_r (nI_1 _) (g2 ⟨It', hP', hB', hS', fun b hb => ?_, h1.2, by rw [eF_88]; exact h2.2, by rw [eF_88]; exact hf1, by omega, ?_, xt_oc It'.1⟩ (by omega))
        · rcases List.mem_cons.mp hb with z | z
          · rw [z]
            exact ⟨by show p + 1 < c; omega, a1.2.2.1 (p + 1) (by omega) (by omega)⟩
          · exact hN b (List.mem_append_right _ z)
        · refine Nat.le_trans ?_ (Nat.add_le_add_left (Nat.le_max_right _ _) _)
          rw [cq]; omega
      · intro no n' sh lf rt lk note td tdo wt wf tc wc gn bt hn' C'
        have z := stop (nI (bs0.length + 1)) wc (nI n') tc bd' bt wt wf sh lf rt lk note td tdo gn (by rw [evm]; exact no) (by rw [if_pos rfl]; omega)
        rw [if_pos rfl, show p + mq p + 1 = p + m + 2 by omega] at z
        exact nm_r (nI_1 _) z
    · have c2 : cr_c Kt mq (Nat.max x.2.1 x.2.2) 89 p = 0 := rfl
      obtain ⟨a1, a2, a3, a4, a5⟩ := q89 rfl
      obtain ⟨b, stk1, e3⟩ := ls_1 (l := stk) (by omega)
      subst e3
      obtain ⟨b1, fl1, e4⟩ := ls_1 (l := fl) a3
      subst e4
      have hf1 : fl1.length = stk1.length := by simpa using hfl
      rw [List.length_cons] at hst
      rw [List.length_cons, hf1] at hlen
      have hC' : dv_CI stk1.length bs.length V := by
        rw [List.length_cons, Nat.add_sub_cancel, hf1] at a4; exact a4
      have cq : (cr_1 Kt mq x 89 p).2.2 = x.1 + cr_c Kt mq (Nat.max x.2.1 x.2.2) 89 p := rfl
      refine br_f (by decide) (br_f (by decide) (br_f (by decide) (br_f (by decide) (br_f (by decide) (br_f (by decide) (br_f (by decide) (br_f (by decide) (br_f (by decide) (br_f (by decide) (br_f (by decide) (br_t rfl ?_)))))))))))
      refine xw_val It (by omega) (dv_CI_top hlen hC') (by omega) a5 hS hP'.2.2 hB h1 h2 hf1 (by omega) (fun kd' sh note td tc bt nl' hnl' It' hB' => ?_)
      refine nm_r (nI_1 _) (go _ _ _ _ _ _ _ _ _ _ _ _ _ _ _ _ _ _ _ _ _ ⟨It', hP', hB', hS', fun b hb => ?_, h1.2, h2.2, hf1, by omega, ?_, xt_oc It'.1⟩ (by omega))
      · rcases List.mem_cons.mp hb with z | z
        · rw [z]; exact ⟨a1, a2⟩
        · exact hN b z
      · rcases hnl' with z | z
        · rw [z]; exact nlK
        · refine Nat.le_trans ?_ (Nat.add_le_add_left (Nat.le_max_right _ _) _)
          rw [cq]; omega
    · have c2 : cr_c Kt mq (Nat.max x.2.1 x.2.2) 90 p = 0 := rfl
      obtain ⟨a1, a2⟩ := q90 rfl
      obtain ⟨t, stk1, e3⟩ := ls_1 (l := stk) (by omega)
      subst e3
      obtain ⟨b1, fl1, e4⟩ := ls_1 (l := fl) a1
      subst e4
      have hf1 : fl1.length = stk1.length := by simpa using hfl
      rw [List.length_cons] at hst
      cases bs with
      | nil => exact (a2 rfl).elim
      | cons b0 bs0 =>
        cases env with
        | nil => exact hB.elim
        | cons xe env0 =>
          refine br_f (by decide) (br_t (by decide) ?_)
          refine xw_setFirm (by omega) ?_
          obtain ⟨J, hG, hL, hK⟩ := It
          exact nm_r (nI_1 _) (go _ _ _ _ _ _ _ _ _ _ _ _ _ _ _ _ _ _ _ _ _ ⟨⟨rp_unbind J, hG, hL, hK⟩, hP', hB.2, hS', fun b hb => hN b (List.mem_cons_of_mem _ hb), h1, by rw [← hf1]; exact st_bp (b := false) h2.2, by rw [eF_90]; simp [hf1], by omega, nlK, hocn⟩ (by rw [List.length_cons]; omega))
end
end
section
/-! the component's nameFault, beginNodes, and typeFault as a whole -/
theorem dd_S {K mq : Nat → Nat} {c s p : Nat} {bs : List (Nat × Bool)} {fl : List Bool} {V : dv_W} (pre : dd_pre K mq c bs fl V s p) (hN : ∀ b, b ∈ bs → b.1 < c ∧ K b.1 = 3) : ∀ b, b ∈ dd_bs mq bs fl s p → b.1 < c ∧ K b.1 = 3 := by
  obtain ⟨pc, _, s80, s90, _, _, _, _, q85, q86, q87, q88, q89, q90⟩ := pre
  intro b hb
  have hs : s < 85 ∨ s = 85 ∨ s = 86 ∨ s = 87 ∨ s = 88 ∨ s = 89 ∨ s = 90 := by omega
  rcases hs with h | rfl | rfl | rfl | rfl | rfl | rfl
  · unfold dd_bs at hb
    rw [if_neg (by omega), if_neg (by omega), if_neg (by omega), if_neg (by omega), if_neg (by omega), if_neg (by omega)] at hb
    exact hN b hb
  · rw [eB_85] at hb
    rcases List.mem_cons.mp hb with z | z
    · rw [z]; exact ⟨(q85 rfl).1, (q85 rfl).2.1⟩
    · exact hN b z
  · rw [eB_86] at hb; exact hN b (List.mem_of_mem_drop hb)
  · rw [eB_87] at hb
    obtain ⟨a1, a2, _⟩ := q87 rfl
    rcases List.mem_append.mp hb with z | z
    · have := pd_ns_lt p (mq p) b z
      exact ⟨by omega, a1.2.2.1 b.1 (by omega) (by omega)⟩
    · exact hN b z
  · rw [eB_88] at hb
    obtain ⟨a1, a2, _⟩ := q88 rfl
    rcases List.mem_cons.mp hb with z | z
    · rw [z]
      exact ⟨by show p + 1 < c; omega, a1.2.2.1 (p + 1) (by omega) (by have := a1.1; omega)⟩
    · exact hN b (List.mem_of_mem_drop z)
  · rw [eB_89] at hb
    rcases List.mem_cons.mp hb with z | z
    · rw [z]; exact ⟨(q89 rfl).1, (q89 rfl).2.1⟩
    · exact hN b z
  · rw [eB_90] at hb; exact hN b (List.mem_of_mem_drop hb)
section
variable {f_tokenCount f_accepted f_lastPlace f_openCount f_draftOpen f_symbolCount f_stepCount f_bindingCount f_waitingCount f_clashPlace f_nodeCount f_todoCount : Int32} {a_kinds a_values a_declaredSize a_declaredNodes a_draftSize a_draftNodes a_symbols a_symbolPlaces a_steps a_stepPlaces a_bindings a_boundType a_waitingTypes a_waitingFirm a_shape a_left a_right a_link a_note a_todo a_todoOther a_generalNode : Nat → Int32}
variable {kd pa pb : Nat → Nat} {n K : Nat}
theorem xw_nf {post : Int32 → SX → Prop} {oc c : Nat} {N mq Kt : Nat → Nat} {dc : Nat → List Nat} {Dc : Nat → List tr_T → tr_T → Prop} {sp0 : pm_L} {Fin : List (Nat × Bool) → List Bool → Prop} (hT : tk_T a_kinds a_values c Kt N) (hD : xd_D oc dc a_declaredSize a_declaredNodes) (hsp : xs_S a_steps a_stepPlaces sp0) (hl60 : sp0.length ≤ 60) :
    ∀ (sp2 pre : pm_L) (bs : List (Nat × Bool)) (fl : List Bool) (V : dv_W) (x : Nat × Nat × Nat) (bd : Nat → Int32), sp0 = pre ++ sp2 → gd_ok Kt N mq Dc c Fin sp2 bs fl V x → bs_S bs → xb_P bd bs → (∀ b, b ∈ bs → b.1 < c ∧ Kt b.1 = 3) →
    (gn_N Kt N mq dc sp2 bs fl none → ∀ bc bd, post (-1) (nI c, f_accepted, f_lastPlace, f_openCount, f_draftOpen, f_symbolCount, nI sp0.length, bc, f_waitingCount, f_clashPlace, f_nodeCount, f_todoCount, a_kinds, a_values, a_declaredSize, a_declaredNodes, a_draftSize, a_draftNodes, a_symbols, a_symbolPlaces, a_steps, a_stepPlaces, bd, a_boundType, a_waitingTypes, a_waitingFirm, a_shape, a_left, a_right, a_link, a_note, a_todo, a_todoOther, a_generalNode)) →
    (∀ q, gn_N Kt N mq dc sp2 bs fl (some q) → q < 24 → ∀ bc bd, post (nI q) (nI c, f_accepted, f_lastPlace, f_openCount, f_draftOpen, f_symbolCount, nI sp0.length, bc, f_waitingCount, f_clashPlace, f_nodeCount, f_todoCount, a_kinds, a_values, a_declaredSize, a_declaredNodes, a_draftSize, a_draftNodes, a_symbols, a_symbolPlaces, a_steps, a_stepPlaces, bd, a_boundType, a_waitingTypes, a_waitingFirm, a_shape, a_left, a_right, a_link, a_note, a_todo, a_todoOther, a_generalNode)) →
    wX_nameFault_7 post (sp2.length + 1) (nI pre.length) (nI c) f_accepted f_lastPlace f_openCount f_draftOpen f_symbolCount (nI sp0.length) (nI bs.length) f_waitingCount f_clashPlace f_nodeCount f_todoCount a_kinds a_values a_declaredSize a_declaredNodes a_draftSize a_draftNodes a_symbols a_symbolPlaces a_steps a_stepPlaces bd a_boundType a_waitingTypes a_waitingFirm a_shape a_left a_right a_link a_note a_todo a_todoOther a_generalNode := by
  intro sp2
  have c24 := hT.1
  induction sp2 with
  | nil =>
    intro pre bs fl V x bd e g hS hP hN hok hbad
    rw [List.append_nil] at e
    subst e
    exact br_t (nI_le (by omega) (by omega)) (hok rfl _ _)
  | cons y sp2 ih =>
    obtain ⟨s, p⟩ := y
    intro pre bs fl V x bd e g hS hP hN hok hbad
    obtain ⟨pr, cst, g⟩ := g
    have ln : pre.length < sp0.length := by rw [e, List.length_append, List.length_cons]; omega
    have hi : sp0[pre.length]? = some (s, p) := by rw [e, List.getElem?_append_right (Nat.le_refl _), Nat.sub_self]; rfl
    obtain ⟨es, ep⟩ := hsp _ s p hi
    have e2 : sp0 = (pre ++ [(s, p)]) ++ sp2 := by rw [e, List.append_assoc]; rfl
    have l2 : (pre ++ [(s, p)]).length = pre.length + 1 := by rw [List.length_append]; rfl
    have vi : vp_in (nI pre.length) 64 := vp_in_nI (by omega) (by decide)
    have ci : (nI pre.length).toNatClampNeg = pre.length := nI_clamp (by omega)
    have pc := pr.1
    have s90 := pr.2.2.2.1
    have vp : vp_in (nI p) 24 := vp_in_nI (by omega) (by decide)
    have cp : (nI p).toNatClampNeg = p := nI_clamp (by omega)
    refine br_f (nI_ge ln (by omega)) ⟨vi, ?_⟩
    rw [ci, ep]
    refine nm_e ⟨vi, ?_⟩
    rw [es]
    refine xw_bau (V := V) (fl := fl) hT pr hS hP (fun bd' hS' hP' => ⟨vi, ?_⟩)
    rw [es]
    have next : ¬ (s = 80 ∧ Kt p = 3 ∧ bx_ix N bs (N p) = none ∧ dc (N p) = []) → ∀ x1 : Int32, x1 = nI pre.length + 1 → wX_nameFault_7 post (sp2.length + 1) x1 (nI c) f_accepted f_lastPlace f_openCount f_draftOpen f_symbolCount (nI sp0.length) (nI (dd_bs mq bs fl s p).length) f_waitingCount f_clashPlace f_nodeCount f_todoCount a_kinds a_values a_declaredSize a_declaredNodes a_draftSize a_draftNodes a_symbols a_symbolPlaces a_steps a_stepPlaces bd' a_boundType a_waitingTypes a_waitingFirm a_shape a_left a_right a_link a_note a_todo a_todoOther a_generalNode := by
      intro ne
      refine nm_r (nI_1 _) ?_
      rw [← l2]
      refine ih (pre ++ [(s, p)]) _ _ _ _ bd' e2 g hS' hP' (dd_S pr hN) (fun gn => hok ?_) (fun q gn => hbad q ?_)
      · unfold gn_N; rw [if_neg ne]; exact gn
      · unfold gn_N; rw [if_neg ne]; exact gn
    by_cases h80 : s = 80
    · subst h80
      obtain ⟨t1, t2, t3, _⟩ := hT.2.2 p pc
      refine br_t rfl ⟨vp, ?_⟩
      rw [cp, t1]
      refine pk_eq (Kt p) 3 (fun k3 => ⟨vp, ?_⟩) (fun k3 => next (fun z => k3 z.2.1))
      obtain ⟨v1, v2⟩ := t3 k3
      have bl := bs_len bs c hS (fun b hb => (hN b hb).1)
      rw [v1]
      refine xw_bindingOf (N := N) v2 bs (Nat.le_trans bl c24) hP' (fun b hb' => (hT.2.2 b.1 (hN b hb').1).2.2.1 (hN b hb').2) (fun j b hj hb' => ?_) (fun no => ?_)
      · have := (hN b (List.mem_of_getElem? hb')).1
        exact br_t (nI_pos' (by omega)) (next (fun z => by rw [hj] at z; cases z.2.2.1))
      · refine br_f (by decide) ⟨vp, ?_⟩
        refine ⟨vp_in_nI v2 (by decide), ?_⟩
        obtain ⟨d1, d2, _⟩ := hD (N p) v2
        rw [nI_clamp (by omega), d1]
        refine pk_eq (dc (N p)).length 0 (fun z => ?_) (fun z => next (fun q => z (by rw [q.2.2.2]; rfl)))
        refine hbad p ?_ (by omega) _ _
        unfold gn_N
        rw [if_pos ⟨rfl, k3, no, List.eq_nil_of_length_eq_zero z⟩]
    · exact br_f (fun z => h80 ((nI_eq (b := 80) (by omega) (by omega)).mp z)) (next (fun z => h80 z.1))
/-- a graph of free nodes alone -/
theorem xw_begin {post : SX → Prop} {oc gk : Nat} (hoc : oc ≤ 144) (hgk : gk < 30) (h : ∀ sh lf rt lk note, xg_G oc sh lf rt lk (fun _ => gk) (fun _ => 0) (fun _ => 0) → post (f_tokenCount, f_accepted, f_lastPlace, nI oc, f_draftOpen, f_symbolCount, f_stepCount, f_bindingCount, f_waitingCount, f_clashPlace, nI oc, f_todoCount, a_kinds, a_values, a_declaredSize, a_declaredNodes, a_draftSize, a_draftNodes, a_symbols, a_symbolPlaces, a_steps, a_stepPlaces, a_bindings, a_boundType, a_waitingTypes, a_waitingFirm, sh, lf, rt, lk, note, a_todo, a_todoOther, a_generalNode)) : wpX_beginNodes post (f_tokenCount, f_accepted, f_lastPlace, nI oc, f_draftOpen, f_symbolCount, f_stepCount, f_bindingCount, f_waitingCount, f_clashPlace, f_nodeCount, f_todoCount, a_kinds, a_values, a_declaredSize, a_declaredNodes, a_draftSize, a_draftNodes, a_symbols, a_symbolPlaces, a_steps, a_stepPlaces, a_bindings, a_boundType, a_waitingTypes, a_waitingFirm, a_shape, a_left, a_right, a_link, a_note, a_todo, a_todoOther, a_generalNode) (nI gk) := by
  unfold wpX_beginNodes
  refine ⟨oc + 1, ?_⟩
  have loop : ∀ d i sh lf rt lk note, i + d = oc → xg_G i sh lf rt lk (fun _ => gk) (fun _ => 0) (fun _ => 0) → wX_beginNodes_7 post (nI gk) (d + 1) (nI i) f_tokenCount f_accepted f_lastPlace (nI oc) f_draftOpen f_symbolCount f_stepCount f_bindingCount f_waitingCount f_clashPlace (nI i) f_todoCount a_kinds a_values a_declaredSize a_declaredNodes a_draftSize a_draftNodes a_symbols a_symbolPlaces a_steps a_stepPlaces a_bindings a_boundType a_waitingTypes a_waitingFirm sh lf rt lk note a_todo a_todoOther a_generalNode := by
    intro d
    induction d with
    | zero =>
      intro i sh lf rt lk note hi hG
      have e : i = oc := by omega
      subst e
      exact br_t (nI_le (by omega) (by omega)) (h sh lf rt lk note hG)
    | succ d ih =>
      intro i sh lf rt lk note hi hG
      refine br_f (nI_ge (by omega) (by omega)) ?_
      refine xw_new (by omega) (nm_r (nI_1 i) (ih (i + 1) _ _ _ _ _ (by omega) ?_))
      intro j hj
      by_cases c : j = i
      · subst c
        rw [pk_us, pk_us, pk_us, pk_us]
        exact Or.inr ⟨by show gk ≠ 1000; omega, hgk, rfl, rfl, fun _ => ⟨rfl, rfl⟩⟩
      · rw [pk_un c, pk_un c, pk_un c, pk_un c]
        rcases hG j (by omega) with z | z
        · exact (by omega : ¬ gk = 1000) z.1 |>.elim
        · exact Or.inr z
  exact loop oc 0 _ _ _ _ _ (by omega) (fun i hi => by omega)
end
theorem gr_0 {oc gk : Nat} (hgk : gk = 7 ∨ gk = 9) : gr_W oc (fun _ => gk) (fun _ => 0) (fun _ => 0) ∧ gr_A oc (fun _ => gk) (fun _ => 0) (fun _ => 0) ∧ gr_L oc (fun _ => gk) (fun _ => 0) 0 ∧ 0 + gr_nr (fun _ => gk) oc ≤ oc := by
  have k1 : ¬ gk = 1000 := by omega
  have k2 : ¬ gr_cn gk := by omega
  refine ⟨fun i _ => ⟨fun z => (k1 z).elim, fun z => (k2 z).elim⟩, fun i _ => gr_H_i (fun z => (k1 z).elim) (fun z => (k2 z).elim), fun i _ => k1, ?_⟩
  have := gr_nr_le (kd := fun _ => gk) oc
  omega
theorem rp_0 {oc : Nat} : rp_I oc 0 oc (fun _ => 7) (fun _ => 0) (fun _ => 0) (List.range oc) [] [] [] (fun ν st E => ν.length = oc ∧ st = [] ∧ E = []) := by
  obtain ⟨W, A, _, _⟩ := gr_0 (oc := oc) (gk := 7) (Or.inl rfl)
  have C : gr_C oc (fun _ => 7) (fun _ => 0) (fun _ => 0) (fun i => i < oc) := fun i hi => ⟨hi, fun z => absurd z (by decide : ¬ (7 : Nat) = 1000), fun z => absurd z (by decide : ¬ gr_cn 7)⟩
  refine ⟨W, A, ⟨fun i => i < oc, fun i => i < oc, ⟨C, fun i _ => (by decide : (7 : Nat) ≠ 8), fun x hx => List.mem_range.mp hx, fun x hx => (by cases hx), fun x hx => (by cases hx)⟩, C, fun i h => h, fun x hx => (by cases hx), fun i h h' => (h' h).elim⟩, fun x hx => (by cases hx), rfl, trivial, fun ν st E => ?_⟩
  constructor
  · intro ⟨e1, e2, e3⟩
    refine ⟨fun i => ν.getD i (tr_at 0), gr_Vi (fun i hi => ⟨fun z => absurd z (by decide : ¬ (7 : Nat) = 1000), fun z => absurd z (by decide : ¬ gr_cn 7), fun _ _ z => (z (Or.inl rfl)).elim⟩), ?_, by rw [e2]; rfl, by rw [e3]; rfl⟩
    refine List.ext_getElem? (fun i => ?_)
    rw [List.getElem?_map]
    by_cases h : i < oc
    · rw [List.getElem?_range h, List.getElem?_eq_getElem (by omega)]
      simp [List.getD_eq_getElem?_getD, List.getElem?_eq_getElem (by omega : i < ν.length)]
    · rw [List.getElem?_eq_none (by rw [List.length_range]; omega), List.getElem?_eq_none (by omega)]
      rfl
  · intro ⟨ρ, h, e1, e2, e3⟩
    refine ⟨by rw [← e1, List.length_map, List.length_range], e2.symm, e3.symm⟩
end
section
/-! the component's parser: its own turns, and how they follow M's -/
/-- what a symbol consists of at place a -/
def xe_l (K : Nat → Nat) (a s : Nat) : Option pm_L :=
  if s = 40 then (if K a = 7 then some [(7, 0), (3, 0), (9, 0), (42, 0), (89, a)] else if K a = 8 then some [(8, 0), (3, 0), (3, 0), (41, 0), (9, 0), (87, a), (42, 0), (88, a)] else none)
  else if s = 41 then (if K a = 3 then some [(3, 0), (41, 0)] else some [])
  else if s = 42 then (if K a = 4 then some [(4, 0), (3, 0), (5, 0), (85, a), (42, 0), (86, a)] else if K a = 12 then some [(12, 0), (42, 0), (13, 0), (42, 0), (14, 0), (42, 0), (84, a)] else some [(55, 0), (54, 0), (53, 0), (52, 0), (51, 0), (50, 0)])
  else if s = 43 then (if K a = 16 then some [(16, 0), (81, a)] else some [(42, 0), (44, 0)])
  else if s = 44 then (if K a = 17 then some [(17, 0), (42, 0), (16, 0), (83, a)] else some [(16, 0)])
  else if s = 45 then some [(63, 0), (62, 0), (61, 0), (60, 0)]
  else if s = 50 then (if K a = 25 then some [(25, 0), (55, 0), (54, 0), (53, 0), (52, 0), (51, 0), (50, 0), (83, a)] else some [])
  else if s = 51 then (if K a = 18 then some [(18, 0), (55, 0), (54, 0), (53, 0), (52, 0), (51, 0), (83, a)] else some [])
  else if s = 52 then (if K a = 21 then some [(21, 0), (55, 0), (54, 0), (53, 0), (83, a), (52, 0)] else some [])
  else if s = 53 then (if K a = 19 ∨ K a = 20 then some [(K a, 0), (55, 0), (54, 0), (83, a), (53, 0)] else some [])
  else if s = 54 then (if K a = 15 ∨ K a = 6 ∨ pm_alone (K a) = true then some [(55, 0), (82, a), (54, 0)] else some [])
  else if s = 55 then (if pm_alone (K a) = true then some [(K a, 0), (80, a)] else if K a = 15 then some [(15, 0), (43, 0)] else if K a = 6 then some [(6, 0), (40, 0), (10, 0), (42, 0), (11, 0), (90, a)] else none)
  else if s = 60 then (if K a = 37 then some [(37, 0), (63, 0), (62, 0), (61, 0), (60, 0), (83, a)] else some [])
  else if s = 61 then (if K a = 36 then some [(36, 0), (63, 0), (62, 0), (61, 0), (83, a)] else some [])
  else if s = 62 then (if K a = 34 ∨ K a = 23 then some [(K a, 0), (83, a), (62, 0)] else some [])
  else if s = 63 then (if K a = 15 then some [(15, 0), (45, 0), (16, 0)] else if (31 ≤ K a ∧ K a ≤ 33) ∨ K a = 35 then some [(K a, 0), (80, a)] else none)
  else none
def xe_v (K : Nat → Nat) (a : Nat) : Int32 := if K a = 99 then -1 else nI (K a)
theorem xe_v_eq {K : Nat → Nat} {a t : Nat} (h : K a = t) (ht : t < 38) : xe_v K a = nI t := by
  unfold xe_v
  rw [if_neg (by omega), h]
theorem xe_v_ne {K : Nat → Nat} {a t : Nat} (hk : K a < 38 ∨ K a = 99) (h : K a ≠ t) (ht : t < 38) : ¬ xe_v K a = nI t := by
  unfold xe_v
  by_cases c : K a = 99
  · rw [if_pos c]
    intro z
    have : nI t < 0 := by rw [← z]; decide
    exact nI_pos (by omega) this
  · rw [if_neg c]
    intro z
    exact h ((nI_eq (by omega) (by omega)).mp z)
section
variable {f_tokenCount f_accepted f_lastPlace f_openCount f_draftOpen f_symbolCount f_stepCount f_bindingCount f_waitingCount f_clashPlace f_nodeCount f_todoCount : Int32} {a_kinds a_values a_declaredSize a_declaredNodes a_draftSize a_draftNodes a_symbols a_symbolPlaces a_steps a_stepPlaces a_bindings a_boundType a_waitingTypes a_waitingFirm a_shape a_left a_right a_link a_note a_todo a_todoOther a_generalNode : Nat → Int32}
theorem xw_kind {post : Int32 → Prop} {c a : Nat} {Kt N : Nat → Nat} (hT : tk_T a_kinds a_values c Kt N) (ha : a < 100) (h : post (xe_v Kt a)) : wpX_kindAt post (nI c, f_accepted, f_lastPlace, f_openCount, f_draftOpen, f_symbolCount, f_stepCount, f_bindingCount, f_waitingCount, f_clashPlace, f_nodeCount, f_todoCount, a_kinds, a_values, a_declaredSize, a_declaredNodes, a_draftSize, a_draftNodes, a_symbols, a_symbolPlaces, a_steps, a_stepPlaces, a_bindings, a_boundType, a_waitingTypes, a_waitingFirm, a_shape, a_left, a_right, a_link, a_note, a_todo, a_todoOther, a_generalNode) (nI a) := by
  have c24 := hT.1
  unfold wpX_kindAt
  refine br_f (nI_pos (by omega)) ?_
  by_cases q : a < c
  · have t := hT.2.2 a q
    refine br_f (nI_ge q (by omega)) ⟨vp_in_nI (by omega) (by decide), ?_⟩
    rw [nI_clamp (by omega), t.1]
    unfold xe_v at h
    rw [if_neg (by omega)] at h
    exact h
  · refine br_t (nI_le (by omega) (by omega)) ?_
    unfold xe_v at h
    rw [if_pos (hT.2.1 a (by omega))] at h
    exact h
theorem xw_expect {post : SX → Prop} {h : Nat} {x y : Int32} (hh : h < 512) (hp : post (f_tokenCount, f_accepted, f_lastPlace, f_openCount, f_draftOpen, nI (h + 1), f_stepCount, f_bindingCount, f_waitingCount, f_clashPlace, f_nodeCount, f_todoCount, a_kinds, a_values, a_declaredSize, a_declaredNodes, a_draftSize, a_draftNodes, upd a_symbols h x, upd a_symbolPlaces h y, a_steps, a_stepPlaces, a_bindings, a_boundType, a_waitingTypes, a_waitingFirm, a_shape, a_left, a_right, a_link, a_note, a_todo, a_todoOther, a_generalNode)) : wpX_expect post (f_tokenCount, f_accepted, f_lastPlace, f_openCount, f_draftOpen, nI h, f_stepCount, f_bindingCount, f_waitingCount, f_clashPlace, f_nodeCount, f_todoCount, a_kinds, a_values, a_declaredSize, a_declaredNodes, a_draftSize, a_draftNodes, a_symbols, a_symbolPlaces, a_steps, a_stepPlaces, a_bindings, a_boundType, a_waitingTypes, a_waitingFirm, a_shape, a_left, a_right, a_link, a_note, a_todo, a_todoOther, a_generalNode) x y := by
  have e : (nI h).toNatClampNeg = h := nI_clamp (by omega)
  have hi : vp_in (nI h) 512 := vp_in_nI hh (by decide)
  refine br_f (nI_ge (b := 512) hh (by decide)) ⟨hi, ?_⟩
  rw [e]
  exact nm_e ⟨hi, nm_e (nm_r (nI_1 h) hp)⟩
/-- put (s, p) before all that waits -/
theorem xw_exp {post : SX → Prop} {s p : Nat} {ss : pm_L} (hh : ss.length < 512) (hst : st_2 a_symbols a_symbolPlaces ss) (hp : ∀ sy pl, st_2 sy pl ((s, p) :: ss) → post (f_tokenCount, f_accepted, f_lastPlace, f_openCount, f_draftOpen, nI ((s, p) :: ss).length, f_stepCount, f_bindingCount, f_waitingCount, f_clashPlace, f_nodeCount, f_todoCount, a_kinds, a_values, a_declaredSize, a_declaredNodes, a_draftSize, a_draftNodes, sy, pl, a_steps, a_stepPlaces, a_bindings, a_boundType, a_waitingTypes, a_waitingFirm, a_shape, a_left, a_right, a_link, a_note, a_todo, a_todoOther, a_generalNode)) : wpX_expect post (f_tokenCount, f_accepted, f_lastPlace, f_openCount, f_draftOpen, nI ss.length, f_stepCount, f_bindingCount, f_waitingCount, f_clashPlace, f_nodeCount, f_todoCount, a_kinds, a_values, a_declaredSize, a_declaredNodes, a_draftSize, a_draftNodes, a_symbols, a_symbolPlaces, a_steps, a_stepPlaces, a_bindings, a_boundType, a_waitingTypes, a_waitingFirm, a_shape, a_left, a_right, a_link, a_note, a_todo, a_todoOther, a_generalNode) (nI s) (nI p) :=
  xw_expect hh (hp _ _ (st_2p hst))
theorem xw_range {post : SX → Prop} : ∀ (d f : Nat) (ss : pm_L) (sy pl : Nat → Int32), f + d < 100 → ss.length + d + 1 < 512 → st_2 sy pl ss → (∀ sy pl, st_2 sy pl (((List.range (d + 1)).map (fun i => (f + d - i, 0))) ++ ss) → post (f_tokenCount, f_accepted, f_lastPlace, f_openCount, f_draftOpen, nI (((List.range (d + 1)).map (fun i => (f + d - i, 0))) ++ ss).length, f_stepCount, f_bindingCount, f_waitingCount, f_clashPlace, f_nodeCount, f_todoCount, a_kinds, a_values, a_declaredSize, a_declaredNodes, a_draftSize, a_draftNodes, sy, pl, a_steps, a_stepPlaces, a_bindings, a_boundType, a_waitingTypes, a_waitingFirm, a_shape, a_left, a_right, a_link, a_note, a_todo, a_todoOther, a_generalNode)) → wX_expectRange_2 post (nI (f + d)) (d + 2) (nI f) f_tokenCount f_accepted f_lastPlace f_openCount f_draftOpen (nI ss.length) f_stepCount f_bindingCount f_waitingCount f_clashPlace f_nodeCount f_todoCount a_kinds a_values a_declaredSize a_declaredNodes a_draftSize a_draftNodes sy pl a_steps a_stepPlaces a_bindings a_boundType a_waitingTypes a_waitingFirm a_shape a_left a_right a_link a_note a_todo a_todoOther a_generalNode := by
  intro d
  induction d with
  | zero =>
    intro f ss sy pl hf hl hst h
    refine br_f (nI_nlt (by omega) (by omega)) ?_
    refine xw_exp (p := 0) (by omega) hst (fun sy pl hst' => nm_r (nI_1 f) ?_)
    exact br_t (nI_lt (by omega) (by omega)) (h sy pl hst')
  | succ d ih =>
    intro f ss sy pl hf hl hst h
    refine br_f (nI_nlt (by omega) (by omega)) ?_
    refine xw_exp (p := 0) (by omega) hst (fun sy pl hst' => nm_r (nI_1 f) ?_)
    have e1 : f + (d + 1) = f + 1 + d := by omega
    rw [e1]
    refine ih (f + 1) ((f, 0) :: ss) sy pl (by omega) (by rw [List.length_cons]; omega) hst' (fun sy pl hst2 => ?_)
    have e2 : ((List.range (d + 1)).map (fun i => (f + 1 + d - i, 0))) ++ (f, 0) :: ss = ((List.range (d + 1 + 1)).map (fun i => (f + (d + 1) - i, 0))) ++ ss := by
      rw [List.range_succ (n := d + 1), List.map_append, List.append_assoc, e1]
      congr 1
      simp
      omega
    rw [e2] at hst2 ⊢
    exact h sy pl hst2
theorem xw_alone {post : Int32 → Prop} {a : Nat} {Kt : Nat → Nat} (hk : Kt a < 38 ∨ Kt a = 99) (h : post (if pm_alone (Kt a) = true then 1 else 0)) : wpX_isAtomAlone post (f_tokenCount, f_accepted, f_lastPlace, f_openCount, f_draftOpen, f_symbolCount, f_stepCount, f_bindingCount, f_waitingCount, f_clashPlace, f_nodeCount, f_todoCount, a_kinds, a_values, a_declaredSize, a_declaredNodes, a_draftSize, a_draftNodes, a_symbols, a_symbolPlaces, a_steps, a_stepPlaces, a_bindings, a_boundType, a_waitingTypes, a_waitingFirm, a_shape, a_left, a_right, a_link, a_note, a_todo, a_todoOther, a_generalNode) (xe_v Kt a) := by
  unfold wpX_isAtomAlone
  by_cases k99 : Kt a = 99
  · have e : xe_v Kt a = -1 := if_pos k99
    rw [e]
    rw [k99] at h
    exact br_t (by decide) h
  · rw [xe_v_eq rfl (by omega)]
    generalize Kt a = t at *
    refine br_f (nI_pos (by omega)) ?_
    by_cases k30 : 30 < t
    · refine br_t (nI_lt (a := 30) k30 (by omega)) ?_
      have e : pm_alone t = false := by unfold pm_alone; simp; omega
      rw [e] at h
      exact h
    · refine br_f (nI_nlt (a := 30) (by omega) (by omega)) ?_
      have ht : t = 0 ∨ t = 1 ∨ t = 2 ∨ t = 3 ∨ t = 4 ∨ t = 5 ∨ t = 6 ∨ t = 7 ∨ t = 8 ∨ t = 9 ∨ t = 10 ∨ t = 11 ∨ t = 12 ∨ t = 13 ∨ t = 14 ∨ t = 15 ∨ t = 16 ∨ t = 17 ∨ t = 18 ∨ t = 19 ∨ t = 20 ∨ t = 21 ∨ t = 22 ∨ t = 23 ∨ t = 24 ∨ t = 25 ∨ t = 26 ∨ t = 27 ∨ t = 28 ∨ t = 29 ∨ t = 30 := by omega
      rcases ht with rfl | rfl | rfl | rfl | rfl | rfl | rfl | rfl | rfl | rfl | rfl | rfl | rfl | rfl | rfl | rfl | rfl | rfl | rfl | rfl | rfl | rfl | rfl | rfl | rfl | rfl | rfl | rfl | rfl | rfl | rfl
      · exact br_t rfl h
      · exact br_f (by decide) (br_t rfl h)
      · exact br_f (by decide) (br_f (by decide) (br_t rfl h))
      · exact br_f (by decide) (br_f (by decide) (br_f (by decide) (br_t rfl h)))
      · exact br_f (by decide) (br_f (by decide) (br_f (by decide) (br_f (by decide) (br_t rfl h))))
      · exact br_f (by decide) (br_f (by decide) (br_f (by decide) (br_f (by decide) (br_f (by decide) (br_t rfl h)))))
      · exact br_f (by decide) (br_f (by decide) (br_f (by decide) (br_f (by decide) (br_f (by decide) (br_f (by decide) (br_t rfl h))))))
      · exact br_f (by decide) (br_f (by decide) (br_f (by decide) (br_f (by decide) (br_f (by decide) (br_f (by decide) (br_f (by decide) (br_t rfl h)))))))
      · exact br_f (by decide) (br_f (by decide) (br_f (by decide) (br_f (by decide) (br_f (by decide) (br_f (by decide) (br_f (by decide) (br_f (by decide) (br_t rfl h))))))))
      · exact br_f (by decide) (br_f (by decide) (br_f (by decide) (br_f (by decide) (br_f (by decide) (br_f (by decide) (br_f (by decide) (br_f (by decide) (br_f (by decide) (br_t rfl h)))))))))
      · exact br_f (by decide) (br_f (by decide) (br_f (by decide) (br_f (by decide) (br_f (by decide) (br_f (by decide) (br_f (by decide) (br_f (by decide) (br_f (by decide) (br_f (by decide) (br_t rfl h))))))))))
      · exact br_f (by decide) (br_f (by decide) (br_f (by decide) (br_f (by decide) (br_f (by decide) (br_f (by decide) (br_f (by decide) (br_f (by decide) (br_f (by decide) (br_f (by decide) (br_f (by decide) (br_t rfl h)))))))))))
      · exact br_f (by decide) (br_f (by decide) (br_f (by decide) (br_f (by decide) (br_f (by decide) (br_f (by decide) (br_f (by decide) (br_f (by decide) (br_f (by decide) (br_f (by decide) (br_f (by decide) (br_f (by decide) (br_t rfl h))))))))))))
      · exact br_f (by decide) (br_f (by decide) (br_f (by decide) (br_f (by decide) (br_f (by decide) (br_f (by decide) (br_f (by decide) (br_f (by decide) (br_f (by decide) (br_f (by decide) (br_f (by decide) (br_f (by decide) (br_f (by decide) (br_t rfl h)))))))))))))
      · exact br_f (by decide) (br_f (by decide) (br_f (by decide) (br_f (by decide) (br_f (by decide) (br_f (by decide) (br_f (by decide) (br_f (by decide) (br_f (by decide) (br_f (by decide) (br_f (by decide) (br_f (by decide) (br_f (by decide) (br_f (by decide) (br_t rfl h))))))))))))))
      · exact br_f (by decide) (br_f (by decide) (br_f (by decide) (br_f (by decide) (br_f (by decide) (br_f (by decide) (br_f (by decide) (br_f (by decide) (br_f (by decide) (br_f (by decide) (br_f (by decide) (br_f (by decide) (br_f (by decide) (br_f (by decide) (br_f (by decide) (br_t rfl h)))))))))))))))
      · exact br_f (by decide) (br_f (by decide) (br_f (by decide) (br_f (by decide) (br_f (by decide) (br_f (by decide) (br_f (by decide) (br_f (by decide) (br_f (by decide) (br_f (by decide) (br_f (by decide) (br_f (by decide) (br_f (by decide) (br_f (by decide) (br_f (by decide) (br_f (by decide) (br_t rfl h))))))))))))))))
      · exact br_f (by decide) (br_f (by decide) (br_f (by decide) (br_f (by decide) (br_f (by decide) (br_f (by decide) (br_f (by decide) (br_f (by decide) (br_f (by decide) (br_f (by decide) (br_f (by decide) (br_f (by decide) (br_f (by decide) (br_f (by decide) (br_f (by decide) (br_f (by decide) (br_f (by decide) (br_t rfl h)))))))))))))))))
      · exact br_f (by decide) (br_f (by decide) (br_f (by decide) (br_f (by decide) (br_f (by decide) (br_f (by decide) (br_f (by decide) (br_f (by decide) (br_f (by decide) (br_f (by decide) (br_f (by decide) (br_f (by decide) (br_f (by decide) (br_f (by decide) (br_f (by decide) (br_f (by decide) (br_f (by decide) (br_f (by decide) (br_t rfl h))))))))))))))))))
      · exact br_f (by decide) (br_f (by decide) (br_f (by decide) (br_f (by decide) (br_f (by decide) (br_f (by decide) (br_f (by decide) (br_f (by decide) (br_f (by decide) (br_f (by decide) (br_f (by decide) (br_f (by decide) (br_f (by decide) (br_f (by decide) (br_f (by decide) (br_f (by decide) (br_f (by decide) (br_f (by decide) (br_f (by decide) (br_t rfl h)))))))))))))))))))
      · exact br_f (by decide) (br_f (by decide) (br_f (by decide) (br_f (by decide) (br_f (by decide) (br_f (by decide) (br_f (by decide) (br_f (by decide) (br_f (by decide) (br_f (by decide) (br_f (by decide) (br_f (by decide) (br_f (by decide) (br_f (by decide) (br_f (by decide) (br_f (by decide) (br_f (by decide) (br_f (by decide) (br_f (by decide) (br_f (by decide) (br_t rfl h))))))))))))))))))))
      · exact br_f (by decide) (br_f (by decide) (br_f (by decide) (br_f (by decide) (br_f (by decide) (br_f (by decide) (br_f (by decide) (br_f (by decide) (br_f (by decide) (br_f (by decide) (br_f (by decide) (br_f (by decide) (br_f (by decide) (br_f (by decide) (br_f (by decide) (br_f (by decide) (br_f (by decide) (br_f (by decide) (br_f (by decide) (br_f (by decide) (br_f (by decide) (br_t rfl h)))))))))))))))))))))
      · exact br_f (by decide) (br_f (by decide) (br_f (by decide) (br_f (by decide) (br_f (by decide) (br_f (by decide) (br_f (by decide) (br_f (by decide) (br_f (by decide) (br_f (by decide) (br_f (by decide) (br_f (by decide) (br_f (by decide) (br_f (by decide) (br_f (by decide) (br_f (by decide) (br_f (by decide) (br_f (by decide) (br_f (by decide) (br_f (by decide) (br_f (by decide) (br_f (by decide) (br_t rfl h))))))))))))))))))))))
      · exact br_f (by decide) (br_f (by decide) (br_f (by decide) (br_f (by decide) (br_f (by decide) (br_f (by decide) (br_f (by decide) (br_f (by decide) (br_f (by decide) (br_f (by decide) (br_f (by decide) (br_f (by decide) (br_f (by decide) (br_f (by decide) (br_f (by decide) (br_f (by decide) (br_f (by decide) (br_f (by decide) (br_f (by decide) (br_f (by decide) (br_f (by decide) (br_f (by decide) (br_f (by decide) (br_t rfl h)))))))))))))))))))))))
      · exact br_f (by decide) (br_f (by decide) (br_f (by decide) (br_f (by decide) (br_f (by decide) (br_f (by decide) (br_f (by decide) (br_f (by decide) (br_f (by decide) (br_f (by decide) (br_f (by decide) (br_f (by decide) (br_f (by decide) (br_f (by decide) (br_f (by decide) (br_f (by decide) (br_f (by decide) (br_f (by decide) (br_f (by decide) (br_f (by decide) (br_f (by decide) (br_f (by decide) (br_f (by decide) (br_f (by decide) (br_t rfl h))))))))))))))))))))))))
      · exact br_f (by decide) (br_f (by decide) (br_f (by decide) (br_f (by decide) (br_f (by decide) (br_f (by decide) (br_f (by decide) (br_f (by decide) (br_f (by decide) (br_f (by decide) (br_f (by decide) (br_f (by decide) (br_f (by decide) (br_f (by decide) (br_f (by decide) (br_f (by decide) (br_f (by decide) (br_f (by decide) (br_f (by decide) (br_f (by decide) (br_f (by decide) (br_f (by decide) (br_f (by decide) (br_f (by decide) (br_f (by decide) (br_t rfl h)))))))))))))))))))))))))
      · exact br_f (by decide) (br_f (by decide) (br_f (by decide) (br_f (by decide) (br_f (by decide) (br_f (by decide) (br_f (by decide) (br_f (by decide) (br_f (by decide) (br_f (by decide) (br_f (by decide) (br_f (by decide) (br_f (by decide) (br_f (by decide) (br_f (by decide) (br_f (by decide) (br_f (by decide) (br_f (by decide) (br_f (by decide) (br_f (by decide) (br_f (by decide) (br_f (by decide) (br_f (by decide) (br_f (by decide) (br_f (by decide) (br_f (by decide) (br_t rfl h))))))))))))))))))))))))))
      · exact br_f (by decide) (br_f (by decide) (br_f (by decide) (br_f (by decide) (br_f (by decide) (br_f (by decide) (br_f (by decide) (br_f (by decide) (br_f (by decide) (br_f (by decide) (br_f (by decide) (br_f (by decide) (br_f (by decide) (br_f (by decide) (br_f (by decide) (br_f (by decide) (br_f (by decide) (br_f (by decide) (br_f (by decide) (br_f (by decide) (br_f (by decide) (br_f (by decide) (br_f (by decide) (br_f (by decide) (br_f (by decide) (br_f (by decide) (br_f (by decide) (br_t rfl h)))))))))))))))))))))))))))
      · exact br_f (by decide) (br_f (by decide) (br_f (by decide) (br_f (by decide) (br_f (by decide) (br_f (by decide) (br_f (by decide) (br_f (by decide) (br_f (by decide) (br_f (by decide) (br_f (by decide) (br_f (by decide) (br_f (by decide) (br_f (by decide) (br_f (by decide) (br_f (by decide) (br_f (by decide) (br_f (by decide) (br_f (by decide) (br_f (by decide) (br_f (by decide) (br_f (by decide) (br_f (by decide) (br_f (by decide) (br_f (by decide) (br_f (by decide) (br_f (by decide) (br_f (by decide) (br_t rfl h))))))))))))))))))))))))))))
      · exact br_f (by decide) (br_f (by decide) (br_f (by decide) (br_f (by decide) (br_f (by decide) (br_f (by decide) (br_f (by decide) (br_f (by decide) (br_f (by decide) (br_f (by decide) (br_f (by decide) (br_f (by decide) (br_f (by decide) (br_f (by decide) (br_f (by decide) (br_f (by decide) (br_f (by decide) (br_f (by decide) (br_f (by decide) (br_f (by decide) (br_f (by decide) (br_f (by decide) (br_f (by decide) (br_f (by decide) (br_f (by decide) (br_f (by decide) (br_f (by decide) (br_f (by decide) (br_f (by decide) (br_t rfl h)))))))))))))))))))))))))))))
      · exact br_f (by decide) (br_f (by decide) (br_f (by decide) (br_f (by decide) (br_f (by decide) (br_f (by decide) (br_f (by decide) (br_f (by decide) (br_f (by decide) (br_f (by decide) (br_f (by decide) (br_f (by decide) (br_f (by decide) (br_f (by decide) (br_f (by decide) (br_f (by decide) (br_f (by decide) (br_f (by decide) (br_f (by decide) (br_f (by decide) (br_f (by decide) (br_f (by decide) (br_f (by decide) (br_f (by decide) (br_f (by decide) (br_f (by decide) (br_f (by decide) (br_f (by decide) (br_f (by decide) (br_f (by decide) (br_t rfl h))))))))))))))))))))))))))))))
end
end
section
/-! the component's expand -/
section
variable {f_tokenCount f_accepted f_lastPlace f_openCount f_draftOpen f_symbolCount f_stepCount f_bindingCount f_waitingCount f_clashPlace f_nodeCount f_todoCount : Int32} {a_kinds a_values a_declaredSize a_declaredNodes a_draftSize a_draftNodes a_symbols a_symbolPlaces a_steps a_stepPlaces a_bindings a_boundType a_waitingTypes a_waitingFirm a_shape a_left a_right a_link a_note a_todo a_todoOther a_generalNode : Nat → Int32}
theorem xw_expand {post : Int32 → SX → Prop} {c a s : Nat} {Kt N : Nat → Nat} {ss : pm_L} (hT : tk_T a_kinds a_values c Kt N) (ha : a < 100) (hst : st_2 a_symbols a_symbolPlaces ss) (hlen : ss.length + 10 < 512) (hs : s = 40 ∨ s = 41 ∨ s = 42 ∨ s = 43 ∨ s = 44 ∨ s = 45 ∨ s = 50 ∨ s = 51 ∨ s = 52 ∨ s = 53 ∨ s = 54 ∨ s = 55 ∨ s = 60 ∨ s = 61 ∨ s = 62 ∨ s = 63)
    (h1 : ∀ l, xe_l Kt a s = some l → ∀ sy pl, st_2 sy pl (l ++ ss) → post 1 (nI c, f_accepted, f_lastPlace, f_openCount, f_draftOpen, nI (l ++ ss).length, f_stepCount, f_bindingCount, f_waitingCount, f_clashPlace, f_nodeCount, f_todoCount, a_kinds, a_values, a_declaredSize, a_declaredNodes, a_draftSize, a_draftNodes, sy, pl, a_steps, a_stepPlaces, a_bindings, a_boundType, a_waitingTypes, a_waitingFirm, a_shape, a_left, a_right, a_link, a_note, a_todo, a_todoOther, a_generalNode))
    (h0 : xe_l Kt a s = none → post 0 (nI c, f_accepted, f_lastPlace, f_openCount, f_draftOpen, nI ss.length, f_stepCount, f_bindingCount, f_waitingCount, f_clashPlace, f_nodeCount, f_todoCount, a_kinds, a_values, a_declaredSize, a_declaredNodes, a_draftSize, a_draftNodes, a_symbols, a_symbolPlaces, a_steps, a_stepPlaces, a_bindings, a_boundType, a_waitingTypes, a_waitingFirm, a_shape, a_left, a_right, a_link, a_note, a_todo, a_todoOther, a_generalNode)) : wpX_expand post (nI c, f_accepted, f_lastPlace, f_openCount, f_draftOpen, nI ss.length, f_stepCount, f_bindingCount, f_waitingCount, f_clashPlace, f_nodeCount, f_todoCount, a_kinds, a_values, a_declaredSize, a_declaredNodes, a_draftSize, a_draftNodes, a_symbols, a_symbolPlaces, a_steps, a_stepPlaces, a_bindings, a_boundType, a_waitingTypes, a_waitingFirm, a_shape, a_left, a_right, a_link, a_note, a_todo, a_todoOther, a_generalNode) (nI s) (nI a) := by
  have hk : Kt a < 38 ∨ Kt a = 99 := by
    by_cases q : a < c
    · exact Or.inl (hT.2.2 a q).2.1
    · exact Or.inr (hT.2.1 a (by omega))
  unfold wpX_expand
  refine xw_kind hT ha ?_
  rcases hs with rfl | rfl | rfl | rfl | rfl | rfl | rfl | rfl | rfl | rfl | rfl | rfl | rfl | rfl | rfl | rfl
  · refine br_f (by decide) (br_f (by decide) (br_t rfl ?_))
    unfold wpX_expandDecl
    by_cases k1 : Kt a = 7
    · rw [xe_v_eq k1 (by decide)]
      refine br_t rfl ?_
      refine xw_exp (s := 89) (p := a) (by first | omega | (simp only [List.length_cons, List.length_append, List.length_nil]; omega)) hst (fun sy pl hst => ?_)
      refine xw_exp (s := 42) (p := 0) (by first | omega | (simp only [List.length_cons, List.length_append, List.length_nil]; omega)) hst (fun sy pl hst => ?_)
      refine xw_exp (s := 9) (p := 0) (by first | omega | (simp only [List.length_cons, List.length_append, List.length_nil]; omega)) hst (fun sy pl hst => ?_)
      unfold wX_expandDecl_82
      refine xw_exp (s := 3) (p := 0) (by first | omega | (simp only [List.length_cons, List.length_append, List.length_nil]; omega)) hst (fun sy pl hst => ?_)
      refine xw_exp (s := 7) (p := 0) (by first | omega | (simp only [List.length_cons, List.length_append, List.length_nil]; omega)) hst (fun sy pl hst => ?_)
      exact ⟨rfl, h1 [(7, 0), (3, 0), (9, 0), (42, 0), (89, a)] (by simp [xe_l, k1]) sy pl hst⟩
    · refine br_f (xe_v_ne hk k1 (by decide)) ?_
      by_cases k2 : Kt a = 8
      · rw [xe_v_eq k2 (by decide)]
        refine br_t rfl ?_
        refine xw_exp (s := 88) (p := a) (by first | omega | (simp only [List.length_cons, List.length_append, List.length_nil]; omega)) hst (fun sy pl hst => ?_)
        refine xw_exp (s := 42) (p := 0) (by first | omega | (simp only [List.length_cons, List.length_append, List.length_nil]; omega)) hst (fun sy pl hst => ?_)
        refine xw_exp (s := 87) (p := a) (by first | omega | (simp only [List.length_cons, List.length_append, List.length_nil]; omega)) hst (fun sy pl hst => ?_)
        refine xw_exp (s := 9) (p := 0) (by first | omega | (simp only [List.length_cons, List.length_append, List.length_nil]; omega)) hst (fun sy pl hst => ?_)
        refine xw_exp (s := 41) (p := 0) (by first | omega | (simp only [List.length_cons, List.length_append, List.length_nil]; omega)) hst (fun sy pl hst => ?_)
        refine xw_exp (s := 3) (p := 0) (by first | omega | (simp only [List.length_cons, List.length_append, List.length_nil]; omega)) hst (fun sy pl hst => ?_)
        unfold wX_expandDecl_82
        refine xw_exp (s := 3) (p := 0) (by first | omega | (simp only [List.length_cons, List.length_append, List.length_nil]; omega)) hst (fun sy pl hst => ?_)
        refine xw_exp (s := 8) (p := 0) (by first | omega | (simp only [List.length_cons, List.length_append, List.length_nil]; omega)) hst (fun sy pl hst => ?_)
        exact ⟨rfl, h1 [(8, 0), (3, 0), (3, 0), (41, 0), (9, 0), (87, a), (42, 0), (88, a)] (by simp [xe_l, k2]) sy pl hst⟩
      · refine br_f (xe_v_ne hk k2 (by decide)) ?_
        exact ⟨rfl, h0 (by simp [xe_l, k1, k2])⟩
  · refine br_f (by decide) (br_f (by decide) (br_f (by decide) (br_t rfl ?_)))
    by_cases k1 : Kt a = 3
    · rw [xe_v_eq k1 (by decide)]
      refine br_t rfl ?_
      refine xw_exp (s := 41) (p := 0) (by first | omega | (simp only [List.length_cons, List.length_append, List.length_nil]; omega)) hst (fun sy pl hst => ?_)
      refine xw_exp (s := 3) (p := 0) (by first | omega | (simp only [List.length_cons, List.length_append, List.length_nil]; omega)) hst (fun sy pl hst => ?_)
      exact h1 [(3, 0), (41, 0)] (by simp [xe_l, k1]) sy pl hst
    · refine br_f (xe_v_ne hk k1 (by decide)) ?_
      exact h1 [] (by simp [xe_l, k1]) _ _ hst
  · refine br_f (by decide) (br_f (by decide) (br_f (by decide) (br_f (by decide) (br_t rfl ?_))))
    unfold wpX_expandExpr
    by_cases k1 : Kt a = 4
    · rw [xe_v_eq k1 (by decide)]
      refine br_t rfl ?_
      refine xw_exp (s := 86) (p := a) (by first | omega | (simp only [List.length_cons, List.length_append, List.length_nil]; omega)) hst (fun sy pl hst => ?_)
      refine xw_exp (s := 42) (p := 0) (by first | omega | (simp only [List.length_cons, List.length_append, List.length_nil]; omega)) hst (fun sy pl hst => ?_)
      refine xw_exp (s := 85) (p := a) (by first | omega | (simp only [List.length_cons, List.length_append, List.length_nil]; omega)) hst (fun sy pl hst => ?_)
      refine xw_exp (s := 5) (p := 0) (by first | omega | (simp only [List.length_cons, List.length_append, List.length_nil]; omega)) hst (fun sy pl hst => ?_)
      refine xw_exp (s := 3) (p := 0) (by first | omega | (simp only [List.length_cons, List.length_append, List.length_nil]; omega)) hst (fun sy pl hst => ?_)
      refine xw_exp (s := 4) (p := 0) (by first | omega | (simp only [List.length_cons, List.length_append, List.length_nil]; omega)) hst (fun sy pl hst => ?_)
      exact h1 [(4, 0), (3, 0), (5, 0), (85, a), (42, 0), (86, a)] (by simp [xe_l, k1]) sy pl hst
    · refine br_f (xe_v_ne hk k1 (by decide)) ?_
      by_cases k2 : Kt a = 12
      · rw [xe_v_eq k2 (by decide)]
        refine br_t rfl ?_
        refine xw_exp (s := 84) (p := a) (by first | omega | (simp only [List.length_cons, List.length_append, List.length_nil]; omega)) hst (fun sy pl hst => ?_)
        refine xw_exp (s := 42) (p := 0) (by first | omega | (simp only [List.length_cons, List.length_append, List.length_nil]; omega)) hst (fun sy pl hst => ?_)
        refine xw_exp (s := 14) (p := 0) (by first | omega | (simp only [List.length_cons, List.length_append, List.length_nil]; omega)) hst (fun sy pl hst => ?_)
        refine xw_exp (s := 42) (p := 0) (by first | omega | (simp only [List.length_cons, List.length_append, List.length_nil]; omega)) hst (fun sy pl hst => ?_)
        refine xw_exp (s := 13) (p := 0) (by first | omega | (simp only [List.length_cons, List.length_append, List.length_nil]; omega)) hst (fun sy pl hst => ?_)
        refine xw_exp (s := 42) (p := 0) (by first | omega | (simp only [List.length_cons, List.length_append, List.length_nil]; omega)) hst (fun sy pl hst => ?_)
        refine xw_exp (s := 12) (p := 0) (by first | omega | (simp only [List.length_cons, List.length_append, List.length_nil]; omega)) hst (fun sy pl hst => ?_)
        exact h1 [(12, 0), (42, 0), (13, 0), (42, 0), (14, 0), (42, 0), (84, a)] (by simp [xe_l, k2]) sy pl hst
      · refine br_f (xe_v_ne hk k2 (by decide)) ?_
        unfold wpX_expectRange
        refine ⟨7, ?_⟩
        refine xw_range 5 50 _ _ _ (by omega) (by first | omega | (simp only [List.length_cons, List.length_append, List.length_nil]; omega)) hst (fun sy pl hst => ?_)
        have er : (List.range (5 + 1)).map (fun i => ((50 : Nat) + 5 - i, (0 : Nat))) = [(55, 0), (54, 0), (53, 0), (52, 0), (51, 0), (50, 0)] := by decide
        rw [er] at hst ⊢
        exact h1 [(55, 0), (54, 0), (53, 0), (52, 0), (51, 0), (50, 0)] (by simp [xe_l, k1, k2]) sy pl hst
  · refine br_f (by decide) (br_f (by decide) (br_f (by decide) (br_f (by decide) (br_f (by decide) (br_t rfl ?_)))))
    unfold wX_expand_158 wpX_expandBrackets
    refine br_t rfl ?_
    by_cases k1 : Kt a = 16
    · rw [xe_v_eq k1 (by decide)]
      refine br_t rfl ?_
      refine xw_exp (s := 81) (p := a) (by first | omega | (simp only [List.length_cons, List.length_append, List.length_nil]; omega)) hst (fun sy pl hst => ?_)
      refine xw_exp (s := 16) (p := 0) (by first | omega | (simp only [List.length_cons, List.length_append, List.length_nil]; omega)) hst (fun sy pl hst => ?_)
      exact h1 [(16, 0), (81, a)] (by simp [xe_l, k1]) sy pl hst
    · refine br_f (xe_v_ne hk k1 (by decide)) ?_
      unfold wX_expandBrackets_29
      refine br_t rfl ?_
      refine xw_exp (s := 44) (p := 0) (by first | omega | (simp only [List.length_cons, List.length_append, List.length_nil]; omega)) hst (fun sy pl hst => ?_)
      refine xw_exp (s := 42) (p := 0) (by first | omega | (simp only [List.length_cons, List.length_append, List.length_nil]; omega)) hst (fun sy pl hst => ?_)
      exact h1 [(42, 0), (44, 0)] (by simp [xe_l, k1]) sy pl hst
  · refine br_f (by decide) (br_f (by decide) (br_f (by decide) (br_f (by decide) (br_f (by decide) (br_f (by decide) (br_t rfl ?_))))))
    unfold wX_expand_158 wpX_expandBrackets
    refine br_f (by decide) ?_
    unfold wX_expandBrackets_29
    refine br_f (by decide) ?_
    by_cases k1 : Kt a = 17
    · rw [xe_v_eq k1 (by decide)]
      refine br_t rfl ?_
      refine xw_exp (s := 83) (p := a) (by first | omega | (simp only [List.length_cons, List.length_append, List.length_nil]; omega)) hst (fun sy pl hst => ?_)
      refine xw_exp (s := 16) (p := 0) (by first | omega | (simp only [List.length_cons, List.length_append, List.length_nil]; omega)) hst (fun sy pl hst => ?_)
      refine xw_exp (s := 42) (p := 0) (by first | omega | (simp only [List.length_cons, List.length_append, List.length_nil]; omega)) hst (fun sy pl hst => ?_)
      refine xw_exp (s := 17) (p := 0) (by first | omega | (simp only [List.length_cons, List.length_append, List.length_nil]; omega)) hst (fun sy pl hst => ?_)
      exact h1 [(17, 0), (42, 0), (16, 0), (83, a)] (by simp [xe_l, k1]) sy pl hst
    · refine br_f (xe_v_ne hk k1 (by decide)) ?_
      refine xw_exp (s := 16) (p := 0) (by first | omega | (simp only [List.length_cons, List.length_append, List.length_nil]; omega)) hst (fun sy pl hst => ?_)
      exact h1 [(16, 0)] (by simp [xe_l, k1]) sy pl hst
  · refine br_f (by decide) (br_f (by decide) (br_f (by decide) (br_f (by decide) (br_f (by decide) (br_f (by decide) (br_f (by decide) (br_t rfl ?_)))))))
    unfold wpX_expectRange
    refine ⟨5, ?_⟩
    refine xw_range 3 60 _ _ _ (by omega) (by first | omega | (simp only [List.length_cons, List.length_append, List.length_nil]; omega)) hst (fun sy pl hst => ?_)
    have er : (List.range (3 + 1)).map (fun i => ((60 : Nat) + 3 - i, (0 : Nat))) = [(63, 0), (62, 0), (61, 0), (60, 0)] := by decide
    rw [er] at hst ⊢
    exact h1 [(63, 0), (62, 0), (61, 0), (60, 0)] (by simp [xe_l]) sy pl hst
  · refine br_f (by decide) (br_f (by decide) (br_f (by decide) (br_f (by decide) (br_f (by decide) (br_f (by decide) (br_f (by decide) (br_f (by decide) (br_f (by decide) (br_f (by decide) (br_f (by decide) (br_f (by decide) (br_t rfl ?_))))))))))))
    unfold wX_expand_193 wpX_expandTail
    refine br_t rfl ?_
    by_cases k1 : Kt a = 25
    · rw [xe_v_eq k1 (by decide)]
      refine br_t rfl ?_
      refine xw_exp (s := 83) (p := a) (by first | omega | (simp only [List.length_cons, List.length_append, List.length_nil]; omega)) hst (fun sy pl hst => ?_)
      unfold wpX_expectRange
      refine ⟨7, ?_⟩
      refine xw_range 5 50 _ _ _ (by omega) (by first | omega | (simp only [List.length_cons, List.length_append, List.length_nil]; omega)) hst (fun sy pl hst => ?_)
      have er : (List.range (5 + 1)).map (fun i => ((50 : Nat) + 5 - i, (0 : Nat))) = [(55, 0), (54, 0), (53, 0), (52, 0), (51, 0), (50, 0)] := by decide
      rw [er] at hst ⊢
      refine xw_exp (s := 25) (p := 0) (by first | omega | (simp only [List.length_cons, List.length_append, List.length_nil]; omega)) hst (fun sy pl hst => ?_)
      exact h1 [(25, 0), (55, 0), (54, 0), (53, 0), (52, 0), (51, 0), (50, 0), (83, a)] (by simp [xe_l, k1]) sy pl hst
    · refine br_f (xe_v_ne hk k1 (by decide)) ?_
      unfold wX_expandTail_36
      refine br_f (by decide) ?_
      unfold wX_expandTail_72
      refine br_f (by decide) ?_
      unfold wX_expandTail_115
      refine br_f (by decide) ?_
      unfold wX_expandTail_164
      refine br_f (by decide) ?_
      exact h1 [] (by simp [xe_l, k1]) _ _ hst
  · refine br_f (by decide) (br_f (by decide) (br_f (by decide) (br_f (by decide) (br_f (by decide) (br_f (by decide) (br_f (by decide) (br_f (by decide) (br_f (by decide) (br_f (by decide) (br_f (by decide) (br_f (by decide) (br_f (by decide) (br_t rfl ?_)))))))))))))
    unfold wX_expand_193 wpX_expandTail
    refine br_f (by decide) ?_
    unfold wX_expandTail_36
    refine br_t rfl ?_
    by_cases k1 : Kt a = 18
    · rw [xe_v_eq k1 (by decide)]
      refine br_t rfl ?_
      refine xw_exp (s := 83) (p := a) (by first | omega | (simp only [List.length_cons, List.length_append, List.length_nil]; omega)) hst (fun sy pl hst => ?_)
      unfold wpX_expectRange
      refine ⟨6, ?_⟩
      refine xw_range 4 51 _ _ _ (by omega) (by first | omega | (simp only [List.length_cons, List.length_append, List.length_nil]; omega)) hst (fun sy pl hst => ?_)
      have er : (List.range (4 + 1)).map (fun i => ((51 : Nat) + 4 - i, (0 : Nat))) = [(55, 0), (54, 0), (53, 0), (52, 0), (51, 0)] := by decide
      rw [er] at hst ⊢
      refine xw_exp (s := 18) (p := 0) (by first | omega | (simp only [List.length_cons, List.length_append, List.length_nil]; omega)) hst (fun sy pl hst => ?_)
      exact h1 [(18, 0), (55, 0), (54, 0), (53, 0), (52, 0), (51, 0), (83, a)] (by simp [xe_l, k1]) sy pl hst
    · refine br_f (xe_v_ne hk k1 (by decide)) ?_
      unfold wX_expandTail_72
      refine br_f (by decide) ?_
      unfold wX_expandTail_115
      refine br_f (by decide) ?_
      unfold wX_expandTail_164
      refine br_f (by decide) ?_
      exact h1 [] (by simp [xe_l, k1]) _ _ hst
  · refine br_f (by decide) (br_f (by decide) (br_f (by decide) (br_f (by decide) (br_f (by decide) (br_f (by decide) (br_f (by decide) (br_f (by decide) (br_f (by decide) (br_f (by decide) (br_f (by decide) (br_f (by decide) (br_f (by decide) (br_f (by decide) (br_t rfl ?_))))))))))))))
    unfold wX_expand_193 wpX_expandTail
    refine br_f (by decide) ?_
    unfold wX_expandTail_36
    refine br_f (by decide) ?_
    unfold wX_expandTail_72
    refine br_t rfl ?_
    by_cases k1 : Kt a = 21
    · rw [xe_v_eq k1 (by decide)]
      refine br_t rfl ?_
      refine xw_exp (s := 52) (p := 0) (by first | omega | (simp only [List.length_cons, List.length_append, List.length_nil]; omega)) hst (fun sy pl hst => ?_)
      refine xw_exp (s := 83) (p := a) (by first | omega | (simp only [List.length_cons, List.length_append, List.length_nil]; omega)) hst (fun sy pl hst => ?_)
      unfold wpX_expectRange
      refine ⟨4, ?_⟩
      refine xw_range 2 53 _ _ _ (by omega) (by first | omega | (simp only [List.length_cons, List.length_append, List.length_nil]; omega)) hst (fun sy pl hst => ?_)
      have er : (List.range (2 + 1)).map (fun i => ((53 : Nat) + 2 - i, (0 : Nat))) = [(55, 0), (54, 0), (53, 0)] := by decide
      rw [er] at hst ⊢
      refine xw_exp (s := 21) (p := 0) (by first | omega | (simp only [List.length_cons, List.length_append, List.length_nil]; omega)) hst (fun sy pl hst => ?_)
      exact h1 [(21, 0), (55, 0), (54, 0), (53, 0), (83, a), (52, 0)] (by simp [xe_l, k1]) sy pl hst
    · refine br_f (xe_v_ne hk k1 (by decide)) ?_
      unfold wX_expandTail_115
      refine br_f (by decide) ?_
      unfold wX_expandTail_164
      refine br_f (by decide) ?_
      exact h1 [] (by simp [xe_l, k1]) _ _ hst
  · refine br_f (by decide) (br_f (by decide) (br_f (by decide) (br_f (by decide) (br_f (by decide) (br_f (by decide) (br_f (by decide) (br_f (by decide) (br_f (by decide) (br_f (by decide) (br_f (by decide) (br_f (by decide) (br_f (by decide) (br_f (by decide) (br_f (by decide) (br_t rfl ?_)))))))))))))))
    unfold wX_expand_193 wpX_expandTail
    refine br_f (by decide) ?_
    unfold wX_expandTail_36
    refine br_f (by decide) ?_
    unfold wX_expandTail_72
    refine br_f (by decide) ?_
    unfold wX_expandTail_115
    refine br_t rfl ?_
    by_cases k1 : Kt a = 19
    · rw [xe_v_eq k1 (by decide)]
      refine br_t rfl ?_
      unfold wX_expandTail_133
      refine xw_exp (s := 53) (p := 0) (by first | omega | (simp only [List.length_cons, List.length_append, List.length_nil]; omega)) hst (fun sy pl hst => ?_)
      refine xw_exp (s := 83) (p := a) (by first | omega | (simp only [List.length_cons, List.length_append, List.length_nil]; omega)) hst (fun sy pl hst => ?_)
      unfold wpX_expectRange
      refine ⟨3, ?_⟩
      refine xw_range 1 54 _ _ _ (by omega) (by first | omega | (simp only [List.length_cons, List.length_append, List.length_nil]; omega)) hst (fun sy pl hst => ?_)
      have er : (List.range (1 + 1)).map (fun i => ((54 : Nat) + 1 - i, (0 : Nat))) = [(55, 0), (54, 0)] := by decide
      rw [er] at hst ⊢
      refine xw_exp (s := 19) (p := 0) (by first | omega | (simp only [List.length_cons, List.length_append, List.length_nil]; omega)) hst (fun sy pl hst => ?_)
      exact h1 [(19, 0), (55, 0), (54, 0), (83, a), (53, 0)] (by simp [xe_l, k1]) sy pl hst
    · refine br_f (xe_v_ne hk k1 (by decide)) ?_
      by_cases k2 : Kt a = 20
      · rw [xe_v_eq k2 (by decide)]
        refine br_t rfl ?_
        unfold wX_expandTail_133
        refine xw_exp (s := 53) (p := 0) (by first | omega | (simp only [List.length_cons, List.length_append, List.length_nil]; omega)) hst (fun sy pl hst => ?_)
        refine xw_exp (s := 83) (p := a) (by first | omega | (simp only [List.length_cons, List.length_append, List.length_nil]; omega)) hst (fun sy pl hst => ?_)
        unfold wpX_expectRange
        refine ⟨3, ?_⟩
        refine xw_range 1 54 _ _ _ (by omega) (by first | omega | (simp only [List.length_cons, List.length_append, List.length_nil]; omega)) hst (fun sy pl hst => ?_)
        have er : (List.range (1 + 1)).map (fun i => ((54 : Nat) + 1 - i, (0 : Nat))) = [(55, 0), (54, 0)] := by decide
        rw [er] at hst ⊢
        refine xw_exp (s := 20) (p := 0) (by first | omega | (simp only [List.length_cons, List.length_append, List.length_nil]; omega)) hst (fun sy pl hst => ?_)
        exact h1 [(20, 0), (55, 0), (54, 0), (83, a), (53, 0)] (by simp [xe_l, k2]) sy pl hst
      · refine br_f (xe_v_ne hk k2 (by decide)) ?_
        unfold wX_expandTail_164
        refine br_f (by decide) ?_
        exact h1 [] (by simp [xe_l, k1, k2]) _ _ hst
  · refine br_f (by decide) (br_f (by decide) (br_f (by decide) (br_f (by decide) (br_f (by decide) (br_f (by decide) (br_f (by decide) (br_f (by decide) (br_f (by decide) (br_f (by decide) (br_f (by decide) (br_f (by decide) (br_f (by decide) (br_f (by decide) (br_f (by decide) (br_f (by decide) (br_t rfl ?_))))))))))))))))
    unfold wX_expand_193 wpX_expandTail
    refine br_f (by decide) ?_
    unfold wX_expandTail_36
    refine br_f (by decide) ?_
    unfold wX_expandTail_72
    refine br_f (by decide) ?_
    unfold wX_expandTail_115
    refine br_f (by decide) ?_
    unfold wX_expandTail_164
    refine br_t rfl ?_
    unfold wpX_beginsAtom
    by_cases k1 : Kt a = 15
    · rw [xe_v_eq k1 (by decide)]
      refine br_t rfl ?_
      refine br_f (by decide) ?_
      refine xw_exp (s := 54) (p := 0) (by first | omega | (simp only [List.length_cons, List.length_append, List.length_nil]; omega)) hst (fun sy pl hst => ?_)
      refine xw_exp (s := 82) (p := a) (by first | omega | (simp only [List.length_cons, List.length_append, List.length_nil]; omega)) hst (fun sy pl hst => ?_)
      refine xw_exp (s := 55) (p := 0) (by first | omega | (simp only [List.length_cons, List.length_append, List.length_nil]; omega)) hst (fun sy pl hst => ?_)
      exact h1 [(55, 0), (82, a), (54, 0)] (by simp [xe_l, k1]) sy pl hst
    · refine br_f (xe_v_ne hk k1 (by decide)) ?_
      by_cases k2 : Kt a = 6
      · rw [xe_v_eq k2 (by decide)]
        refine br_t rfl ?_
        refine br_f (by decide) ?_
        refine xw_exp (s := 54) (p := 0) (by first | omega | (simp only [List.length_cons, List.length_append, List.length_nil]; omega)) hst (fun sy pl hst => ?_)
        refine xw_exp (s := 82) (p := a) (by first | omega | (simp only [List.length_cons, List.length_append, List.length_nil]; omega)) hst (fun sy pl hst => ?_)
        refine xw_exp (s := 55) (p := 0) (by first | omega | (simp only [List.length_cons, List.length_append, List.length_nil]; omega)) hst (fun sy pl hst => ?_)
        exact h1 [(55, 0), (82, a), (54, 0)] (by simp [xe_l, k2]) sy pl hst
      · refine br_f (xe_v_ne hk k2 (by decide)) ?_
        refine xw_alone hk ?_
        by_cases k3 : pm_alone (Kt a) = true
        · rw [if_pos k3]
          refine br_f (by decide) ?_
          refine br_f (by decide) ?_
          refine xw_exp (s := 54) (p := 0) (by first | omega | (simp only [List.length_cons, List.length_append, List.length_nil]; omega)) hst (fun sy pl hst => ?_)
          refine xw_exp (s := 82) (p := a) (by first | omega | (simp only [List.length_cons, List.length_append, List.length_nil]; omega)) hst (fun sy pl hst => ?_)
          refine xw_exp (s := 55) (p := 0) (by first | omega | (simp only [List.length_cons, List.length_append, List.length_nil]; omega)) hst (fun sy pl hst => ?_)
          exact h1 [(55, 0), (82, a), (54, 0)] (by simp [xe_l, k3]) sy pl hst
        · rw [if_neg k3]
          refine br_t rfl ?_
          refine br_t rfl ?_
          exact h1 [] (by simp [xe_l, k1, k2, k3]) _ _ hst
  · refine br_f (by decide) (br_f (by decide) (br_f (by decide) (br_f (by decide) (br_f (by decide) (br_f (by decide) (br_f (by decide) (br_f (by decide) (br_f (by decide) (br_f (by decide) (br_f (by decide) (br_f (by decide) (br_f (by decide) (br_f (by decide) (br_f (by decide) (br_f (by decide) (br_f (by decide) (br_t rfl ?_)))))))))))))))))
    unfold wpX_expandAtom
    refine xw_alone hk ?_
    by_cases k3 : pm_alone (Kt a) = true
    · rw [if_pos k3]
      have kl : Kt a < 38 := by
        rcases hk with z | z
        · exact z
        · rw [z] at k3; exact absurd k3 (by decide)
      rw [xe_v_eq rfl kl]
      refine br_f (by decide) ?_
      refine xw_exp (s := 80) (p := a) (by first | omega | (simp only [List.length_cons, List.length_append, List.length_nil]; omega)) hst (fun sy pl hst => ?_)
      refine xw_exp (s := Kt a) (p := 0) (by first | omega | (simp only [List.length_cons, List.length_append, List.length_nil]; omega)) hst (fun sy pl hst => ?_)
      exact ⟨rfl, h1 [(Kt a, 0), (80, a)] (by simp [xe_l, k3]) sy pl hst⟩
    · rw [if_neg k3]
      refine br_t rfl ?_
      by_cases k1 : Kt a = 15
      · rw [xe_v_eq k1 (by decide)]
        refine br_t rfl ?_
        refine xw_exp (s := 43) (p := 0) (by first | omega | (simp only [List.length_cons, List.length_append, List.length_nil]; omega)) hst (fun sy pl hst => ?_)
        refine xw_exp (s := 15) (p := 0) (by first | omega | (simp only [List.length_cons, List.length_append, List.length_nil]; omega)) hst (fun sy pl hst => ?_)
        exact ⟨rfl, h1 [(15, 0), (43, 0)] (by simp [xe_l, k1, pm_alone]) sy pl hst⟩
      · refine br_f (xe_v_ne hk k1 (by decide)) ?_
        by_cases k2 : Kt a = 6
        · rw [xe_v_eq k2 (by decide)]
          refine br_t rfl ?_
          refine xw_exp (s := 90) (p := a) (by first | omega | (simp only [List.length_cons, List.length_append, List.length_nil]; omega)) hst (fun sy pl hst => ?_)
          refine xw_exp (s := 11) (p := 0) (by first | omega | (simp only [List.length_cons, List.length_append, List.length_nil]; omega)) hst (fun sy pl hst => ?_)
          refine xw_exp (s := 42) (p := 0) (by first | omega | (simp only [List.length_cons, List.length_append, List.length_nil]; omega)) hst (fun sy pl hst => ?_)
          refine xw_exp (s := 10) (p := 0) (by first | omega | (simp only [List.length_cons, List.length_append, List.length_nil]; omega)) hst (fun sy pl hst => ?_)
          refine xw_exp (s := 40) (p := 0) (by first | omega | (simp only [List.length_cons, List.length_append, List.length_nil]; omega)) hst (fun sy pl hst => ?_)
          refine xw_exp (s := 6) (p := 0) (by first | omega | (simp only [List.length_cons, List.length_append, List.length_nil]; omega)) hst (fun sy pl hst => ?_)
          exact ⟨rfl, h1 [(6, 0), (40, 0), (10, 0), (42, 0), (11, 0), (90, a)] (by simp [xe_l, k2, pm_alone]) sy pl hst⟩
        · refine br_f (xe_v_ne hk k2 (by decide)) ?_
          exact ⟨rfl, h0 (by simp [xe_l, k1, k2, k3])⟩
  · refine br_f (by decide) (br_f (by decide) (br_f (by decide) (br_f (by decide) (br_f (by decide) (br_f (by decide) (br_f (by decide) (br_f (by decide) (br_f (by decide) (br_f (by decide) (br_f (by decide) (br_f (by decide) (br_f (by decide) (br_f (by decide) (br_f (by decide) (br_f (by decide) (br_f (by decide) (br_f (by decide) (br_f (by decide) (br_f (by decide) (br_f (by decide) (br_f (by decide) (br_t rfl ?_))))))))))))))))))))))
    unfold wX_expand_184 wpX_expandTypeTail
    refine br_t rfl ?_
    by_cases k1 : Kt a = 37
    · rw [xe_v_eq k1 (by decide)]
      refine br_t rfl ?_
      refine xw_exp (s := 83) (p := a) (by first | omega | (simp only [List.length_cons, List.length_append, List.length_nil]; omega)) hst (fun sy pl hst => ?_)
      unfold wpX_expectRange
      refine ⟨5, ?_⟩
      refine xw_range 3 60 _ _ _ (by omega) (by first | omega | (simp only [List.length_cons, List.length_append, List.length_nil]; omega)) hst (fun sy pl hst => ?_)
      have er : (List.range (3 + 1)).map (fun i => ((60 : Nat) + 3 - i, (0 : Nat))) = [(63, 0), (62, 0), (61, 0), (60, 0)] := by decide
      rw [er] at hst ⊢
      refine xw_exp (s := 37) (p := 0) (by first | omega | (simp only [List.length_cons, List.length_append, List.length_nil]; omega)) hst (fun sy pl hst => ?_)
      exact h1 [(37, 0), (63, 0), (62, 0), (61, 0), (60, 0), (83, a)] (by simp [xe_l, k1]) sy pl hst
    · refine br_f (xe_v_ne hk k1 (by decide)) ?_
      unfold wX_expandTypeTail_36
      refine br_f (by decide) ?_
      unfold wX_expandTypeTail_72
      refine br_f (by decide) ?_
      exact h1 [] (by simp [xe_l, k1]) _ _ hst
  · refine br_f (by decide) (br_f (by decide) (br_f (by decide) (br_f (by decide) (br_f (by decide) (br_f (by decide) (br_f (by decide) (br_f (by decide) (br_f (by decide) (br_f (by decide) (br_f (by decide) (br_f (by decide) (br_f (by decide) (br_f (by decide) (br_f (by decide) (br_f (by decide) (br_f (by decide) (br_f (by decide) (br_f (by decide) (br_f (by decide) (br_f (by decide) (br_f (by decide) (br_f (by decide) (br_t rfl ?_)))))))))))))))))))))))
    unfold wX_expand_184 wpX_expandTypeTail
    refine br_f (by decide) ?_
    unfold wX_expandTypeTail_36
    refine br_t rfl ?_
    by_cases k1 : Kt a = 36
    · rw [xe_v_eq k1 (by decide)]
      refine br_t rfl ?_
      refine xw_exp (s := 83) (p := a) (by first | omega | (simp only [List.length_cons, List.length_append, List.length_nil]; omega)) hst (fun sy pl hst => ?_)
      unfold wpX_expectRange
      refine ⟨4, ?_⟩
      refine xw_range 2 61 _ _ _ (by omega) (by first | omega | (simp only [List.length_cons, List.length_append, List.length_nil]; omega)) hst (fun sy pl hst => ?_)
      have er : (List.range (2 + 1)).map (fun i => ((61 : Nat) + 2 - i, (0 : Nat))) = [(63, 0), (62, 0), (61, 0)] := by decide
      rw [er] at hst ⊢
      refine xw_exp (s := 36) (p := 0) (by first | omega | (simp only [List.length_cons, List.length_append, List.length_nil]; omega)) hst (fun sy pl hst => ?_)
      exact h1 [(36, 0), (63, 0), (62, 0), (61, 0), (83, a)] (by simp [xe_l, k1]) sy pl hst
    · refine br_f (xe_v_ne hk k1 (by decide)) ?_
      unfold wX_expandTypeTail_72
      refine br_f (by decide) ?_
      exact h1 [] (by simp [xe_l, k1]) _ _ hst
  · refine br_f (by decide) (br_f (by decide) (br_f (by decide) (br_f (by decide) (br_f (by decide) (br_f (by decide) (br_f (by decide) (br_f (by decide) (br_f (by decide) (br_f (by decide) (br_f (by decide) (br_f (by decide) (br_f (by decide) (br_f (by decide) (br_f (by decide) (br_f (by decide) (br_f (by decide) (br_f (by decide) (br_f (by decide) (br_f (by decide) (br_f (by decide) (br_f (by decide) (br_f (by decide) (br_f (by decide) (br_t rfl ?_))))))))))))))))))))))))
    unfold wX_expand_184 wpX_expandTypeTail
    refine br_f (by decide) ?_
    unfold wX_expandTypeTail_36
    refine br_f (by decide) ?_
    unfold wX_expandTypeTail_72
    refine br_t rfl ?_
    by_cases k1 : Kt a = 34
    · rw [xe_v_eq k1 (by decide)]
      refine br_t rfl ?_
      unfold wX_expandTypeTail_90
      refine xw_exp (s := 62) (p := 0) (by first | omega | (simp only [List.length_cons, List.length_append, List.length_nil]; omega)) hst (fun sy pl hst => ?_)
      refine xw_exp (s := 83) (p := a) (by first | omega | (simp only [List.length_cons, List.length_append, List.length_nil]; omega)) hst (fun sy pl hst => ?_)
      refine xw_exp (s := 34) (p := 0) (by first | omega | (simp only [List.length_cons, List.length_append, List.length_nil]; omega)) hst (fun sy pl hst => ?_)
      exact h1 [(34, 0), (83, a), (62, 0)] (by simp [xe_l, k1]) sy pl hst
    · refine br_f (xe_v_ne hk k1 (by decide)) ?_
      by_cases k2 : Kt a = 23
      · rw [xe_v_eq k2 (by decide)]
        refine br_t rfl ?_
        unfold wX_expandTypeTail_90
        refine xw_exp (s := 62) (p := 0) (by first | omega | (simp only [List.length_cons, List.length_append, List.length_nil]; omega)) hst (fun sy pl hst => ?_)
        refine xw_exp (s := 83) (p := a) (by first | omega | (simp only [List.length_cons, List.length_append, List.length_nil]; omega)) hst (fun sy pl hst => ?_)
        refine xw_exp (s := 23) (p := 0) (by first | omega | (simp only [List.length_cons, List.length_append, List.length_nil]; omega)) hst (fun sy pl hst => ?_)
        exact h1 [(23, 0), (83, a), (62, 0)] (by simp [xe_l, k2]) sy pl hst
      · refine br_f (xe_v_ne hk k2 (by decide)) ?_
        exact h1 [] (by simp [xe_l, k1, k2]) _ _ hst
  · refine br_f (by decide) (br_f (by decide) (br_f (by decide) (br_f (by decide) (br_f (by decide) (br_f (by decide) (br_f (by decide) (br_f (by decide) (br_f (by decide) (br_f (by decide) (br_f (by decide) (br_f (by decide) (br_f (by decide) (br_f (by decide) (br_f (by decide) (br_f (by decide) (br_f (by decide) (br_f (by decide) (br_f (by decide) (br_f (by decide) (br_f (by decide) (br_f (by decide) (br_f (by decide) (br_f (by decide) (br_f (by decide) (br_t rfl ?_)))))))))))))))))))))))))
    unfold wpX_expandTypeAtom
    by_cases k1 : Kt a = 15
    · rw [xe_v_eq k1 (by decide)]
      refine br_t rfl ?_
      refine xw_exp (s := 16) (p := 0) (by first | omega | (simp only [List.length_cons, List.length_append, List.length_nil]; omega)) hst (fun sy pl hst => ?_)
      refine xw_exp (s := 45) (p := 0) (by first | omega | (simp only [List.length_cons, List.length_append, List.length_nil]; omega)) hst (fun sy pl hst => ?_)
      refine xw_exp (s := 15) (p := 0) (by first | omega | (simp only [List.length_cons, List.length_append, List.length_nil]; omega)) hst (fun sy pl hst => ?_)
      exact ⟨rfl, h1 [(15, 0), (45, 0), (16, 0)] (by simp [xe_l, k1]) sy pl hst⟩
    · refine br_f (xe_v_ne hk k1 (by decide)) ?_
      by_cases k2 : Kt a = 31
      · rw [xe_v_eq k2 (by decide)]
        refine br_t rfl ?_
        unfold wX_expandTypeAtom_53
        refine xw_exp (s := 80) (p := a) (by first | omega | (simp only [List.length_cons, List.length_append, List.length_nil]; omega)) hst (fun sy pl hst => ?_)
        refine xw_exp (s := 31) (p := 0) (by first | omega | (simp only [List.length_cons, List.length_append, List.length_nil]; omega)) hst (fun sy pl hst => ?_)
        exact ⟨rfl, h1 [(31, 0), (80, a)] (by simp [xe_l, k2]) sy pl hst⟩
      · refine br_f (xe_v_ne hk k2 (by decide)) ?_
        by_cases k3 : Kt a = 32
        · rw [xe_v_eq k3 (by decide)]
          refine br_t rfl ?_
          unfold wX_expandTypeAtom_53
          refine xw_exp (s := 80) (p := a) (by first | omega | (simp only [List.length_cons, List.length_append, List.length_nil]; omega)) hst (fun sy pl hst => ?_)
          refine xw_exp (s := 32) (p := 0) (by first | omega | (simp only [List.length_cons, List.length_append, List.length_nil]; omega)) hst (fun sy pl hst => ?_)
          exact ⟨rfl, h1 [(32, 0), (80, a)] (by simp [xe_l, k3]) sy pl hst⟩
        · refine br_f (xe_v_ne hk k3 (by decide)) ?_
          by_cases k4 : Kt a = 33
          · rw [xe_v_eq k4 (by decide)]
            refine br_t rfl ?_
            unfold wX_expandTypeAtom_53
            refine xw_exp (s := 80) (p := a) (by first | omega | (simp only [List.length_cons, List.length_append, List.length_nil]; omega)) hst (fun sy pl hst => ?_)
            refine xw_exp (s := 33) (p := 0) (by first | omega | (simp only [List.length_cons, List.length_append, List.length_nil]; omega)) hst (fun sy pl hst => ?_)
            exact ⟨rfl, h1 [(33, 0), (80, a)] (by simp [xe_l, k4]) sy pl hst⟩
          · refine br_f (xe_v_ne hk k4 (by decide)) ?_
            by_cases k5 : Kt a = 35
            · rw [xe_v_eq k5 (by decide)]
              refine br_t rfl ?_
              unfold wX_expandTypeAtom_53
              refine xw_exp (s := 80) (p := a) (by first | omega | (simp only [List.length_cons, List.length_append, List.length_nil]; omega)) hst (fun sy pl hst => ?_)
              refine xw_exp (s := 35) (p := 0) (by first | omega | (simp only [List.length_cons, List.length_append, List.length_nil]; omega)) hst (fun sy pl hst => ?_)
              exact ⟨rfl, h1 [(35, 0), (80, a)] (by simp [xe_l, k5]) sy pl hst⟩
            · refine br_f (xe_v_ne hk k5 (by decide)) ?_
              have k6 : ¬ ((31 ≤ Kt a ∧ Kt a ≤ 33) ∨ Kt a = 35) := by omega
              exact ⟨rfl, h0 (by simp [xe_l, k1]; omega)⟩
end
end
section
/-! the component's own turns follow M's -/
def xg_leg (s : Nat) : Prop := s < 38 ∨ (80 ≤ s ∧ s ≤ 90) ∨ s = 40 ∨ s = 41 ∨ s = 42 ∨ s = 43 ∨ s = 44 ∨ s = 45 ∨ s = 50 ∨ s = 51 ∨ s = 52 ∨ s = 53 ∨ s = 54 ∨ s = 55 ∨ s = 60 ∨ s = 61 ∨ s = 62 ∨ s = 63
/-- from (ss, a, sp) the component comes to (ss', a', sp') in n turns, never beyond its arrays -/
def xr_R (K : Nat → Nat) : Nat → pm_L → Nat → pm_L → pm_L → Nat → pm_L → Prop
  | 0, ss, a, sp, ss', a', sp' => ss = ss' ∧ a = a' ∧ sp = sp'
  | n + 1, ss, a, sp, ss', a', sp' => ∃ s p r, ss = (s, p) :: r ∧ ss.length ≤ 500 ∧ sp.length ≤ 60 ∧ a ≤ 60 ∧ xg_leg s ∧
    ((80 ≤ s ∧ xr_R K n r a (sp ++ [(s, p)]) ss' a' sp') ∨ (s < 38 ∧ K a = s ∧ xr_R K n r (a + 1) sp ss' a' sp') ∨ (38 ≤ s ∧ s < 80 ∧ ∃ l, xe_l K a s = some l ∧ xr_R K n (l ++ r) a sp ss' a' sp'))
/-- and there the tokens stop being a beginning -/
def xr_F (K : Nat → Nat) (ss : pm_L) (a : Nat) : Prop := ∃ s p r, ss = (s, p) :: r ∧ ss.length ≤ 500 ∧ a ≤ 60 ∧ xg_leg s ∧ ((s < 38 ∧ K a ≠ s) ∨ (38 ≤ s ∧ s < 80 ∧ xe_l K a s = none))
section
variable {K : Nat → Nat}
theorem xr_t : ∀ {n m : Nat} {ss a sp ss1 a1 sp1 ss2 a2 sp2}, xr_R K n ss a sp ss1 a1 sp1 → xr_R K m ss1 a1 sp1 ss2 a2 sp2 → xr_R K (n + m) ss a sp ss2 a2 sp2 := by
  intro n
  induction n with
  | zero =>
    intro m ss a sp ss1 a1 sp1 ss2 a2 sp2 h h'
    obtain ⟨rfl, rfl, rfl⟩ := h
    rw [Nat.zero_add]; exact h'
  | succ n ih =>
    intro m ss a sp ss1 a1 sp1 ss2 a2 sp2 h h'
    rw [Nat.succ_add]
    obtain ⟨s, p, r, e, b1, b2, b3, lg, q⟩ := h
    refine ⟨s, p, r, e, b1, b2, b3, lg, ?_⟩
    rcases q with ⟨q1, q2⟩ | ⟨q1, q2, q3⟩ | ⟨q1, q2, l, q3, q4⟩
    · exact Or.inl ⟨q1, ih q2 h'⟩
    · exact Or.inr (Or.inl ⟨q1, q2, ih q3 h'⟩)
    · exact Or.inr (Or.inr ⟨q1, q2, l, q3, ih q4 h'⟩)
theorem xr_tok {t a : Nat} {ss sp : pm_L} (ht : t < 38) (hk : K a = t) (h1 : ss.length < 500) (h2 : sp.length ≤ 60) (h3 : a ≤ 60) : xr_R K 1 ((t, 0) :: ss) a sp ss (a + 1) sp :=
  ⟨t, 0, ss, rfl, by rw [List.length_cons]; omega, h2, h3, Or.inl ht, Or.inr (Or.inl ⟨ht, hk, rfl, rfl, rfl⟩)⟩
theorem xr_em {s p a : Nat} {ss sp : pm_L} (hs : 80 ≤ s ∧ s ≤ 90) (h1 : ss.length < 500) (h2 : sp.length ≤ 60) (h3 : a ≤ 60) : xr_R K 1 ((s, p) :: ss) a sp ss a (sp ++ [(s, p)]) :=
  ⟨s, p, ss, rfl, by rw [List.length_cons]; omega, h2, h3, Or.inr (Or.inl hs), Or.inl ⟨hs.1, rfl, rfl, rfl⟩⟩
theorem xr_ex {s p a : Nat} {ss sp l : pm_L} (hl : xg_leg s) (hs : 38 ≤ s ∧ s < 80) (he : xe_l K a s = some l) (h1 : ss.length < 500) (h2 : sp.length ≤ 60) (h3 : a ≤ 60) : xr_R K 1 ((s, p) :: ss) a sp (l ++ ss) a sp :=
  ⟨s, p, ss, rfl, by rw [List.length_cons]; omega, h2, h3, hl, Or.inr (Or.inr ⟨hs.1, hs.2, l, he, rfl, rfl, rfl⟩)⟩
theorem xr_names {ss sp : pm_L} (h1 : ss.length + 5 < 500) (h2 : sp.length ≤ 60) : ∀ f q, q + f ≤ 58 → K (pm_nq K f q) ≠ 3 → ∃ n, n ≤ 2 * f + 1 ∧ xr_R K n ((41, 0) :: ss) q sp ss (pm_nq K f q) sp := by
  intro f
  have stop : ∀ q, q ≤ 60 → K q ≠ 3 → xr_R K 1 ((41, 0) :: ss) q sp ss q sp := by
    intro q hq k
    have z := xr_ex (K := K) (s := 41) (p := 0) (a := q) (ss := ss) (sp := sp) (l := []) (by unfold xg_leg; omega) (by omega) (by simp [xe_l, k]) (by omega) h2 hq
    exact z
  induction f with
  | zero =>
    intro q hq k
    exact ⟨1, by omega, stop q (by omega) k⟩
  | succ f ih =>
    intro q hq k
    unfold pm_nq at k ⊢
    by_cases c : K q = 3
    · rw [if_pos c] at k ⊢
      obtain ⟨n, hn, r⟩ := ih (q + 1) (by omega) k
      have z1 := xr_ex (K := K) (s := 41) (p := 0) (a := q) (ss := ss) (sp := sp) (l := [(3, 0), (41, 0)]) (by unfold xg_leg; omega) (by omega) (by simp [xe_l, c]) (by omega) h2 (by omega)
      have z2 := xr_tok (K := K) (t := 3) (a := q) (ss := (41, 0) :: ss) (sp := sp) (by omega) c (by rw [List.length_cons]; omega) h2 (by omega)
      exact ⟨1 + 1 + n, by omega, xr_t (xr_t z1 z2) r⟩
    · rw [if_neg c] at k ⊢
      exact ⟨1, by omega, stop q (by omega) c⟩
end
/-- the component's symbols for M's -/
def xm_1 (x : Nat × Nat) : pm_L := if x.1 = 46 then [(10, 0), (42, 0), (11, 0), (90, x.2)] else if x.1 = 47 then [(11, 0), (90, x.2)] else [x]
def xm_L : pm_L → pm_L
  | [] => []
  | x :: ss => xm_1 x ++ xm_L ss
theorem xm_app : ∀ l ss, xm_L (l ++ ss) = xm_L l ++ xm_L ss := by
  intro l
  induction l with
  | nil => intro ss; rfl
  | cons x l ih => intro ss; show xm_1 x ++ xm_L (l ++ ss) = _; rw [ih, ← List.append_assoc]; rfl
theorem xm_len : ∀ ss, (xm_L ss).length = pm_ys ss := by
  intro ss
  induction ss with
  | nil => rfl
  | cons x ss ih =>
    show (xm_1 x ++ xm_L ss).length = pm_y x.1 + pm_ys ss
    rw [List.length_append, ih]
    congr 1
    unfold xm_1 pm_y
    by_cases c1 : x.1 = 46
    · rw [if_pos c1, if_pos c1]; rfl
    · rw [if_neg c1, if_neg c1]
      by_cases c2 : x.1 = 47
      · rw [if_pos c2, if_pos c2]; rfl
      · rw [if_neg c2, if_neg c2]; rfl
theorem pm_alone_38 {t : Nat} (h : pm_alone t = true) : t < 38 := by
  unfold pm_alone at h
  simp at h
  omega
theorem pm_nq_ne {K : Nat → Nat} {c a : Nat} (hK : ∀ i, c ≤ i → K i = 99) (hc : c ≤ 24) : K (pm_nq K 24 (a + 3)) ≠ 3 := by
  have key : ∀ f q, c ≤ q + f → K (pm_nq K f q) ≠ 3 := by
    intro f
    induction f with
    | zero => intro q h; unfold pm_nq; rw [hK q (by omega)]; decide
    | succ f ih =>
      intro q h
      unfold pm_nq
      by_cases c : K q = 3
      · rw [if_pos c]; exact ih (q + 1) (by omega)
      · rw [if_neg c]; exact c
  exact key 24 (a + 3) (by omega)
end
section
/-! each turn of M in the component's turns -/
def xm_T (B : Nat) (K : Nat → Nat) (s p a : Nat) (R sp : pm_L) : Prop :=
  (∀ a' l w, pm_turn K s p a = (a', some (l, w)) → ∃ n, n ≤ B ∧ xr_R K n (xm_1 (s, p) ++ R) a sp (xm_L l ++ R) a' (sp ++ w)) ∧
  (∀ a', pm_turn K s p a = (a', none) → ∃ n ss1, n ≤ B ∧ xr_R K n (xm_1 (s, p) ++ R) a sp ss1 a' sp ∧ xr_F K ss1 a')
section
variable {K : Nat → Nat} {c a p : Nat} {R sp : pm_L}
theorem xm_expr (hK : ∀ i, c ≤ i → K i = 99) (hc : c ≤ 24) (ha : a ≤ c) (h1 : R.length + 20 < 500) (h2 : sp.length ≤ 57) : xm_T 60 K 42 p a R sp := by
  refine ⟨fun a' l w h => ?_, fun a' h => ?_⟩
  · unfold pm_turn at h
    simp at h
    unfold pm_expr at h
    by_cases k1 : K a = 4
    · rw [if_pos k1] at h
      by_cases k2 : K (a + 1) = 3
      · rw [if_pos k2] at h
        by_cases k3 : K (a + 2) = 5
        · rw [if_pos k3] at h
          have qk3 := pm_lt hK k3 (by decide)
          simp at h
          obtain ⟨rfl, rfl, rfl⟩ := h
          have z1 : xr_R K 1 ((42, p) :: R) (a) sp ((4, 0) :: (3, 0) :: (5, 0) :: (85, a) :: (42, 0) :: (86, a) :: R) (a) sp := xr_ex (l := [(4, 0), (3, 0), (5, 0), (85, a), (42, 0), (86, a)]) (by unfold xg_leg; omega) (by omega) (by simp [xe_l, k1]) (by first | omega | (simp only [List.length_cons, List.length_append, List.length_nil]; omega)) (by first | omega | (simp only [List.length_cons, List.length_append, List.length_nil]; omega)) (by omega)
          have z2 : xr_R K 1 ((4, 0) :: (3, 0) :: (5, 0) :: (85, a) :: (42, 0) :: (86, a) :: R) (a) sp ((3, 0) :: (5, 0) :: (85, a) :: (42, 0) :: (86, a) :: R) (a + 1) sp := xr_tok (by first | omega | exact kl) k1 (by first | omega | (simp only [List.length_cons, List.length_append, List.length_nil]; omega)) (by first | omega | (simp only [List.length_cons, List.length_append, List.length_nil]; omega)) (by omega)
          have z3 : xr_R K 1 ((3, 0) :: (5, 0) :: (85, a) :: (42, 0) :: (86, a) :: R) (a + 1) sp ((5, 0) :: (85, a) :: (42, 0) :: (86, a) :: R) (a + 2) sp := xr_tok (by first | omega | exact kl) k2 (by first | omega | (simp only [List.length_cons, List.length_append, List.length_nil]; omega)) (by first | omega | (simp only [List.length_cons, List.length_append, List.length_nil]; omega)) (by omega)
          have z4 : xr_R K 1 ((5, 0) :: (85, a) :: (42, 0) :: (86, a) :: R) (a + 2) sp ((85, a) :: (42, 0) :: (86, a) :: R) (a + 3) sp := xr_tok (by first | omega | exact kl) k3 (by first | omega | (simp only [List.length_cons, List.length_append, List.length_nil]; omega)) (by first | omega | (simp only [List.length_cons, List.length_append, List.length_nil]; omega)) (by omega)
          have z5 : xr_R K 1 ((85, a) :: (42, 0) :: (86, a) :: R) (a + 3) sp ((42, 0) :: (86, a) :: R) (a + 3) (sp ++ [(85, a)]) := xr_em (by omega) (by first | omega | (simp only [List.length_cons, List.length_append, List.length_nil]; omega)) (by first | omega | (simp only [List.length_cons, List.length_append, List.length_nil]; omega)) (by omega)
          have z := (xr_t z1 (xr_t z2 (xr_t z3 (xr_t z4 z5))))
          exact ⟨5, by omega, by simpa [xm_L, xm_1] using z⟩
        · rw [if_neg k3] at h
          simp at h
      · rw [if_neg k2] at h
        simp at h
    · rw [if_neg k1] at h
      by_cases k4 : K a = 12
      · rw [if_pos k4] at h
        have qk4 := pm_lt hK k4 (by decide)
        simp at h
        obtain ⟨rfl, rfl, rfl⟩ := h
        have z1 : xr_R K 1 ((42, p) :: R) (a) sp ((12, 0) :: (42, 0) :: (13, 0) :: (42, 0) :: (14, 0) :: (42, 0) :: (84, a) :: R) (a) sp := xr_ex (l := [(12, 0), (42, 0), (13, 0), (42, 0), (14, 0), (42, 0), (84, a)]) (by unfold xg_leg; omega) (by omega) (by simp [xe_l, k4]) (by first | omega | (simp only [List.length_cons, List.length_append, List.length_nil]; omega)) (by first | omega | (simp only [List.length_cons, List.length_append, List.length_nil]; omega)) (by omega)
        have z2 : xr_R K 1 ((12, 0) :: (42, 0) :: (13, 0) :: (42, 0) :: (14, 0) :: (42, 0) :: (84, a) :: R) (a) sp ((42, 0) :: (13, 0) :: (42, 0) :: (14, 0) :: (42, 0) :: (84, a) :: R) (a + 1) sp := xr_tok (by first | omega | exact kl) k4 (by first | omega | (simp only [List.length_cons, List.length_append, List.length_nil]; omega)) (by first | omega | (simp only [List.length_cons, List.length_append, List.length_nil]; omega)) (by omega)
        have z := (xr_t z1 z2)
        exact ⟨2, by omega, by simpa [xm_L, xm_1] using z⟩
      · rw [if_neg k4] at h
        simp at h
        obtain ⟨rfl, rfl, rfl⟩ := h
        have z1 : xr_R K 1 ((42, p) :: R) (a) sp ((55, 0) :: (54, 0) :: (53, 0) :: (52, 0) :: (51, 0) :: (50, 0) :: R) (a) sp := xr_ex (l := [(55, 0), (54, 0), (53, 0), (52, 0), (51, 0), (50, 0)]) (by unfold xg_leg; omega) (by omega) (by simp [xe_l, k1, k4]) (by first | omega | (simp only [List.length_cons, List.length_append, List.length_nil]; omega)) (by first | omega | (simp only [List.length_cons, List.length_append, List.length_nil]; omega)) (by omega)
        have z := z1
        exact ⟨1, by omega, by simpa [xm_L, xm_1] using z⟩
  · unfold pm_turn at h
    simp at h
    unfold pm_expr at h
    by_cases k1 : K a = 4
    · rw [if_pos k1] at h
      by_cases k2 : K (a + 1) = 3
      · rw [if_pos k2] at h
        by_cases k3 : K (a + 2) = 5
        · rw [if_pos k3] at h
          simp at h
        · rw [if_neg k3] at h
          have qk2 := pm_lt hK k2 (by decide)
          simp at h
          subst h
          have z1 : xr_R K 1 ((42, p) :: R) (a) sp ((4, 0) :: (3, 0) :: (5, 0) :: (85, a) :: (42, 0) :: (86, a) :: R) (a) sp := xr_ex (l := [(4, 0), (3, 0), (5, 0), (85, a), (42, 0), (86, a)]) (by unfold xg_leg; omega) (by omega) (by simp [xe_l, k1]) (by first | omega | (simp only [List.length_cons, List.length_append, List.length_nil]; omega)) (by first | omega | (simp only [List.length_cons, List.length_append, List.length_nil]; omega)) (by omega)
          have z2 : xr_R K 1 ((4, 0) :: (3, 0) :: (5, 0) :: (85, a) :: (42, 0) :: (86, a) :: R) (a) sp ((3, 0) :: (5, 0) :: (85, a) :: (42, 0) :: (86, a) :: R) (a + 1) sp := xr_tok (by first | omega | exact kl) k1 (by first | omega | (simp only [List.length_cons, List.length_append, List.length_nil]; omega)) (by first | omega | (simp only [List.length_cons, List.length_append, List.length_nil]; omega)) (by omega)
          have z3 : xr_R K 1 ((3, 0) :: (5, 0) :: (85, a) :: (42, 0) :: (86, a) :: R) (a + 1) sp ((5, 0) :: (85, a) :: (42, 0) :: (86, a) :: R) (a + 2) sp := xr_tok (by first | omega | exact kl) k2 (by first | omega | (simp only [List.length_cons, List.length_append, List.length_nil]; omega)) (by first | omega | (simp only [List.length_cons, List.length_append, List.length_nil]; omega)) (by omega)
          have zf : xr_F K ((5, 0) :: (85, a) :: (42, 0) :: (86, a) :: R) (a + 2) := ⟨_, _, _, rfl, (by first | omega | (simp only [List.length_cons, List.length_append, List.length_nil]; omega)), by omega, by unfold xg_leg; omega, Or.inl ⟨by omega, k3⟩⟩
          have z := (xr_t z1 (xr_t z2 z3))
          exact ⟨3, _, by omega, by simpa [xm_1] using z, zf⟩
      · rw [if_neg k2] at h
        have qk1 := pm_lt hK k1 (by decide)
        simp at h
        subst h
        have z1 : xr_R K 1 ((42, p) :: R) (a) sp ((4, 0) :: (3, 0) :: (5, 0) :: (85, a) :: (42, 0) :: (86, a) :: R) (a) sp := xr_ex (l := [(4, 0), (3, 0), (5, 0), (85, a), (42, 0), (86, a)]) (by unfold xg_leg; omega) (by omega) (by simp [xe_l, k1]) (by first | omega | (simp only [List.length_cons, List.length_append, List.length_nil]; omega)) (by first | omega | (simp only [List.length_cons, List.length_append, List.length_nil]; omega)) (by omega)
        have z2 : xr_R K 1 ((4, 0) :: (3, 0) :: (5, 0) :: (85, a) :: (42, 0) :: (86, a) :: R) (a) sp ((3, 0) :: (5, 0) :: (85, a) :: (42, 0) :: (86, a) :: R) (a + 1) sp := xr_tok (by first | omega | exact kl) k1 (by first | omega | (simp only [List.length_cons, List.length_append, List.length_nil]; omega)) (by first | omega | (simp only [List.length_cons, List.length_append, List.length_nil]; omega)) (by omega)
        have zf : xr_F K ((3, 0) :: (5, 0) :: (85, a) :: (42, 0) :: (86, a) :: R) (a + 1) := ⟨_, _, _, rfl, (by first | omega | (simp only [List.length_cons, List.length_append, List.length_nil]; omega)), by omega, by unfold xg_leg; omega, Or.inl ⟨by omega, k2⟩⟩
        have z := (xr_t z1 z2)
        exact ⟨2, _, by omega, by simpa [xm_1] using z, zf⟩
    · rw [if_neg k1] at h
      by_cases k4 : K a = 12
      · rw [if_pos k4] at h
        simp at h
      · rw [if_neg k4] at h
        simp at h
theorem xm_decl (hK : ∀ i, c ≤ i → K i = 99) (hc : c ≤ 24) (ha : a ≤ c) (h1 : R.length + 20 < 500) (h2 : sp.length ≤ 57) : xm_T 60 K 40 p a R sp := by
  refine ⟨fun a' l w h => ?_, fun a' h => ?_⟩
  · unfold pm_turn at h
    simp at h
    unfold pm_decl at h
    by_cases k1 : K a = 7
    · rw [if_pos k1] at h
      by_cases k2 : K (a + 1) = 3
      · rw [if_pos k2] at h
        by_cases k3 : K (a + 2) = 9
        · rw [if_pos k3] at h
          have qk3 := pm_lt hK k3 (by decide)
          simp at h
          obtain ⟨rfl, rfl, rfl⟩ := h
          have z1 : xr_R K 1 ((40, p) :: R) (a) sp ((7, 0) :: (3, 0) :: (9, 0) :: (42, 0) :: (89, a) :: R) (a) sp := xr_ex (l := [(7, 0), (3, 0), (9, 0), (42, 0), (89, a)]) (by unfold xg_leg; omega) (by omega) (by simp [xe_l, k1]) (by first | omega | (simp only [List.length_cons, List.length_append, List.length_nil]; omega)) (by first | omega | (simp only [List.length_cons, List.length_append, List.length_nil]; omega)) (by omega)
          have z2 : xr_R K 1 ((7, 0) :: (3, 0) :: (9, 0) :: (42, 0) :: (89, a) :: R) (a) sp ((3, 0) :: (9, 0) :: (42, 0) :: (89, a) :: R) (a + 1) sp := xr_tok (by first | omega | exact kl) k1 (by first | omega | (simp only [List.length_cons, List.length_append, List.length_nil]; omega)) (by first | omega | (simp only [List.length_cons, List.length_append, List.length_nil]; omega)) (by omega)
          have z3 : xr_R K 1 ((3, 0) :: (9, 0) :: (42, 0) :: (89, a) :: R) (a + 1) sp ((9, 0) :: (42, 0) :: (89, a) :: R) (a + 2) sp := xr_tok (by first | omega | exact kl) k2 (by first | omega | (simp only [List.length_cons, List.length_append, List.length_nil]; omega)) (by first | omega | (simp only [List.length_cons, List.length_append, List.length_nil]; omega)) (by omega)
          have z4 : xr_R K 1 ((9, 0) :: (42, 0) :: (89, a) :: R) (a + 2) sp ((42, 0) :: (89, a) :: R) (a + 3) sp := xr_tok (by first | omega | exact kl) k3 (by first | omega | (simp only [List.length_cons, List.length_append, List.length_nil]; omega)) (by first | omega | (simp only [List.length_cons, List.length_append, List.length_nil]; omega)) (by omega)
          have z := (xr_t z1 (xr_t z2 (xr_t z3 z4)))
          exact ⟨4, by omega, by simpa [xm_L, xm_1] using z⟩
        · rw [if_neg k3] at h
          simp at h
      · rw [if_neg k2] at h
        simp at h
    · rw [if_neg k1] at h
      by_cases k4 : K a = 8
      · rw [if_pos k4] at h
        by_cases k5 : K (a + 1) = 3
        · rw [if_pos k5] at h
          by_cases k6 : K (a + 2) = 3
          · rw [if_pos k6] at h
            by_cases k7 : K (pm_nq K 24 (a + 3)) = 9
            · rw [if_pos k7] at h
              have qk7 := pm_lt hK k7 (by decide)
              have g := pm_nq_ge (K := K) 24 (a + 3)
              have nk : K (pm_nq K 24 (a + 3)) ≠ 3 := pm_nq_ne hK hc
              simp at h
              obtain ⟨rfl, rfl, rfl⟩ := h
              have z1 : xr_R K 1 ((40, p) :: R) (a) sp ((8, 0) :: (3, 0) :: (3, 0) :: (41, 0) :: (9, 0) :: (87, a) :: (42, 0) :: (88, a) :: R) (a) sp := xr_ex (l := [(8, 0), (3, 0), (3, 0), (41, 0), (9, 0), (87, a), (42, 0), (88, a)]) (by unfold xg_leg; omega) (by omega) (by simp [xe_l, k4]) (by first | omega | (simp only [List.length_cons, List.length_append, List.length_nil]; omega)) (by first | omega | (simp only [List.length_cons, List.length_append, List.length_nil]; omega)) (by omega)
              have z2 : xr_R K 1 ((8, 0) :: (3, 0) :: (3, 0) :: (41, 0) :: (9, 0) :: (87, a) :: (42, 0) :: (88, a) :: R) (a) sp ((3, 0) :: (3, 0) :: (41, 0) :: (9, 0) :: (87, a) :: (42, 0) :: (88, a) :: R) (a + 1) sp := xr_tok (by first | omega | exact kl) k4 (by first | omega | (simp only [List.length_cons, List.length_append, List.length_nil]; omega)) (by first | omega | (simp only [List.length_cons, List.length_append, List.length_nil]; omega)) (by omega)
              have z3 : xr_R K 1 ((3, 0) :: (3, 0) :: (41, 0) :: (9, 0) :: (87, a) :: (42, 0) :: (88, a) :: R) (a + 1) sp ((3, 0) :: (41, 0) :: (9, 0) :: (87, a) :: (42, 0) :: (88, a) :: R) (a + 2) sp := xr_tok (by first | omega | exact kl) k5 (by first | omega | (simp only [List.length_cons, List.length_append, List.length_nil]; omega)) (by first | omega | (simp only [List.length_cons, List.length_append, List.length_nil]; omega)) (by omega)
              have z4 : xr_R K 1 ((3, 0) :: (41, 0) :: (9, 0) :: (87, a) :: (42, 0) :: (88, a) :: R) (a + 2) sp ((41, 0) :: (9, 0) :: (87, a) :: (42, 0) :: (88, a) :: R) (a + 3) sp := xr_tok (by first | omega | exact kl) k6 (by first | omega | (simp only [List.length_cons, List.length_append, List.length_nil]; omega)) (by first | omega | (simp only [List.length_cons, List.length_append, List.length_nil]; omega)) (by omega)
              obtain ⟨m, hm, zn⟩ := xr_names (K := K) (ss := (9, 0) :: (87, a) :: (42, 0) :: (88, a) :: R) (sp := sp) (by simp only [List.length_cons]; omega) (by omega) 24 (a + 3) (by omega) nk
              have z5 : xr_R K 1 ((9, 0) :: (87, a) :: (42, 0) :: (88, a) :: R) (pm_nq K 24 (a + 3)) sp ((87, a) :: (42, 0) :: (88, a) :: R) (pm_nq K 24 (a + 3) + 1) sp := xr_tok (by first | omega | exact kl) k7 (by first | omega | (simp only [List.length_cons, List.length_append, List.length_nil]; omega)) (by first | omega | (simp only [List.length_cons, List.length_append, List.length_nil]; omega)) (by omega)
              have z6 : xr_R K 1 ((87, a) :: (42, 0) :: (88, a) :: R) (pm_nq K 24 (a + 3) + 1) sp ((42, 0) :: (88, a) :: R) (pm_nq K 24 (a + 3) + 1) (sp ++ [(87, a)]) := xr_em (by omega) (by first | omega | (simp only [List.length_cons, List.length_append, List.length_nil]; omega)) (by first | omega | (simp only [List.length_cons, List.length_append, List.length_nil]; omega)) (by omega)
              have z := (xr_t z1 (xr_t z2 (xr_t z3 (xr_t z4 (xr_t zn (xr_t z5 z6))))))
              exact ⟨1 + (1 + (1 + (1 + (m + (1 + 1))))), by omega, by simpa [xm_L, xm_1] using z⟩
            · rw [if_neg k7] at h
              simp at h
          · rw [if_neg k6] at h
            simp at h
        · rw [if_neg k5] at h
          simp at h
      · rw [if_neg k4] at h
        simp at h
  · unfold pm_turn at h
    simp at h
    unfold pm_decl at h
    by_cases k1 : K a = 7
    · rw [if_pos k1] at h
      by_cases k2 : K (a + 1) = 3
      · rw [if_pos k2] at h
        by_cases k3 : K (a + 2) = 9
        · rw [if_pos k3] at h
          simp at h
        · rw [if_neg k3] at h
          have qk2 := pm_lt hK k2 (by decide)
          simp at h
          subst h
          have z1 : xr_R K 1 ((40, p) :: R) (a) sp ((7, 0) :: (3, 0) :: (9, 0) :: (42, 0) :: (89, a) :: R) (a) sp := xr_ex (l := [(7, 0), (3, 0), (9, 0), (42, 0), (89, a)]) (by unfold xg_leg; omega) (by omega) (by simp [xe_l, k1]) (by first | omega | (simp only [List.length_cons, List.length_append, List.length_nil]; omega)) (by first | omega | (simp only [List.length_cons, List.length_append, List.length_nil]; omega)) (by omega)
          have z2 : xr_R K 1 ((7, 0) :: (3, 0) :: (9, 0) :: (42, 0) :: (89, a) :: R) (a) sp ((3, 0) :: (9, 0) :: (42, 0) :: (89, a) :: R) (a + 1) sp := xr_tok (by first | omega | exact kl) k1 (by first | omega | (simp only [List.length_cons, List.length_append, List.length_nil]; omega)) (by first | omega | (simp only [List.length_cons, List.length_append, List.length_nil]; omega)) (by omega)
          have z3 : xr_R K 1 ((3, 0) :: (9, 0) :: (42, 0) :: (89, a) :: R) (a + 1) sp ((9, 0) :: (42, 0) :: (89, a) :: R) (a + 2) sp := xr_tok (by first | omega | exact kl) k2 (by first | omega | (simp only [List.length_cons, List.length_append, List.length_nil]; omega)) (by first | omega | (simp only [List.length_cons, List.length_append, List.length_nil]; omega)) (by omega)
          have zf : xr_F K ((9, 0) :: (42, 0) :: (89, a) :: R) (a + 2) := ⟨_, _, _, rfl, (by first | omega | (simp only [List.length_cons, List.length_append, List.length_nil]; omega)), by omega, by unfold xg_leg; omega, Or.inl ⟨by omega, k3⟩⟩
          have z := (xr_t z1 (xr_t z2 z3))
          exact ⟨3, _, by omega, by simpa [xm_1] using z, zf⟩
      · rw [if_neg k2] at h
        have qk1 := pm_lt hK k1 (by decide)
        simp at h
        subst h
        have z1 : xr_R K 1 ((40, p) :: R) (a) sp ((7, 0) :: (3, 0) :: (9, 0) :: (42, 0) :: (89, a) :: R) (a) sp := xr_ex (l := [(7, 0), (3, 0), (9, 0), (42, 0), (89, a)]) (by unfold xg_leg; omega) (by omega) (by simp [xe_l, k1]) (by first | omega | (simp only [List.length_cons, List.length_append, List.length_nil]; omega)) (by first | omega | (simp only [List.length_cons, List.length_append, List.length_nil]; omega)) (by omega)
        have z2 : xr_R K 1 ((7, 0) :: (3, 0) :: (9, 0) :: (42, 0) :: (89, a) :: R) (a) sp ((3, 0) :: (9, 0) :: (42, 0) :: (89, a) :: R) (a + 1) sp := xr_tok (by first | omega | exact kl) k1 (by first | omega | (simp only [List.length_cons, List.length_append, List.length_nil]; omega)) (by first | omega | (simp only [List.length_cons, List.length_append, List.length_nil]; omega)) (by omega)
        have zf : xr_F K ((3, 0) :: (9, 0) :: (42, 0) :: (89, a) :: R) (a + 1) := ⟨_, _, _, rfl, (by first | omega | (simp only [List.length_cons, List.length_append, List.length_nil]; omega)), by omega, by unfold xg_leg; omega, Or.inl ⟨by omega, k2⟩⟩
        have z := (xr_t z1 z2)
        exact ⟨2, _, by omega, by simpa [xm_1] using z, zf⟩
    · rw [if_neg k1] at h
      by_cases k4 : K a = 8
      · rw [if_pos k4] at h
        by_cases k5 : K (a + 1) = 3
        · rw [if_pos k5] at h
          by_cases k6 : K (a + 2) = 3
          · rw [if_pos k6] at h
            by_cases k7 : K (pm_nq K 24 (a + 3)) = 9
            · rw [if_pos k7] at h
              simp at h
            · rw [if_neg k7] at h
              have qk6 := pm_lt hK k6 (by decide)
              have g := pm_nq_ge (K := K) 24 (a + 3)
              have nk : K (pm_nq K 24 (a + 3)) ≠ 3 := pm_nq_ne hK hc
              simp at h
              subst h
              have z1 : xr_R K 1 ((40, p) :: R) (a) sp ((8, 0) :: (3, 0) :: (3, 0) :: (41, 0) :: (9, 0) :: (87, a) :: (42, 0) :: (88, a) :: R) (a) sp := xr_ex (l := [(8, 0), (3, 0), (3, 0), (41, 0), (9, 0), (87, a), (42, 0), (88, a)]) (by unfold xg_leg; omega) (by omega) (by simp [xe_l, k4]) (by first | omega | (simp only [List.length_cons, List.length_append, List.length_nil]; omega)) (by first | omega | (simp only [List.length_cons, List.length_append, List.length_nil]; omega)) (by omega)
              have z2 : xr_R K 1 ((8, 0) :: (3, 0) :: (3, 0) :: (41, 0) :: (9, 0) :: (87, a) :: (42, 0) :: (88, a) :: R) (a) sp ((3, 0) :: (3, 0) :: (41, 0) :: (9, 0) :: (87, a) :: (42, 0) :: (88, a) :: R) (a + 1) sp := xr_tok (by first | omega | exact kl) k4 (by first | omega | (simp only [List.length_cons, List.length_append, List.length_nil]; omega)) (by first | omega | (simp only [List.length_cons, List.length_append, List.length_nil]; omega)) (by omega)
              have z3 : xr_R K 1 ((3, 0) :: (3, 0) :: (41, 0) :: (9, 0) :: (87, a) :: (42, 0) :: (88, a) :: R) (a + 1) sp ((3, 0) :: (41, 0) :: (9, 0) :: (87, a) :: (42, 0) :: (88, a) :: R) (a + 2) sp := xr_tok (by first | omega | exact kl) k5 (by first | omega | (simp only [List.length_cons, List.length_append, List.length_nil]; omega)) (by first | omega | (simp only [List.length_cons, List.length_append, List.length_nil]; omega)) (by omega)
              have z4 : xr_R K 1 ((3, 0) :: (41, 0) :: (9, 0) :: (87, a) :: (42, 0) :: (88, a) :: R) (a + 2) sp ((41, 0) :: (9, 0) :: (87, a) :: (42, 0) :: (88, a) :: R) (a + 3) sp := xr_tok (by first | omega | exact kl) k6 (by first | omega | (simp only [List.length_cons, List.length_append, List.length_nil]; omega)) (by first | omega | (simp only [List.length_cons, List.length_append, List.length_nil]; omega)) (by omega)
              obtain ⟨m, hm, zn⟩ := xr_names (K := K) (ss := (9, 0) :: (87, a) :: (42, 0) :: (88, a) :: R) (sp := sp) (by simp only [List.length_cons]; omega) (by omega) 24 (a + 3) (by omega) nk
              have zf : xr_F K ((9, 0) :: (87, a) :: (42, 0) :: (88, a) :: R) (pm_nq K 24 (a + 3)) := ⟨_, _, _, rfl, (by first | omega | (simp only [List.length_cons, List.length_append, List.length_nil]; omega)), by omega, by unfold xg_leg; omega, Or.inl ⟨by omega, k7⟩⟩
              have z := (xr_t z1 (xr_t z2 (xr_t z3 (xr_t z4 zn))))
              exact ⟨1 + (1 + (1 + (1 + m))), _, by omega, by simpa [xm_1] using z, zf⟩
          · rw [if_neg k6] at h
            have qk5 := pm_lt hK k5 (by decide)
            simp at h
            subst h
            have z1 : xr_R K 1 ((40, p) :: R) (a) sp ((8, 0) :: (3, 0) :: (3, 0) :: (41, 0) :: (9, 0) :: (87, a) :: (42, 0) :: (88, a) :: R) (a) sp := xr_ex (l := [(8, 0), (3, 0), (3, 0), (41, 0), (9, 0), (87, a), (42, 0), (88, a)]) (by unfold xg_leg; omega) (by omega) (by simp [xe_l, k4]) (by first | omega | (simp only [List.length_cons, List.length_append, List.length_nil]; omega)) (by first | omega | (simp only [List.length_cons, List.length_append, List.length_nil]; omega)) (by omega)
            have z2 : xr_R K 1 ((8, 0) :: (3, 0) :: (3, 0) :: (41, 0) :: (9, 0) :: (87, a) :: (42, 0) :: (88, a) :: R) (a) sp ((3, 0) :: (3, 0) :: (41, 0) :: (9, 0) :: (87, a) :: (42, 0) :: (88, a) :: R) (a + 1) sp := xr_tok (by first | omega | exact kl) k4 (by first | omega | (simp only [List.length_cons, List.length_append, List.length_nil]; omega)) (by first | omega | (simp only [List.length_cons, List.length_append, List.length_nil]; omega)) (by omega)
            have z3 : xr_R K 1 ((3, 0) :: (3, 0) :: (41, 0) :: (9, 0) :: (87, a) :: (42, 0) :: (88, a) :: R) (a + 1) sp ((3, 0) :: (41, 0) :: (9, 0) :: (87, a) :: (42, 0) :: (88, a) :: R) (a + 2) sp := xr_tok (by first | omega | exact kl) k5 (by first | omega | (simp only [List.length_cons, List.length_append, List.length_nil]; omega)) (by first | omega | (simp only [List.length_cons, List.length_append, List.length_nil]; omega)) (by omega)
            have zf : xr_F K ((3, 0) :: (41, 0) :: (9, 0) :: (87, a) :: (42, 0) :: (88, a) :: R) (a + 2) := ⟨_, _, _, rfl, (by first | omega | (simp only [List.length_cons, List.length_append, List.length_nil]; omega)), by omega, by unfold xg_leg; omega, Or.inl ⟨by omega, k6⟩⟩
            have z := (xr_t z1 (xr_t z2 z3))
            exact ⟨3, _, by omega, by simpa [xm_1] using z, zf⟩
        · rw [if_neg k5] at h
          have qk4 := pm_lt hK k4 (by decide)
          simp at h
          subst h
          have z1 : xr_R K 1 ((40, p) :: R) (a) sp ((8, 0) :: (3, 0) :: (3, 0) :: (41, 0) :: (9, 0) :: (87, a) :: (42, 0) :: (88, a) :: R) (a) sp := xr_ex (l := [(8, 0), (3, 0), (3, 0), (41, 0), (9, 0), (87, a), (42, 0), (88, a)]) (by unfold xg_leg; omega) (by omega) (by simp [xe_l, k4]) (by first | omega | (simp only [List.length_cons, List.length_append, List.length_nil]; omega)) (by first | omega | (simp only [List.length_cons, List.length_append, List.length_nil]; omega)) (by omega)
          have z2 : xr_R K 1 ((8, 0) :: (3, 0) :: (3, 0) :: (41, 0) :: (9, 0) :: (87, a) :: (42, 0) :: (88, a) :: R) (a) sp ((3, 0) :: (3, 0) :: (41, 0) :: (9, 0) :: (87, a) :: (42, 0) :: (88, a) :: R) (a + 1) sp := xr_tok (by first | omega | exact kl) k4 (by first | omega | (simp only [List.length_cons, List.length_append, List.length_nil]; omega)) (by first | omega | (simp only [List.length_cons, List.length_append, List.length_nil]; omega)) (by omega)
          have zf : xr_F K ((3, 0) :: (3, 0) :: (41, 0) :: (9, 0) :: (87, a) :: (42, 0) :: (88, a) :: R) (a + 1) := ⟨_, _, _, rfl, (by first | omega | (simp only [List.length_cons, List.length_append, List.length_nil]; omega)), by omega, by unfold xg_leg; omega, Or.inl ⟨by omega, k5⟩⟩
          have z := (xr_t z1 z2)
          exact ⟨2, _, by omega, by simpa [xm_1] using z, zf⟩
      · rw [if_neg k4] at h
        simp at h
        subst h
        have zf : xr_F K ((40, p) :: R) (a) := ⟨_, _, _, rfl, (by first | omega | (simp only [List.length_cons, List.length_append, List.length_nil]; omega)), by omega, by unfold xg_leg; omega, Or.inr ⟨by omega, by omega, by simp [xe_l, k1, k4]⟩⟩
        exact ⟨0, _, by omega, ⟨by simp [xm_1], rfl, rfl⟩, zf⟩
theorem xm_atom (hK : ∀ i, c ≤ i → K i = 99) (hc : c ≤ 24) (ha : a ≤ c) (h1 : R.length + 20 < 500) (h2 : sp.length ≤ 57) : xm_T 10 K 55 p a R sp := by
  refine ⟨fun a' l w h => ?_, fun a' h => ?_⟩
  · unfold pm_turn at h
    simp at h
    unfold pm_atom at h
    by_cases k1 : pm_alone (K a) = true
    · rw [if_pos k1] at h
      have qk1 := pm_alone_lt hK k1
      have kl : K a < 38 := pm_alone_38 k1
      simp at h
      obtain ⟨rfl, rfl, rfl⟩ := h
      have z1 : xr_R K 1 ((55, p) :: R) (a) sp ((K a, 0) :: (80, a) :: R) (a) sp := xr_ex (l := [(K a, 0), (80, a)]) (by unfold xg_leg; omega) (by omega) (by simp [xe_l, k1]) (by first | omega | (simp only [List.length_cons, List.length_append, List.length_nil]; omega)) (by first | omega | (simp only [List.length_cons, List.length_append, List.length_nil]; omega)) (by omega)
      have z2 : xr_R K 1 ((K a, 0) :: (80, a) :: R) (a) sp ((80, a) :: R) (a + 1) sp := xr_tok (by first | omega | exact kl) rfl (by first | omega | (simp only [List.length_cons, List.length_append, List.length_nil]; omega)) (by first | omega | (simp only [List.length_cons, List.length_append, List.length_nil]; omega)) (by omega)
      have z3 : xr_R K 1 ((80, a) :: R) (a + 1) sp (R) (a + 1) (sp ++ [(80, a)]) := xr_em (by omega) (by first | omega | (simp only [List.length_cons, List.length_append, List.length_nil]; omega)) (by first | omega | (simp only [List.length_cons, List.length_append, List.length_nil]; omega)) (by omega)
      have z := (xr_t z1 (xr_t z2 z3))
      exact ⟨3, by omega, by simpa [xm_L, xm_1] using z⟩
    · rw [if_neg k1] at h
      by_cases k2 : K a = 15
      · rw [if_pos k2] at h
        by_cases k3 : K (a + 1) = 16
        · rw [if_pos k3] at h
          have qk3 := pm_lt hK k3 (by decide)
          simp at h
          obtain ⟨rfl, rfl, rfl⟩ := h
          have z1 : xr_R K 1 ((55, p) :: R) (a) sp ((15, 0) :: (43, 0) :: R) (a) sp := xr_ex (l := [(15, 0), (43, 0)]) (by unfold xg_leg; omega) (by omega) (by simp [xe_l, k2, pm_alone]) (by first | omega | (simp only [List.length_cons, List.length_append, List.length_nil]; omega)) (by first | omega | (simp only [List.length_cons, List.length_append, List.length_nil]; omega)) (by omega)
          have z2 : xr_R K 1 ((15, 0) :: (43, 0) :: R) (a) sp ((43, 0) :: R) (a + 1) sp := xr_tok (by first | omega | exact kl) k2 (by first | omega | (simp only [List.length_cons, List.length_append, List.length_nil]; omega)) (by first | omega | (simp only [List.length_cons, List.length_append, List.length_nil]; omega)) (by omega)
          have z3 : xr_R K 1 ((43, 0) :: R) (a + 1) sp ((16, 0) :: (81, a + 1) :: R) (a + 1) sp := xr_ex (l := [(16, 0), (81, a + 1)]) (by unfold xg_leg; omega) (by omega) (by simp [xe_l, k3]) (by first | omega | (simp only [List.length_cons, List.length_append, List.length_nil]; omega)) (by first | omega | (simp only [List.length_cons, List.length_append, List.length_nil]; omega)) (by omega)
          have z4 : xr_R K 1 ((16, 0) :: (81, a + 1) :: R) (a + 1) sp ((81, a + 1) :: R) (a + 2) sp := xr_tok (by first | omega | exact kl) k3 (by first | omega | (simp only [List.length_cons, List.length_append, List.length_nil]; omega)) (by first | omega | (simp only [List.length_cons, List.length_append, List.length_nil]; omega)) (by omega)
          have z5 : xr_R K 1 ((81, a + 1) :: R) (a + 2) sp (R) (a + 2) (sp ++ [(81, a + 1)]) := xr_em (by omega) (by first | omega | (simp only [List.length_cons, List.length_append, List.length_nil]; omega)) (by first | omega | (simp only [List.length_cons, List.length_append, List.length_nil]; omega)) (by omega)
          have z := (xr_t z1 (xr_t z2 (xr_t z3 (xr_t z4 z5))))
          exact ⟨5, by omega, by simpa [xm_L, xm_1] using z⟩
        · rw [if_neg k3] at h
          have qk2 := pm_lt hK k2 (by decide)
          simp at h
          obtain ⟨rfl, rfl, rfl⟩ := h
          have z1 : xr_R K 1 ((55, p) :: R) (a) sp ((15, 0) :: (43, 0) :: R) (a) sp := xr_ex (l := [(15, 0), (43, 0)]) (by unfold xg_leg; omega) (by omega) (by simp [xe_l, k2, pm_alone]) (by first | omega | (simp only [List.length_cons, List.length_append, List.length_nil]; omega)) (by first | omega | (simp only [List.length_cons, List.length_append, List.length_nil]; omega)) (by omega)
          have z2 : xr_R K 1 ((15, 0) :: (43, 0) :: R) (a) sp ((43, 0) :: R) (a + 1) sp := xr_tok (by first | omega | exact kl) k2 (by first | omega | (simp only [List.length_cons, List.length_append, List.length_nil]; omega)) (by first | omega | (simp only [List.length_cons, List.length_append, List.length_nil]; omega)) (by omega)
          have z3 : xr_R K 1 ((43, 0) :: R) (a + 1) sp ((42, 0) :: (44, 0) :: R) (a + 1) sp := xr_ex (l := [(42, 0), (44, 0)]) (by unfold xg_leg; omega) (by omega) (by simp [xe_l, k3]) (by first | omega | (simp only [List.length_cons, List.length_append, List.length_nil]; omega)) (by first | omega | (simp only [List.length_cons, List.length_append, List.length_nil]; omega)) (by omega)
          have z := (xr_t z1 (xr_t z2 z3))
          exact ⟨3, by omega, by simpa [xm_L, xm_1] using z⟩
      · rw [if_neg k2] at h
        by_cases k4 : K a = 6
        · rw [if_pos k4] at h
          have qk4 := pm_lt hK k4 (by decide)
          simp at h
          obtain ⟨rfl, rfl, rfl⟩ := h
          have z1 : xr_R K 1 ((55, p) :: R) (a) sp ((6, 0) :: (40, 0) :: (10, 0) :: (42, 0) :: (11, 0) :: (90, a) :: R) (a) sp := xr_ex (l := [(6, 0), (40, 0), (10, 0), (42, 0), (11, 0), (90, a)]) (by unfold xg_leg; omega) (by omega) (by simp [xe_l, k4, pm_alone]) (by first | omega | (simp only [List.length_cons, List.length_append, List.length_nil]; omega)) (by first | omega | (simp only [List.length_cons, List.length_append, List.length_nil]; omega)) (by omega)
          have z2 : xr_R K 1 ((6, 0) :: (40, 0) :: (10, 0) :: (42, 0) :: (11, 0) :: (90, a) :: R) (a) sp ((40, 0) :: (10, 0) :: (42, 0) :: (11, 0) :: (90, a) :: R) (a + 1) sp := xr_tok (by first | omega | exact kl) k4 (by first | omega | (simp only [List.length_cons, List.length_append, List.length_nil]; omega)) (by first | omega | (simp only [List.length_cons, List.length_append, List.length_nil]; omega)) (by omega)
          have z := (xr_t z1 z2)
          exact ⟨2, by omega, by simpa [xm_L, xm_1] using z⟩
        · rw [if_neg k4] at h
          simp at h
  · unfold pm_turn at h
    simp at h
    unfold pm_atom at h
    by_cases k1 : pm_alone (K a) = true
    · rw [if_pos k1] at h
      simp at h
    · rw [if_neg k1] at h
      by_cases k2 : K a = 15
      · rw [if_pos k2] at h
        by_cases k3 : K (a + 1) = 16
        · rw [if_pos k3] at h
          simp at h
        · rw [if_neg k3] at h
          simp at h
      · rw [if_neg k2] at h
        by_cases k4 : K a = 6
        · rw [if_pos k4] at h
          simp at h
        · rw [if_neg k4] at h
          simp at h
          subst h
          have zf : xr_F K ((55, p) :: R) (a) := ⟨_, _, _, rfl, (by first | omega | (simp only [List.length_cons, List.length_append, List.length_nil]; omega)), by omega, by unfold xg_leg; omega, Or.inr ⟨by omega, by omega, by simp [xe_l, k1, k2, k4]⟩⟩
          exact ⟨0, _, by omega, ⟨by simp [xm_1], rfl, rfl⟩, zf⟩
theorem xm_50 (hK : ∀ i, c ≤ i → K i = 99) (hc : c ≤ 24) (ha : a ≤ c) (h1 : R.length + 20 < 500) (h2 : sp.length ≤ 57) : xm_T 60 K 50 p a R sp := by
  refine ⟨fun a' l w h => ?_, fun a' h => ?_⟩
  · unfold pm_turn at h
    simp at h
    by_cases k1 : K a = 25
    · rw [if_pos k1] at h
      have qk1 := pm_lt hK k1 (by decide)
      simp at h
      obtain ⟨rfl, rfl, rfl⟩ := h
      have z1 : xr_R K 1 ((50, p) :: R) (a) sp ((25, 0) :: (55, 0) :: (54, 0) :: (53, 0) :: (52, 0) :: (51, 0) :: (50, 0) :: (83, a) :: R) (a) sp := xr_ex (l := [(25, 0), (55, 0), (54, 0), (53, 0), (52, 0), (51, 0), (50, 0), (83, a)]) (by unfold xg_leg; omega) (by omega) (by simp [xe_l, k1]) (by first | omega | (simp only [List.length_cons, List.length_append, List.length_nil]; omega)) (by first | omega | (simp only [List.length_cons, List.length_append, List.length_nil]; omega)) (by omega)
      have z2 : xr_R K 1 ((25, 0) :: (55, 0) :: (54, 0) :: (53, 0) :: (52, 0) :: (51, 0) :: (50, 0) :: (83, a) :: R) (a) sp ((55, 0) :: (54, 0) :: (53, 0) :: (52, 0) :: (51, 0) :: (50, 0) :: (83, a) :: R) (a + 1) sp := xr_tok (by first | omega | exact kl) k1 (by first | omega | (simp only [List.length_cons, List.length_append, List.length_nil]; omega)) (by first | omega | (simp only [List.length_cons, List.length_append, List.length_nil]; omega)) (by omega)
      have z := (xr_t z1 z2)
      exact ⟨2, by omega, by simpa [xm_L, xm_1] using z⟩
    · rw [if_neg k1] at h
      simp at h
      obtain ⟨rfl, rfl, rfl⟩ := h
      have z1 : xr_R K 1 ((50, p) :: R) (a) sp (R) (a) sp := xr_ex (l := []) (by unfold xg_leg; omega) (by omega) (by simp [xe_l, k1]) (by first | omega | (simp only [List.length_cons, List.length_append, List.length_nil]; omega)) (by first | omega | (simp only [List.length_cons, List.length_append, List.length_nil]; omega)) (by omega)
      have z := z1
      exact ⟨1, by omega, by simpa [xm_L, xm_1] using z⟩
  · unfold pm_turn at h
    simp at h
    by_cases k1 : K a = 25
    · rw [if_pos k1] at h
      simp at h
    · rw [if_neg k1] at h
      simp at h
theorem xm_51 (hK : ∀ i, c ≤ i → K i = 99) (hc : c ≤ 24) (ha : a ≤ c) (h1 : R.length + 20 < 500) (h2 : sp.length ≤ 57) : xm_T 60 K 51 p a R sp := by
  refine ⟨fun a' l w h => ?_, fun a' h => ?_⟩
  · unfold pm_turn at h
    simp at h
    by_cases k1 : K a = 18
    · rw [if_pos k1] at h
      have qk1 := pm_lt hK k1 (by decide)
      simp at h
      obtain ⟨rfl, rfl, rfl⟩ := h
      have z1 : xr_R K 1 ((51, p) :: R) (a) sp ((18, 0) :: (55, 0) :: (54, 0) :: (53, 0) :: (52, 0) :: (51, 0) :: (83, a) :: R) (a) sp := xr_ex (l := [(18, 0), (55, 0), (54, 0), (53, 0), (52, 0), (51, 0), (83, a)]) (by unfold xg_leg; omega) (by omega) (by simp [xe_l, k1]) (by first | omega | (simp only [List.length_cons, List.length_append, List.length_nil]; omega)) (by first | omega | (simp only [List.length_cons, List.length_append, List.length_nil]; omega)) (by omega)
      have z2 : xr_R K 1 ((18, 0) :: (55, 0) :: (54, 0) :: (53, 0) :: (52, 0) :: (51, 0) :: (83, a) :: R) (a) sp ((55, 0) :: (54, 0) :: (53, 0) :: (52, 0) :: (51, 0) :: (83, a) :: R) (a + 1) sp := xr_tok (by first | omega | exact kl) k1 (by first | omega | (simp only [List.length_cons, List.length_append, List.length_nil]; omega)) (by first | omega | (simp only [List.length_cons, List.length_append, List.length_nil]; omega)) (by omega)
      have z := (xr_t z1 z2)
      exact ⟨2, by omega, by simpa [xm_L, xm_1] using z⟩
    · rw [if_neg k1] at h
      simp at h
      obtain ⟨rfl, rfl, rfl⟩ := h
      have z1 : xr_R K 1 ((51, p) :: R) (a) sp (R) (a) sp := xr_ex (l := []) (by unfold xg_leg; omega) (by omega) (by simp [xe_l, k1]) (by first | omega | (simp only [List.length_cons, List.length_append, List.length_nil]; omega)) (by first | omega | (simp only [List.length_cons, List.length_append, List.length_nil]; omega)) (by omega)
      have z := z1
      exact ⟨1, by omega, by simpa [xm_L, xm_1] using z⟩
  · unfold pm_turn at h
    simp at h
    by_cases k1 : K a = 18
    · rw [if_pos k1] at h
      simp at h
    · rw [if_neg k1] at h
      simp at h
theorem xm_52 (hK : ∀ i, c ≤ i → K i = 99) (hc : c ≤ 24) (ha : a ≤ c) (h1 : R.length + 20 < 500) (h2 : sp.length ≤ 57) : xm_T 60 K 52 p a R sp := by
  refine ⟨fun a' l w h => ?_, fun a' h => ?_⟩
  · unfold pm_turn at h
    simp at h
    by_cases k1 : K a = 21
    · rw [if_pos k1] at h
      have qk1 := pm_lt hK k1 (by decide)
      simp at h
      obtain ⟨rfl, rfl, rfl⟩ := h
      have z1 : xr_R K 1 ((52, p) :: R) (a) sp ((21, 0) :: (55, 0) :: (54, 0) :: (53, 0) :: (83, a) :: (52, 0) :: R) (a) sp := xr_ex (l := [(21, 0), (55, 0), (54, 0), (53, 0), (83, a), (52, 0)]) (by unfold xg_leg; omega) (by omega) (by simp [xe_l, k1]) (by first | omega | (simp only [List.length_cons, List.length_append, List.length_nil]; omega)) (by first | omega | (simp only [List.length_cons, List.length_append, List.length_nil]; omega)) (by omega)
      have z2 : xr_R K 1 ((21, 0) :: (55, 0) :: (54, 0) :: (53, 0) :: (83, a) :: (52, 0) :: R) (a) sp ((55, 0) :: (54, 0) :: (53, 0) :: (83, a) :: (52, 0) :: R) (a + 1) sp := xr_tok (by first | omega | exact kl) k1 (by first | omega | (simp only [List.length_cons, List.length_append, List.length_nil]; omega)) (by first | omega | (simp only [List.length_cons, List.length_append, List.length_nil]; omega)) (by omega)
      have z := (xr_t z1 z2)
      exact ⟨2, by omega, by simpa [xm_L, xm_1] using z⟩
    · rw [if_neg k1] at h
      simp at h
      obtain ⟨rfl, rfl, rfl⟩ := h
      have z1 : xr_R K 1 ((52, p) :: R) (a) sp (R) (a) sp := xr_ex (l := []) (by unfold xg_leg; omega) (by omega) (by simp [xe_l, k1]) (by first | omega | (simp only [List.length_cons, List.length_append, List.length_nil]; omega)) (by first | omega | (simp only [List.length_cons, List.length_append, List.length_nil]; omega)) (by omega)
      have z := z1
      exact ⟨1, by omega, by simpa [xm_L, xm_1] using z⟩
  · unfold pm_turn at h
    simp at h
    by_cases k1 : K a = 21
    · rw [if_pos k1] at h
      simp at h
    · rw [if_neg k1] at h
      simp at h
theorem xm_53 (hK : ∀ i, c ≤ i → K i = 99) (hc : c ≤ 24) (ha : a ≤ c) (h1 : R.length + 20 < 500) (h2 : sp.length ≤ 57) : xm_T 60 K 53 p a R sp := by
  refine ⟨fun a' l w h => ?_, fun a' h => ?_⟩
  · unfold pm_turn at h
    simp at h
    by_cases k1 : K a = 19 ∨ K a = 20
    · rw [if_pos k1] at h
      have qk1 := pm_lt2 hK k1 (by decide) (by decide)
      have kl : K a < 38 := by omega
      simp at h
      obtain ⟨rfl, rfl, rfl⟩ := h
      have z1 : xr_R K 1 ((53, p) :: R) (a) sp ((K a, 0) :: (55, 0) :: (54, 0) :: (83, a) :: (53, 0) :: R) (a) sp := xr_ex (l := [(K a, 0), (55, 0), (54, 0), (83, a), (53, 0)]) (by unfold xg_leg; omega) (by omega) (by simp [xe_l, k1]) (by first | omega | (simp only [List.length_cons, List.length_append, List.length_nil]; omega)) (by first | omega | (simp only [List.length_cons, List.length_append, List.length_nil]; omega)) (by omega)
      have z2 : xr_R K 1 ((K a, 0) :: (55, 0) :: (54, 0) :: (83, a) :: (53, 0) :: R) (a) sp ((55, 0) :: (54, 0) :: (83, a) :: (53, 0) :: R) (a + 1) sp := xr_tok (by first | omega | exact kl) rfl (by first | omega | (simp only [List.length_cons, List.length_append, List.length_nil]; omega)) (by first | omega | (simp only [List.length_cons, List.length_append, List.length_nil]; omega)) (by omega)
      have z := (xr_t z1 z2)
      exact ⟨2, by omega, by simpa [xm_L, xm_1] using z⟩
    · rw [if_neg k1] at h
      simp at h
      obtain ⟨rfl, rfl, rfl⟩ := h
      have z1 : xr_R K 1 ((53, p) :: R) (a) sp (R) (a) sp := xr_ex (l := []) (by unfold xg_leg; omega) (by omega) (by simp [xe_l, k1]) (by first | omega | (simp only [List.length_cons, List.length_append, List.length_nil]; omega)) (by first | omega | (simp only [List.length_cons, List.length_append, List.length_nil]; omega)) (by omega)
      have z := z1
      exact ⟨1, by omega, by simpa [xm_L, xm_1] using z⟩
  · unfold pm_turn at h
    simp at h
    by_cases k1 : K a = 19 ∨ K a = 20
    · rw [if_pos k1] at h
      simp at h
    · rw [if_neg k1] at h
      simp at h
theorem xm_44 (hK : ∀ i, c ≤ i → K i = 99) (hc : c ≤ 24) (ha : a ≤ c) (h1 : R.length + 20 < 500) (h2 : sp.length ≤ 57) : xm_T 60 K 44 p a R sp := by
  refine ⟨fun a' l w h => ?_, fun a' h => ?_⟩
  · unfold pm_turn at h
    simp at h
    by_cases k1 : K a = 17
    · rw [if_pos k1] at h
      have qk1 := pm_lt hK k1 (by decide)
      simp at h
      obtain ⟨rfl, rfl, rfl⟩ := h
      have z1 : xr_R K 1 ((44, p) :: R) (a) sp ((17, 0) :: (42, 0) :: (16, 0) :: (83, a) :: R) (a) sp := xr_ex (l := [(17, 0), (42, 0), (16, 0), (83, a)]) (by unfold xg_leg; omega) (by omega) (by simp [xe_l, k1]) (by first | omega | (simp only [List.length_cons, List.length_append, List.length_nil]; omega)) (by first | omega | (simp only [List.length_cons, List.length_append, List.length_nil]; omega)) (by omega)
      have z2 : xr_R K 1 ((17, 0) :: (42, 0) :: (16, 0) :: (83, a) :: R) (a) sp ((42, 0) :: (16, 0) :: (83, a) :: R) (a + 1) sp := xr_tok (by first | omega | exact kl) k1 (by first | omega | (simp only [List.length_cons, List.length_append, List.length_nil]; omega)) (by first | omega | (simp only [List.length_cons, List.length_append, List.length_nil]; omega)) (by omega)
      have z := (xr_t z1 z2)
      exact ⟨2, by omega, by simpa [xm_L, xm_1] using z⟩
    · rw [if_neg k1] at h
      by_cases k2 : K a = 16
      · rw [if_pos k2] at h
        have qk2 := pm_lt hK k2 (by decide)
        simp at h
        obtain ⟨rfl, rfl, rfl⟩ := h
        have z1 : xr_R K 1 ((44, p) :: R) (a) sp ((16, 0) :: R) (a) sp := xr_ex (l := [(16, 0)]) (by unfold xg_leg; omega) (by omega) (by simp [xe_l, k2]) (by first | omega | (simp only [List.length_cons, List.length_append, List.length_nil]; omega)) (by first | omega | (simp only [List.length_cons, List.length_append, List.length_nil]; omega)) (by omega)
        have z2 : xr_R K 1 ((16, 0) :: R) (a) sp (R) (a + 1) sp := xr_tok (by first | omega | exact kl) k2 (by first | omega | (simp only [List.length_cons, List.length_append, List.length_nil]; omega)) (by first | omega | (simp only [List.length_cons, List.length_append, List.length_nil]; omega)) (by omega)
        have z := (xr_t z1 z2)
        exact ⟨2, by omega, by simpa [xm_L, xm_1] using z⟩
      · rw [if_neg k2] at h
        simp at h
  · unfold pm_turn at h
    simp at h
    by_cases k1 : K a = 17
    · rw [if_pos k1] at h
      simp at h
    · rw [if_neg k1] at h
      by_cases k2 : K a = 16
      · rw [if_pos k2] at h
        simp at h
      · rw [if_neg k2] at h
        simp at h
        subst h
        have z1 : xr_R K 1 ((44, p) :: R) (a) sp ((16, 0) :: R) (a) sp := xr_ex (l := [(16, 0)]) (by unfold xg_leg; omega) (by omega) (by simp [xe_l, k1]) (by first | omega | (simp only [List.length_cons, List.length_append, List.length_nil]; omega)) (by first | omega | (simp only [List.length_cons, List.length_append, List.length_nil]; omega)) (by omega)
        have zf : xr_F K ((16, 0) :: R) (a) := ⟨_, _, _, rfl, (by first | omega | (simp only [List.length_cons, List.length_append, List.length_nil]; omega)), by omega, by unfold xg_leg; omega, Or.inl ⟨by omega, k2⟩⟩
        have z := z1
        exact ⟨1, _, by omega, by simpa [xm_1] using z, zf⟩
theorem xm_45 (hK : ∀ i, c ≤ i → K i = 99) (hc : c ≤ 24) (ha : a ≤ c) (h1 : R.length + 20 < 500) (h2 : sp.length ≤ 57) : xm_T 60 K 45 p a R sp := by
  refine ⟨fun a' l w h => ?_, fun a' h => ?_⟩
  · unfold pm_turn at h
    simp at h
    obtain ⟨rfl, rfl, rfl⟩ := h
    have z1 : xr_R K 1 ((45, p) :: R) (a) sp ((63, 0) :: (62, 0) :: (61, 0) :: (60, 0) :: R) (a) sp := xr_ex (l := [(63, 0), (62, 0), (61, 0), (60, 0)]) (by unfold xg_leg; omega) (by omega) (by simp [xe_l]) (by first | omega | (simp only [List.length_cons, List.length_append, List.length_nil]; omega)) (by first | omega | (simp only [List.length_cons, List.length_append, List.length_nil]; omega)) (by omega)
    have z := z1
    exact ⟨1, by omega, by simpa [xm_L, xm_1] using z⟩
  · unfold pm_turn at h
    simp at h
theorem xm_60 (hK : ∀ i, c ≤ i → K i = 99) (hc : c ≤ 24) (ha : a ≤ c) (h1 : R.length + 20 < 500) (h2 : sp.length ≤ 57) : xm_T 60 K 60 p a R sp := by
  refine ⟨fun a' l w h => ?_, fun a' h => ?_⟩
  · unfold pm_turn at h
    simp at h
    by_cases k1 : K a = 37
    · rw [if_pos k1] at h
      have qk1 := pm_lt hK k1 (by decide)
      simp at h
      obtain ⟨rfl, rfl, rfl⟩ := h
      have z1 : xr_R K 1 ((60, p) :: R) (a) sp ((37, 0) :: (63, 0) :: (62, 0) :: (61, 0) :: (60, 0) :: (83, a) :: R) (a) sp := xr_ex (l := [(37, 0), (63, 0), (62, 0), (61, 0), (60, 0), (83, a)]) (by unfold xg_leg; omega) (by omega) (by simp [xe_l, k1]) (by first | omega | (simp only [List.length_cons, List.length_append, List.length_nil]; omega)) (by first | omega | (simp only [List.length_cons, List.length_append, List.length_nil]; omega)) (by omega)
      have z2 : xr_R K 1 ((37, 0) :: (63, 0) :: (62, 0) :: (61, 0) :: (60, 0) :: (83, a) :: R) (a) sp ((63, 0) :: (62, 0) :: (61, 0) :: (60, 0) :: (83, a) :: R) (a + 1) sp := xr_tok (by first | omega | exact kl) k1 (by first | omega | (simp only [List.length_cons, List.length_append, List.length_nil]; omega)) (by first | omega | (simp only [List.length_cons, List.length_append, List.length_nil]; omega)) (by omega)
      have z := (xr_t z1 z2)
      exact ⟨2, by omega, by simpa [xm_L, xm_1] using z⟩
    · rw [if_neg k1] at h
      simp at h
      obtain ⟨rfl, rfl, rfl⟩ := h
      have z1 : xr_R K 1 ((60, p) :: R) (a) sp (R) (a) sp := xr_ex (l := []) (by unfold xg_leg; omega) (by omega) (by simp [xe_l, k1]) (by first | omega | (simp only [List.length_cons, List.length_append, List.length_nil]; omega)) (by first | omega | (simp only [List.length_cons, List.length_append, List.length_nil]; omega)) (by omega)
      have z := z1
      exact ⟨1, by omega, by simpa [xm_L, xm_1] using z⟩
  · unfold pm_turn at h
    simp at h
    by_cases k1 : K a = 37
    · rw [if_pos k1] at h
      simp at h
    · rw [if_neg k1] at h
      simp at h
theorem xm_61 (hK : ∀ i, c ≤ i → K i = 99) (hc : c ≤ 24) (ha : a ≤ c) (h1 : R.length + 20 < 500) (h2 : sp.length ≤ 57) : xm_T 60 K 61 p a R sp := by
  refine ⟨fun a' l w h => ?_, fun a' h => ?_⟩
  · unfold pm_turn at h
    simp at h
    by_cases k1 : K a = 36
    · rw [if_pos k1] at h
      have qk1 := pm_lt hK k1 (by decide)
      simp at h
      obtain ⟨rfl, rfl, rfl⟩ := h
      have z1 : xr_R K 1 ((61, p) :: R) (a) sp ((36, 0) :: (63, 0) :: (62, 0) :: (61, 0) :: (83, a) :: R) (a) sp := xr_ex (l := [(36, 0), (63, 0), (62, 0), (61, 0), (83, a)]) (by unfold xg_leg; omega) (by omega) (by simp [xe_l, k1]) (by first | omega | (simp only [List.length_cons, List.length_append, List.length_nil]; omega)) (by first | omega | (simp only [List.length_cons, List.length_append, List.length_nil]; omega)) (by omega)
      have z2 : xr_R K 1 ((36, 0) :: (63, 0) :: (62, 0) :: (61, 0) :: (83, a) :: R) (a) sp ((63, 0) :: (62, 0) :: (61, 0) :: (83, a) :: R) (a + 1) sp := xr_tok (by first | omega | exact kl) k1 (by first | omega | (simp only [List.length_cons, List.length_append, List.length_nil]; omega)) (by first | omega | (simp only [List.length_cons, List.length_append, List.length_nil]; omega)) (by omega)
      have z := (xr_t z1 z2)
      exact ⟨2, by omega, by simpa [xm_L, xm_1] using z⟩
    · rw [if_neg k1] at h
      simp at h
      obtain ⟨rfl, rfl, rfl⟩ := h
      have z1 : xr_R K 1 ((61, p) :: R) (a) sp (R) (a) sp := xr_ex (l := []) (by unfold xg_leg; omega) (by omega) (by simp [xe_l, k1]) (by first | omega | (simp only [List.length_cons, List.length_append, List.length_nil]; omega)) (by first | omega | (simp only [List.length_cons, List.length_append, List.length_nil]; omega)) (by omega)
      have z := z1
      exact ⟨1, by omega, by simpa [xm_L, xm_1] using z⟩
  · unfold pm_turn at h
    simp at h
    by_cases k1 : K a = 36
    · rw [if_pos k1] at h
      simp at h
    · rw [if_neg k1] at h
      simp at h
theorem xm_62 (hK : ∀ i, c ≤ i → K i = 99) (hc : c ≤ 24) (ha : a ≤ c) (h1 : R.length + 20 < 500) (h2 : sp.length ≤ 57) : xm_T 60 K 62 p a R sp := by
  refine ⟨fun a' l w h => ?_, fun a' h => ?_⟩
  · unfold pm_turn at h
    simp at h
    by_cases k1 : K a = 34 ∨ K a = 23
    · rw [if_pos k1] at h
      have qk1 := pm_lt2 hK k1 (by decide) (by decide)
      have kl : K a < 38 := by omega
      simp at h
      obtain ⟨rfl, rfl, rfl⟩ := h
      have z1 : xr_R K 1 ((62, p) :: R) (a) sp ((K a, 0) :: (83, a) :: (62, 0) :: R) (a) sp := xr_ex (l := [(K a, 0), (83, a), (62, 0)]) (by unfold xg_leg; omega) (by omega) (by simp [xe_l, k1]) (by first | omega | (simp only [List.length_cons, List.length_append, List.length_nil]; omega)) (by first | omega | (simp only [List.length_cons, List.length_append, List.length_nil]; omega)) (by omega)
      have z2 : xr_R K 1 ((K a, 0) :: (83, a) :: (62, 0) :: R) (a) sp ((83, a) :: (62, 0) :: R) (a + 1) sp := xr_tok (by first | omega | exact kl) rfl (by first | omega | (simp only [List.length_cons, List.length_append, List.length_nil]; omega)) (by first | omega | (simp only [List.length_cons, List.length_append, List.length_nil]; omega)) (by omega)
      have z3 : xr_R K 1 ((83, a) :: (62, 0) :: R) (a + 1) sp ((62, 0) :: R) (a + 1) (sp ++ [(83, a)]) := xr_em (by omega) (by first | omega | (simp only [List.length_cons, List.length_append, List.length_nil]; omega)) (by first | omega | (simp only [List.length_cons, List.length_append, List.length_nil]; omega)) (by omega)
      have z := (xr_t z1 (xr_t z2 z3))
      exact ⟨3, by omega, by simpa [xm_L, xm_1] using z⟩
    · rw [if_neg k1] at h
      simp at h
      obtain ⟨rfl, rfl, rfl⟩ := h
      have z1 : xr_R K 1 ((62, p) :: R) (a) sp (R) (a) sp := xr_ex (l := []) (by unfold xg_leg; omega) (by omega) (by simp [xe_l, k1]) (by first | omega | (simp only [List.length_cons, List.length_append, List.length_nil]; omega)) (by first | omega | (simp only [List.length_cons, List.length_append, List.length_nil]; omega)) (by omega)
      have z := z1
      exact ⟨1, by omega, by simpa [xm_L, xm_1] using z⟩
  · unfold pm_turn at h
    simp at h
    by_cases k1 : K a = 34 ∨ K a = 23
    · rw [if_pos k1] at h
      simp at h
    · rw [if_neg k1] at h
      simp at h
theorem xm_63 (hK : ∀ i, c ≤ i → K i = 99) (hc : c ≤ 24) (ha : a ≤ c) (h1 : R.length + 20 < 500) (h2 : sp.length ≤ 57) : xm_T 60 K 63 p a R sp := by
  refine ⟨fun a' l w h => ?_, fun a' h => ?_⟩
  · unfold pm_turn at h
    simp at h
    by_cases k1 : K a = 15
    · rw [if_pos k1] at h
      have qk1 := pm_lt hK k1 (by decide)
      simp at h
      obtain ⟨rfl, rfl, rfl⟩ := h
      have z1 : xr_R K 1 ((63, p) :: R) (a) sp ((15, 0) :: (45, 0) :: (16, 0) :: R) (a) sp := xr_ex (l := [(15, 0), (45, 0), (16, 0)]) (by unfold xg_leg; omega) (by omega) (by simp [xe_l, k1]) (by first | omega | (simp only [List.length_cons, List.length_append, List.length_nil]; omega)) (by first | omega | (simp only [List.length_cons, List.length_append, List.length_nil]; omega)) (by omega)
      have z2 : xr_R K 1 ((15, 0) :: (45, 0) :: (16, 0) :: R) (a) sp ((45, 0) :: (16, 0) :: R) (a + 1) sp := xr_tok (by first | omega | exact kl) k1 (by first | omega | (simp only [List.length_cons, List.length_append, List.length_nil]; omega)) (by first | omega | (simp only [List.length_cons, List.length_append, List.length_nil]; omega)) (by omega)
      have z := (xr_t z1 z2)
      exact ⟨2, by omega, by simpa [xm_L, xm_1] using z⟩
    · rw [if_neg k1] at h
      by_cases k2 : (31 ≤ K a ∧ K a ≤ 33) ∨ K a = 35
      · rw [if_pos k2] at h
        have qk2 := pm_lt3 hK k2
        have kl : K a < 38 := by omega
        simp at h
        obtain ⟨rfl, rfl, rfl⟩ := h
        have z1 : xr_R K 1 ((63, p) :: R) (a) sp ((K a, 0) :: (80, a) :: R) (a) sp := xr_ex (l := [(K a, 0), (80, a)]) (by unfold xg_leg; omega) (by omega) (by simp [xe_l, k1, k2]) (by first | omega | (simp only [List.length_cons, List.length_append, List.length_nil]; omega)) (by first | omega | (simp only [List.length_cons, List.length_append, List.length_nil]; omega)) (by omega)
        have z2 : xr_R K 1 ((K a, 0) :: (80, a) :: R) (a) sp ((80, a) :: R) (a + 1) sp := xr_tok (by first | omega | exact kl) rfl (by first | omega | (simp only [List.length_cons, List.length_append, List.length_nil]; omega)) (by first | omega | (simp only [List.length_cons, List.length_append, List.length_nil]; omega)) (by omega)
        have z3 : xr_R K 1 ((80, a) :: R) (a + 1) sp (R) (a + 1) (sp ++ [(80, a)]) := xr_em (by omega) (by first | omega | (simp only [List.length_cons, List.length_append, List.length_nil]; omega)) (by first | omega | (simp only [List.length_cons, List.length_append, List.length_nil]; omega)) (by omega)
        have z := (xr_t z1 (xr_t z2 z3))
        exact ⟨3, by omega, by simpa [xm_L, xm_1] using z⟩
      · rw [if_neg k2] at h
        simp at h
  · unfold pm_turn at h
    simp at h
    by_cases k1 : K a = 15
    · rw [if_pos k1] at h
      simp at h
    · rw [if_neg k1] at h
      by_cases k2 : (31 ≤ K a ∧ K a ≤ 33) ∨ K a = 35
      · rw [if_pos k2] at h
        simp at h
      · rw [if_neg k2] at h
        simp at h
        subst h
        have zf : xr_F K ((63, p) :: R) (a) := ⟨_, _, _, rfl, (by first | omega | (simp only [List.length_cons, List.length_append, List.length_nil]; omega)), by omega, by unfold xg_leg; omega, Or.inr ⟨by omega, by omega, by simp [xe_l, k1, k2]⟩⟩
        exact ⟨0, _, by omega, ⟨by simp [xm_1], rfl, rfl⟩, zf⟩
theorem xm_80 {s : Nat} (hs : 80 ≤ s ∧ s ≤ 90) (ha : a ≤ 24) (h1 : R.length + 20 < 500) (h2 : sp.length ≤ 57) : xm_T 60 K s p a R sp := by
  refine ⟨fun a' l w h => ?_, fun a' h => ?_⟩
  · unfold pm_turn at h
    rw [if_pos hs.1] at h
    simp at h
    obtain ⟨rfl, rfl, rfl⟩ := h
    have z : xr_R K 1 ((s, p) :: R) a sp R a (sp ++ [(s, p)]) := xr_em hs (by omega) (by omega) (by omega)
    have e : xm_1 (s, p) = [(s, p)] := by
      unfold xm_1
      rw [if_neg (by show ¬ s = 46; omega), if_neg (by show ¬ s = 47; omega)]
    refine ⟨1, by omega, ?_⟩
    rw [e]; exact z
  · unfold pm_turn at h
    rw [if_pos hs.1] at h
    simp at h
theorem xm_38 {s : Nat} (hs : s < 38) (hp : p = 0) (ha : a ≤ 24) (h1 : R.length + 20 < 500) (h2 : sp.length ≤ 57) : xm_T 60 K s p a R sp := by
  subst hp
  have e : xm_1 (s, 0) = [(s, 0)] := by
    unfold xm_1
    rw [if_neg (by show ¬ s = 46; omega), if_neg (by show ¬ s = 47; omega)]
  refine ⟨fun a' l w h => ?_, fun a' h => ?_⟩
  · unfold pm_turn at h
    rw [if_neg (by omega), if_pos hs] at h
    by_cases k : K a = s
    · rw [if_pos k] at h
      simp at h
      obtain ⟨rfl, rfl, rfl⟩ := h
      have z : xr_R K 1 ((s, 0) :: R) a sp R (a + 1) sp := xr_tok hs k (by omega) (by omega) (by omega)
      refine ⟨1, by omega, ?_⟩
      rw [e, List.append_nil]; exact z
    · rw [if_neg k] at h
      simp at h
  · unfold pm_turn at h
    rw [if_neg (by omega), if_pos hs] at h
    by_cases k : K a = s
    · rw [if_pos k] at h
      simp at h
    · rw [if_neg k] at h
      simp at h
      subst h
      refine ⟨0, _, by omega, ⟨rfl, rfl, rfl⟩, ?_⟩
      rw [e]
      exact ⟨s, 0, R, rfl, by show (((s, 0) :: R).length ≤ 500); rw [List.length_cons]; omega, by omega, Or.inl hs, Or.inl ⟨hs, k⟩⟩
theorem xm_46 (ha : a ≤ 24) (h1 : R.length + 20 < 500) (h2 : sp.length ≤ 57) : xm_T 60 K 46 p a R sp := by
  refine ⟨fun a' l w h => ?_, fun a' h => ?_⟩
  · unfold pm_turn at h
    simp at h
    by_cases k : K a = 10
    · rw [if_pos k] at h
      simp at h
      obtain ⟨rfl, rfl, rfl⟩ := h
      have z : xr_R K 1 ((10, 0) :: (42, 0) :: (11, 0) :: (90, p) :: R) a sp ((42, 0) :: (11, 0) :: (90, p) :: R) (a + 1) sp := xr_tok (by omega) k (by simp only [List.length_cons]; omega) (by omega) (by omega)
      exact ⟨1, by omega, by simpa [xm_L, xm_1] using z⟩
    · rw [if_neg k] at h
      simp at h
  · unfold pm_turn at h
    simp at h
    by_cases k : K a = 10
    · rw [if_pos k] at h
      simp at h
    · rw [if_neg k] at h
      simp at h
      subst h
      refine ⟨0, _, by omega, ⟨rfl, rfl, rfl⟩, ?_⟩
      exact ⟨10, 0, (42, 0) :: (11, 0) :: (90, p) :: R, rfl, by show (((10, 0) :: (42, 0) :: (11, 0) :: (90, p) :: R).length ≤ 500); simp only [List.length_cons]; omega, by omega, Or.inl (by omega), Or.inl ⟨by omega, k⟩⟩
theorem xm_47 (ha : a ≤ 24) (h1 : R.length + 20 < 500) (h2 : sp.length ≤ 57) : xm_T 60 K 47 p a R sp := by
  refine ⟨fun a' l w h => ?_, fun a' h => ?_⟩
  · unfold pm_turn at h
    simp at h
    by_cases k : K a = 11
    · rw [if_pos k] at h
      simp at h
      obtain ⟨rfl, rfl, rfl⟩ := h
      have z : xr_R K 1 ((11, 0) :: (90, p) :: R) a sp ((90, p) :: R) (a + 1) sp := xr_tok (by omega) k (by simp only [List.length_cons]; omega) (by omega) (by omega)
      have z2 : xr_R K 1 ((90, p) :: R) (a + 1) sp R (a + 1) (sp ++ [(90, p)]) := xr_em (by omega) (by omega) (by omega) (by omega)
      have z3 := xr_t z z2
      exact ⟨2, by omega, by simpa [xm_L, xm_1] using z3⟩
    · rw [if_neg k] at h
      simp at h
  · unfold pm_turn at h
    simp at h
    by_cases k : K a = 11
    · rw [if_pos k] at h
      simp at h
    · rw [if_neg k] at h
      simp at h
      subst h
      refine ⟨0, _, by omega, ⟨rfl, rfl, rfl⟩, ?_⟩
      exact ⟨11, 0, (90, p) :: R, rfl, by show (((11, 0) :: (90, p) :: R).length ≤ 500); simp only [List.length_cons]; omega, by omega, Or.inl (by omega), Or.inl ⟨by omega, k⟩⟩
theorem xm_54 (hK : ∀ i, c ≤ i → K i = 99) (hc : c ≤ 24) (ha : a ≤ c) (h1 : R.length + 22 < 500) (h2 : sp.length ≤ 57) : xm_T 60 K 54 p a R sp := by
  have at' := xm_atom (p := 0) (R := (82, a) :: (54, 0) :: R) (sp := sp) hK hc ha (by simp only [List.length_cons]; omega) h2
  have bg : ∀ l w, (pm_atom K a).2 = some (l, w) → K a = 15 ∨ K a = 6 ∨ pm_alone (K a) = true := by
    intro l w e
    unfold pm_atom at e
    by_cases k1 : pm_alone (K a) = true
    · exact Or.inr (Or.inr k1)
    · rw [if_neg k1] at e
      by_cases k2 : K a = 15
      · exact Or.inl k2
      · rw [if_neg k2] at e
        by_cases k3 : K a = 6
        · exact Or.inr (Or.inl k3)
        · rw [if_neg k3] at e
          cases e
  have nb : (pm_atom K a).2 = none → ¬ (K a = 15 ∨ K a = 6 ∨ pm_alone (K a) = true) := by
    intro e
    unfold pm_atom at e
    by_cases k1 : pm_alone (K a) = true
    · rw [if_pos k1] at e; cases e
    · rw [if_neg k1] at e
      by_cases k2 : K a = 15
      · rw [if_pos k2] at e
        by_cases k3 : K (a + 1) = 16
        · rw [if_pos k3] at e; cases e
        · rw [if_neg k3] at e; cases e
      · rw [if_neg k2] at e
        by_cases k3 : K a = 6
        · rw [if_pos k3] at e; cases e
        · intro z
          rcases z with z | z | z
          · exact k2 z
          · exact k3 z
          · exact k1 z
  refine ⟨fun a' l w h => ?_, fun a' h => ?_⟩
  · unfold pm_turn at h
    simp at h
    unfold pm_apl at h
    cases e : (pm_atom K a).2 with
    | none =>
      rw [e] at h
      simp at h
      obtain ⟨rfl, rfl, rfl⟩ := h
      have q := nb e
      have z : xr_R K 1 ((54, p) :: R) a sp R a sp := xr_ex (l := []) (by unfold xg_leg; omega) (by omega) (by unfold xe_l; simp only [q]; simp) (by omega) (by omega) (by omega)
      exact ⟨1, by omega, by simpa [xm_L, xm_1] using z⟩
    | some y =>
      obtain ⟨l0, w0⟩ := y
      rw [e] at h
      simp at h
      obtain ⟨rfl, rfl, rfl⟩ := h
      have q := bg l0 w0 e
      have z : xr_R K 1 ((54, p) :: R) a sp ((55, 0) :: (82, a) :: (54, 0) :: R) a sp := xr_ex (l := [(55, 0), (82, a), (54, 0)]) (by unfold xg_leg; omega) (by omega) (by unfold xe_l; simp only [q]; simp) (by omega) (by omega) (by omega)
      obtain ⟨n, hn, z2⟩ := at'.1 (pm_atom K a).1 l0 w0 (by unfold pm_turn; simp; rw [← e])
      have z2' : xr_R K n ((55, 0) :: (82, a) :: (54, 0) :: R) a sp (xm_L l0 ++ (82, a) :: (54, 0) :: R) (pm_atom K a).1 (sp ++ w0) := by simpa [xm_1] using z2
      have z3 := xr_t z z2'
      refine ⟨1 + n, ?_, ?_⟩
      · omega
      · rw [xm_app, List.append_assoc]
        simpa [xm_L, xm_1] using z3
  · unfold pm_turn at h
    simp at h
    unfold pm_apl at h
    cases e : (pm_atom K a).2 with
    | none => rw [e] at h; simp at h
    | some y => rw [e] at h; simp at h
end
end
section
/-! M's symbols are the ones it knows -/
def lg_1 (x : Nat × Nat) : Prop := (x.1 < 38 ∧ x.2 = 0) ∨ (80 ≤ x.1 ∧ x.1 ≤ 90) ∨ x.1 = 40 ∨ x.1 = 42 ∨ x.1 = 44 ∨ x.1 = 45 ∨ x.1 = 46 ∨ x.1 = 47 ∨ x.1 = 50 ∨ x.1 = 51 ∨ x.1 = 52 ∨ x.1 = 53 ∨ x.1 = 54 ∨ x.1 = 55 ∨ x.1 = 60 ∨ x.1 = 61 ∨ x.1 = 62 ∨ x.1 = 63
def lg_L : pm_L → Prop
  | [] => True
  | x :: ss => lg_1 x ∧ lg_L ss
theorem lg_a : ∀ l ss, lg_L l → lg_L ss → lg_L (l ++ ss) := by
  intro l
  induction l with
  | nil => intro ss _ h; exact h
  | cons x l ih => intro ss h h'; exact ⟨h.1, ih ss h.2 h'⟩
section
variable {K : Nat → Nat} {a a' s p : Nat} {l w : pm_L}
theorem lg_atom (h : pm_atom K a = (a', some (l, w))) : lg_L l := by
  unfold pm_atom at h
  by_cases c1 : pm_alone (K a) = true
  · rw [if_pos c1] at h
    simp at h
    obtain ⟨rfl, rfl, rfl⟩ := h
    exact trivial
  · rw [if_neg c1] at h
    by_cases c2 : K a = 15
    · rw [if_pos c2] at h
      by_cases c3 : K (a + 1) = 16
      · rw [if_pos c3] at h
        simp at h
        obtain ⟨rfl, rfl, rfl⟩ := h
        exact trivial
      · rw [if_neg c3] at h
        simp at h
        obtain ⟨rfl, rfl, rfl⟩ := h
        exact ⟨by unfold lg_1; simp, by unfold lg_1; simp, trivial⟩
    · rw [if_neg c2] at h
      by_cases c4 : K a = 6
      · rw [if_pos c4] at h
        simp at h
        obtain ⟨rfl, rfl, rfl⟩ := h
        exact ⟨by unfold lg_1; simp, by unfold lg_1; simp, trivial⟩
      · rw [if_neg c4] at h
        simp at h
theorem lg_decl (h : pm_decl K a = (a', some (l, w))) : lg_L l := by
  unfold pm_decl at h
  by_cases c1 : K a = 7
  · rw [if_pos c1] at h
    by_cases c2 : K (a + 1) = 3
    · rw [if_pos c2] at h
      by_cases c3 : K (a + 2) = 9
      · rw [if_pos c3] at h
        simp at h
        obtain ⟨rfl, rfl, rfl⟩ := h
        exact ⟨by unfold lg_1; simp, by unfold lg_1; simp, trivial⟩
      · rw [if_neg c3] at h
        simp at h
    · rw [if_neg c2] at h
      simp at h
  · rw [if_neg c1] at h
    by_cases c4 : K a = 8
    · rw [if_pos c4] at h
      by_cases c5 : K (a + 1) = 3
      · rw [if_pos c5] at h
        by_cases c6 : K (a + 2) = 3
        · rw [if_pos c6] at h
          by_cases c7 : K (pm_nq K 24 (a + 3)) = 9
          · rw [if_pos c7] at h
            have g := (pm_nq_ge (K := K) 24 (a + 3)).1
            simp at h
            obtain ⟨rfl, rfl, rfl⟩ := h
            exact ⟨by unfold lg_1; simp, by unfold lg_1; simp, trivial⟩
          · rw [if_neg c7] at h
            simp at h
        · rw [if_neg c6] at h
          simp at h
      · rw [if_neg c5] at h
        simp at h
    · rw [if_neg c4] at h
      simp at h
theorem lg_expr (h : pm_expr K a = (a', some (l, w))) : lg_L l := by
  unfold pm_expr at h
  by_cases c1 : K a = 4
  · rw [if_pos c1] at h
    by_cases c2 : K (a + 1) = 3
    · rw [if_pos c2] at h
      by_cases c3 : K (a + 2) = 5
      · rw [if_pos c3] at h
        simp at h
        obtain ⟨rfl, rfl, rfl⟩ := h
        exact ⟨by unfold lg_1; simp, by unfold lg_1; simp, trivial⟩
      · rw [if_neg c3] at h
        simp at h
    · rw [if_neg c2] at h
      simp at h
  · rw [if_neg c1] at h
    by_cases c4 : K a = 12
    · rw [if_pos c4] at h
      simp at h
      obtain ⟨rfl, rfl, rfl⟩ := h
      exact ⟨by unfold lg_1; simp, by unfold lg_1; simp, by unfold lg_1; simp, by unfold lg_1; simp, by unfold lg_1; simp, by unfold lg_1; simp, trivial⟩
    · rw [if_neg c4] at h
      simp at h
      obtain ⟨rfl, rfl, rfl⟩ := h
      exact ⟨by unfold lg_1; simp, by unfold lg_1; simp, by unfold lg_1; simp, by unfold lg_1; simp, by unfold lg_1; simp, by unfold lg_1; simp, trivial⟩
theorem lg_apl (h : pm_apl K a = (a', some (l, w))) : lg_L l := by
  unfold pm_apl at h
  cases e : (pm_atom K a).2 with
  | none =>
    rw [e] at h
    simp at h
    obtain ⟨rfl, rfl, rfl⟩ := h
    trivial
  | some x =>
    obtain ⟨l0, w0⟩ := x
    rw [e] at h
    simp at h
    obtain ⟨rfl, rfl, rfl⟩ := h
    have z := lg_atom (K := K) (a := a) (a' := (pm_atom K a).1) (l := l0) (w := w0) (by rw [← e])
    exact lg_a _ _ z ⟨by unfold lg_1; simp, by unfold lg_1; simp, trivial⟩
theorem lg_turn (h : pm_turn K s p a = (a', some (l, w))) : lg_L l := by
  unfold pm_turn at h
  by_cases s0 : 80 ≤ s
  · rw [if_pos s0] at h
    simp at h
    obtain ⟨rfl, rfl, rfl⟩ := h
    exact trivial
  · rw [if_neg s0] at h
    by_cases s1 : s < 38
    · rw [if_pos s1] at h
      by_cases c1 : K a = s
      · rw [if_pos c1] at h
        simp at h
        obtain ⟨rfl, rfl, rfl⟩ := h
        exact trivial
      · rw [if_neg c1] at h
        simp at h
    · rw [if_neg s1] at h
      by_cases s2 : s = 40
      · rw [if_pos s2] at h
        exact lg_decl h
      · rw [if_neg s2] at h
        by_cases s3 : s = 42
        · rw [if_pos s3] at h
          exact lg_expr h
        · rw [if_neg s3] at h
          by_cases s4 : s = 44
          · rw [if_pos s4] at h
            by_cases c2 : K a = 17
            · rw [if_pos c2] at h
              simp at h
              obtain ⟨rfl, rfl, rfl⟩ := h
              exact ⟨by unfold lg_1; simp, by unfold lg_1; simp, by unfold lg_1; simp, trivial⟩
            · rw [if_neg c2] at h
              by_cases c3 : K a = 16
              · rw [if_pos c3] at h
                simp at h
                obtain ⟨rfl, rfl, rfl⟩ := h
                exact trivial
              · rw [if_neg c3] at h
                simp at h
          · rw [if_neg s4] at h
            by_cases s5 : s = 45
            · rw [if_pos s5] at h
              simp at h
              obtain ⟨rfl, rfl, rfl⟩ := h
              exact ⟨by unfold lg_1; simp, by unfold lg_1; simp, by unfold lg_1; simp, by unfold lg_1; simp, trivial⟩
            · rw [if_neg s5] at h
              by_cases s6 : s = 46
              · rw [if_pos s6] at h
                by_cases c4 : K a = 10
                · rw [if_pos c4] at h
                  simp at h
                  obtain ⟨rfl, rfl, rfl⟩ := h
                  exact ⟨by unfold lg_1; simp, by unfold lg_1; simp, trivial⟩
                · rw [if_neg c4] at h
                  simp at h
              · rw [if_neg s6] at h
                by_cases s7 : s = 47
                · rw [if_pos s7] at h
                  by_cases c5 : K a = 11
                  · rw [if_pos c5] at h
                    simp at h
                    obtain ⟨rfl, rfl, rfl⟩ := h
                    exact trivial
                  · rw [if_neg c5] at h
                    simp at h
                · rw [if_neg s7] at h
                  by_cases s8 : s = 50
                  · rw [if_pos s8] at h
                    by_cases c6 : K a = 25
                    · rw [if_pos c6] at h
                      simp at h
                      obtain ⟨rfl, rfl, rfl⟩ := h
                      exact ⟨by unfold lg_1; simp, by unfold lg_1; simp, by unfold lg_1; simp, by unfold lg_1; simp, by unfold lg_1; simp, by unfold lg_1; simp, by unfold lg_1; simp, trivial⟩
                    · rw [if_neg c6] at h
                      simp at h
                      obtain ⟨rfl, rfl, rfl⟩ := h
                      exact trivial
                  · rw [if_neg s8] at h
                    by_cases s9 : s = 51
                    · rw [if_pos s9] at h
                      by_cases c7 : K a = 18
                      · rw [if_pos c7] at h
                        simp at h
                        obtain ⟨rfl, rfl, rfl⟩ := h
                        exact ⟨by unfold lg_1; simp, by unfold lg_1; simp, by unfold lg_1; simp, by unfold lg_1; simp, by unfold lg_1; simp, by unfold lg_1; simp, trivial⟩
                      · rw [if_neg c7] at h
                        simp at h
                        obtain ⟨rfl, rfl, rfl⟩ := h
                        exact trivial
                    · rw [if_neg s9] at h
                      by_cases s10 : s = 52
                      · rw [if_pos s10] at h
                        by_cases c8 : K a = 21
                        · rw [if_pos c8] at h
                          simp at h
                          obtain ⟨rfl, rfl, rfl⟩ := h
                          exact ⟨by unfold lg_1; simp, by unfold lg_1; simp, by unfold lg_1; simp, by unfold lg_1; simp, by unfold lg_1; simp, trivial⟩
                        · rw [if_neg c8] at h
                          simp at h
                          obtain ⟨rfl, rfl, rfl⟩ := h
                          exact trivial
                      · rw [if_neg s10] at h
                        by_cases s11 : s = 53
                        · rw [if_pos s11] at h
                          by_cases c9 : K a = 19 ∨ K a = 20
                          · rw [if_pos c9] at h
                            simp at h
                            obtain ⟨rfl, rfl, rfl⟩ := h
                            exact ⟨by unfold lg_1; simp, by unfold lg_1; simp, by unfold lg_1; simp, by unfold lg_1; simp, trivial⟩
                          · rw [if_neg c9] at h
                            simp at h
                            obtain ⟨rfl, rfl, rfl⟩ := h
                            exact trivial
                        · rw [if_neg s11] at h
                          by_cases s12 : s = 54
                          · rw [if_pos s12] at h
                            exact lg_apl h
                          · rw [if_neg s12] at h
                            by_cases s13 : s = 55
                            · rw [if_pos s13] at h
                              exact lg_atom h
                            · rw [if_neg s13] at h
                              by_cases s14 : s = 60
                              · rw [if_pos s14] at h
                                by_cases c10 : K a = 37
                                · rw [if_pos c10] at h
                                  simp at h
                                  obtain ⟨rfl, rfl, rfl⟩ := h
                                  exact ⟨by unfold lg_1; simp, by unfold lg_1; simp, by unfold lg_1; simp, by unfold lg_1; simp, by unfold lg_1; simp, trivial⟩
                                · rw [if_neg c10] at h
                                  simp at h
                                  obtain ⟨rfl, rfl, rfl⟩ := h
                                  exact trivial
                              · rw [if_neg s14] at h
                                by_cases s15 : s = 61
                                · rw [if_pos s15] at h
                                  by_cases c11 : K a = 36
                                  · rw [if_pos c11] at h
                                    simp at h
                                    obtain ⟨rfl, rfl, rfl⟩ := h
                                    exact ⟨by unfold lg_1; simp, by unfold lg_1; simp, by unfold lg_1; simp, by unfold lg_1; simp, trivial⟩
                                  · rw [if_neg c11] at h
                                    simp at h
                                    obtain ⟨rfl, rfl, rfl⟩ := h
                                    exact trivial
                                · rw [if_neg s15] at h
                                  by_cases s16 : s = 62
                                  · rw [if_pos s16] at h
                                    by_cases c12 : K a = 34 ∨ K a = 23
                                    · rw [if_pos c12] at h
                                      simp at h
                                      obtain ⟨rfl, rfl, rfl⟩ := h
                                      exact ⟨by unfold lg_1; simp, trivial⟩
                                    · rw [if_neg c12] at h
                                      simp at h
                                      obtain ⟨rfl, rfl, rfl⟩ := h
                                      exact trivial
                                  · rw [if_neg s16] at h
                                    by_cases s17 : s = 63
                                    · rw [if_pos s17] at h
                                      by_cases c13 : K a = 15
                                      · rw [if_pos c13] at h
                                        simp at h
                                        obtain ⟨rfl, rfl, rfl⟩ := h
                                        exact ⟨by unfold lg_1; simp, by unfold lg_1; simp, trivial⟩
                                      · rw [if_neg c13] at h
                                        by_cases c14 : (31 ≤ K a ∧ K a ≤ 33) ∨ K a = 35
                                        · rw [if_pos c14] at h
                                          simp at h
                                          obtain ⟨rfl, rfl, rfl⟩ := h
                                          exact trivial
                                        · rw [if_neg c14] at h
                                          simp at h
                                    · rw [if_neg s17] at h
                                      simp at h
end
end
section
/-! the component's syntaxFault is M's run -/
theorem xm_turn {K : Nat → Nat} {c a s p : Nat} {R sp : pm_L} (hK : ∀ i, c ≤ i → K i = 99) (hc : c ≤ 24) (ha : a ≤ c) (h1 : R.length + 22 < 500) (h2 : sp.length ≤ 57) (hl : lg_1 (s, p)) : xm_T 60 K s p a R sp := by
  unfold lg_1 at hl
  dsimp only at hl
  rcases hl with ⟨q1, q2⟩ | q | rfl | rfl | rfl | rfl | rfl | rfl | rfl | rfl | rfl | rfl | rfl | rfl | rfl | rfl | rfl | rfl
  · exact xm_38 q1 q2 (by omega) (by omega) h2
  · exact xm_80 q (by omega) (by omega) h2
  · exact xm_decl hK hc ha (by omega) h2
  · exact xm_expr hK hc ha (by omega) h2
  · exact xm_44 hK hc ha (by omega) h2
  · exact xm_45 hK hc ha (by omega) h2
  · exact xm_46 (by omega) (by omega) h2
  · exact xm_47 (by omega) (by omega) h2
  · exact xm_50 hK hc ha (by omega) h2
  · exact xm_51 hK hc ha (by omega) h2
  · exact xm_52 hK hc ha (by omega) h2
  · exact xm_53 hK hc ha (by omega) h2
  · exact xm_54 hK hc ha h1 h2
  · have z := xm_atom (p := p) (R := R) (sp := sp) hK hc ha (by omega) h2
    refine ⟨fun a' l w h => ?_, fun a' h => ?_⟩
    · obtain ⟨n, hn, r⟩ := z.1 a' l w h
      exact ⟨n, by omega, r⟩
    · obtain ⟨n, ss1, hn, r⟩ := z.2 a' h
      exact ⟨n, ss1, by omega, r⟩
  · exact xm_60 hK hc ha (by omega) h2
  · exact xm_61 hK hc ha (by omega) h2
  · exact xm_62 hK hc ha (by omega) h2
  · exact xm_63 hK hc ha (by omega) h2
theorem pm_h5_a {l ss : pm_L} (h : pm_h5 l ≤ 5) : pm_h5 l ≤ pm_h5 (l ++ ss) := by
  cases l with
  | nil => exact Nat.zero_le _
  | cons x l => exact Nat.le_refl _
theorem pm_h5_le (ss : pm_L) : pm_h5 ss ≤ 5 := by
  cases ss with
  | nil => exact Nat.zero_le _
  | cons x ss =>
    show (if x.1 = 55 ∨ x.1 = 63 then 5 else 0) ≤ 5
    by_cases c : x.1 = 55 ∨ x.1 = 63
    · rw [if_pos c]; omega
    · rw [if_neg c]; omega
theorem xm_run {K : Nat → Nat} {c : Nat} (hK : ∀ i, c ≤ i → K i = 99) (hc : c ≤ 24) : ∀ f ss a sp a' sp' b, pm_go K f ss a sp = some (a', sp', b) → a ≤ c → lg_L ss → pm_ys ss ≤ 1 + 9 * a + pm_h5 ss → sp.length + pm_cs ss ≤ 2 * a → ∃ n, n ≤ 60 * f ∧ ((b = true ∧ xr_R K n (xm_L ss) a sp [] a' sp') ∨ (b = false ∧ ∃ ss1, xr_R K n (xm_L ss) a sp ss1 a' sp' ∧ xr_F K ss1 a')) ∧ sp'.length ≤ 48 ∧ (b = true → a' ≤ c) := by
  intro f
  induction f with
  | zero => intro ss a sp a' sp' b h; cases h
  | succ f ih =>
    intro ss a sp a' sp' b hgo ha lg hy hcs
    cases ss with
    | nil =>
      unfold pm_go at hgo
      simp at hgo
      obtain ⟨rfl, rfl, rfl⟩ := hgo
      exact ⟨0, by omega, Or.inl ⟨rfl, rfl, rfl, rfl⟩, by omega, fun _ => ha⟩
    | cons y ss =>
      obtain ⟨s, p⟩ := y
      have h5 := pm_h5_le ((s, p) :: ss)
      have el : (xm_L ss).length = pm_ys ss := xm_len ss
      have ey : pm_ys ((s, p) :: ss) = pm_y s + pm_ys ss := rfl
      have ec : pm_cs ((s, p) :: ss) = pm_c s + pm_cs ss := rfl
      have T := xm_turn (R := xm_L ss) (sp := sp) hK hc ha (by omega) (by omega) lg.1
      unfold pm_go at hgo
      cases e : (pm_turn K s p a).2 with
      | none =>
        rw [e] at hgo
        simp at hgo
        obtain ⟨rfl, rfl, rfl⟩ := hgo
        obtain ⟨n, ss1, hn, r, q⟩ := T.2 (pm_turn K s p a).1 (by rw [← e])
        exact ⟨n, by omega, Or.inr ⟨rfl, ss1, r, q⟩, by omega, fun z => by cases z⟩
      | some q =>
        obtain ⟨l, w⟩ := q
        rw [e] at hgo
        simp only at hgo
        have ht : pm_turn K s p a = ((pm_turn K s p a).1, some (l, w)) := by rw [← e]
        have nN := pm_N_turn hK hc ha ht
        obtain ⟨n1, n2, _, _, n5, n6⟩ := nN
        have lgl := lg_turn ht
        obtain ⟨n, hn, r⟩ := T.1 _ l w ht
        have h5a : pm_h5 l ≤ pm_h5 (l ++ ss) := pm_h5_a (pm_h5_le l)
        have h55 : pm_h5 ((s, p) :: ss) = if s = 55 ∨ s = 63 then 5 else 0 := rfl
        obtain ⟨m, hm, z, z2, z3⟩ := ih (l ++ ss) (pm_turn K s p a).1 (sp ++ w) a' sp' b hgo n2 (lg_a _ _ lgl lg.2) (by rw [pm_ys_a]; omega) (by rw [List.length_append, pm_cs_a]; omega)
        rw [xm_app] at z
        refine ⟨n + m, by omega, ?_, z2, z3⟩
        rcases z with ⟨z1, z⟩ | ⟨z1, ss1, z, zf⟩
        · exact Or.inl ⟨z1, xr_t r z⟩
        · exact Or.inr ⟨z1, ss1, xr_t r z, zf⟩
section
variable {f_tokenCount f_accepted f_lastPlace f_openCount f_draftOpen f_symbolCount f_stepCount f_bindingCount f_waitingCount f_clashPlace f_nodeCount f_todoCount : Int32} {a_kinds a_values a_declaredSize a_declaredNodes a_draftSize a_draftNodes a_symbols a_symbolPlaces a_steps a_stepPlaces a_bindings a_boundType a_waitingTypes a_waitingFirm a_shape a_left a_right a_link a_note a_todo a_todoOther a_generalNode : Nat → Int32}
theorem xs_app {sts pls : Nat → Int32} {sp : pm_L} {s p : Nat} (h : xs_S sts pls sp) : xs_S (upd sts sp.length (nI s)) (upd pls sp.length (nI p)) (sp ++ [(s, p)]) := by
  intro i s' p' hi
  by_cases l : i < sp.length
  · rw [List.getElem?_append_left l] at hi
    rw [pk_un (by omega), pk_un (by omega)]; exact h i s' p' hi
  · rw [List.getElem?_append_right (by omega)] at hi
    have e : i = sp.length := by
      by_cases q : i - sp.length = 0
      · omega
      · obtain ⟨w, hw⟩ : ∃ w, i - sp.length = w + 1 := ⟨i - sp.length - 1, by omega⟩
        rw [hw] at hi
        cases hi
    subst e
    rw [Nat.sub_self] at hi
    simp at hi
    rw [pk_us, pk_us, hi.1, hi.2]; exact ⟨rfl, rfl⟩
theorem xw_mic {post : Int32 → SX → Prop} {c m a' : Nat} {Kt N : Nat → Nat} {ss' sp' : pm_L} (hT : tk_T a_kinds a_values c Kt N) : ∀ n ss a sp i sy pl sts spl, xr_R Kt n ss a sp ss' a' sp' → st_2 sy pl ss → xs_S sts spl sp → i + n < 100000 → (∀ sy pl sts spl, st_2 sy pl ss' → xs_S sts spl sp' → wX_syntaxFault_20 post m (nI a') (nI (i + n)) (nI c) f_accepted f_lastPlace f_openCount f_draftOpen (nI ss'.length) (nI sp'.length) f_bindingCount f_waitingCount f_clashPlace f_nodeCount f_todoCount a_kinds a_values a_declaredSize a_declaredNodes a_draftSize a_draftNodes sy pl sts spl a_bindings a_boundType a_waitingTypes a_waitingFirm a_shape a_left a_right a_link a_note a_todo a_todoOther a_generalNode) → wX_syntaxFault_20 post (m + n) (nI a) (nI i) (nI c) f_accepted f_lastPlace f_openCount f_draftOpen (nI ss.length) (nI sp.length) f_bindingCount f_waitingCount f_clashPlace f_nodeCount f_todoCount a_kinds a_values a_declaredSize a_declaredNodes a_draftSize a_draftNodes sy pl sts spl a_bindings a_boundType a_waitingTypes a_waitingFirm a_shape a_left a_right a_link a_note a_todo a_todoOther a_generalNode := by
  intro n
  induction n with
  | zero =>
    intro ss a sp i sy pl sts spl h hst hsp _ k
    obtain ⟨rfl, rfl, rfl⟩ := h
    exact k sy pl sts spl hst hsp
  | succ n ih =>
    intro ss a sp i sy pl sts spl h hst hsp hi k
    obtain ⟨s, p, r, e, b1, b2, b3, lg, q⟩ := h
    subst e
    rw [List.length_cons] at b1
    have k' : ∀ sy pl sts spl, st_2 sy pl ss' → xs_S sts spl sp' → wX_syntaxFault_20 post m (nI a') (nI (i + 1 + n)) (nI c) f_accepted f_lastPlace f_openCount f_draftOpen (nI ss'.length) (nI sp'.length) f_bindingCount f_waitingCount f_clashPlace f_nodeCount f_todoCount a_kinds a_values a_declaredSize a_declaredNodes a_draftSize a_draftNodes sy pl sts spl a_bindings a_boundType a_waitingTypes a_waitingFirm a_shape a_left a_right a_link a_note a_todo a_todoOther a_generalNode := fun sy pl sts spl q1 q2 => by
      have z := k sy pl sts spl q1 q2
      rw [show i + (n + 1) = i + 1 + n by omega] at z
      exact z
    have s91 : s < 91 := by unfold xg_leg at lg; omega
    refine br_f (nI_ge (b := 100000) (by omega) (by decide)) (br_f (nI_nle (by rw [List.length_cons]; omega) (by rw [List.length_cons]; omega)) ?_)
    rw [List.length_cons, nI_pred]
    refine nm_e ⟨vp_in_nI (by omega) (by decide), ?_⟩
    rw [nI_clamp (by omega), hst.1]
    refine nm_e ?_
    rcases q with ⟨q1, q2⟩ | ⟨q1, q2, q3⟩ | ⟨q1, q2, l, q3, q4⟩
    · refine br_f (nI_nlt (b := 80) q1 (by omega)) ⟨vp_in_nI (by omega) (by decide), ?_⟩
      rw [hst.2.1]
      unfold wpX_writeStep
      refine br_f (nI_ge (b := 64) (by omega) (by decide)) ⟨vp_in_nI (by omega) (by decide), ?_⟩
      rw [nI_clamp (by omega)]
      refine nm_e ⟨vp_in_nI (by omega) (by decide), nm_e (nm_r (nI_1 _) (nm_r (nI_1 i) ?_))⟩
      have z := ih r a (sp ++ [(s, p)]) (i + 1) sy pl _ _ q2 hst.2.2 (xs_app hsp) (by omega) k'
      rw [List.length_append] at z
      exact z
    · refine br_t (nI_lt (b := 80) (by omega) (by decide)) (br_t (nI_lt (b := 38) q1 (by decide)) ?_)
      refine xw_kind hT (by omega) ?_
      rw [xe_v_eq q2 q1]
      exact br_t rfl (nm_r (nI_1 a) (nm_r (nI_1 i) (ih r (a + 1) sp (i + 1) sy pl sts spl q3 hst.2.2 hsp (by omega) k')))
    · refine br_t (nI_lt (b := 80) q2 (by decide)) (br_f (nI_nlt (b := 38) q1 (by omega)) ?_)
      refine xw_expand hT (by omega) hst.2.2 (by omega) (by unfold xg_leg at lg; omega) (fun l' hl' sy' pl' hst' => ?_) (fun no => by rw [no] at q3; cases q3)
      rw [q3] at hl'
      cases hl'
      exact br_f (by decide) (nm_r (nI_1 i) (ih (l ++ r) a sp (i + 1) sy' pl' sts spl q4 hst' hsp (by omega) k'))
/-- syntaxFault: sp the steps of M's run -/
theorem xw_syntax {post : Int32 → SX → Prop} {c f goal a' : Nat} {Kt N : Nat → Nat} {sp' : pm_L} {b : Bool} (hT : tk_T a_kinds a_values c Kt N) (hg : goal = 40 ∨ goal = 45) (hgo : pm_go Kt f [(goal, 0)] 0 [] = some (a', sp', b)) (hf : f ≤ 1000)
    (h1 : b = true → a' = c → sp'.length ≤ 48 → ∀ sc sy pl sts spl, xs_S sts spl sp' → post (-1) (nI c, f_accepted, f_lastPlace, f_openCount, f_draftOpen, sc, nI sp'.length, f_bindingCount, f_waitingCount, f_clashPlace, f_nodeCount, f_todoCount, a_kinds, a_values, a_declaredSize, a_declaredNodes, a_draftSize, a_draftNodes, sy, pl, sts, spl, a_bindings, a_boundType, a_waitingTypes, a_waitingFirm, a_shape, a_left, a_right, a_link, a_note, a_todo, a_todoOther, a_generalNode))
    (h0 : (b = false ∨ a' < c) → ∀ sc stc sy pl sts spl, post (nI a') (nI c, f_accepted, f_lastPlace, f_openCount, f_draftOpen, sc, stc, f_bindingCount, f_waitingCount, f_clashPlace, f_nodeCount, f_todoCount, a_kinds, a_values, a_declaredSize, a_declaredNodes, a_draftSize, a_draftNodes, sy, pl, sts, spl, a_bindings, a_boundType, a_waitingTypes, a_waitingFirm, a_shape, a_left, a_right, a_link, a_note, a_todo, a_todoOther, a_generalNode)) : wpX_syntaxFault post (nI c, f_accepted, f_lastPlace, f_openCount, f_draftOpen, f_symbolCount, f_stepCount, f_bindingCount, f_waitingCount, f_clashPlace, f_nodeCount, f_todoCount, a_kinds, a_values, a_declaredSize, a_declaredNodes, a_draftSize, a_draftNodes, a_symbols, a_symbolPlaces, a_steps, a_stepPlaces, a_bindings, a_boundType, a_waitingTypes, a_waitingFirm, a_shape, a_left, a_right, a_link, a_note, a_todo, a_todoOther, a_generalNode) (nI goal) := by
  have c24 := hT.1
  obtain ⟨n, hn, z, z2, z3⟩ := xm_run hT.2.1 c24 f _ _ _ _ _ _ hgo (Nat.zero_le _) ⟨by unfold lg_1; show (goal < 38 ∧ 0 = 0) ∨ _; dsimp only; omega, trivial⟩ (by rcases hg with rfl | rfl <;> simp [pm_ys, pm_y, pm_h5]) (by rcases hg with rfl | rfl <;> simp [pm_cs, pm_c])
  have ex : xm_L [(goal, 0)] = [(goal, 0)] := by
    rcases hg with rfl | rfl
    · rfl
    · rfl
  rw [ex] at z
  unfold wpX_syntaxFault
  refine xw_exp (ss := []) (p := 0) (by decide) trivial (fun sy pl hst => ⟨1 + n, ?_⟩)
  have hsp0 : xs_S a_steps a_stepPlaces [] := fun i s p h => by cases h
  rcases z with ⟨zb, z⟩ | ⟨zb, ss1, z, zf⟩
  · refine xw_mic (m := 1) hT n _ 0 [] 0 sy pl _ _ z hst hsp0 (by omega) (fun sy pl sts spl _ hs => ?_)
    refine br_f (nI_ge (b := 100000) (by omega) (by decide)) (br_t (nI_le (a := 0) (b := 0) (by omega) (by omega)) ?_)
    have := z3 zb
    refine pk_le c a' (fun q => h1 zb (by omega) z2 _ _ _ _ _ hs) (fun q => h0 (Or.inr q) _ _ _ _ _ _)
  · refine xw_mic (m := 1) hT n _ 0 [] 0 sy pl _ _ z hst hsp0 (by omega) (fun sy pl sts spl hst1 hs => ?_)
    obtain ⟨s, p, r, e, b1, b3, lg, q⟩ := zf
    subst e
    rw [List.length_cons] at b1
    refine br_f (nI_ge (b := 100000) (by omega) (by decide)) (br_f (nI_nle (by rw [List.length_cons]; omega) (by rw [List.length_cons]; omega)) ?_)
    rw [List.length_cons, nI_pred]
    refine nm_e ⟨vp_in_nI (by omega) (by decide), ?_⟩
    rw [nI_clamp (by omega), hst1.1]
    refine nm_e ?_
    have hk : Kt a' < 38 ∨ Kt a' = 99 := by
      by_cases q : a' < c
      · exact Or.inl (hT.2.2 a' q).2.1
      · exact Or.inr (hT.2.1 a' (by omega))
    rcases q with ⟨q1, q2⟩ | ⟨q1, q2, q3⟩
    · refine br_t (nI_lt (b := 80) (by omega) (by decide)) (br_t (nI_lt (b := 38) q1 (by decide)) ?_)
      refine xw_kind hT (by omega) ?_
      exact br_f (xe_v_ne hk q2 q1) (h0 (Or.inl zb) _ _ _ _ _ _)
    · refine br_t (nI_lt (b := 80) q2 (by decide)) (br_f (nI_nlt (b := 38) q1 (by omega)) ?_)
      refine xw_expand hT (by omega) hst1.2.2 (by omega) (by unfold xg_leg at lg; omega) (fun l' hl' sy' pl' hst' => by rw [q3] at hl'; cases hl') (fun no => ?_)
      exact br_t rfl (h0 (Or.inl zb) _ _ _ _ _ _)
end
end
section
/-! small numbers of the reference: shorts, bytes, two nodes in one int -/
theorem ys_n {a : Nat} (h : a < 32768) : (nI a).toInt16.toInt32 = nI a := by
  apply Int32.toInt_inj.mp
  rw [Int16.toInt_toInt32, Int32.toInt_toInt16, nI_toInt (by omega)]
  exact Int.bmod_eq_of_le (by omega) (by omega)
theorem yb_n {a : Nat} (h : a < 128) : (nI a).toInt8.toInt32 = nI a := by
  apply Int32.toInt_inj.mp
  rw [Int8.toInt_toInt32, Int32.toInt_toInt8, nI_toInt (by omega)]
  exact Int.bmod_eq_of_le (by omega) (by omega)
theorem ys_v {a : Nat} (h : a < 32768) : vp_nar .short (nI a) = nI a := ys_n h
theorem yb_v {a : Nat} (h : a < 128) : vp_nar .byte (nI a) = nI a := yb_n h
theorem ys_nn {a : Nat} (h : a < 32768) : vp_nar .short ((nI a).toInt16.toInt32) = nI a := by rw [pk_vs]; exact ys_n h
theorem yb_nn {a : Nat} (h : a < 128) : vp_nar .byte ((nI a).toInt8.toInt32) = nI a := by rw [pk_vb]; exact yb_n h
theorem yn_i {a : Nat} (h : a < 2 ^ 31) : ((-1 : Int32) - nI a).toInt = -1 - (a : Int) := by
  rw [Int32.toInt_sub, nI_toInt h]
  show Int.bmod (-1 - (a : Int)) (2 ^ 32) = _
  exact Int.bmod_eq_of_le (by omega) (by omega)
theorem ys_m {a : Nat} (h : a < 32768) : ((-1 : Int32) - nI a).toInt16.toInt32 = -1 - nI a := by
  apply Int32.toInt_inj.mp
  rw [Int16.toInt_toInt32, Int32.toInt_toInt16, yn_i (by omega)]
  exact Int.bmod_eq_of_le (by omega) (by omega)
theorem ys_mm {a : Nat} (h : a < 32768) : vp_nar .short (((-1 : Int32) - nI a).toInt16.toInt32) = -1 - nI a := by rw [pk_vs]; exact ys_m h
theorem yn_lt {a : Nat} (h : a < 2 ^ 31) : ¬ (0 : Int32) ≤ -1 - nI a := by
  rw [Int32.le_iff_toInt_le, yn_i h]
  show ¬ (0 : Int) ≤ _
  omega
theorem yn_back (x : Int32) : (-1 : Int32) - ((-1) - x) = x := by
  rw [Int32.sub_eq_iff_eq_add, Int32.add_comm, Int32.sub_add_cancel]
theorem yp_pair {s t : Nat} (hs : s < 4096) (ht : t < 4096) : (nI s <<< ((12 : Int32) &&& 31)) ||| nI t = nI (s * 4096 + t) := by
  rw [pk_shlN _ 12 (by decide) (by omega)]
  apply Int32.toBitVec_inj.mp
  apply BitVec.eq_of_toNat_eq
  rw [Int32.toBitVec_or, BitVec.toNat_or, pk_tn (by omega), pk_tn (by omega), pk_tn (by omega), Nat.mul_comm s]
  exact (Nat.two_pow_add_eq_or_of_lt (i := 12) (by omega) s).symm
theorem yp_s {s t : Nat} (hs : s < 4096) (ht : t < 4096) : nI (s * 4096 + t) >>> ((12 : Int32) &&& 31) = nI s := by
  rw [pk_shrN (by omega) _ 12 (by decide)]
  congr 1
  omega
theorem yp_t {s t : Nat} (hs : s < 4096) (ht : t < 4096) : nI (s * 4096 + t) &&& 4095 = nI t := by
  rw [pk_andN (by omega) 12 (by decide)]
  congr 1
  omega
/-- the parts of a kind -/
def yp_n (k : Nat) : Nat := if k = 5 ∨ k = 6 then 2 else if k = 3 ∨ k = 4 then 1 else 0
end
section
/-! the reference's nodes as a graph -/
def yk (k : Nat) : Nat := if k < 9 then k else 9
/-- the arrays hold the graph -/
def yg_G (n : Nat) (wh pA pB : Nat → Int32) (kd pa pb : Nat → Nat) : Prop :=
  ∀ i, i < n → (kd i = 1000 ∧ pa i < n ∧ wh i = 7 ∧ pA i = nI (pa i)) ∨
    (kd i < 1000 ∧ kd i ≠ 9 ∧ wh i = nI (yk (kd i)) ∧ (kd i = 7 → pA i = -1) ∧ (gr_cn (kd i) → pA i = nI (pa i) ∧ (5 ≤ kd i → pB i = nI (pb i)) ∧ (kd i ≤ 4 → pb i = pa i)) ∧ (9 < kd i → pA i = nI (kd i - 10)))
section
variable {f_count f_accepted f_place f_kept f_nodes f_tt f_pos f_bad f_typing f_unbound f_clash f_top f_scope f_doneName f_doneType : Int32} {a_kind a_value a_keptKind a_keptA a_keptB a_root a_what a_partA a_partB a_mark a_twin a_walk a_pairs a_now a_todo a_types a_firm a_bound a_boundType : Nat → Int32}
variable {kd pa pb : Nat → Nat} {n K : Nat}
theorem yk_l {k : Nat} (h : k < 9) : yk k = k := if_pos h
theorem yk_9 {k : Nat} (h : 9 ≤ k) : yk k = 9 := if_neg (by omega)
theorem yk_le (k : Nat) : yk k ≤ 9 := by
  unfold yk
  by_cases h : k < 9
  · rw [if_pos h]; omega
  · rw [if_neg h]; omega
theorem yg_r {wh pA pB : Nat → Int32} {i : Nat} (hG : yg_G n wh pA pB kd pa pb) (hi : i < n) (hk : kd i ≠ 1000) : kd i < 1000 ∧ kd i ≠ 9 ∧ wh i = nI (yk (kd i)) ∧ (kd i = 7 → pA i = -1) ∧ (gr_cn (kd i) → pA i = nI (pa i) ∧ (5 ≤ kd i → pB i = nI (pb i)) ∧ (kd i ≤ 4 → pb i = pa i)) ∧ (9 < kd i → pA i = nI (kd i - 10)) := by
  rcases hG i hi with z | z
  · exact (hk z.1).elim
  · exact z
theorem yg_7 {wh pA pB : Nat → Int32} {i : Nat} (hG : yg_G n wh pA pB kd pa pb) (hi : i < n) (hk : kd i ≠ 1000) : wh i = 7 ↔ kd i = 7 := by
  obtain ⟨h1, h2, h3, _⟩ := yg_r hG hi hk
  rw [h3]
  have := yk_le (kd i)
  constructor
  · intro z
    have e := (nI_eq (b := 7) (by omega) (by omega)).mp z
    unfold yk at e
    by_cases c : kd i < 9
    · rw [if_pos c] at e; exact e
    · rw [if_neg c] at e; omega
  · intro z
    rw [z]; rfl
theorem yw_real_l {post : Int32 → Prop} (hG : yg_G n a_what a_partA a_partB kd pa pb) (hn : n ≤ 2000) : ∀ f j, j < n → kd (gr_f kd pa f j) ≠ 1000 → post (nI (gr_f kd pa f j)) → wY_real_2 post f_count f_accepted f_place f_kept f_nodes f_tt f_pos f_bad f_typing f_unbound f_clash f_top f_scope f_doneName f_doneType a_kind a_value a_keptKind a_keptA a_keptB a_root a_what a_partA a_partB a_mark a_twin a_walk a_pairs a_now a_todo a_types a_firm a_bound a_boundType (f + 1) (nI j) := by
  intro f
  induction f with
  | zero =>
    intro j hj hk hp
    have v : vp_in (nI j) 2000 := vp_in_nI (by omega) (by decide)
    refine ⟨v, ?_⟩
    rw [nI_clamp (by omega)]
    refine br_c (fun h7 => ⟨v, ?_⟩) (fun _ => hp)
    have e := (yg_7 hG hj hk).mp h7
    refine br_t ?_ hp
    rw [(yg_r hG hj hk).2.2.2.1 e]; decide
  | succ f ih =>
    intro j hj hk hp
    have v : vp_in (nI j) 2000 := vp_in_nI (by omega) (by decide)
    refine ⟨v, ?_⟩
    rw [nI_clamp (by omega)]
    by_cases c : kd j = 1000
    · rw [gr_f_l c] at hk hp
      rcases hG j hj with z | z
      · refine br_t z.2.2.1 ⟨v, br_f ?_ ⟨v, nm_r z.2.2.2 (ih _ z.2.1 hk hp)⟩⟩
        rw [z.2.2.2]
        exact nI_nlt (b := 0) (by omega) (by omega)
      · exact absurd c (by omega)
    · rw [gr_f_r c] at hp
      refine br_c (fun h7 => ⟨v, br_t ?_ hp⟩) (fun _ => hp)
      rw [(yg_r hG hj c).2.2.2.1 ((yg_7 hG hj c).mp h7)]; decide
theorem yw_real {post : Int32 → Prop} {i r : Nat} (hG : yg_G n a_what a_partA a_partB kd pa pb) (hn : n ≤ 2000) (hL : gr_L n kd pa K) (hi : i < n) (hr : gr_to kd pa i r) (hp : post (nI r)) : wpY_real post (f_count, f_accepted, f_place, f_kept, f_nodes, f_tt, f_pos, f_bad, f_typing, f_unbound, f_clash, f_top, f_scope, f_doneName, f_doneType, a_kind, a_value, a_keptKind, a_keptA, a_keptB, a_root, a_what, a_partA, a_partB, a_mark, a_twin, a_walk, a_pairs, a_now, a_todo, a_types, a_firm, a_bound, a_boundType) (nI i) := by
  have e := gr_to_u hr (gr_L_to hL hi)
  rw [e] at hp
  exact ⟨K + 1, yw_real_l hG hn K i hi (hL i hi) hp⟩
theorem yw_make {post : Int32 → SY → Prop} {k a b : Int32} (hn : n < 2000) (h : post (nI n) (f_count, f_accepted, f_place, f_kept, nI (n + 1), f_tt, f_pos, f_bad, f_typing, f_unbound, f_clash, f_top, f_scope, f_doneName, f_doneType, a_kind, a_value, a_keptKind, a_keptA, a_keptB, a_root, upd a_what n k.toInt8.toInt32, upd a_partA n a.toInt16.toInt32, upd a_partB n b.toInt16.toInt32, a_mark, a_twin, a_walk, a_pairs, a_now, a_todo, a_types, a_firm, a_bound, a_boundType)) : wpY_make post (f_count, f_accepted, f_place, f_kept, nI n, f_tt, f_pos, f_bad, f_typing, f_unbound, f_clash, f_top, f_scope, f_doneName, f_doneType, a_kind, a_value, a_keptKind, a_keptA, a_keptB, a_root, a_what, a_partA, a_partB, a_mark, a_twin, a_walk, a_pairs, a_now, a_todo, a_types, a_firm, a_bound, a_boundType) k a b := by
  have e : (nI n).toNatClampNeg = n := nI_clamp (by omega)
  have hi : vp_in (nI n) 2000 := vp_in_nI hn (by decide)
  refine br_f (fun z => by have := (nI_eq (b := 2000) (by omega) (by omega)).mp z; omega) ⟨hi, ?_⟩
  rw [e]
  exact nm_r (by rw [pk_vb]) ⟨hi, nm_r (by rw [pk_vs]) ⟨hi, nm_r (by rw [pk_vs]) (nm_r (nI_1 n) h)⟩⟩
/-- a node with numbers -/
theorem yw_mk {post : Int32 → SY → Prop} {k a b : Nat} (hn : n < 2000) (hk : k < 128) (ha : a < 32768) (hb : b < 32768) (h : post (nI n) (f_count, f_accepted, f_place, f_kept, nI (n + 1), f_tt, f_pos, f_bad, f_typing, f_unbound, f_clash, f_top, f_scope, f_doneName, f_doneType, a_kind, a_value, a_keptKind, a_keptA, a_keptB, a_root, upd a_what n (nI k), upd a_partA n (nI a), upd a_partB n (nI b), a_mark, a_twin, a_walk, a_pairs, a_now, a_todo, a_types, a_firm, a_bound, a_boundType)) : wpY_make post (f_count, f_accepted, f_place, f_kept, nI n, f_tt, f_pos, f_bad, f_typing, f_unbound, f_clash, f_top, f_scope, f_doneName, f_doneType, a_kind, a_value, a_keptKind, a_keptA, a_keptB, a_root, a_what, a_partA, a_partB, a_mark, a_twin, a_walk, a_pairs, a_now, a_todo, a_types, a_firm, a_bound, a_boundType) (nI k) (nI a) (nI b) := by
  refine yw_make hn ?_
  rw [yb_n hk, ys_n ha, ys_n hb]; exact h
theorem yw_fresh {post : Int32 → SY → Prop} (hn : n < 2000) (h : post (nI n) (f_count, f_accepted, f_place, f_kept, nI (n + 1), f_tt, f_pos, f_bad, f_typing, f_unbound, f_clash, f_top, f_scope, f_doneName, f_doneType, a_kind, a_value, a_keptKind, a_keptA, a_keptB, a_root, upd a_what n 7, upd a_partA n (-1), upd a_partB n (-1), a_mark, a_twin, a_walk, a_pairs, a_now, a_todo, a_types, a_firm, a_bound, a_boundType)) : wpY_fresh post (f_count, f_accepted, f_place, f_kept, nI n, f_tt, f_pos, f_bad, f_typing, f_unbound, f_clash, f_top, f_scope, f_doneName, f_doneType, a_kind, a_value, a_keptKind, a_keptA, a_keptB, a_root, a_what, a_partA, a_partB, a_mark, a_twin, a_walk, a_pairs, a_now, a_todo, a_types, a_firm, a_bound, a_boundType) := by
  refine yw_make hn ?_
  exact h
theorem yw_parts {post : Int32 → Prop} {k : Nat} (hk : k < 128) (h : post (nI (yp_n k))) : wpY_parts post (nI k) := by
  unfold yp_n at h
  refine pk_eq k 5 (fun e => ?_) (fun e => pk_eq k 6 (fun e' => ?_) (fun e' => pk_eq k 3 (fun e2 => ?_) (fun e2 => pk_eq k 4 (fun e3 => ?_) (fun e3 => ?_))))
  · rw [if_pos (Or.inl e)] at h; exact h
  · rw [if_pos (Or.inr e')] at h; exact h
  · rw [if_neg (by omega), if_pos (Or.inl e2)] at h; exact h
  · rw [if_neg (by omega), if_pos (Or.inr e3)] at h; exact h
  · rw [if_neg (by omega), if_neg (by omega)] at h; exact h
theorem yp_0 {k : Nat} (h : ¬ gr_cn k) : yp_n (yk k) = 0 := by
  unfold yp_n yk
  by_cases c : k < 9
  · rw [if_pos c, if_neg (by omega), if_neg (by omega)]
  · rw [if_neg c, if_neg (by omega), if_neg (by omega)]
theorem yp_1 {k : Nat} (h : gr_cn k) (h' : k ≤ 4) : yp_n (yk k) = 1 := by
  rw [yk_l (by omega)]
  unfold yp_n
  rw [if_neg (by omega), if_pos (by omega)]
theorem yp_2 {k : Nat} (h : gr_cn k) (h' : 5 ≤ k) : yp_n (yk k) = 2 := by
  rw [yk_l (by omega)]
  unfold yp_n
  rw [if_pos (by omega)]
/-- parts of a node: none, one, two -/
theorem yw_p {post : Int32 → Prop} {wh pA pB : Nat → Int32} {i : Nat} (hG : yg_G n wh pA pB kd pa pb) (hi : i < n) (hk : kd i ≠ 1000) (h0 : ¬ gr_cn (kd i) → post 0) (h1 : gr_cn (kd i) → kd i ≤ 4 → pA i = nI (pa i) → pb i = pa i → post 1) (h2 : gr_cn (kd i) → 5 ≤ kd i → pA i = nI (pa i) → pB i = nI (pb i) → post 2) : wpY_parts post (wh i) := by
  obtain ⟨z1, z2, z3, z4, z5, z6⟩ := yg_r hG hi hk
  rw [z3]
  refine yw_parts (by have := yk_le (kd i); omega) ?_
  by_cases c : gr_cn (kd i)
  · obtain ⟨q1, q2, q3⟩ := z5 c
    by_cases d : kd i ≤ 4
    · rw [yp_1 c d]; exact h1 c d q1 (q3 d)
    · rw [yp_2 c (by omega)]; exact h2 c (by omega) q1 (q2 (by omega))
  · rw [yp_0 c]; exact h0 c
theorem yg_mk {wh pA pB : Nat → Int32} {k a b w : Nat} {x y : Int32} (hG : yg_G n wh pA pB kd pa pb) (hk : k < 1000) (h9 : k ≠ 9) (hw : w = yk k) (h7 : k = 7 → x = -1) (hc : gr_cn k → x = nI a ∧ (5 ≤ k → y = nI b) ∧ (k ≤ 4 → b = a)) (hr : 9 < k → x = nI (k - 10)) : yg_G (n + 1) (upd wh n (nI w)) (upd pA n x) (upd pB n y) (gr_u kd n k) (gr_u pa n a) (gr_u pb n b) := by
  intro i hi
  by_cases c : i = n
  · subst c
    rw [gr_us, gr_us, gr_us, pk_us, pk_us, pk_us, hw]
    exact Or.inr ⟨hk, h9, rfl, h7, hc, hr⟩
  · rw [gr_un c, gr_un c, gr_un c, pk_un c, pk_un c, pk_un c]
    rcases hG i (by omega) with z | z
    · exact Or.inl ⟨z.1, by omega, z.2.2⟩
    · exact Or.inr z
theorem yw_unmark {post : SY → Prop} (hn : n ≤ 2000) (h : ∀ mk, (∀ i, i < n → mk i = -1) → post (f_count, f_accepted, f_place, f_kept, nI n, f_tt, f_pos, f_bad, f_typing, f_unbound, f_clash, f_top, f_scope, f_doneName, f_doneType, a_kind, a_value, a_keptKind, a_keptA, a_keptB, a_root, a_what, a_partA, a_partB, mk, a_twin, a_walk, a_pairs, a_now, a_todo, a_types, a_firm, a_bound, a_boundType)) : wpY_unmark post (f_count, f_accepted, f_place, f_kept, nI n, f_tt, f_pos, f_bad, f_typing, f_unbound, f_clash, f_top, f_scope, f_doneName, f_doneType, a_kind, a_value, a_keptKind, a_keptA, a_keptB, a_root, a_what, a_partA, a_partB, a_mark, a_twin, a_walk, a_pairs, a_now, a_todo, a_types, a_firm, a_bound, a_boundType) := by
  have loop : ∀ d j mk, j + d = n → (∀ i, i < j → mk i = -1) → wY_unmark_2 post f_count f_accepted f_place f_kept (nI n) f_tt f_pos f_bad f_typing f_unbound f_clash f_top f_scope f_doneName f_doneType (d + 1) (nI j) a_kind a_value a_keptKind a_keptA a_keptB a_root a_what a_partA a_partB mk a_twin a_walk a_pairs a_now a_todo a_types a_firm a_bound a_boundType := by
    intro d
    induction d with
    | zero =>
      intro j mk hj hz
      exact br_t (nI_le (by omega) (by omega)) (h mk (fun i hi => hz i (by omega)))
    | succ d ih =>
      intro j mk hj hz
      refine br_f (nI_ge (by omega) (by omega)) ⟨vp_in_nI (by omega) (by decide), ?_⟩
      rw [nI_clamp (by omega)]
      refine nm_e (nm_r (nI_1 j) (ih (j + 1) _ (by omega) (fun i hi => ?_)))
      by_cases c : i = j
      · rw [c, pk_us]; rfl
      · rw [pk_un c]; exact hz i (by omega)
  exact ⟨n + 1, loop n 0 a_mark (by omega) (fun i hi => by omega)⟩
end
end
section
/-! the reference's search for a node that contains itself, and unify -/
def mk_v (k : Nat) : Int32 := if k = 0 then -1 else nI k
def ym_N (n : Nat) (mark : Nat → Int32) (nt : Nat → Nat) : Prop := ∀ i, i < n → mark i = mk_v (nt i) ∧ nt i ≤ 3
theorem ym_u {n : Nat} {mark : Nat → Int32} {nt : Nat → Nat} {a k : Nat} (h : ym_N n mark nt) (hk : k ≤ 3) (hk0 : k ≠ 0) : ym_N n (upd mark a (nI k)) (gr_u nt a k) := by
  intro i hi
  by_cases c : i = a
  · subst c; rw [pk_us, gr_us]; exact ⟨(if_neg hk0).symm, hk⟩
  · rw [pk_un c, gr_un c]; exact h i hi
theorem mk_eq {k : Nat} (c : Nat) (hk : k ≤ 3) (hc : c ≤ 3) (hc0 : c ≠ 0) : mk_v k = nI c ↔ k = c := by
  unfold mk_v
  by_cases e : k = 0
  · rw [if_pos e]
    constructor
    · intro z
      have : (-1 : Int32) < 0 := by decide
      rw [z] at this
      exact absurd this (nI_nlt (b := 0) (by omega) (by omega))
    · intro z; omega
  · rw [if_neg e]; exact nI_eq (by omega) (by omega)
theorem mk_lt {k : Nat} (hk : k ≤ 3) : mk_v k < 0 ↔ k = 0 := by
  unfold mk_v
  by_cases e : k = 0
  · rw [if_pos e]; exact ⟨fun _ => e, fun _ => by decide⟩
  · rw [if_neg e]
    exact ⟨fun z => absurd z (nI_nlt (b := 0) (by omega) (by omega)), fun z => (e z).elim⟩
theorem pk_p {c P A B : Prop} (e : c ↔ P) (f : P → A) (g : ¬ P → B) : (c → A) ∧ (¬ c → B) := ⟨fun z => f (e.mp z), fun z => g (fun p => z (e.mpr p))⟩
/-- a stack of nodes and of ends -/
def ye_v (e : Nat × Bool) : Int32 := if e.2 = true then -1 - nI e.1 else nI e.1
def st_y (a : Nat → Int32) : List (Nat × Bool) → Prop
  | [] => True
  | x :: L => a L.length = ye_v x ∧ st_y a L
theorem st_yu {a : Nat → Int32} {k : Nat} {x : Int32} : ∀ L : List (Nat × Bool), L.length ≤ k → st_y a L → st_y (upd a k x) L := by
  intro L
  induction L with
  | nil => intro _ _; trivial
  | cons y L ih =>
    intro h z
    rw [List.length_cons] at h
    refine ⟨?_, ih (by omega) z.2⟩
    rw [pk_un (by omega)]; exact z.1
theorem st_yp {a : Nat → Int32} {x : Nat × Bool} {L : List (Nat × Bool)} (h : st_y a L) : st_y (upd a L.length (ye_v x)) (x :: L) := ⟨pk_us, st_yu L (Nat.le_refl _) h⟩
def ye_c (ρ : Nat → tr_T) : List (Nat × Bool) → Prop
  | [] => True
  | x :: L => (∀ y, (y, true) ∈ L → tr_sz (ρ x.1) < tr_sz (ρ y)) ∧ ye_c ρ L
/-- a part is done, or waits in U -/
def ye_p (kd pa nt : Nat → Nat) (U : List (Nat × Bool)) (p : Nat) : Prop := (p, false) ∈ U ∨ ∀ r, gr_to kd pa p r → nt r = 2 ∨ (r, true) ∈ U
def ye_I (n : Nat) (kd pa pb nt : Nat → Nat) (s : Nat) (st : List (Nat × Bool)) : Prop :=
  (∀ x, x ∈ st → x.1 < n ∧ (x.2 = true → kd x.1 ≠ 1000 ∧ nt x.1 ≠ 0)) ∧ (∀ i, i < n → nt i = 1 → (i, true) ∈ st) ∧
  (∀ i, i < n → nt i = 2 → kd i ≠ 1000 ∧ (∃ f, gr_H kd pa pb f i) ∧ (gr_cn (kd i) → (∀ x, gr_to kd pa (pa i) x → nt x = 2) ∧ ∀ x, gr_to kd pa (pb i) x → nt x = 2)) ∧
  (∀ U t D, st = U ++ (t, true) :: D → gr_cn (kd t) → ye_p kd pa nt U (pa t) ∧ ye_p kd pa nt U (pb t)) ∧
  ye_p kd pa nt st s ∧ (∀ ρ, gr_V n kd pa pb ρ → ye_c ρ st) ∧ ∀ i, i < n → nt i ≤ 2
section
variable {n K : Nat} {kd pa pb nt : Nat → Nat} {s : Nat} {st : List (Nat × Bool)}
/-- an entry whose node is done falls away -/
theorem ye_drop {x r : Nat} (I : ye_I n kd pa pb nt s ((x, false) :: st)) (hx : gr_to kd pa x r) (h2 : nt r = 2) : ye_I n kd pa pb nt s st := by
  obtain ⟨i1, i2, i3, i4, i5, i6, i7⟩ := I
  have pp : ∀ U p, ye_p kd pa nt ((x, false) :: U) p → ye_p kd pa nt U p := by
    intro U p h
    rcases h with h | h
    · rcases List.mem_cons.mp h with z | z
      · injection z with z1 z2
        subst z1
        exact Or.inr (fun q hq => Or.inl (by rw [gr_to_u hq hx]; exact h2))
      · exact Or.inl z
    · refine Or.inr (fun q hq => (h q hq).imp id (fun z => ?_))
      rcases List.mem_cons.mp z with z | z
      · injection z with z1 z2; cases z2
      · exact z
  refine ⟨fun y hy => i1 y (List.mem_cons_of_mem _ hy), fun i hi h => ?_, i3, fun U t D e c => ?_, pp _ _ i5, fun ρ h => (i6 ρ h).2, i7⟩
  · rcases List.mem_cons.mp (i2 i hi h) with z | z
    · injection z with z1 z2; cases z2
    · exact z
  · have := i4 ((x, false) :: U) t D (by rw [e]; rfl) c
    exact ⟨pp _ _ this.1, pp _ _ this.2⟩
/-- the end of a node: it is done -/
theorem ye_end {t : Nat} (W : gr_W n kd pa pb) (hL : gr_L n kd pa K) (I : ye_I n kd pa pb nt s ((t, true) :: st)) : ye_I n kd pa pb (gr_u nt t 2) s st := by
  obtain ⟨i1, i2, i3, i4, i5, i6, i7⟩ := I
  obtain ⟨tn, t2⟩ := i1 (t, true) List.mem_cons_self
  obtain ⟨tk, t0⟩ := t2 rfl
  have up : ∀ y, nt y = 2 → gr_u nt t 2 y = 2 := fun y hy => by
    by_cases q : y = t
    · rw [q, gr_us]
    · rw [gr_un q]; exact hy
  have pp : ∀ U p, ye_p kd pa nt ((t, true) :: U) p → ye_p kd pa (gr_u nt t 2) U p := by
    intro U p h
    rcases h with h | h
    · rcases List.mem_cons.mp h with z | z
      · injection z with z1 z2; cases z2
      · exact Or.inl z
    · refine Or.inr (fun q hq => ?_)
      rcases h q hq with z | z
      · exact Or.inl (up q z)
      · rcases List.mem_cons.mp z with z | z
        · injection z with z1 z2
          rw [z1]
          exact Or.inl gr_us
        · exact Or.inr z
  have nil : ∀ p, ye_p kd pa nt [] p → ∀ r, gr_to kd pa p r → nt r = 2 := by
    intro p h r hr
    rcases h with h | h
    · cases h
    · rcases h r hr with z | z
      · exact z
      · cases z
  refine ⟨fun y hy => ⟨(i1 y (List.mem_cons_of_mem _ hy)).1, fun z => ⟨((i1 y (List.mem_cons_of_mem _ hy)).2 z).1, ?_⟩⟩, fun i hi h => ?_, fun i hi h => ?_, fun U t' D e c => ?_, pp _ _ i5, fun ρ h => (i6 ρ h).2, fun i hi => ?_⟩
  · by_cases q : y.1 = t
    · rw [q, gr_us]; omega
    · rw [gr_un q]; exact ((i1 y (List.mem_cons_of_mem _ hy)).2 z).2
  · by_cases q : i = t
    · rw [q, gr_us] at h; omega
    · rw [gr_un q] at h
      rcases List.mem_cons.mp (i2 i hi h) with z | z
      · injection z with z1 z2; exact (q z1).elim
      · exact z
  · by_cases q : i = t
    · subst q
      have c4 := i4 [] i st rfl
      refine ⟨tk, gr_H_i (fun z => (tk z).elim) (fun z => ?_), fun z => ?_⟩
      · have w := (W i tn).2 z
        have t1 := gr_L_to hL w.1
        have t2 := gr_L_to hL w.2
        exact ⟨gr_to_H t1 (i3 _ (gr_to_n W t1 w.1) (nil _ (c4 z).1 _ t1)).2.1, gr_to_H t2 (i3 _ (gr_to_n W t2 w.2) (nil _ (c4 z).2 _ t2)).2.1⟩
      · exact ⟨fun x hx => up x (nil _ (c4 z).1 x hx), fun x hx => up x (nil _ (c4 z).2 x hx)⟩
    · rw [gr_un q] at h
      obtain ⟨z1, z2, z3⟩ := i3 i hi h
      exact ⟨z1, z2, fun k => ⟨fun y hy => up y ((z3 k).1 y hy), fun y hy => up y ((z3 k).2 y hy)⟩⟩
  · have := i4 ((t, true) :: U) t' D (by rw [e]; rfl) c
    exact ⟨pp _ _ this.1, pp _ _ this.2⟩
  · by_cases q : i = t
    · rw [q, gr_us]; omega
    · rw [gr_un q]; exact i7 i hi
/-- a node not seen so far: its end, and its parts above -/
theorem ye_open {x r : Nat} {ps : List (Nat × Bool)} (W : gr_W n kd pa pb) (I : ye_I n kd pa pb nt s ((x, false) :: st)) (hx : gr_to kd pa x r) (h0 : nt r = 0) (hps : ∀ y, y ∈ ps → y.2 = false ∧ gr_cn (kd r) ∧ (y.1 = pa r ∨ y.1 = pb r)) (hpc : gr_cn (kd r) → (pa r, false) ∈ ps ∧ (pb r, false) ∈ ps) : ye_I n kd pa pb (gr_u nt r 1) s (ps ++ (r, true) :: st) := by
  obtain ⟨i1, i2, i3, i4, i5, i6, i7⟩ := I
  have xn : x < n := (i1 (x, false) List.mem_cons_self).1
  have rn := gr_to_n W hx xn
  have up : ∀ y, nt y = 2 → gr_u nt r 1 y = 2 := fun y hy => by
    by_cases q : y = r
    · rw [q] at hy; omega
    · rw [gr_un q]; exact hy
  have pp : ∀ U p, ye_p kd pa nt ((x, false) :: U) p → ye_p kd pa (gr_u nt r 1) (ps ++ (r, true) :: U) p := by
    intro U p h
    rcases h with h | h
    · rcases List.mem_cons.mp h with z | z
      · injection z with z1 z2
        subst z1
        exact Or.inr (fun q hq => Or.inr (by rw [gr_to_u hq hx]; exact List.mem_append_right _ List.mem_cons_self))
      · exact Or.inl (List.mem_append_right _ (List.mem_cons_of_mem _ z))
    · refine Or.inr (fun q hq => (h q hq).imp (up q) (fun z => ?_))
      rcases List.mem_cons.mp z with z | z
      · injection z with z1 z2; cases z2
      · exact List.mem_append_right _ (List.mem_cons_of_mem _ z)
  have psf : ∀ y, (y, true) ∉ ps := fun y h => by have := (hps _ h).1; cases this
  refine ⟨fun y hy => ?_, fun i hi h => ?_, fun i hi h => ?_, fun U t D e c => ?_, pp _ _ i5, fun ρ h => ?_, fun i hi => ?_⟩
  · rcases List.mem_append.mp hy with z | z
    · obtain ⟨q1, q2, q3⟩ := hps y z
      have w := (W r rn).2 q2
      refine ⟨?_, fun k => by rw [q1] at k; cases k⟩
      rcases q3 with q3 | q3
      · rw [q3]; exact w.1
      · rw [q3]; exact w.2
    · rcases List.mem_cons.mp z with z | z
      · rw [z]; exact ⟨rn, fun _ => ⟨hx.1, by rw [gr_us]; omega⟩⟩
      · have q := i1 y (List.mem_cons_of_mem _ z)
        refine ⟨q.1, fun k => ⟨(q.2 k).1, ?_⟩⟩
        by_cases e : y.1 = r
        · rw [e, gr_us]; omega
        · rw [gr_un e]; exact (q.2 k).2
  · by_cases q : i = r
    · rw [q]; exact List.mem_append_right _ List.mem_cons_self
    · rw [gr_un q] at h
      rcases List.mem_cons.mp (i2 i hi h) with z | z
      · injection z with z1 z2; cases z2
      · exact List.mem_append_right _ (List.mem_cons_of_mem _ z)
  · by_cases q : i = r
    · rw [q, gr_us] at h; omega
    · rw [gr_un q] at h
      obtain ⟨z1, z2, z3⟩ := i3 i hi h
      exact ⟨z1, z2, fun k => ⟨fun y hy => up y ((z3 k).1 y hy), fun y hy => up y ((z3 k).2 y hy)⟩⟩
  · rcases List.append_eq_append_iff.mp e with ⟨A, e1, e2⟩ | ⟨A, e1, e2⟩
    · cases A with
      | nil =>
        rw [List.append_nil] at e1
        rw [List.nil_append] at e2
        injection e2 with e2 e3
        injection e2 with e2 _
        subst e2 e1
        exact ⟨Or.inl (hpc c).1, Or.inl (hpc c).2⟩
      | cons a A =>
        injection e2 with e2 e3
        subst e2
        have := i4 ((x, false) :: A) t D (by rw [e3]; rfl) c
        rw [e1]
        exact ⟨pp _ _ this.1, pp _ _ this.2⟩
    · cases A with
      | nil =>
        rw [List.append_nil] at e1
        rw [List.nil_append] at e2
        injection e2 with e2 e3
        injection e2 with e2 _
        subst e2 e1
        exact ⟨Or.inl (hpc c).1, Or.inl (hpc c).2⟩
      | cons a A =>
        injection e2 with e2 e3
        subst e2
        exact (psf t (by rw [e1]; exact List.mem_append_right _ List.mem_cons_self)).elim
  · have hx2 := gr_to_V W h hx xn
    have c1 := i6 ρ h
    have c2 : ye_c ρ ((r, true) :: st) := ⟨fun y hy => by rw [← hx2]; exact c1.1 y hy, c1.2⟩
    have add : ∀ ps, (∀ y, y ∈ ps → y.2 = false ∧ gr_cn (kd r) ∧ (y.1 = pa r ∨ y.1 = pb r)) → ye_c ρ (ps ++ (r, true) :: st) := by
      intro ps
      induction ps with
      | nil => intro _; exact c2
      | cons y ps ih =>
        intro hy
        refine ⟨fun z hz => ?_, ih (fun w hw => hy w (List.mem_cons_of_mem _ hw))⟩
        obtain ⟨q1, q2, q3⟩ := hy y List.mem_cons_self
        have lt : tr_sz (ρ y.1) < tr_sz (ρ r) := by
          rw [gr_Vc h rn q2]
          rcases q3 with q3 | q3
          · rw [q3]; exact tr_sz_l _ _ _
          · rw [q3]; exact tr_sz_r _ _ _
        rcases List.mem_append.mp hz with w | w
        · have := (hy _ (List.mem_cons_of_mem _ w)).1; cases this
        · rcases List.mem_cons.mp w with w | w
          · injection w with w1 _; rw [w1]; exact lt
          · exact Nat.lt_trans lt (c2.1 z w)
    exact add ps hps
  · by_cases q : i = r
    · rw [q, gr_us]; omega
    · rw [gr_un q]; exact i7 i hi
/-- a node met again on the way down -/
theorem ye_cyc {x r : Nat} (W : gr_W n kd pa pb) (I : ye_I n kd pa pb nt s ((x, false) :: st)) (hx : gr_to kd pa x r) (h1 : nt r = 1) : ∀ ρ, ¬ gr_V n kd pa pb ρ := by
  obtain ⟨i1, i2, i3, i4, i5, i6, i7⟩ := I
  intro ρ h
  have xn : x < n := (i1 (x, false) List.mem_cons_self).1
  rcases List.mem_cons.mp (i2 r (gr_to_n W hx xn) h1) with z | z
  · injection z with z1 z2; cases z2
  · have c := (i6 ρ h).1 r z
    have e := gr_to_V W h hx xn
    rw [e] at c
    omega
theorem ye_0 (hs : s < n) : ye_I n kd pa pb (fun _ => 0) s [(s, false)] := by
  refine ⟨fun x hx => ?_, fun i _ h => (by cases h), fun i _ h => (by cases h), fun U t D e => ?_, Or.inl List.mem_cons_self, fun ρ h => ⟨fun y hy => (by cases hy), trivial⟩, fun i _ => Nat.zero_le _⟩
  · rw [List.mem_singleton] at hx
    rw [hx]; exact ⟨hs, fun z => by cases z⟩
  · have m : (t, true) ∈ [(s, false)] := by rw [e]; exact List.mem_append_right _ List.mem_cons_self
    rw [List.mem_singleton] at m
    injection m with _ m
    cases m
theorem ye_fin (W : gr_W n kd pa pb) (I : ye_I n kd pa pb nt s []) (hs : s < n) : ck_R n kd pa pb (fun i => i < n ∧ nt i = 2) ∧ ∀ x, gr_to kd pa s x → x < n ∧ nt x = 2 := by
  obtain ⟨i1, i2, i3, i4, i5, i6, i7⟩ := I
  refine ⟨fun r hr => ?_, fun x hx => ⟨gr_to_n W hx hs, ?_⟩⟩
  · obtain ⟨z1, z2, z3⟩ := i3 r hr.1 hr.2
    refine ⟨hr.1, z1, z2, fun k => ?_⟩
    have w := (W r hr.1).2 k
    exact ⟨fun y hy => ⟨gr_to_n W hy w.1, (z3 k).1 y hy⟩, fun y hy => ⟨gr_to_n W hy w.2, (z3 k).2 y hy⟩⟩
  · rcases i5 with z | z
    · cases z
    · rcases z x hx with z | z
      · exact z
      · cases z
end
section
variable {f_count f_accepted f_place f_kept f_nodes f_tt f_pos f_bad f_typing f_unbound f_clash f_top f_scope f_doneName f_doneType : Int32} {a_kind a_value a_keptKind a_keptA a_keptB a_root a_what a_partA a_partB a_mark a_twin a_walk a_pairs a_now a_todo a_types a_firm a_bound a_boundType : Nat → Int32}
variable {kd pa pb : Nat → Nat} {n K : Nat}
theorem yw_end_l {post : Int32 → SY → Prop} {s : Nat} (hn : n ≤ 2000) (W : gr_W n kd pa pb) (hG : yg_G n a_what a_partA a_partB kd pa pb) (hL : gr_L n kd pa K)
    (h1 : (∀ ρ, ¬ gr_V n kd pa pb ρ) → ∀ mk wk, post 1 (f_count, f_accepted, f_place, f_kept, f_nodes, f_tt, f_pos, f_bad, f_typing, f_unbound, f_clash, f_top, f_scope, f_doneName, f_doneType, a_kind, a_value, a_keptKind, a_keptA, a_keptB, a_root, a_what, a_partA, a_partB, mk, a_twin, wk, a_pairs, a_now, a_todo, a_types, a_firm, a_bound, a_boundType))
    (h0 : ∀ nt, ye_I n kd pa pb nt s [] → ∀ mk wk, post 0 (f_count, f_accepted, f_place, f_kept, f_nodes, f_tt, f_pos, f_bad, f_typing, f_unbound, f_clash, f_top, f_scope, f_doneName, f_doneType, a_kind, a_value, a_keptKind, a_keptA, a_keptB, a_root, a_what, a_partA, a_partB, mk, a_twin, wk, a_pairs, a_now, a_todo, a_types, a_firm, a_bound, a_boundType)) :
    ∀ m st nt mk wk, ye_I n kd pa pb nt s st → ym_N n mk nt → st_y wk st → 3 * ct_n (fun i => decide (nt i = 0)) n + st.length ≤ m → st.length + 2 * ct_n (fun i => decide (nt i = 0)) n ≤ 2 * n + 1 → wY_isEndless_17 post f_count f_accepted f_place f_kept f_nodes f_tt f_pos f_bad f_typing f_unbound f_clash f_top f_scope f_doneName f_doneType (m + 1) (nI st.length) a_kind a_value a_keptKind a_keptA a_keptB a_root a_what a_partA a_partB mk a_twin wk a_pairs a_now a_todo a_types a_firm a_bound a_boundType := by
  intro m
  induction m with
  | zero =>
    intro st nt mk wk I hN hst hm hl
    have e : st = [] := List.eq_nil_of_length_eq_zero (by omega)
    subst e
    exact br_t (nI_le (a := 0) (b := 0) (by omega) (by omega)) (h0 nt I mk wk)
  | succ m ih =>
    intro st nt mk wk I hN hst hm hl
    cases st with
    | nil => exact br_t (nI_le (a := 0) (b := 0) (by omega) (by omega)) (h0 nt I mk wk)
    | cons x st =>
      rw [List.length_cons] at hm hl
      have ctl := ct_le (p := fun i => decide (nt i = 0)) n
      have vl : vp_in (nI st.length) 4100 := vp_in_nI (by omega) (by decide)
      refine br_f (nI_nle (by rw [List.length_cons]; omega) (by rw [List.length_cons]; omega)) ?_
      rw [List.length_cons]
      refine nm_r (pk_m1 st.length) ⟨vl, ?_⟩
      rw [nI_clamp (by omega), hst.1]
      refine nm_e ?_
      obtain ⟨x, e⟩ := x
      have xn : x < n := (I.1 (x, e) List.mem_cons_self).1
      cases e with
      | true =>
        refine br_f (yn_lt (by omega)) ?_
        show vp_in (-1 - (-1 - nI x)) 2000 ∧ _
        rw [show ye_v (x, true) = -1 - nI x from rfl, yn_back]
        refine ⟨vp_in_nI (by omega) (by decide), ?_⟩
        rw [nI_clamp (by omega)]
        have x0 := ((I.1 (x, true) List.mem_cons_self).2 rfl).2
        have ce := ct_c n (p := fun i => decide (gr_u nt x 2 i = 0)) (q := fun i => decide (nt i = 0)) (fun i hi => by
          by_cases q : i = x
          · rw [q, gr_us]; simp only [x0]; rfl
          · rw [gr_un q])
        exact nm_e (ih st (gr_u nt x 2) _ wk (ye_end W hL I) (ym_u (k := 2) hN (by omega) (by omega)) hst.2 (by rw [ce]; omega) (by rw [ce]; omega))
      | false =>
        refine br_t (nI_le (a := 0) (by omega) (by omega)) ?_
        have tx := gr_L_to hL xn
        generalize er : gr_f kd pa K x = r at tx
        have rn := gr_to_n W tx xn
        have vr : vp_in (nI r) 2000 := vp_in_nI (by omega) (by decide)
        have cr : (nI r).toNatClampNeg = r := nI_clamp (by omega)
        refine yw_real hG hn hL xn tx ⟨vr, ?_⟩
        rw [cr, (hN r rn).1]
        have n3 := (hN r rn).2
        refine pk_p (mk_eq 1 n3 (by omega) (by omega)) (fun z => h1 (ye_cyc W I tx z) _ _) (fun z1 => ⟨vr, ?_⟩)
        refine pk_p (mk_eq 2 n3 (by omega) (by omega)) (fun z => ih st nt mk wk (ye_drop I tx z) hN hst.2 (by omega) (by omega)) (fun z2 => ⟨vr, ?_⟩)
        have n2 := I.2.2.2.2.2.2 r rn
        have r0 : nt r = 0 := by omega
        have hct := ct_u (p := fun i => decide (nt i = 0)) (q := fun i => decide (gr_u nt r 1 i = 0)) (a := r) (by rw [r0]; rfl) (by rw [gr_us]; rfl) (fun i hi => by rw [gr_un hi]) n rn
        refine nm_e (nm_r (nI_1 _) ⟨vl, ?_⟩)
        rw [ys_mm (by omega)]
        have hs1 : st_y (upd wk st.length (-1 - nI r)) ((r, true) :: st) := st_yp (x := (r, true)) hst.2
        refine nm_e ⟨vr, ?_⟩
        have N2 : ym_N n (upd mk r (nI 1)) (gr_u nt r 1) := ym_u (k := 1) hN (by omega) (by omega)
        refine yw_p hG rn tx.1 (fun c0 => ?_) (fun c1 k4 ea eb => ?_) (fun c1 k5 ea eb => ?_)
        · refine br_t (by decide) ⟨vr, ?_⟩
          rw [cr]
          refine yw_p hG rn tx.1 (fun _ => ?_) (fun c _ _ _ => (c0 c).elim) (fun c _ _ _ => (c0 c).elim)
          exact br_t (by decide) (ih ((r, true) :: st) _ _ _ (ye_open (ps := []) W I tx r0 (fun y hy => by cases hy) (fun c => (c0 c).elim)) N2 hs1 (by rw [List.length_cons]; omega) (by rw [List.length_cons]; omega))
        · refine br_f (by decide) (nm_r (nI_1 _) ⟨vr, vp_in_nI (by omega) (by decide), ?_⟩)
          rw [nI_clamp (by omega), ea]
          have pn := ((W r rn).2 c1).1
          rw [ys_v (by omega)]
          refine nm_e ⟨vr, ?_⟩
          rw [cr]
          refine yw_p hG rn tx.1 (fun c => (c c1).elim) (fun _ _ _ _ => ?_) (fun _ k5 _ _ => absurd k5 (by omega))
          exact br_t (by decide) (ih ((pa r, false) :: (r, true) :: st) _ _ _ (ye_open (ps := [(pa r, false)]) W I tx r0 (fun y hy => by rw [List.mem_singleton] at hy; rw [hy]; exact ⟨rfl, c1, Or.inl rfl⟩) (fun _ => ⟨List.mem_cons_self, by rw [eb]; exact List.mem_cons_self⟩)) N2 (st_yp (x := (pa r, false)) hs1) (by rw [List.length_cons, List.length_cons]; omega) (by rw [List.length_cons, List.length_cons]; omega))
        · refine br_f (by decide) (nm_r (nI_1 _) ⟨vr, vp_in_nI (by omega) (by decide), ?_⟩)
          rw [nI_clamp (by omega), ea]
          have pn := ((W r rn).2 c1).1
          have qn := ((W r rn).2 c1).2
          rw [ys_v (by omega)]
          refine nm_e ⟨vr, ?_⟩
          rw [cr]
          refine yw_p hG rn tx.1 (fun c => (c c1).elim) (fun _ k4 _ _ => absurd k4 (by omega)) (fun _ _ _ _ => ?_)
          refine br_f (by decide) (nm_r (nI_1 _) ⟨vr, vp_in_nI (by omega) (by decide), ?_⟩)
          rw [nI_clamp (by omega), eb, ys_v (by omega)]
          exact nm_e (ih ((pb r, false) :: (pa r, false) :: (r, true) :: st) _ _ _ (ye_open (ps := [(pb r, false), (pa r, false)]) W I tx r0 (fun y hy => by
            rcases List.mem_cons.mp hy with z | z
            · rw [z]; exact ⟨rfl, c1, Or.inr rfl⟩
            · rw [List.mem_singleton] at z; rw [z]; exact ⟨rfl, c1, Or.inl rfl⟩) (fun _ => ⟨List.mem_cons_of_mem _ List.mem_cons_self, List.mem_cons_self⟩)) N2 (st_yp (x := (pb r, false)) (L := (pa r, false) :: (r, true) :: st) (st_yp (x := (pa r, false)) hs1)) (by rw [List.length_cons, List.length_cons, List.length_cons]; omega) (by rw [List.length_cons, List.length_cons, List.length_cons]; omega))
theorem yw_endless {post : Int32 → SY → Prop} {s : Nat} (hn : n ≤ 2000) (W : gr_W n kd pa pb) (hG : yg_G n a_what a_partA a_partB kd pa pb) (hL : gr_L n kd pa K) (hs : s < n)
    (h1 : (∀ ρ, ¬ gr_V n kd pa pb ρ) → ∀ mk wk, post 1 (f_count, f_accepted, f_place, f_kept, nI n, f_tt, f_pos, f_bad, f_typing, f_unbound, f_clash, f_top, f_scope, f_doneName, f_doneType, a_kind, a_value, a_keptKind, a_keptA, a_keptB, a_root, a_what, a_partA, a_partB, mk, a_twin, wk, a_pairs, a_now, a_todo, a_types, a_firm, a_bound, a_boundType))
    (h0 : ∀ S, ck_R n kd pa pb S → (∀ x, gr_to kd pa s x → S x) → ∀ mk wk, post 0 (f_count, f_accepted, f_place, f_kept, nI n, f_tt, f_pos, f_bad, f_typing, f_unbound, f_clash, f_top, f_scope, f_doneName, f_doneType, a_kind, a_value, a_keptKind, a_keptA, a_keptB, a_root, a_what, a_partA, a_partB, mk, a_twin, wk, a_pairs, a_now, a_todo, a_types, a_firm, a_bound, a_boundType)) : wpY_isEndless post (f_count, f_accepted, f_place, f_kept, nI n, f_tt, f_pos, f_bad, f_typing, f_unbound, f_clash, f_top, f_scope, f_doneName, f_doneType, a_kind, a_value, a_keptKind, a_keptA, a_keptB, a_root, a_what, a_partA, a_partB, a_mark, a_twin, a_walk, a_pairs, a_now, a_todo, a_types, a_firm, a_bound, a_boundType) (nI s) := by
  refine yw_unmark hn (fun mk hz => ?_)
  refine nm_e ?_
  rw [ys_nn (by omega)]
  refine nm_e ⟨3 * n + 2, ?_⟩
  have ctl := ct_le (p := fun _ => decide (0 = 0)) n
  exact yw_end_l (s := s) hn W hG hL h1 (fun nt I mk wk => h0 _ (ye_fin W I hs).1 (ye_fin W I hs).2 mk wk) (3 * n + 1) [(s, false)] (fun _ => 0) mk _ (ye_0 hs) (fun i hi => ⟨hz i hi, Nat.zero_le _⟩) (st_yp (x := (s, false)) (L := []) trivial) (by rw [List.length_singleton]; omega) (by rw [List.length_singleton]; omega)
end
end
section
/-! the reference makes two nodes equal -/
def st_q (a : Nat → Int32) : List (Nat × Nat) → Prop
  | [] => True
  | p :: L => a L.length = nI (p.1 * 4096 + p.2) ∧ st_q a L
theorem st_qu {a : Nat → Int32} {k : Nat} {x : Int32} : ∀ L : List (Nat × Nat), L.length ≤ k → st_q a L → st_q (upd a k x) L := by
  intro L
  induction L with
  | nil => intro _ _; trivial
  | cons y L ih =>
    intro h z
    rw [List.length_cons] at h
    refine ⟨?_, ih (by omega) z.2⟩
    rw [pk_un (by omega)]; exact z.1
theorem st_qp {a : Nat → Int32} {x y : Nat} {L : List (Nat × Nat)} (h : st_q a L) : st_q (upd a L.length (nI (x * 4096 + y))) ((x, y) :: L) := ⟨pk_us, st_qu L (Nat.le_refl _) h⟩
section
variable {f_count f_accepted f_place f_kept f_nodes f_tt f_pos f_bad f_typing f_unbound f_clash f_top f_scope f_doneName f_doneType : Int32} {a_kind a_value a_keptKind a_keptA a_keptB a_root a_what a_partA a_partB a_mark a_twin a_walk a_pairs a_now a_todo a_types a_firm a_bound a_boundType : Nat → Int32}
variable {kd pa pb : Nat → Nat} {n K : Nat}
theorem yg_link {wh pA pB : Nat → Int32} {a b : Nat} (hG : yg_G n wh pA pB kd pa pb) (hb : b < n) : yg_G n (upd wh a 7) (upd pA a (nI b)) pB (gr_u kd a 1000) (gr_u pa a b) pb := by
  intro i hi
  by_cases c : i = a
  · subst c
    rw [gr_us, gr_us, pk_us, pk_us]
    exact Or.inl ⟨rfl, hb, rfl, rfl⟩
  · rw [gr_un c, gr_un c, pk_un c, pk_un c]; exact hG i hi
theorem yg_link7 {wh pA pB : Nat → Int32} {a b : Nat} (hG : yg_G n wh pA pB kd pa pb) (ha : a < n) (hb : b < n) (h7 : kd a = 7) : yg_G n wh (upd pA a (nI b)) pB (gr_u kd a 1000) (gr_u pa a b) pb := by
  intro i hi
  by_cases c : i = a
  · subst c
    rw [gr_us, gr_us, pk_us]
    exact Or.inl ⟨rfl, hb, (yg_7 hG ha (by omega)).mpr h7, rfl⟩
  · rw [gr_un c, gr_un c, pk_un c]; exact hG i hi
/-- kinds as the reference compares them -/
theorem yg_same {wh pA pB : Nat → Int32} {a b : Nat} (hG : yg_G n wh pA pB kd pa pb) (ha : a < n) (hb : b < n) (ka : kd a ≠ 1000) (kb : kd b ≠ 1000) : (wh a = wh b ↔ yk (kd a) = yk (kd b)) ∧ (wh a = 9 ↔ 9 < kd a) ∧ (9 < kd a → 9 < kd b → (pA a = pA b ↔ kd a = kd b)) := by
  obtain ⟨a1, a2, a3, a4, a5, a6⟩ := yg_r hG ha ka
  obtain ⟨b1, b2, b3, b4, b5, b6⟩ := yg_r hG hb kb
  have la := yk_le (kd a)
  have lb := yk_le (kd b)
  refine ⟨?_, ?_, fun h h' => ?_⟩
  · rw [a3, b3]; exact nI_eq (by omega) (by omega)
  · rw [a3]
    constructor
    · intro z
      have e := (nI_eq (b := 9) (by omega) (by omega)).mp z
      by_cases c : kd a < 9
      · rw [yk_l c] at e; omega
      · omega
    · intro z
      rw [yk_9 (by omega)]; rfl
  · rw [a6 h, b6 h', nI_eq (by omega) (by omega)]
    omega
theorem yw_eq_l {post : Int32 → SY → Prop} {kd0 pa0 : Nat → Nat} {M : Nat → Prop} {s t : Nat} (hn : n ≤ 2000) (hs : s < n)
    (hfail : (∀ ρ, gr_V n kd0 pa0 pb ρ → ρ s ≠ ρ t) → ∀ wh pA mk wk pr, post 0 (f_count, f_accepted, f_place, f_kept, nI n, f_tt, f_pos, f_bad, f_typing, f_unbound, f_clash, f_top, f_scope, f_doneName, f_doneType, a_kind, a_value, a_keptKind, a_keptA, a_keptB, a_root, wh, pA, a_partB, mk, a_twin, wk, pr, a_now, a_todo, a_types, a_firm, a_bound, a_boundType))
    (hok : ∀ kd pa K S wh pA mk wk pr, un_I n kd0 pa0 pb M s t kd pa [] → yg_G n wh pA a_partB kd pa pb → gr_L n kd pa K → ck_R n kd pa pb S → (∀ x, gr_to kd pa s x → S x) → post 1 (f_count, f_accepted, f_place, f_kept, nI n, f_tt, f_pos, f_bad, f_typing, f_unbound, f_clash, f_top, f_scope, f_doneName, f_doneType, a_kind, a_value, a_keptKind, a_keptA, a_keptB, a_root, wh, pA, a_partB, mk, a_twin, wk, pr, a_now, a_todo, a_types, a_firm, a_bound, a_boundType)) :
    ∀ m kd pa K L wh pA pr, un_I n kd0 pa0 pb M s t kd pa L → yg_G n wh pA a_partB kd pa pb → gr_L n kd pa K → st_q pr L → L.length + 2 * gr_nr kd n ≤ m → L.length + gr_nr kd n ≤ 2001 → wY_unify_17 post (nI s) f_count f_accepted f_place f_kept (nI n) f_tt f_pos f_bad f_typing f_unbound f_clash f_top f_scope f_doneName f_doneType (m + 1) (nI L.length) a_kind a_value a_keptKind a_keptA a_keptB a_root wh pA a_partB a_mark a_twin a_walk pr a_now a_todo a_types a_firm a_bound a_boundType := by
  have nil : ∀ m kd pa K wh pA pr, un_I n kd0 pa0 pb M s t kd pa [] → yg_G n wh pA a_partB kd pa pb → gr_L n kd pa K → wY_unify_17 post (nI s) f_count f_accepted f_place f_kept (nI n) f_tt f_pos f_bad f_typing f_unbound f_clash f_top f_scope f_doneName f_doneType (m + 1) (nI 0) a_kind a_value a_keptKind a_keptA a_keptB a_root wh pA a_partB a_mark a_twin a_walk pr a_now a_todo a_types a_firm a_bound a_boundType := by
    intro m kd pa K wh pA pr U hG hL
    refine br_t (nI_le (a := 0) (b := 0) (by omega) (by omega)) ?_
    refine yw_endless hn U.1 hG hL hs (fun no mk wk => ?_) (fun S hS h0 mk wk => ?_)
    · refine br_f (by decide) (hfail (fun ρ h e => no ρ ((U.2.1 ρ).mp ⟨h, e⟩).1) _ _ _ _ _)
    · exact br_t rfl (hok kd pa K S _ _ _ _ _ U hG hL hS h0)
  intro m
  induction m with
  | zero =>
    intro kd pa K L wh pA pr U hG hL hst hm hl
    have e : L = [] := List.eq_nil_of_length_eq_zero (by omega)
    subst e
    exact nil 0 kd pa K wh pA pr U hG hL
  | succ m ih =>
    intro kd pa K L wh pA pr U hG hL hst hm hl
    cases L with
    | nil => exact nil (m + 1) kd pa K wh pA pr U hG hL
    | cons x L =>
      obtain ⟨p, q⟩ := x
      rw [List.length_cons] at hm hl
      have W := U.1
      have C := U.2.2.2.1
      have mp := U.2.2.1 (p, q) List.mem_cons_self
      have pn : p < n := (C p mp.1).1
      have qn : q < n := (C q mp.2).1
      have tp := gr_L_to hL pn
      have tq := gr_L_to hL qn
      generalize ea : gr_f kd pa K p = a at tp
      generalize eb : gr_f kd pa K q = b at tq
      have an := gr_to_n W tp pn
      have bn := gr_to_n W tq qn
      have va : vp_in (nI a) 2000 := vp_in_nI (by omega) (by decide)
      have vb : vp_in (nI b) 2000 := vp_in_nI (by omega) (by decide)
      have vl : vp_in (nI L.length) 2100 := vp_in_nI (by omega) (by decide)
      have ca : (nI a).toNatClampNeg = a := nI_clamp (by omega)
      have cb : (nI b).toNatClampNeg = b := nI_clamp (by omega)
      have nr1 := gr_nr_le (kd := kd) n
      obtain ⟨a1, a2, a3, a4, a5, a6⟩ := yg_r hG an tp.1
      obtain ⟨b1, b2, b3, b4, b5, b6⟩ := yg_r hG bn tq.1
      obtain ⟨s1, s2, s3⟩ := yg_same hG an bn tp.1 tq.1
      refine br_f (nI_nle (by rw [List.length_cons]; omega) (by rw [List.length_cons]; omega)) ?_
      rw [List.length_cons]
      refine nm_r (pk_m1 L.length) ⟨vl, ?_⟩
      rw [nI_clamp (by omega), hst.1]
      show wpY_real _ _ (nI (p * 4096 + q) >>> ((12 : Int32) &&& 31))
      rw [yp_s (by omega) (by omega)]
      refine yw_real hG hn hL pn tp ⟨vl, ?_⟩
      show wpY_real _ _ (nI (p * 4096 + q) &&& 4095)
      rw [yp_t (by omega) (by omega)]
      refine yw_real hG hn hL qn tq ?_
      refine pk_eq a b (fun e => ?_) (fun e => ⟨va, ?_⟩)
      · subst e
        exact ih kd pa K L wh pA pr (un_drop U tp tq) hG hL hst.2 (by omega) (by omega)
      · have K128 : ∀ z0 : Int32, (z0 = 0 → kd a ≠ kd b) → (z0 ≠ 0 → kd a = kd b) → wY_unify_128 post (wY_unify_17 post (nI s) f_count f_accepted f_place f_kept (nI n) f_tt f_pos f_bad f_typing f_unbound f_clash f_top f_scope f_doneName f_doneType (m + 1)) (nI s) (nI L.length) (nI a) (nI b) (nI (yp_n (yk (kd a)))) z0 f_count f_accepted f_place f_kept (nI n) f_tt f_pos f_bad f_typing f_unbound f_clash f_top f_scope f_doneName f_doneType a_kind a_value a_keptKind a_keptA a_keptB a_root wh pA a_partB a_mark a_twin a_walk pr a_now a_todo a_types a_firm a_bound a_boundType := by
          intro z0 hz hz'
          refine ⟨va, ?_⟩
          rw [ca]
          refine pk_p (yg_7 hG an tp.1) (fun k7 => ⟨va, ?_⟩) (fun k7 => ⟨vb, ?_⟩)
          · have nr2 := gr_nr_u n an tp.1
            rw [ys_nn (by omega)]
            exact nm_e (ih _ _ (K + 1) L _ _ _ (un_link U tp tq e (Or.inl k7)) (yg_link7 hG an bn k7) (gr_L_u hL tp.1 tq.1 e) hst.2 (by omega) (by omega))
          · rw [cb]
            refine pk_p (yg_7 hG bn tq.1) (fun j7 => ⟨vb, ?_⟩) (fun j7 => ?_)
            · have nr2 := gr_nr_u n bn tq.1
              have U' := un_L (L' := (q, p) :: L) U (fun x hx => by
                rcases List.mem_cons.mp hx with z | z
                · rw [z]; exact Or.inr List.mem_cons_self
                · exact Or.inl (List.mem_cons_of_mem _ z)) (fun x hx => by
                rcases List.mem_cons.mp hx with z | z
                · rw [z]; exact Or.inr List.mem_cons_self
                · exact Or.inl (List.mem_cons_of_mem _ z))
              rw [ys_nn (by omega)]
              exact nm_e (ih _ _ (K + 1) L _ _ _ (un_link U' tq tp (Ne.symm e) (Or.inl j7)) (yg_link7 hG bn an j7) (gr_L_u hL tq.1 tp.1 (Ne.symm e)) hst.2 (by omega) (by omega))
            · refine br_c (fun z => hfail (un_fail U tp tq (hz z) k7 j7) _ _ _ _ _) (fun z => ?_)
              have ke := hz' z
              have nr2 := gr_nr_u n an tp.1
              by_cases hc : gr_cn (kd a)
              · obtain ⟨q1, q2, q3⟩ := a5 hc
                have hcb : gr_cn (kd b) := ke ▸ hc
                obtain ⟨r1, r2, r3⟩ := b5 hcb
                have wa := (W a an).2 hc
                have wb := (W b bn).2 hcb
                by_cases k4 : kd a ≤ 4
                · rw [yp_1 hc k4]
                  refine br_f (by decide) (br_t (by decide) ?_)
                  refine nm_r (nI_1 _) ⟨va, vb, vl, ?_⟩
                  rw [nI_clamp (by omega), ca, cb, q1, r1, yp_pair (by omega) (by omega), ys_nn (by omega)]
                  refine nm_e ⟨va, nm_e ⟨va, nm_e ?_⟩⟩
                  have U' := un_L (L' := (pa a, pa b) :: L) (un_con U tp tq e ke hc) (fun x hx => by
                    rcases List.mem_cons.mp hx with z | hx
                    · rw [z]; exact Or.inl List.mem_cons_self
                    · exact Or.inl (List.mem_cons_of_mem _ (List.mem_cons_of_mem _ hx))) (fun x hx => by
                    rcases List.mem_cons.mp hx with z | hx
                    · rw [z]; exact Or.inl List.mem_cons_self
                    · rcases List.mem_cons.mp hx with z | hx
                      · rw [z, q3 k4, r3 (by omega)]; exact Or.inl List.mem_cons_self
                      · exact Or.inl (List.mem_cons_of_mem _ hx))
                  exact ih _ _ (K + 1) ((pa a, pa b) :: L) _ _ _ U' (yg_link hG bn) (gr_L_u hL tp.1 tq.1 e) (st_qp hst.2) (by rw [List.length_cons]; omega) (by rw [List.length_cons]; omega)
                · rw [yp_2 hc (by omega)]
                  refine br_f (by decide) (br_f (by decide) ?_)
                  refine nm_r (nI_1 _) ⟨va, vb, vl, ?_⟩
                  rw [nI_clamp (by omega), q2 (by omega), r2 (by omega), yp_pair (by omega) (by omega)]
                  refine nm_e ?_
                  refine nm_r (nI_1 _) ⟨va, vb, vp_in_nI (by omega) (by decide), ?_⟩
                  rw [nI_clamp (by omega), ca, cb, q1, r1, yp_pair (by omega) (by omega), ys_nn (by omega)]
                  refine nm_e ⟨va, nm_e ⟨va, nm_e ?_⟩⟩
                  exact ih _ _ (K + 1) ((pa a, pa b) :: (pb a, pb b) :: L) _ _ _ (un_con U tp tq e ke hc) (yg_link hG bn) (gr_L_u hL tp.1 tq.1 e) (st_qp (L := (pb a, pb b) :: L) (st_qp hst.2)) (by rw [List.length_cons, List.length_cons]; omega) (by rw [List.length_cons, List.length_cons]; omega)
              · rw [yp_0 hc]
                exact br_t (by decide) (ih kd pa K L wh pA pr (un_same U tp tq ke hc k7) hG hL hst.2 (by omega) (by omega))
        rw [ca, a3]
        refine yw_parts (by have := yk_le (kd a); omega) ⟨va, vb, ?_⟩
        rw [cb, ← a3]
        refine pk_p s1 (fun ey => ⟨va, ?_⟩) (fun ey => K128 0 (fun _ z => ey (by rw [z])) (fun z => (z rfl).elim))
        refine pk_p s2 (fun e9 => ⟨va, vb, ?_⟩) (fun e9 => K128 1 (fun z => by cases z) (fun _ => ?_))
        · have f9 : 9 < kd b := by
            by_cases c : kd b < 9
            · rw [yk_9 (by omega), yk_l c] at ey; omega
            · omega
          exact pk_p (s3 e9 f9) (fun z => K128 1 (fun z => by cases z) (fun _ => z)) (fun z => K128 0 (fun _ => z) (fun z => (z rfl).elim))
        · have l : kd a < 9 := by omega
          rw [yk_l l] at ey
          by_cases c : kd b < 9
          · rw [yk_l c] at ey; exact ey
          · rw [yk_9 (by omega)] at ey; omega
theorem yw_unify {post : Int32 → SY → Prop} {M : Nat → Prop} {s t : Nat} (hn : n ≤ 2000) (W : gr_W n kd pa pb) (C : gr_C n kd pa pb M) (G8 : ∀ i, M i → kd i ≠ 8) (hs : M s) (ht : M t) (hG : yg_G n a_what a_partA a_partB kd pa pb) (hL : gr_L n kd pa K)
    (hfail : (∀ ρ, gr_V n kd pa pb ρ → ρ s ≠ ρ t) → ∀ wh pA mk wk pr, post 0 (f_count, f_accepted, f_place, f_kept, nI n, f_tt, f_pos, f_bad, f_typing, f_unbound, f_clash, f_top, f_scope, f_doneName, f_doneType, a_kind, a_value, a_keptKind, a_keptA, a_keptB, a_root, wh, pA, a_partB, mk, a_twin, wk, pr, a_now, a_todo, a_types, a_firm, a_bound, a_boundType))
    (hok : ∀ kd' pa' K' S wh pA mk wk pr, un_I n kd pa pb M s t kd' pa' [] → yg_G n wh pA a_partB kd' pa' pb → gr_L n kd' pa' K' → ck_R n kd' pa' pb S → (∀ x, gr_to kd' pa' s x → S x) → post 1 (f_count, f_accepted, f_place, f_kept, nI n, f_tt, f_pos, f_bad, f_typing, f_unbound, f_clash, f_top, f_scope, f_doneName, f_doneType, a_kind, a_value, a_keptKind, a_keptA, a_keptB, a_root, wh, pA, a_partB, mk, a_twin, wk, pr, a_now, a_todo, a_types, a_firm, a_bound, a_boundType)) :
    wpY_unify post (f_count, f_accepted, f_place, f_kept, nI n, f_tt, f_pos, f_bad, f_typing, f_unbound, f_clash, f_top, f_scope, f_doneName, f_doneType, a_kind, a_value, a_keptKind, a_keptA, a_keptB, a_root, a_what, a_partA, a_partB, a_mark, a_twin, a_walk, a_pairs, a_now, a_todo, a_types, a_firm, a_bound, a_boundType) (nI s) (nI t) := by
  have nr1 := gr_nr_le (kd := kd) n
  have sn := (C s hs).1
  have tn := (C t ht).1
  refine nm_e ?_
  rw [yp_pair (by omega) (by omega)]
  refine nm_e ⟨2 * n + 3, ?_⟩
  exact yw_eq_l hn sn hfail hok (2 * n + 2) kd pa K [(s, t)] _ _ _ (un_0 W C G8 hs ht) hG hL (st_qp (L := []) trivial) (by rw [List.length_singleton]; omega) (by rw [List.length_singleton]; omega)
end
end
section
/-! the reference marks what is reached from a node -/
/-- nt: what is marked; st: what waits; P holds of all of it -/
def yq_I (n : Nat) (kd pa pb nt : Nat → Nat) (P : Nat → Prop) (t : Nat) (st : List Nat) : Prop :=
  (∀ x, x ∈ st → x < n ∧ ∀ r, gr_to kd pa x r → P r) ∧
  (∀ r, r < n → nt r ≠ 0 → kd r ≠ 1000 ∧ P r ∧ (gr_cn (kd r) → (pa r ∈ st ∨ ∀ q, gr_to kd pa (pa r) q → nt q ≠ 0) ∧ (pb r ∈ st ∨ ∀ q, gr_to kd pa (pb r) q → nt q ≠ 0))) ∧
  (t ∈ st ∨ ∀ q, gr_to kd pa t q → nt q ≠ 0)
/-- what the marks say when nothing waits -/
def yq_F (n : Nat) (kd pa pb nt : Nat → Nat) (P : Nat → Prop) : Prop :=
  ∀ r, r < n → nt r ≠ 0 → kd r ≠ 1000 ∧ P r ∧ (gr_cn (kd r) → (∀ q, gr_to kd pa (pa r) q → nt q ≠ 0) ∧ ∀ q, gr_to kd pa (pb r) q → nt q ≠ 0)
section
variable {n K : Nat} {kd pa pb nt : Nat → Nat} {P : Nat → Prop} {t : Nat} {st : List Nat}
theorem yq_0 (F : yq_F n kd pa pb nt P) (ht : t < n) (hP : ∀ r, gr_to kd pa t r → P r) : yq_I n kd pa pb nt P t [t] := by
  refine ⟨fun x hx => ?_, fun r hr h => ?_, Or.inl List.mem_cons_self⟩
  · rw [List.mem_singleton] at hx
    rw [hx]; exact ⟨ht, hP⟩
  · obtain ⟨a, b, c⟩ := F r hr h
    exact ⟨a, b, fun k => ⟨Or.inr (c k).1, Or.inr (c k).2⟩⟩
theorem yq_1 (I : yq_I n kd pa pb nt P t []) : yq_F n kd pa pb nt P ∧ ∀ q, gr_to kd pa t q → nt q ≠ 0 := by
  have nil : ∀ {x : Nat} {A : Prop}, (x ∈ ([] : List Nat) ∨ A) → A := fun h => h.elim (fun z => by cases z) id
  refine ⟨fun r hr h => ?_, nil I.2.2⟩
  obtain ⟨a, b, c⟩ := I.2.1 r hr h
  exact ⟨a, b, fun k => ⟨nil (c k).1, nil (c k).2⟩⟩
theorem yq_drop {x r : Nat} (I : yq_I n kd pa pb nt P t (x :: st)) (hx : gr_to kd pa x r) (h : nt r ≠ 0) : yq_I n kd pa pb nt P t st := by
  obtain ⟨i1, i2, i3⟩ := I
  have pp : ∀ p, (p ∈ x :: st ∨ ∀ q, gr_to kd pa p q → nt q ≠ 0) → (p ∈ st ∨ ∀ q, gr_to kd pa p q → nt q ≠ 0) := by
    intro p h'
    rcases h' with h' | h'
    · rcases List.mem_cons.mp h' with z | z
      · rw [z]; exact Or.inr (fun q hq => by rw [gr_to_u hq hx]; exact h)
      · exact Or.inl z
    · exact Or.inr h'
  refine ⟨fun y hy => i1 y (List.mem_cons_of_mem _ hy), fun q hq h' => ?_, pp _ i3⟩
  obtain ⟨a, b, c⟩ := i2 q hq h'
  exact ⟨a, b, fun k => ⟨pp _ (c k).1, pp _ (c k).2⟩⟩
theorem yq_open {x r : Nat} {ps : List Nat} (W : gr_W n kd pa pb) (I : yq_I n kd pa pb nt P t (x :: st)) (hx : gr_to kd pa x r) (hP : ∀ r, r < n → P r → gr_cn (kd r) → (∀ x, gr_to kd pa (pa r) x → P x) ∧ ∀ x, gr_to kd pa (pb r) x → P x) (hps : ∀ y, y ∈ ps → gr_cn (kd r) ∧ (y = pa r ∨ y = pb r)) (hpc : gr_cn (kd r) → pa r ∈ ps ∧ pb r ∈ ps) : yq_I n kd pa pb (gr_u nt r 1) P t (ps ++ st) := by
  obtain ⟨i1, i2, i3⟩ := I
  obtain ⟨xn, xP⟩ := i1 x List.mem_cons_self
  have rn := gr_to_n W hx xn
  have up : ∀ y, nt y ≠ 0 → gr_u nt r 1 y ≠ 0 := fun y hy => by
    by_cases q : y = r
    · rw [q, gr_us]; omega
    · rw [gr_un q]; exact hy
  have pp : ∀ p, (p ∈ x :: st ∨ ∀ q, gr_to kd pa p q → nt q ≠ 0) → (p ∈ ps ++ st ∨ ∀ q, gr_to kd pa p q → gr_u nt r 1 q ≠ 0) := by
    intro p h'
    rcases h' with h' | h'
    · rcases List.mem_cons.mp h' with z | z
      · rw [z]; exact Or.inr (fun q hq => by rw [gr_to_u hq hx, gr_us]; omega)
      · exact Or.inl (List.mem_append_right _ z)
    · exact Or.inr (fun q hq => up q (h' q hq))
  refine ⟨fun y hy => ?_, fun q hq h' => ?_, pp _ i3⟩
  · rcases List.mem_append.mp hy with z | z
    · obtain ⟨c, e⟩ := hps y z
      have w := (W r rn).2 c
      have p := hP r rn (xP r hx) c
      rcases e with e | e
      · rw [e]; exact ⟨w.1, p.1⟩
      · rw [e]; exact ⟨w.2, p.2⟩
    · exact i1 y (List.mem_cons_of_mem _ z)
  · by_cases e : q = r
    · rw [e]
      exact ⟨hx.1, xP r hx, fun c => ⟨Or.inl (List.mem_append_left _ (hpc c).1), Or.inl (List.mem_append_left _ (hpc c).2)⟩⟩
    · rw [gr_un e] at h'
      obtain ⟨a, b, c⟩ := i2 q hq h'
      exact ⟨a, b, fun k => ⟨pp _ (c k).1, pp _ (c k).2⟩⟩
end
section
variable {f_count f_accepted f_place f_kept f_nodes f_tt f_pos f_bad f_typing f_unbound f_clash f_top f_scope f_doneName f_doneType : Int32} {a_kind a_value a_keptKind a_keptA a_keptB a_root a_what a_partA a_partB a_mark a_twin a_walk a_pairs a_now a_todo a_types a_firm a_bound a_boundType : Nat → Int32}
variable {kd pa pb : Nat → Nat} {n K : Nat}
theorem yw_spread_l {post : SY → Prop} {t : Nat} {P : Nat → Prop} {nt0 : Nat → Nat} (hn : n ≤ 2000) (W : gr_W n kd pa pb) (hG : yg_G n a_what a_partA a_partB kd pa pb) (hL : gr_L n kd pa K) (hP : ∀ r, r < n → P r → gr_cn (kd r) → (∀ x, gr_to kd pa (pa r) x → P x) ∧ ∀ x, gr_to kd pa (pb r) x → P x)
    (h : ∀ nt mk wk, yq_I n kd pa pb nt P t [] → (∀ i, nt0 i ≠ 0 → nt i ≠ 0) → ym_N n mk nt → post (f_count, f_accepted, f_place, f_kept, nI n, f_tt, f_pos, f_bad, f_typing, f_unbound, f_clash, f_top, f_scope, f_doneName, f_doneType, a_kind, a_value, a_keptKind, a_keptA, a_keptB, a_root, a_what, a_partA, a_partB, mk, a_twin, wk, a_pairs, a_now, a_todo, a_types, a_firm, a_bound, a_boundType)) :
    ∀ m st nt mk wk, yq_I n kd pa pb nt P t st → (∀ i, nt0 i ≠ 0 → nt i ≠ 0) → ym_N n mk nt → st_1 wk st → 2 * ct_n (fun i => decide (nt i = 0)) n + st.length ≤ m → st.length + ct_n (fun i => decide (nt i = 0)) n ≤ n + 1 → wY_spread_13 post f_count f_accepted f_place f_kept (nI n) f_tt f_pos f_bad f_typing f_unbound f_clash f_top f_scope f_doneName f_doneType (m + 1) (nI st.length) a_kind a_value a_keptKind a_keptA a_keptB a_root a_what a_partA a_partB mk a_twin wk a_pairs a_now a_todo a_types a_firm a_bound a_boundType := by
  intro m
  induction m with
  | zero =>
    intro st nt mk wk I h0 hN hst hm hl
    have e : st = [] := List.eq_nil_of_length_eq_zero (by omega)
    subst e
    exact br_t (nI_le (a := 0) (b := 0) (by omega) (by omega)) (h nt mk wk I h0 hN)
  | succ m ih =>
    intro st nt mk wk I h0 hN hst hm hl
    cases st with
    | nil => exact br_t (nI_le (a := 0) (b := 0) (by omega) (by omega)) (h nt mk wk I h0 hN)
    | cons x st =>
      rw [List.length_cons] at hm hl
      have ctl := ct_le (p := fun i => decide (nt i = 0)) n
      have vl : vp_in (nI st.length) 4100 := vp_in_nI (by omega) (by decide)
      refine br_f (nI_nle (by rw [List.length_cons]; omega) (by rw [List.length_cons]; omega)) ?_
      rw [List.length_cons]
      refine nm_r (pk_m1 st.length) ⟨vl, ?_⟩
      rw [nI_clamp (by omega), hst.1]
      have xn : x < n := (I.1 x List.mem_cons_self).1
      have tx := gr_L_to hL xn
      generalize er : gr_f kd pa K x = r at tx
      have rn := gr_to_n W tx xn
      have vr : vp_in (nI r) 2000 := vp_in_nI (by omega) (by decide)
      have cr : (nI r).toNatClampNeg = r := nI_clamp (by omega)
      refine yw_real hG hn hL xn tx ⟨vr, ?_⟩
      rw [cr, (hN r rn).1]
      refine pk_p (mk_lt (hN r rn).2) (fun r0 => ⟨vr, ?_⟩) (fun z => ih st nt mk wk (yq_drop I tx z) h0 hN hst.2 (by omega) (by omega))
      have hct := ct_u (p := fun i => decide (nt i = 0)) (q := fun i => decide (gr_u nt r 1 i = 0)) (a := r) (by rw [r0]; rfl) (by rw [gr_us]; rfl) (fun i hi => by rw [gr_un hi]) n rn
      have N2 : ym_N n (upd mk r (nI 1)) (gr_u nt r 1) := ym_u (k := 1) hN (by omega) (by omega)
      have h02 : ∀ i, nt0 i ≠ 0 → gr_u nt r 1 i ≠ 0 := fun i hi => by
        by_cases q : i = r
        · rw [q, gr_us]; omega
        · rw [gr_un q]; exact h0 i hi
      refine nm_e ⟨vr, ?_⟩
      refine yw_p hG rn tx.1 (fun c0 => ?_) (fun c1 k4 ea eb => ?_) (fun c1 k5 ea eb => ?_)
      · refine br_t (by decide) ⟨vr, ?_⟩
        rw [cr]
        refine yw_p hG rn tx.1 (fun _ => ?_) (fun c _ _ _ => (c0 c).elim) (fun c _ _ _ => (c0 c).elim)
        exact br_t (by decide) (ih st _ _ _ (yq_open (ps := []) W I tx hP (fun y hy => by cases hy) (fun c => (c0 c).elim)) h02 N2 hst.2 (by omega) (by omega))
      · refine br_f (by decide) (nm_r (nI_1 _) ⟨vr, vl, ?_⟩)
        have pn := ((W r rn).2 c1).1
        rw [ea, ys_v (by omega)]
        refine nm_e ⟨vr, ?_⟩
        rw [cr]
        refine yw_p hG rn tx.1 (fun c => (c c1).elim) (fun _ _ _ _ => ?_) (fun _ k5 _ _ => absurd k5 (by omega))
        exact br_t (by decide) (ih (pa r :: st) _ _ _ (yq_open (ps := [pa r]) W I tx hP (fun y hy => by rw [List.mem_singleton] at hy; exact ⟨c1, Or.inl hy⟩) (fun _ => ⟨List.mem_cons_self, by rw [eb]; exact List.mem_cons_self⟩)) h02 N2 (st_1p hst.2) (by rw [List.length_cons]; omega) (by rw [List.length_cons]; omega))
      · refine br_f (by decide) (nm_r (nI_1 _) ⟨vr, vl, ?_⟩)
        have pn := ((W r rn).2 c1).1
        have qn := ((W r rn).2 c1).2
        rw [ea, ys_v (by omega)]
        refine nm_e ⟨vr, ?_⟩
        rw [cr]
        refine yw_p hG rn tx.1 (fun c => (c c1).elim) (fun _ k4 _ _ => absurd k4 (by omega)) (fun _ _ _ _ => ?_)
        refine br_f (by decide) (nm_r (nI_1 _) ⟨vr, vp_in_nI (by omega) (by decide), ?_⟩)
        rw [nI_clamp (by omega), eb, ys_v (by omega)]
        exact nm_e (ih (pb r :: pa r :: st) _ _ _ (yq_open (ps := [pb r, pa r]) W I tx hP (fun y hy => by
          rcases List.mem_cons.mp hy with z | z
          · exact ⟨c1, Or.inr z⟩
          · rw [List.mem_singleton] at z; exact ⟨c1, Or.inl z⟩) (fun _ => ⟨List.mem_cons_of_mem _ List.mem_cons_self, List.mem_cons_self⟩)) h02 N2 (st_1p (L := pa r :: st) (st_1p hst.2)) (by rw [List.length_cons, List.length_cons]; omega) (by rw [List.length_cons, List.length_cons]; omega))
theorem yw_spread {post : SY → Prop} {t : Nat} {P : Nat → Prop} {nt : Nat → Nat} (hn : n ≤ 2000) (W : gr_W n kd pa pb) (hG : yg_G n a_what a_partA a_partB kd pa pb) (hL : gr_L n kd pa K) (hP : ∀ r, r < n → P r → gr_cn (kd r) → (∀ x, gr_to kd pa (pa r) x → P x) ∧ ∀ x, gr_to kd pa (pb r) x → P x)
    (F : yq_F n kd pa pb nt P) (ht : t < n) (htP : ∀ r, gr_to kd pa t r → P r) (hN : ym_N n a_mark nt)
    (h : ∀ nt' mk wk, yq_F n kd pa pb nt' P → (∀ i, nt i ≠ 0 → nt' i ≠ 0) → (∀ q, gr_to kd pa t q → nt' q ≠ 0) → ym_N n mk nt' → post (f_count, f_accepted, f_place, f_kept, nI n, f_tt, f_pos, f_bad, f_typing, f_unbound, f_clash, f_top, f_scope, f_doneName, f_doneType, a_kind, a_value, a_keptKind, a_keptA, a_keptB, a_root, a_what, a_partA, a_partB, mk, a_twin, wk, a_pairs, a_now, a_todo, a_types, a_firm, a_bound, a_boundType)) : wpY_spread post (f_count, f_accepted, f_place, f_kept, nI n, f_tt, f_pos, f_bad, f_typing, f_unbound, f_clash, f_top, f_scope, f_doneName, f_doneType, a_kind, a_value, a_keptKind, a_keptA, a_keptB, a_root, a_what, a_partA, a_partB, a_mark, a_twin, a_walk, a_pairs, a_now, a_todo, a_types, a_firm, a_bound, a_boundType) (nI t) := by
  have ctl := ct_le (p := fun i => decide (nt i = 0)) n
  refine nm_e ?_
  rw [ys_nn (by omega)]
  refine nm_e ⟨2 * n + 2, ?_⟩
  exact yw_spread_l (t := t) (nt0 := nt) hn W hG hL hP (fun nt' mk wk I h0 hN' => h nt' mk wk (yq_1 I).1 h0 (yq_1 I).2 hN') (2 * n + 1) [t] nt a_mark _ (yq_0 F ht htP) (fun i hi => hi) hN (st_1p (L := []) trivial) (by rw [List.length_singleton]; omega) (by rw [List.length_singleton]; omega)
theorem yg_78 {wh pA pB : Nat → Int32} {r : Nat} (hG : yg_G n wh pA pB kd pa pb) (h7 : kd r = 7) : yg_G n (upd wh r (nI 8)) pA pB (gr_u kd r 8) pa pb := by
  intro i hi
  by_cases c : i = r
  · subst c
    rw [gr_us, pk_us]
    exact Or.inr ⟨by omega, by omega, rfl, fun z => absurd z (by omega), fun z => absurd z (by omega), fun z => absurd z (by omega)⟩
  · rw [gr_un c, pk_un c]; exact hG i hi
/-- the last part of generalise: nt0 what was marked ahead of it -/
theorem yw_gen_l {post : SY → Prop} {t : Nat} {P : Nat → Prop} {nt0 kd0 : Nat → Nat} (hn : n ≤ 2000) (W : gr_W n kd0 pa pb) (hL : gr_L n kd0 pa K) (hP : ∀ r, r < n → P r → gr_cn (kd0 r) → (∀ x, gr_to kd0 pa (pa r) x → P x) ∧ ∀ x, gr_to kd0 pa (pb r) x → P x)
    (h : ∀ nt kd wh mk wk, yq_I n kd0 pa pb nt P t [] → (∀ i, nt0 i ≠ 0 → nt i ≠ 0) → (∀ i, (kd0 i = 7 ∧ i < n ∧ nt i ≠ 0 ∧ nt0 i = 0 ∧ kd i = 8) ∨ (¬ (kd0 i = 7 ∧ i < n ∧ nt i ≠ 0 ∧ nt0 i = 0) ∧ kd i = kd0 i)) → yg_G n wh a_partA a_partB kd pa pb → post (f_count, f_accepted, f_place, f_kept, nI n, f_tt, f_pos, f_bad, f_typing, f_unbound, f_clash, f_top, f_scope, f_doneName, f_doneType, a_kind, a_value, a_keptKind, a_keptA, a_keptB, a_root, wh, a_partA, a_partB, mk, a_twin, wk, a_pairs, a_now, a_todo, a_types, a_firm, a_bound, a_boundType)) :
    ∀ m st nt kd wh mk wk, yq_I n kd0 pa pb nt P t st → (∀ i, nt0 i ≠ 0 → nt i ≠ 0) → (∀ i, (kd0 i = 7 ∧ i < n ∧ nt i ≠ 0 ∧ nt0 i = 0 ∧ kd i = 8) ∨ (¬ (kd0 i = 7 ∧ i < n ∧ nt i ≠ 0 ∧ nt0 i = 0) ∧ kd i = kd0 i)) → yg_G n wh a_partA a_partB kd pa pb → ym_N n mk nt → st_1 wk st → 2 * ct_n (fun i => decide (nt i = 0)) n + st.length ≤ m → st.length + ct_n (fun i => decide (nt i = 0)) n ≤ n + 1 → wY_generalise_76 post f_count f_accepted f_place f_kept (nI n) f_tt f_pos f_bad f_typing f_unbound f_clash f_top f_scope f_doneName f_doneType (m + 1) (nI st.length) a_kind a_value a_keptKind a_keptA a_keptB a_root wh a_partA a_partB mk a_twin wk a_pairs a_now a_todo a_types a_firm a_bound a_boundType := by
  intro m
  induction m with
  | zero =>
    intro st nt kd wh mk wk I h0 hk hG hN hst hm hl
    have e : st = [] := List.eq_nil_of_length_eq_zero (by omega)
    subst e
    exact br_t (nI_le (a := 0) (b := 0) (by omega) (by omega)) (h nt kd wh mk wk I h0 hk hG)
  | succ m ih =>
    intro st nt kd wh mk wk I h0 hk hG hN hst hm hl
    cases st with
    | nil => exact br_t (nI_le (a := 0) (b := 0) (by omega) (by omega)) (h nt kd wh mk wk I h0 hk hG)
    | cons x st =>
      rw [List.length_cons] at hm hl
      have k1 : ∀ i, kd i = 1000 ↔ kd0 i = 1000 := fun i => by
        rcases hk i with z | z
        · omega
        · rw [z.2]
      have k2 : ∀ i, gr_cn (kd i) ↔ gr_cn (kd0 i) := fun i => by
        rcases hk i with z | z
        · omega
        · rw [z.2]
      have W' : gr_W n kd pa pb := fun i hi => by rw [k1, k2]; exact W i hi
      have hL' : gr_L n kd pa K := gr_L_78 k1 hL
      have to' : ∀ i r, gr_to kd pa i r → gr_to kd0 pa i r := fun i r ⟨a, f, e⟩ => ⟨fun z => a ((k1 r).mpr z), f, by rw [← gr_f_78 k1]; exact e⟩
      have ctl := ct_le (p := fun i => decide (nt i = 0)) n
      have vl : vp_in (nI st.length) 4100 := vp_in_nI (by omega) (by decide)
      refine br_f (nI_nle (by rw [List.length_cons]; omega) (by rw [List.length_cons]; omega)) ?_
      rw [List.length_cons]
      refine nm_r (pk_m1 st.length) ⟨vl, ?_⟩
      rw [nI_clamp (by omega), hst.1]
      have xn : x < n := (I.1 x List.mem_cons_self).1
      have tx := gr_L_to hL' xn
      generalize er : gr_f kd pa K x = r at tx
      have rn := gr_to_n W' tx xn
      have tx0 := to' x r tx
      have vr : vp_in (nI r) 2000 := vp_in_nI (by omega) (by decide)
      have cr : (nI r).toNatClampNeg = r := nI_clamp (by omega)
      refine yw_real hG hn hL' xn tx ⟨vr, ?_⟩
      rw [cr, (hN r rn).1]
      refine pk_p (mk_lt (hN r rn).2) (fun r0 => ⟨vr, ?_⟩) (fun z => ih st nt kd wh mk wk (yq_drop I tx0 z) h0 hk hG hN hst.2 (by omega) (by omega))
      have hct := ct_u (p := fun i => decide (nt i = 0)) (q := fun i => decide (gr_u nt r 1 i = 0)) (a := r) (by rw [r0]; rfl) (by rw [gr_us]; rfl) (fun i hi => by rw [gr_un hi]) n rn
      have N2 : ym_N n (upd mk r (nI 1)) (gr_u nt r 1) := ym_u (k := 1) hN (by omega) (by omega)
      have h02 : ∀ i, nt0 i ≠ 0 → gr_u nt r 1 i ≠ 0 := fun i hi => by
        by_cases q : i = r
        · rw [q, gr_us]; omega
        · rw [gr_un q]; exact h0 i hi
      have r00 : nt0 r = 0 := Classical.byContradiction fun z => h0 r z r0
      have ek : kd r = kd0 r := by
        rcases hk r with z | z
        · exact (z.2.2.1 r0).elim
        · exact z.2
      -- on with the parts
      have rest : ∀ kd2 wh2, (∀ i, (kd0 i = 7 ∧ i < n ∧ gr_u nt r 1 i ≠ 0 ∧ nt0 i = 0 ∧ kd2 i = 8) ∨ (¬ (kd0 i = 7 ∧ i < n ∧ gr_u nt r 1 i ≠ 0 ∧ nt0 i = 0) ∧ kd2 i = kd0 i)) → yg_G n wh2 a_partA a_partB kd2 pa pb → wY_generalise_132 post (wY_generalise_76 post f_count f_accepted f_place f_kept (nI n) f_tt f_pos f_bad f_typing f_unbound f_clash f_top f_scope f_doneName f_doneType (m + 1)) (nI st.length) (nI r) f_count f_accepted f_place f_kept (nI n) f_tt f_pos f_bad f_typing f_unbound f_clash f_top f_scope f_doneName f_doneType a_kind a_value a_keptKind a_keptA a_keptB a_root wh2 a_partA a_partB (upd mk r (nI 1)) a_twin wk a_pairs a_now a_todo a_types a_firm a_bound a_boundType := by
        intro kd2 wh2 hk2 hG2
        have c2 : gr_cn (kd2 r) ↔ gr_cn (kd0 r) := by
          rcases hk2 r with z | z
          · omega
          · rw [z.2]
        have c3 : gr_cn (kd0 r) → kd2 r = kd0 r := fun z => by
          rcases hk2 r with y | y
          · omega
          · exact y.2
        have c4 : kd2 r ≠ 1000 := by
          have := tx0.1
          rcases hk2 r with z | z
          · omega
          · rw [z.2]; exact this
        refine ⟨vr, ?_⟩
        rw [cr]
        refine yw_p hG2 rn c4 (fun c0 => ?_) (fun c1 k4 ea eb => ?_) (fun c1 k5 ea eb => ?_)
        · refine br_t (by decide) ⟨vr, ?_⟩
          rw [cr]
          refine yw_p hG2 rn c4 (fun _ => ?_) (fun c _ _ _ => (c0 c).elim) (fun c _ _ _ => (c0 c).elim)
          exact br_t (by decide) (ih st _ _ _ _ _ (yq_open (ps := []) W I tx0 hP (fun y hy => by cases hy) (fun c => (c0 (c2.mpr c)).elim)) h02 hk2 hG2 N2 hst.2 (by omega) (by omega))
        · refine br_f (by decide) (nm_r (nI_1 _) ⟨vr, vl, ?_⟩)
          have pn := ((W r rn).2 (c2.mp c1)).1
          rw [nI_clamp (by omega), ea, ys_v (by omega)]
          refine nm_e ⟨vr, ?_⟩
          rw [cr]
          refine yw_p hG2 rn c4 (fun c => (c c1).elim) (fun _ _ _ _ => ?_) (fun _ k5 _ _ => absurd k5 (by omega))
          exact br_t (by decide) (ih (pa r :: st) _ _ _ _ _ (yq_open (ps := [pa r]) W I tx0 hP (fun y hy => by rw [List.mem_singleton] at hy; exact ⟨c2.mp c1, Or.inl hy⟩) (fun _ => ⟨List.mem_cons_self, by rw [eb]; exact List.mem_cons_self⟩)) h02 hk2 hG2 N2 (st_1p hst.2) (by rw [List.length_cons]; omega) (by rw [List.length_cons]; omega))
        · refine br_f (by decide) (nm_r (nI_1 _) ⟨vr, vl, ?_⟩)
          have pn := ((W r rn).2 (c2.mp c1)).1
          have qn := ((W r rn).2 (c2.mp c1)).2
          rw [nI_clamp (by omega), ea, ys_v (by omega)]
          refine nm_e ⟨vr, ?_⟩
          rw [cr]
          refine yw_p hG2 rn c4 (fun c => (c c1).elim) (fun _ k4 _ _ => absurd k4 (by omega)) (fun _ _ _ _ => ?_)
          refine br_f (by decide) (nm_r (nI_1 _) ⟨vr, vp_in_nI (by omega) (by decide), ?_⟩)
          rw [nI_clamp (by omega), eb, ys_v (by omega)]
          exact nm_e (ih (pb r :: pa r :: st) _ _ _ _ _ (yq_open (ps := [pb r, pa r]) W I tx0 hP (fun y hy => by
            rcases List.mem_cons.mp hy with z | z
            · exact ⟨c2.mp c1, Or.inr z⟩
            · rw [List.mem_singleton] at z; exact ⟨c2.mp c1, Or.inl z⟩) (fun _ => ⟨List.mem_cons_of_mem _ List.mem_cons_self, List.mem_cons_self⟩)) h02 hk2 hG2 N2 (st_1p (L := pa r :: st) (st_1p hst.2)) (by rw [List.length_cons, List.length_cons]; omega) (by rw [List.length_cons, List.length_cons]; omega))
      have oth : ∀ (kd2 : Nat → Nat), (∀ i, i ≠ r → kd2 i = kd i) → ((kd0 r = 7 ∧ kd2 r = 8) ∨ (kd0 r ≠ 7 ∧ kd2 r = kd0 r)) → ∀ i, (kd0 i = 7 ∧ i < n ∧ gr_u nt r 1 i ≠ 0 ∧ nt0 i = 0 ∧ kd2 i = 8) ∨ (¬ (kd0 i = 7 ∧ i < n ∧ gr_u nt r 1 i ≠ 0 ∧ nt0 i = 0) ∧ kd2 i = kd0 i) := by
        intro kd2 e2 er2 i
        by_cases q : i = r
        · subst q
          rw [gr_us]
          rcases er2 with z | z
          · exact Or.inl ⟨z.1, rn, by omega, r00, z.2⟩
          · exact Or.inr ⟨fun y => z.1 y.1, z.2⟩
        · rw [gr_un q, e2 i q]; exact hk i
      refine nm_e ⟨vr, ?_⟩
      refine pk_p (yg_7 hG rn tx.1) (fun k7 => ⟨vr, nm_e ?_⟩) (fun k7 => rest kd wh (oth kd (fun _ _ => rfl) (Or.inr ⟨fun z => k7 (ek.trans z), ek⟩)) hG)
      exact rest (gr_u kd r 8) (upd wh r (nI 8)) (oth _ (fun i hi => gr_un hi) (Or.inl ⟨ek ▸ k7, gr_us⟩)) (yg_78 hG k7)
end
end
section
/-! the reference's generalise -/
def mk_v' (k : Nat) : Int32 := if k = 0 then -1 else nI (k - 1)
theorem st_1g {a : Nat → Int32} : ∀ (L : List Nat) (k x : Nat), st_1 a L → L[k]? = some x → a (L.length - 1 - k) = nI x := by
  intro L
  induction L with
  | nil => intro k x _ h; cases h
  | cons y L ih =>
    intro k x hs h
    rw [List.length_cons]
    cases k with
    | zero =>
      simp at h
      subst h
      exact hs.1
    | succ k =>
      have := ih k x hs.2 (by simpa using h)
      rw [show L.length + 1 - 1 - (k + 1) = L.length - 1 - k by omega]; exact this
/-- roots: 0 none, else the node and one -/
def y_R (a : Nat → Int32) (rt : Nat → Nat) : Prop := ∀ v, v < 12 → a v = mk_v' (rt v)
section
variable {f_count f_accepted f_place f_kept f_nodes f_tt f_pos f_bad f_typing f_unbound f_clash f_top f_scope f_doneName f_doneType : Int32} {a_kind a_value a_keptKind a_keptA a_keptB a_root a_what a_partA a_partB a_mark a_twin a_walk a_pairs a_now a_todo a_types a_firm a_bound a_boundType : Nat → Int32}
variable {kd pa pb : Nat → Nat} {n K : Nat}
theorem yw_g6 {post : SY → Prop} {b0 nl : Nat} {op stk env : List Nat} {bs : List (Nat × Bool)} {V : dv_W} {t nm : Nat} {rt : Nat → Nat} (hn : n ≤ 2000) (hG : yg_G n a_what a_partA a_partB kd pa pb) (hL : gr_L n kd pa K) (I : rp_I b0 nl n kd pa pb op (t :: stk) env bs V)
    (CI : ∀ ν E τ st τ' st', V ν (τ :: st) E → V ν (τ' :: st') E → V ν (τ' :: st) E) (hB : st_1 a_boundType env) (hb : env.length < 40) (hR : y_R a_now rt) (hb0 : b0 ≤ n)
    (kr : ∀ v, v < 12 → rt v ≠ 0 → rt v - 1 < n ∧ ∀ ρ ρ', gr_V n kd pa pb ρ → gr_V n kd pa pb ρ' → op.map ρ = op.map ρ' → (∀ i, i < n → kd i = 8 → ρ i = ρ' i) → ρ (rt v - 1) = ρ' (rt v - 1))
    (kb : ∀ ρ ρ', gr_V n kd pa pb ρ → gr_V n kd pa pb ρ' → (∀ v, v < 12 → rt v ≠ 0 → ρ (rt v - 1) = ρ' (rt v - 1)) → op.map ρ = op.map ρ' ∧ ∀ i, i < b0 → ρ i = ρ' i)
    (h : ∀ wh kd' mk wk, yg_G n wh a_partA a_partB kd' pa pb → rp_I b0 n n kd' pa pb op stk (t :: env) ((nm, true) :: bs) (dv_bind V) → (∀ i, kd' i = 1000 ↔ kd i = 1000) → (∀ i, kd i = 8 → kd' i = 8) → (∀ i, i < b0 → kd' i = kd i) → post (f_count, f_accepted, f_place, f_kept, nI n, f_tt, f_pos, f_bad, f_typing, f_unbound, f_clash, f_top, nI env.length, f_doneName, f_doneType, a_kind, a_value, a_keptKind, a_keptA, a_keptB, a_root, wh, a_partA, a_partB, mk, a_twin, wk, a_pairs, a_now, a_todo, a_types, a_firm, a_bound, a_boundType)) : wpY_generalise post (f_count, f_accepted, f_place, f_kept, nI n, f_tt, f_pos, f_bad, f_typing, f_unbound, f_clash, f_top, nI env.length, f_doneName, f_doneType, a_kind, a_value, a_keptKind, a_keptA, a_keptB, a_root, a_what, a_partA, a_partB, a_mark, a_twin, a_walk, a_pairs, a_now, a_todo, a_types, a_firm, a_bound, a_boundType) (nI t) := by
  have W := I.1
  have A := I.2.1
  obtain ⟨M, Es, ⟨hM, gM, oM, sM, eM⟩, _, _, _, _⟩ := I.2.2.1
  have en := I.2.2.2.1
  have tn : t < n := (hM t (sM t List.mem_cons_self)).1
  generalize eP : (fun r => ∀ ρ ρ', gr_V n kd pa pb ρ → gr_V n kd pa pb ρ' → op.map ρ = op.map ρ' → env.map ρ = env.map ρ' → (∀ i, i < n → kd i = 8 → ρ i = ρ' i) → ρ r = ρ' r) = P
  have hP : ∀ r, r < n → P r → gr_cn (kd r) → (∀ x, gr_to kd pa (pa r) x → P x) ∧ ∀ x, gr_to kd pa (pb r) x → P x := by
    subst eP
    intro i hi hPi hc
    have w := (W i hi).2 hc
    refine ⟨fun x hx ρ ρ' h1 h2 h3 h4 h5 => ?_, fun x hx ρ ρ' h1 h2 h3 h4 h5 => ?_⟩
    · have e := hPi ρ ρ' h1 h2 h3 h4 h5
      rw [gr_Vc h1 hi hc, gr_Vc h2 hi hc] at e
      rw [← gr_to_V W h1 hx w.1, ← gr_to_V W h2 hx w.1]; exact (tr_con_inj e).2.1
    · have e := hPi ρ ρ' h1 h2 h3 h4 h5
      rw [gr_Vc h1 hi hc, gr_Vc h2 hi hc] at e
      rw [← gr_to_V W h1 hx w.2, ← gr_to_V W h2 hx w.2]; exact (tr_con_inj e).2.2
  -- the last part
  have last : ∀ nt0 mk wk, yq_F n kd pa pb nt0 P → (∀ v, v < 12 → rt v ≠ 0 → ∀ q, gr_to kd pa (rt v - 1) q → nt0 q ≠ 0) → (∀ e, e ∈ env → ∀ q, gr_to kd pa e q → nt0 q ≠ 0) → ym_N n mk nt0 → st_1 wk [t] → ∃ n76 : Nat, wY_generalise_76 post f_count f_accepted f_place f_kept (nI n) f_tt f_pos f_bad f_typing f_unbound f_clash f_top (nI env.length) f_doneName f_doneType n76 (nI 1) a_kind a_value a_keptKind a_keptA a_keptB a_root a_what a_partA a_partB mk a_twin wk a_pairs a_now a_todo a_types a_firm a_bound a_boundType := by
    intro nt0 mk wk F hv he hN hw
    have hS : ∀ r, (r < n ∧ nt0 r ≠ 0) → r < n ∧ kd r ≠ 1000 ∧ (gr_cn (kd r) → (∀ x, gr_to kd pa (pa r) x → (x < n ∧ nt0 x ≠ 0)) ∧ ∀ x, gr_to kd pa (pb r) x → (x < n ∧ nt0 x ≠ 0)) := fun r hr => by
      obtain ⟨a, b, c⟩ := F r hr.1 hr.2
      refine ⟨hr.1, a, fun k => ?_⟩
      have w := (W r hr.1).2 k
      exact ⟨fun x hx => ⟨gr_to_n W hx w.1, (c k).1 x hx⟩, fun x hx => ⟨gr_to_n W hx w.2, (c k).2 x hx⟩⟩
    have CF := xq_C (S := fun r => r < n ∧ nt0 r ≠ 0) W hS hL
    generalize eF : (fun i => i < n ∧ ∃ r, gr_to kd pa i r ∧ r < n ∧ nt0 r ≠ 0) = FF at CF
    have inF : ∀ i, i < n → (∀ q, gr_to kd pa i q → nt0 q ≠ 0) → FF i := fun i hi hq => by
      have t := gr_L_to hL hi
      rw [← eF]; exact ⟨hi, _, t, gr_to_n W t hi, hq _ t⟩
    have rF : ∀ ρ ρ', gr_V n kd pa pb ρ → gr_V n kd pa pb ρ' → (∀ i, FF i → ρ i = ρ' i) → ∀ v, v < 12 → rt v ≠ 0 → ρ (rt v - 1) = ρ' (rt v - 1) := fun ρ ρ' h1 h2 ha v h12 h0 => ha _ (inF _ (kr v h12 h0).1 (hv v h12 h0))
    -- free kept nodes are marked
    have fk : ∀ i, i < b0 → gr_fr (kd i) → nt0 i ≠ 0 := by
      intro i hi hf z
      obtain ⟨ρ, h1, a1⟩ := gr_ex A (fun _ => tr_at 0)
      obtain ⟨ρ', h2, a2⟩ := gr_ex A (fun j => if j = i then tr_at 1 else tr_at 0)
      have ag : ∀ j, FF j → ρ j = ρ' j := fun j hj => gr_agA A h1 h2 CF (fun j hj c => by
        have jn := (CF j hj).1
        rw [a1 j jn c, a2 j jn c]
        by_cases e : j = i
        · rw [← eF] at hj
          obtain ⟨_, r, tr, _, m⟩ := hj
          have : r = j := gr_to_u tr (gr_to_r (by omega))
          rw [this, e] at m
          exact (m z).elim
        · rw [if_neg e]) hj
      have e := (kb ρ ρ' h1 h2 (rF ρ ρ' h1 h2 ag)).2 i hi
      rw [a1 i (by omega) hf, a2 i (by omega) hf, if_pos rfl] at e
      exact absurd (tr_at_inj e) (by decide)
    refine ⟨2 * n + 2, ?_⟩
    have ctl := ct_le (p := fun i => decide (nt0 i = 0)) n
    generalize eQ : (fun r => nt0 r ≠ 0 ∨ ∀ ρ ρ', gr_V n kd pa pb ρ → gr_V n kd pa pb ρ' → ρ t = ρ' t → ρ r = ρ' r) = Q
    have hQ : ∀ r, r < n → Q r → gr_cn (kd r) → (∀ x, gr_to kd pa (pa r) x → Q x) ∧ ∀ x, gr_to kd pa (pb r) x → Q x := by
      subst eQ
      intro i hi hQi hc
      have w := (W i hi).2 hc
      rcases hQi with z | z
      · have f := (F i hi z).2.2 hc
        exact ⟨fun x hx => Or.inl (f.1 x hx), fun x hx => Or.inl (f.2 x hx)⟩
      · refine ⟨fun x hx => Or.inr (fun ρ ρ' h1 h2 h3 => ?_), fun x hx => Or.inr (fun ρ ρ' h1 h2 h3 => ?_)⟩
        · have e := z ρ ρ' h1 h2 h3
          rw [gr_Vc h1 hi hc, gr_Vc h2 hi hc] at e
          rw [← gr_to_V W h1 hx w.1, ← gr_to_V W h2 hx w.1]; exact (tr_con_inj e).2.1
        · have e := z ρ ρ' h1 h2 h3
          rw [gr_Vc h1 hi hc, gr_Vc h2 hi hc] at e
          rw [← gr_to_V W h1 hx w.2, ← gr_to_V W h2 hx w.2]; exact (tr_con_inj e).2.2
    refine yw_gen_l (t := t) (P := Q) (nt0 := nt0) hn W hL hQ (fun nt kd' wh mk wk I1 h0 hk hG' => ?_) (2 * n + 1) [t] nt0 kd a_what mk wk (yq_0 (fun r hr hm => ⟨(F r hr hm).1, by rw [← eQ]; exact Or.inl hm, (F r hr hm).2.2⟩) tn (fun r hr => by
      rw [← eQ]
      exact Or.inr (fun ρ ρ' h1 h2 h3 => by rw [← gr_to_V W h1 hr tn, ← gr_to_V W h2 hr tn]; exact h3))) (fun i hi => hi) (fun i => Or.inr ⟨fun z => z.2.2.1 z.2.2.2, rfl⟩) hG hN hw (by rw [List.length_singleton]; omega) (by rw [List.length_singleton]; omega)
    obtain ⟨F1, F2⟩ := yq_1 I1
    have k1 : ∀ i, kd' i = 1000 ↔ kd i = 1000 := fun i => by
      rcases hk i with z | z
      · omega
      · rw [z.2]
    refine h wh kd' mk wk hG' ?_ k1 (fun i z => ?_) (fun i hi => ?_)
    · -- the marks as sets
      have hS1 : ∀ r, (r < n ∧ nt r ≠ 0) → r < n ∧ kd r ≠ 1000 ∧ (gr_cn (kd r) → (∀ x, gr_to kd pa (pa r) x → (x < n ∧ nt x ≠ 0)) ∧ ∀ x, gr_to kd pa (pb r) x → (x < n ∧ nt x ≠ 0)) := fun r hr => by
        obtain ⟨a, b, c⟩ := F1 r hr.1 hr.2
        refine ⟨hr.1, a, fun k => ?_⟩
        have w := (W r hr.1).2 k
        exact ⟨fun x hx => ⟨gr_to_n W hx w.1, (c k).1 x hx⟩, fun x hx => ⟨gr_to_n W hx w.2, (c k).2 x hx⟩⟩
      have CR := xq_C (S := fun r => r < n ∧ nt r ≠ 0) W hS1 hL
      have CR2 : gr_C n kd pa pb (fun i => (i < n ∧ ∃ r, gr_to kd pa i r ∧ r < n ∧ nt r ≠ 0) ∧ ∀ ρ ρ', gr_V n kd pa pb ρ → gr_V n kd pa pb ρ' → ρ t = ρ' t → ρ i = ρ' i) := by
        intro i ⟨hi, hd⟩
        obtain ⟨c1, c2, c3⟩ := CR i hi
        refine ⟨c1, fun z => ⟨c2 z, fun ρ ρ' h1 h2 h3 => ?_⟩, fun z => ⟨⟨(c3 z).1, fun ρ ρ' h1 h2 h3 => ?_⟩, (c3 z).2, fun ρ ρ' h1 h2 h3 => ?_⟩⟩
        · rw [← gr_Vl h1 c1 z, ← gr_Vl h2 c1 z]; exact hd ρ ρ' h1 h2 h3
        · have e := hd ρ ρ' h1 h2 h3
          rw [gr_Vc h1 c1 z, gr_Vc h2 c1 z] at e
          exact (tr_con_inj e).2.1
        · have e := hd ρ ρ' h1 h2 h3
          rw [gr_Vc h1 c1 z, gr_Vc h2 c1 z] at e
          exact (tr_con_inj e).2.2
      have tt := gr_L_to hL tn
      refine rp_gen (F := FF) I CI CF (fun ρ ρ' h1 h2 h3 h4 h5 i hi => ?_) (fun ρ ρ' h1 h2 ha => ⟨(kb ρ ρ' h1 h2 (rF ρ ρ' h1 h2 ha)).1, mp_i fun x hx => ha x (inF x (en x hx) (he x hx))⟩) CR2 (fun ρ ρ' h1 h2 h3 i hi => hi.2 ρ ρ' h1 h2 h3) (fun ρ ρ' h1 h2 ha => ha t ⟨⟨tn, _, tt, gr_to_n W tt tn, F2 _ tt⟩, fun _ _ _ _ e => e⟩) (fun ρ ρ' h1 h2 ha => (kb ρ ρ' h1 h2 (rF ρ ρ' h1 h2 ha)).2) (fun i => ?_)
      · rw [← eF] at hi
        obtain ⟨hi, r, tr, rn, m⟩ := hi
        have p := (F r rn m).2.1
        rw [← eP] at p
        rw [gr_to_V W h1 tr hi, gr_to_V W h2 tr hi]; exact p ρ ρ' h1 h2 h3 h4 h5
      · rcases hk i with ⟨z1, z2, z3, z4, z5⟩ | ⟨z1, z2⟩
        · refine Or.inl ⟨z1, ⟨⟨z2, i, gr_to_r (by omega), z2, z3⟩, ?_⟩, fun q => ?_, z5⟩
          · have p := (F1 i z2 z3).2.1
            rw [← eQ] at p
            exact p.resolve_left (fun q => q z4)
          · rw [← eF] at q
            obtain ⟨_, r, tr, _, m⟩ := q
            rw [gr_to_u tr (gr_to_r (by omega))] at m
            exact m z4
        · refine Or.inr ⟨fun ⟨q1, q2, q3⟩ => z1 ⟨q1, q2.1.1, ?_, ?_⟩, z2⟩
          · obtain ⟨_, r, tr, _, m⟩ := q2.1
            rw [gr_to_u tr (gr_to_r (by omega))] at m
            exact m
          · refine Classical.byContradiction fun m => q3 ?_
            rw [← eF]
            exact ⟨q2.1.1, i, gr_to_r (by omega), q2.1.1, m⟩
    · rcases hk i with y | y
      · omega
      · rw [y.2]; exact z
    · rcases hk i with y | y
      · exact (fk i hi (Or.inl y.1) y.2.2.2.1).elim
      · exact y.2
  -- the bindings around
  have l39 : ∀ d j nt mk wk, j + d = env.length → yq_F n kd pa pb nt P → (∀ v, v < 12 → rt v ≠ 0 → ∀ q, gr_to kd pa (rt v - 1) q → nt q ≠ 0) → (∀ i e, i < j → env[env.length - 1 - i]? = some e → ∀ q, gr_to kd pa e q → nt q ≠ 0) → ym_N n mk nt → wY_generalise_39 post (nI t) (d + 1) (nI j) f_count f_accepted f_place f_kept (nI n) f_tt f_pos f_bad f_typing f_unbound f_clash f_top (nI env.length) f_doneName f_doneType a_kind a_value a_keptKind a_keptA a_keptB a_root a_what a_partA a_partB mk a_twin wk a_pairs a_now a_todo a_types a_firm a_bound a_boundType := by
    intro d
    induction d with
    | zero =>
      intro j nt mk wk hj F hv he hN
      refine br_t (nI_le (by omega) (by omega)) ?_
      refine nm_e ?_
      rw [ys_nn (by omega)]
      refine nm_e (last nt mk _ F hv (fun e hm => ?_) hN (st_1p (L := []) trivial))
      obtain ⟨k, hk⟩ := List.getElem?_of_mem hm
      have kl : k < env.length := (List.getElem?_eq_some_iff.mp hk).1
      exact he (env.length - 1 - k) e (by omega) (by rw [show env.length - 1 - (env.length - 1 - k) = k by omega]; exact hk)
    | succ d ih =>
      intro j nt mk wk hj F hv he hN
      refine br_f (nI_ge (by omega) (by omega)) ⟨vp_in_nI (by omega) (by decide), ?_⟩
      rw [nI_clamp (by omega)]
      have hk : env.length - 1 - j < env.length := by omega
      obtain ⟨e, ee⟩ : ∃ e, env[env.length - 1 - j]? = some e := ⟨_, List.getElem?_eq_getElem hk⟩
      have bt := st_1g env (env.length - 1 - j) e hB ee
      rw [show env.length - 1 - (env.length - 1 - j) = j by omega] at bt
      rw [bt]
      have em : e ∈ env := List.mem_of_getElem? ee
      refine yw_spread hn W hG hL hP F (en e em) (fun r hr => ?_) hN (fun nt' mk wk F' up tq hN' => nm_r (nI_1 j) (ih (j + 1) nt' mk wk (by omega) F' (fun v h12 h0 q hq => up q (hv v h12 h0 q hq)) (fun i x hi hx q hq => ?_) hN'))
      · rw [← eP]
        intro ρ ρ' h1 h2 h3 h4 h5
        rw [← gr_to_V W h1 hr (en e em), ← gr_to_V W h2 hr (en e em)]
        exact mp_e h4 e em
      · by_cases c : i = j
        · subst c
          rw [ee] at hx
          cases hx
          exact tq q hq
        · exact up q (he i x (by omega) hx q hq)
  -- the declared types
  have l6 : ∀ d j nt mk wk, j + d = 12 → yq_F n kd pa pb nt P → (∀ v, v < j → rt v ≠ 0 → ∀ q, gr_to kd pa (rt v - 1) q → nt q ≠ 0) → ym_N n mk nt → wY_generalise_6 post (nI t) (d + 1) (nI j) f_count f_accepted f_place f_kept (nI n) f_tt f_pos f_bad f_typing f_unbound f_clash f_top (nI env.length) f_doneName f_doneType a_kind a_value a_keptKind a_keptA a_keptB a_root a_what a_partA a_partB mk a_twin wk a_pairs a_now a_todo a_types a_firm a_bound a_boundType := by
    intro d
    induction d with
    | zero =>
      intro j nt mk wk hj F hv hN
      refine br_t (nI_le (a := 12) (by omega) (by omega)) ⟨env.length + 1, ?_⟩
      exact l39 env.length 0 nt mk wk (by omega) F (fun v h12 h0 => hv v (by omega) h0) (fun i e hi => by omega) hN
    | succ d ih =>
      intro j nt mk wk hj F hv hN
      have vj : vp_in (nI j) 12 := vp_in_nI (by omega) (by decide)
      refine br_f (nI_ge (b := 12) (by omega) (by decide)) ⟨vj, ?_⟩
      rw [nI_clamp (by omega), hR j (by omega)]
      unfold mk_v'
      by_cases z : rt j = 0
      · rw [if_pos z]
        refine br_t (by decide) (nm_r (nI_1 j) (ih (j + 1) nt mk wk (by omega) F (fun v hv' h0 => ?_) hN))
        by_cases c : v = j
        · rw [c] at h0; exact (h0 z).elim
        · exact hv v (by omega) h0
      · rw [if_neg z]
        obtain ⟨rn, rd⟩ := kr j (by omega) z
        refine br_f (nI_nlt (b := 0) (by omega) (by omega)) ⟨vj, ?_⟩
        refine yw_spread hn W hG hL hP F rn (fun r hr => ?_) hN (fun nt' mk wk F' up tq hN' => nm_r (nI_1 j) (ih (j + 1) nt' mk wk (by omega) F' (fun v hv' h0 q hq => ?_) hN'))
        · rw [← eP]
          intro ρ ρ' h1 h2 h3 h4 h5
          rw [← gr_to_V W h1 hr rn, ← gr_to_V W h2 hr rn]
          exact rd ρ ρ' h1 h2 h3 h5
        · by_cases c : v = j
          · rw [c] at hq; exact tq q hq
          · exact up q (hv v (by omega) h0 q hq)
  refine yw_unmark hn (fun mk hz => ⟨13, ?_⟩)
  exact l6 12 0 (fun _ => 0) mk _ (by omega) (fun r _ z => (z rfl).elim) (fun v hv => by omega) (fun i hi => ⟨hz i hi, Nat.zero_le _⟩)
end
end
section
/-! the reference's search for general variables -/
def ys_p (kd pa nt : Nat → Nat) (U : List (Nat × Bool)) (p : Nat) : Prop := (p, false) ∈ U ∨ ∀ r, gr_to kd pa p r → 2 ≤ nt r ∨ (r, true) ∈ U
/-- what a mark says: 3 a general variable is within -/
def ys_M (n : Nat) (kd pa pb nt : Nat → Nat) : Prop :=
  ∀ i, i < n → 2 ≤ nt i → (¬ gr_cn (kd i) → (nt i = 3 ↔ kd i = 8)) ∧ (gr_cn (kd i) → ∀ x y, gr_to kd pa (pa i) x → gr_to kd pa (pb i) y → 2 ≤ nt x ∧ 2 ≤ nt y ∧ (nt i = 3 ↔ nt x = 3 ∨ nt y = 3))
def ys_I (n : Nat) (kd pa pb nt : Nat → Nat) (E : Nat → Prop) (ρ : Nat → tr_T) (s : Nat) (st : List (Nat × Bool)) : Prop :=
  (∀ x, x ∈ st → x.1 < n ∧ E x.1 ∧ (x.2 = true → kd x.1 ≠ 1000 ∧ nt x.1 = 1 ∧ gr_cn (kd x.1))) ∧ (∀ i, i < n → nt i = 1 → (i, true) ∈ st) ∧
  (∀ i, i < n → nt i ≠ 0 → E i ∧ kd i ≠ 1000) ∧ ys_M n kd pa pb nt ∧
  (∀ U t D, st = U ++ (t, true) :: D → gr_cn (kd t) → ys_p kd pa nt U (pa t) ∧ ys_p kd pa nt U (pb t)) ∧
  ys_p kd pa nt st s ∧ ye_c ρ st ∧ ∀ i, i < n → nt i ≤ 3
section
variable {n K : Nat} {kd pa pb nt : Nat → Nat} {s : Nat} {st : List (Nat × Bool)} {E : Nat → Prop} {ρ : Nat → tr_T}
/-- a mark of 2 or 3 where none stood -/
theorem ys_Mu {r v : Nat} (W : gr_W n kd pa pb) (M : ys_M n kd pa pb nt) (h1 : nt r < 2) (hv : 2 ≤ v) (h0 : ¬ gr_cn (kd r) → (v = 3 ↔ kd r = 8)) (hc : gr_cn (kd r) → ∀ x y, gr_to kd pa (pa r) x → gr_to kd pa (pb r) y → 2 ≤ nt x ∧ 2 ≤ nt y ∧ (v = 3 ↔ nt x = 3 ∨ nt y = 3)) : ys_M n kd pa pb (gr_u nt r v) := by
  have ne : ∀ x, 2 ≤ nt x → x ≠ r := fun x h e => by rw [e] at h; omega
  intro i hi h2
  by_cases e : i = r
  · subst e
    rw [gr_us]
    refine ⟨h0, fun c x y hx hy => ?_⟩
    obtain ⟨q1, q2, q3⟩ := hc c x y hx hy
    rw [gr_un (ne x q1), gr_un (ne y q2)]; exact ⟨q1, q2, q3⟩
  · rw [gr_un e] at h2 ⊢
    obtain ⟨m1, m2⟩ := M i hi h2
    refine ⟨m1, fun c x y hx hy => ?_⟩
    obtain ⟨q1, q2, q3⟩ := m2 c x y hx hy
    rw [gr_un (ne x q1), gr_un (ne y q2)]; exact ⟨q1, q2, q3⟩
theorem ys_drop {x r : Nat} (I : ys_I n kd pa pb nt E ρ s ((x, false) :: st)) (hx : gr_to kd pa x r) (h2 : 2 ≤ nt r) : ys_I n kd pa pb nt E ρ s st := by
  obtain ⟨i1, i2, i3, i4, i5, i6, i7, i8⟩ := I
  have pp : ∀ U p, ys_p kd pa nt ((x, false) :: U) p → ys_p kd pa nt U p := by
    intro U p h
    rcases h with h | h
    · rcases List.mem_cons.mp h with z | z
      · injection z with z1 z2
        subst z1
        exact Or.inr (fun q hq => Or.inl (by rw [gr_to_u hq hx]; exact h2))
      · exact Or.inl z
    · refine Or.inr (fun q hq => (h q hq).imp id (fun z => ?_))
      rcases List.mem_cons.mp z with z | z
      · injection z with z1 z2; cases z2
      · exact z
  refine ⟨fun y hy => i1 y (List.mem_cons_of_mem _ hy), fun i hi h => ?_, i3, i4, fun U t D e c => ?_, pp _ _ i6, i7.2, i8⟩
  · rcases List.mem_cons.mp (i2 i hi h) with z | z
    · injection z with z1 z2; cases z2
    · exact z
  · have := i5 ((x, false) :: U) t D (by rw [e]; rfl) c
    exact ⟨pp _ _ this.1, pp _ _ this.2⟩
theorem ys_leaf {x r v : Nat} (W : gr_W n kd pa pb) (cE : gr_C n kd pa pb E) (I : ys_I n kd pa pb nt E ρ s ((x, false) :: st)) (hx : gr_to kd pa x r) (h0 : nt r = 0) (hc : ¬ gr_cn (kd r)) (hv : v = 2 ∨ v = 3) (hv' : v = 3 ↔ kd r = 8) : ys_I n kd pa pb (gr_u nt r v) E ρ s st := by
  obtain ⟨i1, i2, i3, i4, i5, i6, i7, i8⟩ := I
  obtain ⟨xn, xE, _⟩ := i1 (x, false) List.mem_cons_self
  have up : ∀ y, 2 ≤ nt y → 2 ≤ gr_u nt r v y := fun y hy => by
    by_cases q : y = r
    · rw [q, gr_us]; omega
    · rw [gr_un q]; exact hy
  have pp : ∀ U p, ys_p kd pa nt ((x, false) :: U) p → ys_p kd pa (gr_u nt r v) U p := by
    intro U p h
    rcases h with h | h
    · rcases List.mem_cons.mp h with z | z
      · injection z with z1 z2
        subst z1
        exact Or.inr (fun q hq => Or.inl (by rw [gr_to_u hq hx, gr_us]; omega))
      · exact Or.inl z
    · refine Or.inr (fun q hq => (h q hq).imp (up q) (fun z => ?_))
      rcases List.mem_cons.mp z with z | z
      · injection z with z1 z2; cases z2
      · exact z
  refine ⟨fun y hy => ?_, fun i hi h => ?_, fun i hi h => ?_, ys_Mu W i4 (by omega) (by omega) (fun _ => hv') (fun c => (hc c).elim), fun U t D e c => ?_, pp _ _ i6, i7.2, fun i hi => ?_⟩
  · obtain ⟨a, b, c⟩ := i1 y (List.mem_cons_of_mem _ hy)
    refine ⟨a, b, fun z => ⟨(c z).1, ?_, (c z).2.2⟩⟩
    have := (c z).2.1
    rw [gr_un (fun e => by rw [e] at this; omega)]; exact this
  · by_cases q : i = r
    · rw [q, gr_us] at h; omega
    · rw [gr_un q] at h
      rcases List.mem_cons.mp (i2 i hi h) with z | z
      · injection z with z1 z2; cases z2
      · exact z
  · by_cases q : i = r
    · rw [q]; exact ⟨gr_to_C cE hx xE, hx.1⟩
    · rw [gr_un q] at h; exact i3 i hi h
  · have := i5 ((x, false) :: U) t D (by rw [e]; rfl) c
    exact ⟨pp _ _ this.1, pp _ _ this.2⟩
  · by_cases q : i = r
    · rw [q, gr_us]; omega
    · rw [gr_un q]; exact i8 i hi
theorem ys_open {x r : Nat} {ps : List (Nat × Bool)} (W : gr_W n kd pa pb) (hρ : gr_V n kd pa pb ρ) (cE : gr_C n kd pa pb E) (I : ys_I n kd pa pb nt E ρ s ((x, false) :: st)) (hx : gr_to kd pa x r) (h0 : nt r = 0) (hc : gr_cn (kd r)) (hps : ∀ y, y ∈ ps → y.2 = false ∧ (y.1 = pa r ∨ y.1 = pb r)) (hpc : (pa r, false) ∈ ps ∧ (pb r, false) ∈ ps) : ys_I n kd pa pb (gr_u nt r 1) E ρ s (ps ++ (r, true) :: st) := by
  obtain ⟨i1, i2, i3, i4, i5, i6, i7, i8⟩ := I
  obtain ⟨xn, xE, _⟩ := i1 (x, false) List.mem_cons_self
  have rn := gr_to_n W hx xn
  have rE := gr_to_C cE hx xE
  have up : ∀ y, 2 ≤ nt y → 2 ≤ gr_u nt r 1 y := fun y hy => by
    by_cases q : y = r
    · rw [q] at hy; omega
    · rw [gr_un q]; exact hy
  have pp : ∀ U p, ys_p kd pa nt ((x, false) :: U) p → ys_p kd pa (gr_u nt r 1) (ps ++ (r, true) :: U) p := by
    intro U p h
    rcases h with h | h
    · rcases List.mem_cons.mp h with z | z
      · injection z with z1 z2
        subst z1
        exact Or.inr (fun q hq => Or.inr (by rw [gr_to_u hq hx]; exact List.mem_append_right _ List.mem_cons_self))
      · exact Or.inl (List.mem_append_right _ (List.mem_cons_of_mem _ z))
    · refine Or.inr (fun q hq => (h q hq).imp (up q) (fun z => ?_))
      rcases List.mem_cons.mp z with z | z
      · injection z with z1 z2; cases z2
      · exact List.mem_append_right _ (List.mem_cons_of_mem _ z)
  have psf : ∀ y, (y, true) ∉ ps := fun y h => by have := (hps _ h).1; cases this
  refine ⟨fun y hy => ?_, fun i hi h => ?_, fun i hi h => ?_, ?_, fun U t D e c => ?_, pp _ _ i6, ?_, fun i hi => ?_⟩
  · rcases List.mem_append.mp hy with z | z
    · obtain ⟨q1, q3⟩ := hps y z
      have w := (W r rn).2 hc
      have e := (cE r rE).2.2 hc
      rcases q3 with q3 | q3
      · rw [q3]; exact ⟨w.1, e.1, fun k => by rw [q1] at k; cases k⟩
      · rw [q3]; exact ⟨w.2, e.2, fun k => by rw [q1] at k; cases k⟩
    · rcases List.mem_cons.mp z with z | z
      · rw [z]; exact ⟨rn, rE, fun _ => ⟨hx.1, gr_us, hc⟩⟩
      · obtain ⟨a, b, c⟩ := i1 y (List.mem_cons_of_mem _ z)
        refine ⟨a, b, fun k => ⟨(c k).1, ?_, (c k).2.2⟩⟩
        by_cases e : y.1 = r
        · rw [e, gr_us]
        · rw [gr_un e]; exact (c k).2.1
  · by_cases q : i = r
    · rw [q]; exact List.mem_append_right _ List.mem_cons_self
    · rw [gr_un q] at h
      rcases List.mem_cons.mp (i2 i hi h) with z | z
      · injection z with z1 z2; cases z2
      · exact List.mem_append_right _ (List.mem_cons_of_mem _ z)
  · by_cases q : i = r
    · rw [q]; exact ⟨rE, hx.1⟩
    · rw [gr_un q] at h; exact i3 i hi h
  · intro i hi h2
    have ne : ∀ x, 2 ≤ nt x → x ≠ r := fun x h e => by rw [e] at h; omega
    by_cases e : i = r
    · rw [e, gr_us] at h2; omega
    · rw [gr_un e] at h2 ⊢
      obtain ⟨m1, m2⟩ := i4 i hi h2
      refine ⟨m1, fun c x y hx hy => ?_⟩
      obtain ⟨q1, q2, q3⟩ := m2 c x y hx hy
      rw [gr_un (ne x q1), gr_un (ne y q2)]; exact ⟨q1, q2, q3⟩
  · rcases List.append_eq_append_iff.mp e with ⟨A, e1, e2⟩ | ⟨A, e1, e2⟩
    · cases A with
      | nil =>
        rw [List.append_nil] at e1
        rw [List.nil_append] at e2
        injection e2 with e2 e3
        injection e2 with e2 _
        subst e2 e1
        exact ⟨Or.inl hpc.1, Or.inl hpc.2⟩
      | cons a A =>
        injection e2 with e2 e3
        subst e2
        have := i5 ((x, false) :: A) t D (by rw [e3]; rfl) c
        rw [e1]
        exact ⟨pp _ _ this.1, pp _ _ this.2⟩
    · cases A with
      | nil =>
        rw [List.append_nil] at e1
        rw [List.nil_append] at e2
        injection e2 with e2 e3
        injection e2 with e2 _
        subst e2 e1
        exact ⟨Or.inl hpc.1, Or.inl hpc.2⟩
      | cons a A =>
        injection e2 with e2 e3
        subst e2
        exact (psf t (by rw [e1]; exact List.mem_append_right _ List.mem_cons_self)).elim
  · have hx2 := gr_to_V W hρ hx xn
    have c2 : ye_c ρ ((r, true) :: st) := ⟨fun y hy => by rw [← hx2]; exact i7.1 y hy, i7.2⟩
    have add : ∀ ps, (∀ y, y ∈ ps → y.2 = false ∧ (y.1 = pa r ∨ y.1 = pb r)) → ye_c ρ (ps ++ (r, true) :: st) := by
      intro ps
      induction ps with
      | nil => intro _; exact c2
      | cons y ps ih =>
        intro hy
        refine ⟨fun z hz => ?_, ih (fun w hw => hy w (List.mem_cons_of_mem _ hw))⟩
        obtain ⟨q1, q3⟩ := hy y List.mem_cons_self
        have lt : tr_sz (ρ y.1) < tr_sz (ρ r) := by
          rw [gr_Vc hρ rn hc]
          rcases q3 with q3 | q3
          · rw [q3]; exact tr_sz_l _ _ _
          · rw [q3]; exact tr_sz_r _ _ _
        rcases List.mem_append.mp hz with w | w
        · have := (hy _ (List.mem_cons_of_mem _ w)).1; cases this
        · rcases List.mem_cons.mp w with w | w
          · injection w with w1 _; rw [w1]; exact lt
          · exact Nat.lt_trans lt (c2.1 z w)
    exact add ps hps
  · by_cases q : i = r
    · rw [q, gr_us]; omega
    · rw [gr_un q]; exact i8 i hi
/-- the parts of the node whose end is uppermost are done -/
theorem ys_done {t : Nat} (I : ys_I n kd pa pb nt E ρ s ((t, true) :: st)) : gr_cn (kd t) ∧ ∀ p, p = pa t ∨ p = pb t → ∀ r, gr_to kd pa p r → 2 ≤ nt r := by
  have c := ((I.1 (t, true) List.mem_cons_self).2.2 rfl).2.2
  have c5 := I.2.2.2.2.1 [] t st rfl c
  have nil : ∀ p, ys_p kd pa nt [] p → ∀ r, gr_to kd pa p r → 2 ≤ nt r := by
    intro p h r hr
    rcases h with h | h
    · cases h
    · rcases h r hr with z | z
      · exact z
      · cases z
  refine ⟨c, fun p hp => ?_⟩
  rcases hp with e | e
  · rw [e]; exact nil _ c5.1
  · rw [e]; exact nil _ c5.2
theorem ys_end {t v : Nat} (W : gr_W n kd pa pb) (I : ys_I n kd pa pb nt E ρ s ((t, true) :: st)) (hv : v = 2 ∨ v = 3) (hv' : ∀ x y, gr_to kd pa (pa t) x → gr_to kd pa (pb t) y → (v = 3 ↔ nt x = 3 ∨ nt y = 3)) : ys_I n kd pa pb (gr_u nt t v) E ρ s st := by
  obtain ⟨tc, td⟩ := ys_done I
  obtain ⟨i1, i2, i3, i4, i5, i6, i7, i8⟩ := I
  obtain ⟨tn, tE, t2⟩ := i1 (t, true) List.mem_cons_self
  obtain ⟨tk, t1, _⟩ := t2 rfl
  have t1 : nt t = 1 := t1
  have up : ∀ y, 2 ≤ nt y → 2 ≤ gr_u nt t v y := fun y hy => by
    by_cases q : y = t
    · rw [q, gr_us]; omega
    · rw [gr_un q]; exact hy
  have pp : ∀ U p, ys_p kd pa nt ((t, true) :: U) p → ys_p kd pa (gr_u nt t v) U p := by
    intro U p h
    rcases h with h | h
    · rcases List.mem_cons.mp h with z | z
      · injection z with z1 z2; cases z2
      · exact Or.inl z
    · refine Or.inr (fun q hq => ?_)
      rcases h q hq with z | z
      · exact Or.inl (up q z)
      · rcases List.mem_cons.mp z with z | z
        · injection z with z1 z2
          rw [z1, gr_us]
          exact Or.inl (by omega)
        · exact Or.inr z
  refine ⟨fun y hy => ?_, fun i hi h => ?_, fun i hi h => ?_, ys_Mu W i4 (by omega) (by omega) (fun c => (c tc).elim) (fun c x y hx hy => ⟨td _ (Or.inl rfl) x hx, td _ (Or.inr rfl) y hy, hv' x y hx hy⟩), fun U t' D e c => ?_, pp _ _ i6, i7.2, fun i hi => ?_⟩
  · obtain ⟨a, b, c⟩ := i1 y (List.mem_cons_of_mem _ hy)
    refine ⟨a, b, fun z => ⟨(c z).1, ?_, (c z).2.2⟩⟩
    have lt := i7.1 y.1 (by rw [← z]; exact hy)
    rw [gr_un (fun e => by rw [e] at lt; exact Nat.lt_irrefl _ lt)]; exact (c z).2.1
  · by_cases q : i = t
    · rw [q, gr_us] at h; omega
    · rw [gr_un q] at h
      rcases List.mem_cons.mp (i2 i hi h) with z | z
      · injection z with z1 z2; exact (q z1).elim
      · exact z
  · by_cases q : i = t
    · rw [q]; exact ⟨tE, tk⟩
    · rw [gr_un q] at h; exact i3 i hi h
  · have := i5 ((t, true) :: U) t' D (by rw [e]; rfl) c
    exact ⟨pp _ _ this.1, pp _ _ this.2⟩
  · by_cases q : i = t
    · rw [q, gr_us]; omega
    · rw [gr_un q]; exact i8 i hi
theorem ys_0 (hs : s < n) (hE : E s) : ys_I n kd pa pb (fun _ => 0) E ρ s [(s, false)] := by
  refine ⟨fun x hx => ?_, fun i _ h => (by cases h), fun i _ h => (h rfl).elim, fun i _ h => absurd h (fun z => by have : (2 : Nat) ≤ 0 := z; omega), fun U t D e => ?_, Or.inl List.mem_cons_self, ⟨fun y hy => (by cases hy), trivial⟩, fun i _ => Nat.zero_le _⟩
  · rw [List.mem_singleton] at hx
    rw [hx]; exact ⟨hs, hE, fun z => by cases z⟩
  · have m : (t, true) ∈ [(s, false)] := by rw [e]; exact List.mem_append_right _ List.mem_cons_self
    rw [List.mem_singleton] at m
    injection m with _ m
    cases m
end
section
variable {f_count f_accepted f_place f_kept f_nodes f_tt f_pos f_bad f_typing f_unbound f_clash f_top f_scope f_doneName f_doneType : Int32} {a_kind a_value a_keptKind a_keptA a_keptB a_root a_what a_partA a_partB a_mark a_twin a_walk a_pairs a_now a_todo a_types a_firm a_bound a_boundType : Nat → Int32}
variable {kd pa pb : Nat → Nat} {n K : Nat}
theorem yw_search_l {post : SY → Prop} {s : Nat} {E : Nat → Prop} {ρ : Nat → tr_T} (hn : n ≤ 2000) (W : gr_W n kd pa pb) (hρ : gr_V n kd pa pb ρ) (cE : gr_C n kd pa pb E) (hG : yg_G n a_what a_partA a_partB kd pa pb) (hL : gr_L n kd pa K)
    (h : ∀ nt mk wk, ys_I n kd pa pb nt E ρ s [] → ym_N n mk nt → post (f_count, f_accepted, f_place, f_kept, nI n, f_tt, f_pos, f_bad, f_typing, f_unbound, f_clash, f_top, f_scope, f_doneName, f_doneType, a_kind, a_value, a_keptKind, a_keptA, a_keptB, a_root, a_what, a_partA, a_partB, mk, a_twin, wk, a_pairs, a_now, a_todo, a_types, a_firm, a_bound, a_boundType)) :
    ∀ m st nt mk wk, ys_I n kd pa pb nt E ρ s st → ym_N n mk nt → st_y wk st → 3 * ct_n (fun i => decide (nt i = 0)) n + st.length ≤ m → st.length + 2 * ct_n (fun i => decide (nt i = 0)) n ≤ 2 * n + 1 → wY_search_17 post f_count f_accepted f_place f_kept (nI n) f_tt f_pos f_bad f_typing f_unbound f_clash f_top f_scope f_doneName f_doneType (m + 1) (nI st.length) a_kind a_value a_keptKind a_keptA a_keptB a_root a_what a_partA a_partB mk a_twin wk a_pairs a_now a_todo a_types a_firm a_bound a_boundType := by
  intro m
  induction m with
  | zero =>
    intro st nt mk wk I hN hst hm hl
    have e : st = [] := List.eq_nil_of_length_eq_zero (by omega)
    subst e
    exact br_t (nI_le (a := 0) (b := 0) (by omega) (by omega)) (h nt mk wk I hN)
  | succ m ih =>
    intro st nt mk wk I hN hst hm hl
    cases st with
    | nil => exact br_t (nI_le (a := 0) (b := 0) (by omega) (by omega)) (h nt mk wk I hN)
    | cons x st =>
      rw [List.length_cons] at hm hl
      have ctl := ct_le (p := fun i => decide (nt i = 0)) n
      have vl : vp_in (nI st.length) 4100 := vp_in_nI (by omega) (by decide)
      have cl : (nI st.length).toNatClampNeg = st.length := nI_clamp (by omega)
      refine br_f (nI_nle (by rw [List.length_cons]; omega) (by rw [List.length_cons]; omega)) ?_
      rw [List.length_cons]
      refine nm_r (pk_m1 st.length) ⟨vl, ?_⟩
      rw [cl, hst.1]
      refine nm_e ?_
      obtain ⟨x, e⟩ := x
      obtain ⟨xn, xE, xt⟩ := I.1 (x, e) List.mem_cons_self
      have vx : vp_in (nI x) 2000 := vp_in_nI (by omega) (by decide)
      have cx : (nI x).toNatClampNeg = x := nI_clamp (by omega)
      cases e with
      | true =>
        refine br_f (yn_lt (by omega)) ?_
        refine nm_r (yn_back (nI x)) ⟨vx, ?_⟩
        rw [cx]
        obtain ⟨xc, xd⟩ := ys_done I
        obtain ⟨xk, x1, _⟩ := xt rfl
        have fin : ∀ v, v = 2 ∨ v = 3 → (∀ a b, gr_to kd pa (pa x) a → gr_to kd pa (pb x) b → (v = 3 ↔ nt a = 3 ∨ nt b = 3)) → wY_search_17 post f_count f_accepted f_place f_kept (nI n) f_tt f_pos f_bad f_typing f_unbound f_clash f_top f_scope f_doneName f_doneType (m + 1) (nI st.length) a_kind a_value a_keptKind a_keptA a_keptB a_root a_what a_partA a_partB (upd mk x (nI v)) a_twin wk a_pairs a_now a_todo a_types a_firm a_bound a_boundType := by
          intro v hv hv'
          have ce := ct_c n (p := fun i => decide (gr_u nt x v i = 0)) (q := fun i => decide (nt i = 0)) (fun i hi => by
            by_cases q : i = x
            · rw [q, gr_us, x1]
              rcases hv with rfl | rfl <;> rfl
            · rw [gr_un q])
          exact ih st (gr_u nt x v) _ wk (ys_end W I hv hv') (ym_u (k := v) hN (by omega) (by omega)) hst.2 (by rw [ce]; omega) (by rw [ce]; omega)
        have f3 : (∀ a b, gr_to kd pa (pa x) a → gr_to kd pa (pb x) b → (nt a = 3 ∨ nt b = 3)) → wY_search_103 post (wY_search_17 post f_count f_accepted f_place f_kept (nI n) f_tt f_pos f_bad f_typing f_unbound f_clash f_top f_scope f_doneName f_doneType (m + 1)) (nI st.length) (nI x) f_count f_accepted f_place f_kept (nI n) f_tt f_pos f_bad f_typing f_unbound f_clash f_top f_scope f_doneName f_doneType a_kind a_value a_keptKind a_keptA a_keptB a_root a_what a_partA a_partB mk a_twin wk a_pairs a_now a_todo a_types a_firm a_bound a_boundType := by
          intro q
          refine br_f (by decide) ⟨vx, ?_⟩
          rw [cx]
          exact nm_e (fin 3 (Or.inr rfl) (fun a b ha hb => ⟨fun _ => q a b ha hb, fun _ => rfl⟩))
        have f2 : (∀ a b, gr_to kd pa (pa x) a → gr_to kd pa (pb x) b → ¬ (nt a = 3 ∨ nt b = 3)) → wY_search_107 post (wY_search_17 post f_count f_accepted f_place f_kept (nI n) f_tt f_pos f_bad f_typing f_unbound f_clash f_top f_scope f_doneName f_doneType (m + 1)) (nI st.length) (nI x) f_count f_accepted f_place f_kept (nI n) f_tt f_pos f_bad f_typing f_unbound f_clash f_top f_scope f_doneName f_doneType a_kind a_value a_keptKind a_keptA a_keptB a_root a_what a_partA a_partB mk a_twin wk a_pairs a_now a_todo a_types a_firm a_bound a_boundType := by
          intro q
          refine br_t rfl ⟨vx, ?_⟩
          rw [cx]
          exact nm_e (fin 2 (Or.inl rfl) (fun a b ha hb => ⟨fun z => by omega, fun z => (q a b ha hb z).elim⟩))
        have w := (W x xn).2 xc
        have t1 := gr_L_to hL w.1
        have t2 := gr_L_to hL w.2
        generalize e1 : gr_f kd pa K (pa x) = y1 at t1
        generalize e2 : gr_f kd pa K (pb x) = y2 at t2
        have n1 := gr_to_n W t1 w.1
        have n2 := gr_to_n W t2 w.2
        have v1 : vp_in (nI y1) 2000 := vp_in_nI (by omega) (by decide)
        have v2 : vp_in (nI y2) 2000 := vp_in_nI (by omega) (by decide)
        refine yw_p hG xn xk (fun c => (c xc).elim) (fun _ k4 ea eb => ?_) (fun _ k5 ea eb => ?_)
        · refine br_f (by decide) ⟨vx, ?_⟩
          rw [ea]
          refine yw_real hG hn hL w.1 t1 ⟨v1, ?_⟩
          rw [nI_clamp (by omega), (hN y1 n1).1]
          have ey : y2 = y1 := by rw [eb] at t2; exact gr_to_u t2 t1
          refine pk_p (mk_eq 3 (hN y1 n1).2 (by omega) (by omega)) (fun z => f3 (fun a b ha hb => Or.inl (by rw [gr_to_u ha t1]; exact z))) (fun z => br_t (by decide) (f2 (fun a b ha hb => by rw [gr_to_u ha t1, gr_to_u hb t2, ey]; exact fun q => z (q.elim id id))))
        · refine br_f (by decide) ⟨vx, ?_⟩
          rw [ea]
          refine yw_real hG hn hL w.1 t1 ⟨v1, ?_⟩
          rw [nI_clamp (by omega), (hN y1 n1).1]
          refine pk_p (mk_eq 3 (hN y1 n1).2 (by omega) (by omega)) (fun z => f3 (fun a b ha hb => Or.inl (by rw [gr_to_u ha t1]; exact z))) (fun z => br_f (by decide) ⟨vx, ?_⟩)
          rw [cx, eb]
          refine yw_real hG hn hL w.2 t2 ⟨v2, ?_⟩
          rw [nI_clamp (by omega), (hN y2 n2).1]
          exact pk_p (mk_eq 3 (hN y2 n2).2 (by omega) (by omega)) (fun z' => f3 (fun a b ha hb => Or.inr (by rw [gr_to_u hb t2]; exact z'))) (fun z' => f2 (fun a b ha hb => by rw [gr_to_u ha t1, gr_to_u hb t2]; exact fun q => q.elim z z'))
      | false =>
        refine br_t (nI_le (a := 0) (by omega) (by omega)) ?_
        have tx := gr_L_to hL xn
        generalize er : gr_f kd pa K x = r at tx
        have rn := gr_to_n W tx xn
        have vr : vp_in (nI r) 2000 := vp_in_nI (by omega) (by decide)
        have cr : (nI r).toNatClampNeg = r := nI_clamp (by omega)
        refine yw_real hG hn hL xn tx ⟨vr, ?_⟩
        rw [cr, (hN r rn).1]
        refine pk_p (mk_lt (hN r rn).2) (fun r0 => ⟨vr, ?_⟩) (fun z => ih st nt mk wk (ys_drop I tx ?_) hN hst.2 (by omega) (by omega))
        rotate_left
        · refine Classical.byContradiction fun q => ?_
          have r1 : nt r = 1 := by omega
          rcases List.mem_cons.mp (I.2.1 r rn r1) with y | y
          · injection y with _ y; cases y
          · have c := I.2.2.2.2.2.2.1.1 r y
            rw [gr_to_V W hρ tx xn] at c
            exact Nat.lt_irrefl _ c
        have hct : ∀ v, v ≠ 0 → ct_n (fun i => decide (gr_u nt r v i = 0)) n + 1 = ct_n (fun i => decide (nt i = 0)) n := fun v hv => ct_u (p := fun i => decide (nt i = 0)) (q := fun i => decide (gr_u nt r v i = 0)) (a := r) (by rw [r0]; rfl) (by rw [gr_us]; exact decide_eq_false hv) (fun i hi => by rw [gr_un hi]) n rn
        have c1 := hct 1 (by omega)
        have c2 := hct 2 (by omega)
        have c3 := hct 3 (by omega)
        refine yw_p hG rn tx.1 (fun c0 => ?_) (fun cc k4 ea eb => ?_) (fun cc k5 ea eb => ?_)
        · refine br_t (by decide) ⟨vr, ?_⟩
          have e8 : a_what r = 8 ↔ kd r = 8 := by
            obtain ⟨_, _, z, _⟩ := yg_r hG rn tx.1
            rw [z]
            have := yk_le (kd r)
            constructor
            · intro y
              have y := (nI_eq (b := 8) (by omega) (by omega)).mp y
              by_cases c : kd r < 9
              · rw [yk_l c] at y; exact y
              · rw [yk_9 (by omega)] at y; omega
            · intro y; rw [y]; rfl
          refine pk_p e8 (fun k8 => ⟨vr, ?_⟩) (fun k8 => ⟨vr, ?_⟩)
          · rw [cr]
            refine nm_e (br_t (by decide) (br_t (by decide) (br_t (by decide) ?_)))
            exact ih st _ _ wk (ys_leaf (v := 3) W cE I tx r0 c0 (Or.inr rfl) ⟨fun _ => k8, fun _ => rfl⟩) (ym_u (k := 3) hN (by omega) (by omega)) hst.2 (by omega) (by omega)
          · rw [cr]
            refine nm_e (br_t (by decide) (br_t (by decide) (br_t (by decide) ?_)))
            exact ih st _ _ wk (ys_leaf (v := 2) W cE I tx r0 c0 (Or.inl rfl) ⟨fun z => by omega, fun z => (k8 z).elim⟩) (ym_u (k := 2) hN (by omega) (by omega)) hst.2 (by omega) (by omega)
        · have pn := ((W r rn).2 cc).1
          have N2 : ym_N n (upd mk r (nI 1)) (gr_u nt r 1) := ym_u (k := 1) hN (by omega) (by omega)
          refine br_f (by decide) ⟨vr, ?_⟩
          rw [cr]
          refine nm_e (br_f (by decide) (nm_r (nI_1 _) ⟨vl, ?_⟩))
          rw [ys_mm (by omega), cl]
          have hs1 : st_y (upd wk st.length (-1 - nI r)) ((r, true) :: st) := st_yp (x := (r, true)) hst.2
          refine nm_e (br_f (by decide) (nm_r (nI_1 _) ⟨vr, vp_in_nI (by omega) (by decide), ?_⟩))
          rw [cr, ea, ys_v (by omega), nI_clamp (by omega)]
          refine nm_e (br_t (by decide) ?_)
          exact ih ((pa r, false) :: (r, true) :: st) _ _ _ (ys_open (ps := [(pa r, false)]) W hρ cE I tx r0 cc (fun y hy => by rw [List.mem_singleton] at hy; rw [hy]; exact ⟨rfl, Or.inl rfl⟩) ⟨List.mem_cons_self, by rw [eb]; exact List.mem_cons_self⟩) N2 (st_yp (x := (pa r, false)) hs1) (by rw [List.length_cons, List.length_cons]; omega) (by rw [List.length_cons, List.length_cons]; omega)
        · have pn := ((W r rn).2 cc).1
          have qn := ((W r rn).2 cc).2
          have N2 : ym_N n (upd mk r (nI 1)) (gr_u nt r 1) := ym_u (k := 1) hN (by omega) (by omega)
          refine br_f (by decide) ⟨vr, ?_⟩
          rw [cr]
          refine nm_e (br_f (by decide) (nm_r (nI_1 _) ⟨vl, ?_⟩))
          rw [ys_mm (by omega), cl]
          have hs1 : st_y (upd wk st.length (-1 - nI r)) ((r, true) :: st) := st_yp (x := (r, true)) hst.2
          refine nm_e (br_f (by decide) (nm_r (nI_1 _) ⟨vr, vp_in_nI (by omega) (by decide), ?_⟩))
          rw [cr, ea, ys_v (by omega), nI_clamp (by omega)]
          refine nm_e (br_f (by decide) (nm_r (nI_1 _) ⟨vr, vp_in_nI (by omega) (by decide), ?_⟩))
          rw [cr, eb, ys_v (by omega), nI_clamp (by omega)]
          refine nm_e ?_
          exact ih ((pb r, false) :: (pa r, false) :: (r, true) :: st) _ _ _ (ys_open (ps := [(pb r, false), (pa r, false)]) W hρ cE I tx r0 cc (fun y hy => by
            rcases List.mem_cons.mp hy with z | z
            · rw [z]; exact ⟨rfl, Or.inr rfl⟩
            · rw [List.mem_singleton] at z; rw [z]; exact ⟨rfl, Or.inl rfl⟩) ⟨List.mem_cons_of_mem _ List.mem_cons_self, List.mem_cons_self⟩) N2 (st_yp (x := (pb r, false)) (L := (pa r, false) :: (r, true) :: st) (st_yp (x := (pa r, false)) hs1)) (by rw [List.length_cons, List.length_cons, List.length_cons]; omega) (by rw [List.length_cons, List.length_cons, List.length_cons]; omega)
/-- nt: 2 holds no general variable, 3 holds one -/
def yz_I (n : Nat) (kd pa pb nt : Nat → Nat) (E : Nat → Prop) (t : Nat) : Prop :=
  ys_M n kd pa pb nt ∧ (∀ i, i < n → nt i ≠ 0 → 2 ≤ nt i ∧ nt i ≤ 3 ∧ E i ∧ kd i ≠ 1000) ∧ ∀ r, gr_to kd pa t r → 2 ≤ nt r
theorem yw_search {post : SY → Prop} {s : Nat} {E : Nat → Prop} (hn : n ≤ 2000) (W : gr_W n kd pa pb) (A : gr_A n kd pa pb) (cE : gr_C n kd pa pb E) (hs : E s) (hG : yg_G n a_what a_partA a_partB kd pa pb) (hL : gr_L n kd pa K)
    (h : ∀ nt mk wk, yz_I n kd pa pb nt E s → ym_N n mk nt → post (f_count, f_accepted, f_place, f_kept, nI n, f_tt, f_pos, f_bad, f_typing, f_unbound, f_clash, f_top, f_scope, f_doneName, f_doneType, a_kind, a_value, a_keptKind, a_keptA, a_keptB, a_root, a_what, a_partA, a_partB, mk, a_twin, wk, a_pairs, a_now, a_todo, a_types, a_firm, a_bound, a_boundType)) : wpY_search post (f_count, f_accepted, f_place, f_kept, nI n, f_tt, f_pos, f_bad, f_typing, f_unbound, f_clash, f_top, f_scope, f_doneName, f_doneType, a_kind, a_value, a_keptKind, a_keptA, a_keptB, a_root, a_what, a_partA, a_partB, a_mark, a_twin, a_walk, a_pairs, a_now, a_todo, a_types, a_firm, a_bound, a_boundType) (nI s) := by
  obtain ⟨ρ, hρ, _⟩ := gr_ex A (fun _ => tr_at 0)
  have sn := (cE s hs).1
  have ctl := ct_le (p := fun _ => decide (0 = 0)) n
  refine yw_unmark hn (fun mk hz => ?_)
  refine nm_e ?_
  rw [ys_nn (by omega)]
  refine nm_e ⟨3 * n + 2, ?_⟩
  refine yw_search_l (s := s) hn W hρ cE hG hL (fun nt mk wk I hN => h nt mk wk ⟨I.2.2.2.1, fun i hi h0 => ?_, fun r hr => ?_⟩ hN) (3 * n + 1) [(s, false)] (fun _ => 0) mk _ (ys_0 sn hs) (fun i hi => ⟨hz i hi, Nat.zero_le _⟩) (st_yp (x := (s, false)) (L := []) trivial) (by rw [List.length_singleton]; omega) (by rw [List.length_singleton]; omega)
  · have := I.2.1 i hi
    have n1 : nt i ≠ 1 := fun z => by cases this z
    have e := I.2.2.1 i hi h0
    exact ⟨by omega, I.2.2.2.2.2.2.2 i hi, e.1, e.2⟩
  · rcases I.2.2.2.2.2.1 with z | z
    · cases z
    · rcases z r hr with z | z
      · exact z
      · cases z
end
end
section
/-! the reference's instance -/
def yi_cp (nt tw : Nat → Nat) (x : Nat) : Nat := if nt x = 2 then x else tw x - 1
/-- v is the copy of what p stands for -/
def yi_c (kd pa nt tw : Nat → Nat) (p : Nat) (v : Int32) : Prop := ∃ x, gr_to kd pa p x ∧ (nt x = 2 ∨ tw x ≠ 0) ∧ v = nI (yi_cp nt tw x)
def yi_R (kd pa pb nt tw pend : Nat → Nat) (r m : Nat) (wh pA pB : Nat → Int32) : Prop :=
  wh m = nI (kd r) ∧ (pend m = 1 → pA m = nI (pa r)) ∧ (pend m ≠ 1 → yi_c kd pa nt tw (pa r) (pA m)) ∧ (5 ≤ kd r → (pend m ≠ 0 → pB m = nI (pb r)) ∧ (pend m = 0 → yi_c kd pa nt tw (pb r) (pB m)))
def yi_S (n bd : Nat) (kd pa pb nt : Nat → Nat) (r0 n' : Nat) (tw pend : Nat → Nat) (wh pA pB twin : Nat → Int32) : Prop :=
  yg_G n wh pA pB kd pa pb ∧ (∀ i, i < n → twin i = mk_v' (tw i)) ∧ n ≤ n' ∧
  (∀ r, r < n → tw r ≠ 0 → nt r = 3 ∧ n < tw r ∧ tw r ≤ n') ∧ (∀ r r', r < n → r' < n → tw r ≠ 0 → tw r = tw r' → r = r') ∧ (∀ m, n ≤ m → m < n' → ∃ r, r < n ∧ tw r = m + 1) ∧
  (∀ r, r < n → tw r ≠ 0 → (kd r = 8 → wh (tw r - 1) = 7 ∧ pA (tw r - 1) = -1) ∧ (gr_cn (kd r) → yi_R kd pa pb nt tw pend r (tw r - 1) wh pA pB)) ∧ r0 = r0 ∧
  n' + ct_n (fun i => decide (nt i = 3) && decide (tw i = 0)) n ≤ bd
section
variable {n bd n' r0 : Nat} {kd pa pb nt tw pend : Nat → Nat} {wh pA pB twin : Nat → Int32}
theorem yg_ge {m : Nat} {x y z : Int32} (hG : yg_G n wh pA pB kd pa pb) (hm : n ≤ m) : yg_G n (upd wh m x) (upd pA m y) (upd pB m z) kd pa pb := by
  intro i hi
  rw [pk_un (by omega), pk_un (by omega), pk_un (by omega)]; exact hG i hi
theorem yg_geA {m : Nat} {y : Int32} (hG : yg_G n wh pA pB kd pa pb) (hm : n ≤ m) : yg_G n wh (upd pA m y) pB kd pa pb := by
  intro i hi
  rw [pk_un (by omega)]; exact hG i hi
theorem yg_geB {m : Nat} {y : Int32} (hG : yg_G n wh pA pB kd pa pb) (hm : n ≤ m) : yg_G n wh pA (upd pB m y) kd pa pb := by
  intro i hi
  rw [pk_un (by omega)]; exact hG i hi
theorem yi_c_u {x v p : Nat} {w : Int32} (h0 : tw x = 0) (hx : nt x = 3) (h : yi_c kd pa nt tw p w) : yi_c kd pa nt (gr_u tw x v) p w := by
  obtain ⟨y, h1, h2, h3⟩ := h
  refine ⟨y, h1, ?_, ?_⟩
  · rcases h2 with z | z
    · exact Or.inl z
    · refine Or.inr ?_
      rw [gr_un (fun e => z (by rw [e]; exact h0))]; exact z
  · rw [h3]
    unfold yi_cp
    by_cases e : nt y = 2
    · rw [if_pos e, if_pos e]
    · rw [if_neg e, if_neg e]
      rcases h2 with z | z
      · exact (e z).elim
      · rw [gr_un (fun e => z (by rw [e]; exact h0))]
/-- a new copy, of x -/
theorem yi_new {x : Nat} {a b c : Int32} (S : yi_S n bd kd pa pb nt r0 n' tw pend wh pA pB twin) (xn : x < n) (x3 : nt x = 3) (x0 : tw x = 0) (hl : n' < 2 ^ 15) (h8 : kd x = 8 → a = 7 ∧ b = -1) (hc : gr_cn (kd x) → a = nI (kd x) ∧ b = nI (pa x) ∧ (5 ≤ kd x → c = nI (pb x))) (t : Int32) (ht : t = nI n') : yi_S n bd kd pa pb nt r0 (n' + 1) (gr_u tw x (n' + 1)) (gr_u pend n' 1) (upd wh n' a) (upd pA n' b) (upd pB n' c) (upd twin x t) := by
  obtain ⟨s1, s2, s3, s4, s5, s6, s7, s8, s9⟩ := S
  have hct := ct_u (p := fun i => decide (nt i = 3) && decide (tw i = 0)) (q := fun i => decide (nt i = 3) && decide (gr_u tw x (n' + 1) i = 0)) (a := x) (by rw [x3, x0]; rfl) (by rw [gr_us]; simp) (fun i hi => by rw [gr_un hi]) n xn
  refine ⟨yg_ge s1 s3, fun i hi => ?_, by omega, fun r hr h => ?_, fun r r' hr hr' h e => ?_, fun m h1 h2 => ?_, fun r hr h => ?_, rfl, by omega⟩
  · by_cases e : i = x
    · subst e
      rw [pk_us, gr_us, ht]
      unfold mk_v'
      rw [if_neg (by omega)]; rfl
    · rw [pk_un e, gr_un e]; exact s2 i hi
  · by_cases e : r = x
    · subst e
      rw [gr_us]; exact ⟨x3, by omega, by omega⟩
    · rw [gr_un e] at h ⊢
      have := s4 r hr h
      exact ⟨this.1, this.2.1, by omega⟩
  · by_cases e1 : r = x
    · by_cases e2 : r' = x
      · rw [e1, e2]
      · rw [e1, gr_us, gr_un e2] at e
        have := s4 r' hr' (by omega)
        omega
    · by_cases e2 : r' = x
      · rw [e2, gr_us, gr_un e1] at e
        have := s4 r hr (by omega)
        omega
      · rw [gr_un e1] at h
        rw [gr_un e1, gr_un e2] at e
        exact s5 r r' hr hr' h e
  · by_cases e : m = n'
    · exact ⟨x, xn, by rw [gr_us, e]⟩
    · obtain ⟨r, hr, h⟩ := s6 m h1 (by omega)
      refine ⟨r, hr, ?_⟩
      rw [gr_un (fun q => by rw [q] at h; omega)]; exact h
  · by_cases e : r = x
    · subst e
      rw [gr_us, Nat.add_sub_cancel, pk_us, pk_us]
      refine ⟨h8, fun c1 => ?_⟩
      obtain ⟨q1, q2, q3⟩ := hc c1
      refine ⟨by rw [pk_us]; exact q1, fun _ => by rw [pk_us]; exact q2, fun z => ?_, fun c5 => ⟨fun _ => by rw [pk_us]; exact q3 c5, fun z => ?_⟩⟩
      · rw [gr_us] at z; exact (z rfl).elim
      · rw [gr_us] at z; omega
    · rw [gr_un e] at h ⊢
      have b := s4 r hr h
      have m : tw r - 1 ≠ n' := by omega
      rw [pk_un m, pk_un m]
      refine ⟨(s7 r hr h).1, fun c1 => ?_⟩
      obtain ⟨q1, q2, q3, q4⟩ := (s7 r hr h).2 c1
      refine ⟨by rw [pk_un m]; exact q1, fun z => ?_, fun z => ?_, fun c5 => ⟨fun z => ?_, fun z => ?_⟩⟩
      · rw [gr_un m] at z; rw [pk_un m]; exact q2 z
      · rw [gr_un m] at z; rw [pk_un m]; exact yi_c_u x0 x3 (q3 z)
      · rw [gr_un m] at z; rw [pk_un m]; exact (q4 c5).1 z
      · rw [gr_un m] at z; rw [pk_un m]; exact yi_c_u x0 x3 ((q4 c5).2 z)
/-- the first part of a copy is set -/
theorem yi_a {c : Nat} {v : Int32} (S : yi_S n bd kd pa pb nt r0 n' tw pend wh pA pB twin) (hc : n ≤ c) (h1 : pend c = 1) (hv : ∀ r, r < n → tw r = c + 1 → gr_cn (kd r) ∧ yi_c kd pa nt tw (pa r) v) : yi_S n bd kd pa pb nt r0 n' tw (gr_u pend c 2) wh (upd pA c v) pB twin := by
  obtain ⟨s1, s2, s3, s4, s5, s6, s7, s8, s9⟩ := S
  refine ⟨yg_geA s1 hc, s2, s3, s4, s5, s6, fun r hr h => ?_, s8, s9⟩
  have b := s4 r hr h
  by_cases e : tw r - 1 = c
  · obtain ⟨k1, k2⟩ := hv r hr (by omega)
    refine ⟨fun z => absurd k1 (by omega), fun c1 => ?_⟩
    obtain ⟨q1, q2, q3, q4⟩ := (s7 r hr h).2 c1
    rw [e] at q1 q2 q3 q4 ⊢
    refine ⟨q1, fun z => ?_, fun z => by rw [pk_us]; exact k2, fun c5 => ⟨fun _ => (q4 c5).1 (by omega), fun z => ?_⟩⟩
    · rw [gr_us] at z; omega
    · rw [gr_us] at z; omega
  · refine ⟨fun z => ⟨((s7 r hr h).1 z).1, by rw [pk_un e]; exact ((s7 r hr h).1 z).2⟩, fun c1 => ?_⟩
    obtain ⟨q1, q2, q3, q4⟩ := (s7 r hr h).2 c1
    refine ⟨q1, fun z => ?_, fun z => ?_, fun c5 => ⟨fun z => ?_, fun z => ?_⟩⟩
    · rw [gr_un e] at z; rw [pk_un e]; exact q2 z
    · rw [gr_un e] at z; rw [pk_un e]; exact q3 z
    · rw [gr_un e] at z; exact (q4 c5).1 z
    · rw [gr_un e] at z; exact (q4 c5).2 z
/-- a copy is done: the second part is set, or there is none -/
theorem yi_b {c : Nat} {w : Nat → Int32} (S : yi_S n bd kd pa pb nt r0 n' tw pend wh pA pB twin) (hc : n ≤ c) (h2 : pend c = 2) (hw : ∀ i, i ≠ c → w i = pB i) (hv : ∀ r, r < n → tw r = c + 1 → 5 ≤ kd r → kd r ≤ 6 → yi_c kd pa nt tw (pb r) (w c)) : yi_S n bd kd pa pb nt r0 n' tw (gr_u pend c 0) wh pA w twin := by
  obtain ⟨s1, s2, s3, s4, s5, s6, s7, s8, s9⟩ := S
  refine ⟨fun i hi => by rw [hw i (by omega)]; exact s1 i hi, s2, s3, s4, s5, s6, fun r hr h => ?_, s8, s9⟩
  have b := s4 r hr h
  refine ⟨(s7 r hr h).1, fun c1 => ?_⟩
  obtain ⟨q1, q2, q3, q4⟩ := (s7 r hr h).2 c1
  by_cases e : tw r - 1 = c
  · rw [e] at q1 q2 q3 q4 ⊢
    refine ⟨q1, fun z => ?_, fun _ => q3 (by omega), fun c5 => ⟨fun z => ?_, fun _ => hv r hr (by omega) c5 c1.2⟩⟩
    · rw [gr_us] at z; omega
    · rw [gr_us] at z; exact (z rfl).elim
  · refine ⟨q1, fun z => ?_, fun z => ?_, fun c5 => ⟨fun z => ?_, fun z => ?_⟩⟩
    · rw [gr_un e] at z; exact q2 z
    · rw [gr_un e] at z; exact q3 z
    · rw [gr_un e] at z; rw [hw _ e]; exact (q4 c5).1 z
    · rw [gr_un e] at z; rw [hw _ e]; exact (q4 c5).2 z
/-- a copy without parts is done -/
theorem yi_v {c : Nat} (S : yi_S n bd kd pa pb nt r0 n' tw pend wh pA pB twin) (hv : ∀ r, r < n → tw r = c + 1 → ¬ gr_cn (kd r)) : yi_S n bd kd pa pb nt r0 n' tw (gr_u pend c 0) wh pA pB twin := by
  obtain ⟨s1, s2, s3, s4, s5, s6, s7, s8, s9⟩ := S
  refine ⟨s1, s2, s3, s4, s5, s6, fun r hr h => ?_, s8, s9⟩
  have b := s4 r hr h
  refine ⟨(s7 r hr h).1, fun c1 => ?_⟩
  have e : tw r - 1 ≠ c := fun e => hv r hr (by omega) c1
  obtain ⟨q1, q2, q3, q4⟩ := (s7 r hr h).2 c1
  refine ⟨q1, fun z => ?_, fun z => ?_, fun c5 => ⟨fun z => ?_, fun z => ?_⟩⟩
  · rw [gr_un e] at z; exact q2 z
  · rw [gr_un e] at z; exact q3 z
  · rw [gr_un e] at z; exact (q4 c5).1 z
  · rw [gr_un e] at z; exact (q4 c5).2 z
/-- the copy as a graph -/
theorem yi_end {E : Nat → Prop} {t K : Nat} (W : gr_W n kd pa pb) (hL : gr_L n kd pa K) (hn : n' ≤ 2000) (Z : yz_I n kd pa pb nt E t) (S : yi_S n bd kd pa pb nt r0 n' tw pend wh pA pB twin) (hp : ∀ m, n ≤ m → m < n' → pend m = 0) : ∃ kd' pa' pb', ic_I n n' kd pa pb kd' pa' pb' (fun i => i < n ∧ (nt i = 2 ∨ tw i ≠ 0)) (yi_cp nt tw) ∧ yg_G n' wh pA pB kd' pa' pb' ∧ ∀ m, n ≤ m → m < n' → kd' m ≠ 1000 := by
  obtain ⟨s1, s2, s3, s4, s5, s6, s7, s8, s9⟩ := S
  obtain ⟨z1, z2, z3⟩ := Z
  obtain ⟨org, ho⟩ : ∃ org : Nat → Nat, ∀ m, n ≤ m → m < n' → org m < n ∧ tw (org m) = m + 1 := by
    have key : ∀ m, ∃ r, n ≤ m → m < n' → r < n ∧ tw r = m + 1 := fun m => by
      by_cases h : n ≤ m ∧ m < n'
      · obtain ⟨r, hr⟩ := s6 m h.1 h.2
        exact ⟨r, fun _ _ => hr⟩
      · exact ⟨0, fun a b => (h ⟨a, b⟩).elim⟩
    obtain ⟨f, hf⟩ := Classical.axiomOfChoice key
    exact ⟨f, hf⟩
  -- what a copy is
  have nt23 : ∀ r, r < n → tw r ≠ 0 → kd r = 8 ∨ gr_cn (kd r) := fun r hr h => by
    have b := s4 r hr h
    by_cases c : gr_cn (kd r)
    · exact Or.inr c
    · exact Or.inl (((z1 r hr (by omega)).1 c).mp b.1)
  have cpn : ∀ x, x < n → (nt x = 2 ∨ tw x ≠ 0) → yi_cp nt tw x < n' := fun x hx h => by
    unfold yi_cp
    by_cases e : nt x = 2
    · rw [if_pos e]; omega
    · rw [if_neg e]
      have := s4 x hx (h.resolve_left e)
      omega
  have cp2 : ∀ x, nt x = 2 → yi_cp nt tw x = x := fun x h => if_pos h
  have cp3 : ∀ x, x < n → tw x ≠ 0 → yi_cp nt tw x = tw x - 1 := fun x hx h => if_neg (by have := s4 x hx h; omega)
  -- parts of a copy
  have prt : ∀ m, n ≤ m → m < n' → gr_cn (kd (org m)) → wh m = nI (kd (org m)) ∧ yi_c kd pa nt tw (pa (org m)) (pA m) ∧ (5 ≤ kd (org m) → yi_c kd pa nt tw (pb (org m)) (pB m)) := fun m h1 h2 c => by
    obtain ⟨o1, o2⟩ := ho m h1 h2
    obtain ⟨q1, q2, q3, q4⟩ := (s7 _ o1 (by omega)).2 c
    rw [o2, Nat.add_sub_cancel] at q1 q2 q3 q4
    have p0 := hp m h1 h2
    exact ⟨q1, q3 (by omega), fun c5 => (q4 c5).2 p0⟩
  have vn : ∀ m, n ≤ m → m < n' → ∀ p (v : Int32), p < n → yi_c kd pa nt tw p v → v.toNatClampNeg < n' ∧ v = nI v.toNatClampNeg := fun m h1 h2 p v hpn ⟨x, tx, hx, e⟩ => by
    have := cpn x (gr_to_n W tx hpn) hx
    rw [e, nI_clamp (by omega)]
    exact ⟨this, rfl⟩
  generalize hkd : (fun m => if m < n then kd m else if kd (org m) = 8 then 7 else kd (org m)) = kd'
  generalize hpa : (fun m => if m < n then pa m else (pA m).toNatClampNeg) = pa'
  generalize hpb : (fun m => if m < n then pb m else if kd (org m) ≤ 4 then (pA m).toNatClampNeg else (pB m).toNatClampNeg) = pb'
  have ekd : ∀ m, kd' m = if m < n then kd m else if kd (org m) = 8 then 7 else kd (org m) := fun m => by rw [← hkd]
  have epa : ∀ m, pa' m = if m < n then pa m else (pA m).toNatClampNeg := fun m => by rw [← hpa]
  have epb : ∀ m, pb' m = if m < n then pb m else if kd (org m) ≤ 4 then (pA m).toNatClampNeg else (pB m).toNatClampNeg := fun m => by rw [← hpb]
  have okd : ∀ m, n ≤ m → m < n' → (kd (org m) = 8 ∧ kd' m = 7) ∨ (gr_cn (kd (org m)) ∧ kd' m = kd (org m)) := fun m h1 h2 => by
    obtain ⟨o1, o2⟩ := ho m h1 h2
    rw [ekd, if_neg (by omega)]
    rcases nt23 _ o1 (by omega) with z | z
    · exact Or.inl ⟨z, if_pos z⟩
    · exact Or.inr ⟨z, if_neg (by omega)⟩
  refine ⟨kd', pa', pb', ⟨s3, fun i hi => by rw [ekd, epa, epb, if_pos hi, if_pos hi, if_pos hi]; exact ⟨rfl, rfl, rfl⟩, fun r hr => ?_, fun r r' hr hr' h e => ?_, fun m h1 h2 => ?_⟩, fun m hm => ?_, fun m h1 h2 => ?_⟩
  · obtain ⟨rn, hr⟩ := hr
    have r2 : 2 ≤ nt r := by
      rcases hr with z | z
      · omega
      · have := s4 r rn z; omega
    have zr := z2 r rn (by omega)
    refine ⟨rn, zr.2.2.2, fun k8 => ?_, fun c => ?_, fun k8 c => ?_⟩
    · have n3 : nt r = 3 := ((z1 r rn r2).1 (by omega)).mpr k8
      have t0 : tw r ≠ 0 := hr.resolve_left (by omega)
      have b := s4 r rn t0
      rw [cp3 r rn t0]
      obtain ⟨o1, o2⟩ := ho (tw r - 1) (by omega) (by omega)
      have e : org (tw r - 1) = r := s5 _ _ o1 rn (by omega) (by omega)
      refine ⟨by omega, by omega, ?_⟩
      rw [ekd, if_neg (by omega), e, if_pos k8]
    · have w := (W r rn).2 c
      have t1 := gr_L_to hL w.1
      have t2 := gr_L_to hL w.2
      generalize e1 : gr_f kd pa K (pa r) = x at t1
      generalize e2 : gr_f kd pa K (pb r) = y at t2
      obtain ⟨m1, m2, m3⟩ := (z1 r rn r2).2 c x y t1 t2
      have xn := gr_to_n W t1 w.1
      have yn := gr_to_n W t2 w.2
      have x23 := z2 x xn (by omega)
      have y23 := z2 y yn (by omega)
      by_cases n3 : nt r = 3
      · have t0 : tw r ≠ 0 := hr.resolve_left (by omega)
        have b := s4 r rn t0
        obtain ⟨o1, o2⟩ := ho (tw r - 1) (by omega) (by omega)
        have e : org (tw r - 1) = r := s5 _ _ o1 rn (by omega) (by omega)
        obtain ⟨p1, ⟨x', tx', kx, ex⟩, p3⟩ := prt (tw r - 1) (by omega) (by omega) (by rw [e]; exact c)
        rw [e] at tx' p3
        have exx := gr_to_u tx' t1
        subst exx
        have lx := cpn x' xn kx
        have k4 : nI (yi_cp nt tw x') = pA (tw r - 1) := ex.symm
        by_cases l4 : kd r ≤ 4
        · have eb : pb r = pa r := by
            obtain ⟨_, _, _, _, g5, _⟩ := yg_r s1 rn zr.2.2.2
            exact (g5 c).2.2 l4
          rw [eb] at t2
          have eyy := gr_to_u t2 t1
          subst eyy
          refine ⟨y, y, t1, by rw [eb]; exact t2, ⟨xn, kx⟩, ⟨xn, kx⟩, Or.inr ?_⟩
          rw [cp3 r rn t0]
          refine ⟨by omega, by omega, by rw [ekd, if_neg (by omega), e, if_neg (by omega)], by rw [epa, if_neg (by omega), ex, nI_clamp (by omega)], by rw [epb, if_neg (by omega), e, if_pos l4, ex, nI_clamp (by omega)]⟩
        · obtain ⟨y', ty', ky, ey⟩ := p3 (by omega)
          have eyy := gr_to_u ty' t2
          subst eyy
          have ly := cpn y' yn ky
          refine ⟨x', y', t1, t2, ⟨xn, kx⟩, ⟨yn, ky⟩, Or.inr ?_⟩
          rw [cp3 r rn t0]
          refine ⟨by omega, by omega, by rw [ekd, if_neg (by omega), e, if_neg (by omega)], by rw [epa, if_neg (by omega), ex, nI_clamp (by omega)], by rw [epb, if_neg (by omega), e, if_neg l4, ey, nI_clamp (by omega)]⟩
      · have n2 : nt r = 2 := by omega
        have x2 : nt x = 2 := by
          have : ¬ nt x = 3 := fun z => n3 (m3.mpr (Or.inl z))
          omega
        have y2 : nt y = 2 := by
          have : ¬ nt y = 3 := fun z => n3 (m3.mpr (Or.inr z))
          omega
        exact ⟨x, y, t1, t2, ⟨xn, Or.inl x2⟩, ⟨yn, Or.inl y2⟩, Or.inl ⟨cp2 r n2, cp2 x x2, cp2 y y2⟩⟩
    · refine cp2 r ?_
      have : ¬ nt r = 3 := fun z => k8 (((z1 r rn r2).1 c).mp z)
      omega
  · obtain ⟨rn, hr⟩ := hr
    obtain ⟨rn', hr'⟩ := hr'
    have t0 : tw r ≠ 0 := by
      refine hr.resolve_left (fun z => ?_)
      rw [cp2 r z] at h; omega
    have b := s4 r rn t0
    rw [cp3 r rn t0] at h e
    have t0' : tw r' ≠ 0 := by
      refine hr'.resolve_left (fun z => ?_)
      rw [cp2 r' z] at e; omega
    have b' := s4 r' rn' t0'
    rw [cp3 r' rn' t0'] at e
    exact s5 r r' rn rn' t0 (by omega)
  · obtain ⟨r, rn, h⟩ := s6 m h1 h2
    exact ⟨r, ⟨rn, Or.inr (by omega)⟩, by rw [cp3 r rn (by omega)]; omega⟩
  · by_cases l : m < n
    · rw [ekd, epa, epb, if_pos l, if_pos l, if_pos l]
      rcases s1 m l with z | z
      · exact Or.inl ⟨z.1, by omega, z.2.2⟩
      · exact Or.inr z
    · obtain ⟨o1, o2⟩ := ho m (by omega) hm
      rcases okd m (by omega) hm with ⟨z1, z2⟩ | ⟨z1, z2⟩
      · have q := (s7 _ o1 (by omega)).1 z1
        rw [o2, Nat.add_sub_cancel] at q
        rw [z2]
        exact Or.inr ⟨by omega, by omega, q.1, fun _ => q.2, fun z => absurd z (by omega), fun z => absurd z (by omega)⟩
      · obtain ⟨p1, p2, p3⟩ := prt m (by omega) hm z1
        have w := (W _ o1).2 z1
        have va := vn m (by omega) hm _ _ w.1 p2
        rw [z2, epa, epb, if_neg l, if_neg l]
        refine Or.inr ⟨by omega, by omega, by rw [p1, yk_l (by omega)], fun z => absurd z (by omega), fun _ => ⟨va.2, fun c5 => ?_, fun c4 => if_pos c4⟩, fun z => absurd z (by omega)⟩
        rw [if_neg (by omega)]
        exact (vn m (by omega) hm _ _ w.2 (p3 c5)).2
  · rcases okd m h1 h2 with ⟨_, z⟩ | ⟨z, z'⟩
    · omega
    · omega
end
end
section
section
variable {f_count f_accepted f_place f_kept f_nodes f_tt f_pos f_bad f_typing f_unbound f_clash f_top f_scope f_doneName f_doneType : Int32} {a_kind a_value a_keptKind a_keptA a_keptB a_root a_what a_partA a_partB a_mark a_twin a_walk a_pairs a_now a_todo a_types a_firm a_bound a_boundType : Nat → Int32}
variable {kd pa pb nt : Nat → Nat} {n K bd r0 : Nat} {E : Nat → Prop}
theorem yw_copied {post : Int32 → SY → Prop} {n' p x : Nat} {tw pend : Nat → Nat} (hL : gr_L n kd pa K) (W : gr_W n kd pa pb) (hbd : bd ≤ 2000) (hM : ys_M n kd pa pb nt) (hN : ym_N n a_mark nt) (S : yi_S n bd kd pa pb nt r0 n' tw pend a_what a_partA a_partB a_twin) (pn : p < n) (tx : gr_to kd pa p x) (x2 : 2 ≤ nt x)
    (h2 : (nt x = 2 ∨ tw x ≠ 0) → post (nI (yi_cp nt tw x)) (f_count, f_accepted, f_place, f_kept, nI n', f_tt, f_pos, f_bad, f_typing, f_unbound, f_clash, f_top, f_scope, f_doneName, f_doneType, a_kind, a_value, a_keptKind, a_keptA, a_keptB, a_root, a_what, a_partA, a_partB, a_mark, a_twin, a_walk, a_pairs, a_now, a_todo, a_types, a_firm, a_bound, a_boundType))
    (h3 : tw x = 0 → nt x = 3 → ∀ wh pA pB twin, yi_S n bd kd pa pb nt r0 (n' + 1) (gr_u tw x (n' + 1)) (gr_u pend n' 1) wh pA pB twin → post (nI n') (f_count, f_accepted, f_place, f_kept, nI (n' + 1), f_tt, f_pos, f_bad, f_typing, f_unbound, f_clash, f_top, f_scope, f_doneName, f_doneType, a_kind, a_value, a_keptKind, a_keptA, a_keptB, a_root, wh, pA, pB, a_mark, twin, a_walk, a_pairs, a_now, a_todo, a_types, a_firm, a_bound, a_boundType)) : wpY_copied post (f_count, f_accepted, f_place, f_kept, nI n', f_tt, f_pos, f_bad, f_typing, f_unbound, f_clash, f_top, f_scope, f_doneName, f_doneType, a_kind, a_value, a_keptKind, a_keptA, a_keptB, a_root, a_what, a_partA, a_partB, a_mark, a_twin, a_walk, a_pairs, a_now, a_todo, a_types, a_firm, a_bound, a_boundType) (nI p) := by
  obtain ⟨s1, s2, s3, s4, s5, s6, s7, s8, s9⟩ := id S
  have ctl := ct_le (p := fun i => decide (nt i = 3) && decide (tw i = 0)) n
  have xn := gr_to_n W tx pn
  have vx : vp_in (nI x) 2000 := vp_in_nI (by omega) (by decide)
  have cx : (nI x).toNatClampNeg = x := nI_clamp (by omega)
  refine yw_real s1 (by omega) hL pn tx ⟨vx, ?_⟩
  rw [cx, (hN x xn).1]
  have n3 := (hN x xn).2
  refine pk_p (mk_eq 2 n3 (by omega) (by omega)) (fun z => ?_) (fun z => ⟨vx, ?_⟩)
  · have := h2 (Or.inl z)
    unfold yi_cp at this
    rw [if_pos z] at this
    exact this
  · have x3 : nt x = 3 := by omega
    rw [s2 x xn]
    unfold mk_v'
    by_cases t0 : tw x = 0
    · rw [if_pos t0]
      have hct := ct_u (p := fun i => decide (nt i = 3) && decide (tw i = 0)) (q := fun i => decide (nt i = 3) && decide (gr_u tw x (n' + 1) i = 0)) (a := x) (by rw [x3, t0]; rfl) (by rw [gr_us]; simp) (fun i hi => by rw [gr_un hi]) n xn
      have lt : n' < 2000 := by omega
      have kx := tx.1
      obtain ⟨g1, g2, g3, g4, g5, g6⟩ := yg_r s1 xn kx
      have k8c : kd x = 8 ∨ gr_cn (kd x) := by
        by_cases c : gr_cn (kd x)
        · exact Or.inr c
        · exact Or.inl (((hM x xn x2).1 c).mp x3)
      refine br_f (by decide) ⟨vx, ?_⟩
      have e8 : a_what x = 8 ↔ kd x = 8 := by
        rw [g3]
        have := yk_le (kd x)
        constructor
        · intro y
          have y := (nI_eq (b := 8) (by omega) (by omega)).mp y
          by_cases c : kd x < 9
          · rw [yk_l c] at y; exact y
          · rw [yk_9 (by omega)] at y; omega
        · intro y; rw [y]; rfl
      refine pk_p e8 (fun k8 => ?_) (fun k8 => ⟨vx, vx, vx, ?_⟩)
      · refine yw_fresh lt ⟨vx, ?_⟩
        rw [ys_nn (by omega)]
        refine nm_e ⟨vx, ?_⟩
        rw [pk_us]
        exact h3 t0 x3 _ _ _ _ (yi_new S xn x3 t0 (by omega) (fun _ => ⟨rfl, rfl⟩) (fun c => absurd c (by omega)) _ rfl)
      · have c : gr_cn (kd x) := k8c.resolve_left k8
        obtain ⟨q1, q2, q3⟩ := g5 c
        have w := (W x xn).2 c
        refine yw_make lt ⟨vx, ?_⟩
        rw [ys_nn (by omega)]
        refine nm_e ⟨vx, ?_⟩
        rw [pk_us]
        refine h3 t0 x3 _ _ _ _ (yi_new S xn x3 t0 (by omega) (fun z => (k8 z).elim) (fun _ => ⟨?_, ?_, fun c5 => ?_⟩) _ rfl)
        · rw [g3, yk_l (by omega)]; exact yb_n (by omega)
        · rw [q1]; exact ys_n (by omega)
        · rw [q2 c5]; exact ys_n (by omega)
    · rw [if_neg t0]
      refine br_t (nI_le (a := 0) (by omega) (by have := s4 x xn t0; omega)) ⟨vx, ?_⟩
      have := h2 (Or.inr t0)
      unfold yi_cp at this
      rw [if_neg z] at this
      exact this
/-- from one state of the copying to the next -/
def yi_T (n n' n'' : Nat) (nt tw tw'' pend pend'' : Nat → Nat) (st st'' : List Nat) (x : Nat) : Prop :=
  (nt x = 2 ∨ tw'' x ≠ 0) ∧ (∀ i, tw i ≠ 0 → tw'' i = tw i) ∧ (∀ i, i < n' → pend'' i = pend i) ∧ n' ≤ n'' ∧ (∀ m, n' ≤ m → m < n'' → pend'' m = 1 ∧ m ∈ st'') ∧ (st'' = st ∨ st'' = n' :: st) ∧ (∀ m, m ∈ st'' → m ∈ st ∨ n' ≤ m ∧ m < n'') ∧ st''.length + ct_n (fun i => decide (nt i = 3) && decide (tw'' i = 0)) n ≤ st.length + ct_n (fun i => decide (nt i = 3) && decide (tw i = 0)) n
theorem yw_side {post : Int32 → SY → Prop} {J56 : Int32 → Int32 → Int32 → Int32 → Int32 → Int32 → Int32 → Int32 → Int32 → Int32 → Int32 → Int32 → Int32 → Int32 → Int32 → Int32 → (Nat → Int32) → (Nat → Int32) → (Nat → Int32) → (Nat → Int32) → (Nat → Int32) → (Nat → Int32) → (Nat → Int32) → (Nat → Int32) → (Nat → Int32) → (Nat → Int32) → (Nat → Int32) → (Nat → Int32) → (Nat → Int32) → (Nat → Int32) → (Nat → Int32) → (Nat → Int32) → (Nat → Int32) → (Nat → Int32) → (Nat → Int32) → Prop} {J74 : Int32 → Int32 → Int32 → Int32 → Int32 → Int32 → Int32 → Int32 → Int32 → Int32 → Int32 → Int32 → Int32 → Int32 → Int32 → Int32 → Int32 → (Nat → Int32) → (Nat → Int32) → (Nat → Int32) → (Nat → Int32) → (Nat → Int32) → (Nat → Int32) → (Nat → Int32) → (Nat → Int32) → (Nat → Int32) → (Nat → Int32) → (Nat → Int32) → (Nat → Int32) → (Nat → Int32) → (Nat → Int32) → (Nat → Int32) → (Nat → Int32) → (Nat → Int32) → (Nat → Int32) → (Nat → Int32) → Prop} {n' p x c sd : Nat} {tw pend : Nat → Nat} {st : List Nat} {y2 : Int32} (hL : gr_L n kd pa K) (W : gr_W n kd pa pb) (hbd : bd ≤ 2000) (hM : ys_M n kd pa pb nt) (hN : ym_N n a_mark nt) (S : yi_S n bd kd pa pb nt r0 n' tw pend a_what a_partA a_partB a_twin) (pn : p < n) (tx : gr_to kd pa p x) (x2 : 2 ≤ nt x) (hst : st_1 a_walk st) (hl : st.length < 2000) (hc : c < 2000) (hsd : sd = 0 ∨ sd = 1)
    (hJ : ∀ n'' tw'' pend'' st'' wh pA pB twin wk pA' pB', yi_S n bd kd pa pb nt r0 n'' tw'' pend'' wh pA pB twin → yi_T n n' n'' nt tw tw'' pend pend'' st st'' x → st_1 wk st'' → (sd = 0 → pA' = upd pA c (nI (yi_cp nt tw'' x)) ∧ pB' = pB) → (sd = 1 → pB' = upd pB c (nI (yi_cp nt tw'' x)) ∧ pA' = pA) → J74 (nI st''.length) (nI (sd + 1)) f_count f_accepted f_place f_kept (nI n'') f_tt f_pos f_bad f_typing f_unbound f_clash f_top f_scope f_doneName f_doneType a_kind a_value a_keptKind a_keptA a_keptB a_root wh pA' pB' a_mark twin wk a_pairs a_now a_todo a_types a_firm a_bound a_boundType) :
    wY_instance_112 post J56 J74 y2 (nI st.length) (nI c) (nI sd) (nI p) f_count f_accepted f_place f_kept (nI n') f_tt f_pos f_bad f_typing f_unbound f_clash f_top f_scope f_doneName f_doneType a_kind a_value a_keptKind a_keptA a_keptB a_root a_what a_partA a_partB a_mark a_twin a_walk a_pairs a_now a_todo a_types a_firm a_bound a_boundType := by
  obtain ⟨s1, s2, s3, s4, s5, s6, s7, s8, s9⟩ := id S
  have ctl := ct_le (p := fun i => decide (nt i = 3) && decide (tw i = 0)) n
  have xn := gr_to_n W tx pn
  have vx : vp_in (nI x) 2000 := vp_in_nI (by omega) (by decide)
  have cx : (nI x).toNatClampNeg = x := nI_clamp (by omega)
  have vc : vp_in (nI c) 2000 := vp_in_nI (by omega) (by decide)
  have cc : (nI c).toNatClampNeg = c := nI_clamp (by omega)
  have xx : gr_to kd pa x x := gr_to_r tx.1
  have n3 := (hN x xn).2
  have m0 : yi_cp nt tw x < 32768 ∨ ¬ (nt x = 2 ∨ tw x ≠ 0) := by
    unfold yi_cp
    by_cases z : nt x = 2
    · rw [if_pos z]; exact Or.inl (by omega)
    · rw [if_neg z]
      by_cases z' : tw x = 0
      · exact Or.inr (fun q => q.elim z (fun q => q z'))
      · have := s4 x xn z'
        exact Or.inl (by omega)
  -- a copy that is known
  have known : (nt x = 2 ∨ tw x ≠ 0) → wY_instance_138 post J56 J74 y2 (nI st.length) (nI c) (nI sd) (nI x) f_count f_accepted f_place f_kept (nI n') f_tt f_pos f_bad f_typing f_unbound f_clash f_top f_scope f_doneName f_doneType a_kind a_value a_keptKind a_keptA a_keptB a_root a_what a_partA a_partB a_mark a_twin a_walk a_pairs a_now a_todo a_types a_firm a_bound a_boundType := by
    intro kn
    have lt : yi_cp nt tw x < 32768 := m0.resolve_right (fun z => z kn)
    have T : yi_T n n' n' nt tw tw pend pend st st x := ⟨kn, fun _ _ => rfl, fun _ _ => rfl, Nat.le_refl _, fun m h1 h2 => by omega, Or.inl rfl, fun m h => Or.inl h, Nat.le_refl _⟩
    unfold wY_instance_138 wY_instance_143
    refine yw_copied hL W hbd hM hN S xn xx x2 (fun _ => ?_) (fun t0 t3 => (kn.elim (fun z => by omega) (fun z => z t0)).elim)
    rcases hsd with rfl | rfl
    · refine br_t rfl ⟨vc, ?_⟩
      rw [cc, ys_nn lt]
      exact nm_e (br_f (by decide) (nm_e (hJ n' tw pend st _ _ _ _ _ _ _ S T hst (fun _ => ⟨rfl, rfl⟩) (fun z => by cases z))))
    · refine br_f (by decide) ⟨vc, ?_⟩
      rw [cc, ys_nn lt]
      exact nm_e (br_f (by decide) (nm_e (hJ n' tw pend st _ _ _ _ _ _ _ S T hst (fun z => by cases z) (fun _ => ⟨rfl, rfl⟩))))
  refine yw_real s1 (by omega) hL pn tx ⟨vx, ?_⟩
  rw [cx, (hN x xn).1]
  refine pk_p (mk_eq 2 n3 (by omega) (by omega)) (fun z => known (Or.inl z)) (fun z => ⟨vx, ?_⟩)
  rw [s2 x xn]
  unfold mk_v'
  by_cases t0 : tw x = 0
  · rw [if_pos t0]
    have x3 : nt x = 3 := by omega
    have hct := ct_u (p := fun i => decide (nt i = 3) && decide (tw i = 0)) (q := fun i => decide (nt i = 3) && decide (gr_u tw x (n' + 1) i = 0)) (a := x) (by rw [x3, t0]; rfl) (by rw [gr_us]; simp) (fun i hi => by rw [gr_un hi]) n xn
    have cpx : yi_cp nt (gr_u tw x (n' + 1)) x = n' := by
      unfold yi_cp
      rw [if_neg z, gr_us, Nat.add_sub_cancel]
    have T : yi_T n n' (n' + 1) nt tw (gr_u tw x (n' + 1)) pend (gr_u pend n' 1) st (n' :: st) x := by
      refine ⟨Or.inr (by rw [gr_us]; omega), fun i hi => gr_un (fun e => hi (by rw [e]; exact t0)), fun i hi => gr_un (by omega), by omega, fun m h1 h2 => ?_, Or.inr rfl, fun m h => ?_, ?_⟩
      · have e : m = n' := by omega
        rw [e, gr_us]; exact ⟨rfl, List.mem_cons_self⟩
      · rcases List.mem_cons.mp h with e | e
        · rw [e]; exact Or.inr ⟨Nat.le_refl _, by omega⟩
        · exact Or.inl e
      · rw [List.length_cons]; omega
    refine br_t (by decide) ?_
    unfold wY_instance_143
    refine yw_copied hL W hbd hM hN S xn xx x2 (fun kn => (kn.elim z (fun q => q t0)).elim) (fun _ _ wh pA pB twin S' => ?_)
    have vl : vp_in (nI st.length) 4100 := vp_in_nI (by omega) (by decide)
    rcases hsd with rfl | rfl
    · refine br_t rfl ⟨vc, ?_⟩
      rw [cc, ys_nn (by omega)]
      refine nm_e (br_t rfl (nm_r (nI_1 _) ⟨vl, ?_⟩))
      rw [ys_nn (by omega), nI_clamp (by omega)]
      refine nm_e (nm_e (hJ _ _ _ (n' :: st) _ _ _ _ _ _ _ S' T (st_1p hst) (fun _ => ⟨?_, rfl⟩) (fun z => by cases z)))
      rw [cpx]
    · refine br_f (by decide) ⟨vc, ?_⟩
      rw [cc, ys_nn (by omega)]
      refine nm_e (br_t rfl (nm_r (nI_1 _) ⟨vl, ?_⟩))
      rw [ys_nn (by omega), nI_clamp (by omega)]
      refine nm_e (nm_e (hJ _ _ _ (n' :: st) _ _ _ _ _ _ _ S' T (st_1p hst) (fun z => by cases z) (fun _ => ⟨?_, rfl⟩)))
      rw [cpx]
  · rw [if_neg t0]
    exact br_f (nI_nlt (b := 0) (by omega) (by have := s4 x xn t0; omega)) (known (Or.inr t0))
theorem yw_inst_l {post : Int32 → SY → Prop} {y2 : Int32} {tv : Nat} (htv : tv ≠ 0) (hL : gr_L n kd pa K) (W : gr_W n kd pa pb) (hbd : bd ≤ 2000) (hM : ys_M n kd pa pb nt) (hN : ym_N n a_mark nt)
    (h : ∀ n' tw pend wh pA pB twin wk, yi_S n bd kd pa pb nt r0 n' tw pend wh pA pB twin → (∀ m, n ≤ m → m < n' → pend m = 0) → tw r0 = tv → post y2 (f_count, f_accepted, f_place, f_kept, nI n', f_tt, f_pos, f_bad, f_typing, f_unbound, f_clash, f_top, f_scope, f_doneName, f_doneType, a_kind, a_value, a_keptKind, a_keptA, a_keptB, a_root, wh, pA, pB, a_mark, twin, wk, a_pairs, a_now, a_todo, a_types, a_firm, a_bound, a_boundType)) :
    ∀ m st n' tw pend wh pA pB twin wk, yi_S n bd kd pa pb nt r0 n' tw pend wh pA pB twin → st_1 wk st → st.Nodup → (∀ c, c ∈ st → n ≤ c ∧ c < n' ∧ pend c = 1) → (∀ c, n ≤ c → c < n' → pend c ≠ 0 → c ∈ st) → tw r0 = tv → st.length + ct_n (fun i => decide (nt i = 3) && decide (tw i = 0)) n ≤ m → wY_instance_56 post y2 (m + 1) (nI st.length) f_count f_accepted f_place f_kept (nI n') f_tt f_pos f_bad f_typing f_unbound f_clash f_top f_scope f_doneName f_doneType a_kind a_value a_keptKind a_keptA a_keptB a_root wh pA pB a_mark twin wk a_pairs a_now a_todo a_types a_firm a_bound a_boundType := by
  intro m
  induction m with
  | zero =>
    intro st n' tw pend wh pA pB twin wk S hst nd hp hq ht hm
    have e : st = [] := List.eq_nil_of_length_eq_zero (by omega)
    subst e
    exact br_t (nI_le (a := 0) (b := 0) (by omega) (by omega)) (h n' tw pend wh pA pB twin wk S (fun c h1 h2 => Classical.byContradiction fun z => by cases hq c h1 h2 z) ht)
  | succ m ih =>
    intro st n' tw pend wh pA pB twin wk S hst nd hp hq ht hm
    cases st with
    | nil => exact br_t (nI_le (a := 0) (b := 0) (by omega) (by omega)) (h n' tw pend wh pA pB twin wk S (fun c h1 h2 => Classical.byContradiction fun z => by cases hq c h1 h2 z) ht)
    | cons c st =>
      obtain ⟨s1, s2, s3, s4, s5, s6, s7, s8, s9⟩ := id S
      obtain ⟨nc, cn', pc⟩ := hp c List.mem_cons_self
      obtain ⟨cst, nd'⟩ := List.nodup_cons.mp nd
      rw [List.length_cons] at hm
      have sl : st.length < n' := by
        have := ct_nd (n := n') st (fun _ => true) nd' (fun x hx => ⟨(hp x (List.mem_cons_of_mem _ hx)).2.1, rfl⟩)
        have h1 := ct_nd (n := n') (c :: st) (fun _ => true) nd (fun x hx => ⟨(hp x hx).2.1, rfl⟩)
        have h2 := ct_le (p := fun _ => true) n'
        rw [List.length_cons] at h1
        omega
      have vl : vp_in (nI st.length) 4100 := vp_in_nI (by omega) (by decide)
      have vc : vp_in (nI c) 2000 := vp_in_nI (by omega) (by decide)
      have cc : (nI c).toNatClampNeg = c := nI_clamp (by omega)
      refine br_f (nI_nle (by rw [List.length_cons]; omega) (by rw [List.length_cons]; omega)) ?_
      rw [List.length_cons]
      refine nm_r (pk_m1 st.length) ⟨vl, ?_⟩
      rw [nI_clamp (by omega), hst.1]
      refine nm_e ⟨3, ?_⟩
      obtain ⟨r, rn, tr⟩ := s6 c nc cn'
      have r3 := s4 r rn (by omega)
      have uq : ∀ r', r' < n → tw r' = c + 1 → r' = r := fun r' hr' e => s5 r' r hr' rn (by omega) (by omega)
      have k8c : kd r = 8 ∨ gr_cn (kd r) := by
        by_cases q : gr_cn (kd r)
        · exact Or.inr q
        · exact Or.inl (((hM r rn (by omega)).1 q).mp r3.1)
      refine ⟨vc, ?_⟩
      rw [cc]
      rcases k8c with k8 | kc
      · have q := ((s7 r rn (by omega)).1 k8).1
        rw [tr, Nat.add_sub_cancel] at q
        rw [q]
        refine yw_parts (k := 7) (by omega) (br_t (by decide) ?_)
        refine ih st n' tw (gr_u pend c 0) wh pA pB twin wk (yi_v S (fun r' hr' e => by rw [uq r' hr' e]; omega)) hst.2 nd' (fun d hd => ?_) (fun d h1 h2 h3 => ?_) ht (by omega)
        · have := hp d (List.mem_cons_of_mem _ hd)
          rw [gr_un (fun e : d = c => cst (e ▸ hd))]; exact this
        · by_cases e : d = c
          · rw [e, gr_us] at h3; exact (h3 rfl).elim
          · rw [gr_un e] at h3
            exact (List.mem_cons.mp (hq d h1 h2 h3)).resolve_left e
      · obtain ⟨q1, q2, q3, q4⟩ := (s7 r rn (by omega)).2 kc
        rw [tr, Nat.add_sub_cancel] at q1 q2 q3 q4
        have w := (W r rn).2 kc
        have t1 := gr_L_to hL w.1
        have t2 := gr_L_to hL w.2
        generalize e1 : gr_f kd pa K (pa r) = x at t1
        generalize e2 : gr_f kd pa K (pb r) = y at t2
        obtain ⟨m1, m2, _⟩ := (hM r rn (by omega)).2 kc x y t1 t2
        rw [q1]
        have yp : nI (yp_n (kd r)) = nI (yp_n (yk (kd r))) := by rw [yk_l (by omega)]
        refine yw_parts (k := kd r) (by omega) ?_
        rw [yp]
        have side0 : wY_instance_112 post (wY_instance_56 post y2 (m + 1)) (wY_instance_74 post (wY_instance_56 post y2 (m + 1)) y2 (nI c) 2) y2 (nI st.length) (nI c) (nI 0) (nI (pa r)) f_count f_accepted f_place f_kept (nI n') f_tt f_pos f_bad f_typing f_unbound f_clash f_top f_scope f_doneName f_doneType a_kind a_value a_keptKind a_keptA a_keptB a_root wh pA pB a_mark twin wk a_pairs a_now a_todo a_types a_firm a_bound a_boundType := by
          refine yw_side (n' := n') (tw := tw) (pend := pend) (st := st) hL W hbd hM hN S w.1 t1 m1 hst.2 (by omega) (by omega) (Or.inl rfl) (fun n2 tw2 pend2 st2 wh2 pA2 pB2 twin2 wk2 pA3 pB3 S2 T2 hst2 hs0 _ => ?_)
          obtain ⟨eA, eB⟩ := hs0 rfl
          rw [eA, eB]
          obtain ⟨T1, T2, T3, T4, T5, T6, T7, T8⟩ := T2
          have tr2 : tw2 r = c + 1 := by rw [T2 r (by omega)]; exact tr
          have uq2 : ∀ r', r' < n → tw2 r' = c + 1 → r' = r := fun r' hr' e => S2.2.2.2.2.1 r' r hr' rn (by omega) (by omega)
          have p2c : pend2 c = 1 := by rw [T3 c cn']; exact pc
          have Sa : yi_S n bd kd pa pb nt r0 n2 tw2 (gr_u pend2 c 2) wh2 (upd pA2 c (nI (yi_cp nt tw2 x))) pB2 twin2 := yi_a S2 nc p2c (fun r' hr' e => by rw [uq2 r' hr' e]; exact ⟨kc, x, t1, T1, rfl⟩)
          have nd2 : st2.Nodup := by
            rcases T6 with e | e
            · rw [e]; exact nd'
            · rw [e]; exact List.nodup_cons.mpr ⟨fun q => by have := (hp n' (List.mem_cons_of_mem _ q)).2.1; omega, nd'⟩
          have cst2 : c ∉ st2 := fun q => by
            rcases T7 c q with z | z
            · exact cst z
            · omega
          have hp2 : ∀ d, d ∈ st2 → n ≤ d ∧ d < n2 ∧ pend2 d = 1 := fun d hd => by
            rcases T7 d hd with z | z
            · have := hp d (List.mem_cons_of_mem _ z)
              exact ⟨this.1, by omega, by rw [T3 d this.2.1]; exact this.2.2⟩
            · exact ⟨by omega, z.2, (T5 d z.1 z.2).1⟩
          have sub : ∀ d, d ∈ st → d ∈ st2 := fun d hd => by
            rcases T6 with e | e
            · rw [e]; exact hd
            · rw [e]; exact List.mem_cons_of_mem _ hd
          have hq2 : ∀ d, n ≤ d → d < n2 → pend2 d ≠ 0 → d ∈ st2 ∨ d = c := fun d h1 h2 h3 => by
            by_cases l : d < n'
            · rw [T3 d l] at h3
              rcases List.mem_cons.mp (hq d h1 l h3) with z | z
              · exact Or.inr z
              · exact Or.inl (sub d z)
            · exact Or.inl (T5 d (by omega) h2).2
          have n2b : n2 ≤ 2000 := by have := S2.2.2.2.2.2.2.2.2; omega
          have wh2c : wh2 c = nI (kd r) := by
            have := ((S2.2.2.2.2.2.2.1 r rn (by omega)).2 kc).1
            rw [tr2, Nat.add_sub_cancel] at this
            exact this
          have ht2 : tw2 r0 = tv := by rw [T2 r0 (by omega)]; exact ht
          refine ⟨vc, ?_⟩
          rw [cc, wh2c]
          refine yw_parts (k := kd r) (by omega) ?_
          rw [yp]
          by_cases k4 : kd r ≤ 4
          · rw [yp_1 kc k4]
            refine br_t (by decide) ?_
            refine ih st2 n2 tw2 (gr_u (gr_u pend2 c 2) c 0) _ _ _ _ _ (yi_b Sa nc gr_us (fun _ _ => rfl) (fun r' hr' e k5 => by rw [uq2 r' hr' e] at k5; omega)) hst2 nd2 (fun d hd => ?_) (fun d h1 h2 h3 => ?_) ht2 (by omega)
            · have e : d ≠ c := fun e => cst2 (e ▸ hd)
              rw [gr_un e, gr_un e]; exact hp2 d hd
            · by_cases e : d = c
              · rw [e, gr_us] at h3; exact (h3 rfl).elim
              · rw [gr_un e, gr_un e] at h3
                exact (hq2 d h1 h2 h3).resolve_right e
          · rw [yp_2 kc (by omega)]
            refine br_f (by decide) (br_f (by decide) ⟨vc, ?_⟩)
            have pBc : pB2 c = nI (pb r) := by
              have := (((S2.2.2.2.2.2.2.1 r rn (by omega)).2 kc).2.2.2 (by omega)).1
              rw [tr2, Nat.add_sub_cancel] at this
              exact this (by omega)
            rw [pBc]
            have sl2 : st2.length < 2000 := by
              rcases T6 with e | e
              · rw [e]; omega
              · have h1 := ct_nd (n := n2) (c :: st2) (fun _ => true) (List.nodup_cons.mpr ⟨cst2, nd2⟩) (fun z hz => ⟨by
                  rcases List.mem_cons.mp hz with q | q
                  · rw [q]; omega
                  · exact (hp2 z q).2.1, rfl⟩)
                have h2 := ct_le (p := fun _ => true) n2
                rw [List.length_cons] at h1
                omega
            refine yw_side (n' := n2) (tw := tw2) (pend := gr_u pend2 c 2) (st := st2) (x := y) (sd := 1) hL W hbd hM hN Sa w.2 t2 m2 hst2 sl2 (by omega) (Or.inr rfl) (fun n3 tw3 pend3 st3 wh3 pA4 pB4 twin3 wk3 pA5 pB5 S3 T3' hst3 _ hs1 => ?_)
            obtain ⟨eB3, eA3⟩ := hs1 rfl
            rw [eA3, eB3]
            obtain ⟨U1, U2, U3, U4, U5, U6, U7, U8⟩ := T3'
            have tr3 : tw3 r = c + 1 := by rw [U2 r (by omega)]; exact tr2
            have uq3 : ∀ r', r' < n → tw3 r' = c + 1 → r' = r := fun r' hr' e => S3.2.2.2.2.1 r' r hr' rn (by omega) (by omega)
            have p3c : pend3 c = 2 := by rw [U3 c (by omega), gr_us]
            have ht3 : tw3 r0 = tv := by rw [U2 r0 (by omega)]; exact ht2
            have wh3c : wh3 c = nI (kd r) := by
              have := ((S3.2.2.2.2.2.2.1 r rn (by omega)).2 kc).1
              rw [tr3, Nat.add_sub_cancel] at this
              exact this
            refine ⟨vc, ?_⟩
            rw [cc, wh3c]
            refine yw_parts (k := kd r) (by omega) ?_
            rw [yp, yp_2 kc (by omega)]
            refine br_t (by decide) ?_
            have nd3 : st3.Nodup := by
              rcases U6 with e | e
              · rw [e]; exact nd2
              · rw [e]; exact List.nodup_cons.mpr ⟨fun q => by have := (hp2 n2 q).2.1; omega, nd2⟩
            have cst3 : c ∉ st3 := fun q => by
              rcases U7 c q with z | z
              · exact cst2 z
              · omega
            have sub3 : ∀ d, d ∈ st2 → d ∈ st3 := fun d hd => by
              rcases U6 with e | e
              · rw [e]; exact hd
              · rw [e]; exact List.mem_cons_of_mem _ hd
            refine ih st3 n3 tw3 (gr_u pend3 c 0) _ _ _ _ _ (yi_b S3 nc p3c (fun i hi => pk_un hi) (fun r' hr' e k5 k6 => by rw [uq3 r' hr' e, pk_us]; exact ⟨y, t2, U1, rfl⟩)) hst3 nd3 (fun d hd => ?_) (fun d h1 h2 h3 => ?_) ht3 (by omega)
            · have e : d ≠ c := fun e => cst3 (e ▸ hd)
              rw [gr_un e]
              rcases U7 d hd with z | z
              · have := hp2 d z
                exact ⟨this.1, by omega, by rw [U3 d this.2.1, gr_un e]; exact this.2.2⟩
              · exact ⟨by omega, z.2, (U5 d z.1 z.2).1⟩
            · by_cases e : d = c
              · rw [e, gr_us] at h3; exact (h3 rfl).elim
              · rw [gr_un e] at h3
                by_cases l : d < n2
                · rw [U3 d l, gr_un e] at h3
                  exact sub3 d ((hq2 d h1 l h3).resolve_right e)
                · exact (U5 d (by omega) h2).2
        by_cases k4 : kd r ≤ 4
        · rw [yp_1 kc k4]
          refine br_f (by decide) (br_t rfl ⟨vc, ?_⟩)
          rw [q2 pc]
          exact side0
        · rw [yp_2 kc (by omega)]
          refine br_f (by decide) (br_t rfl ⟨vc, ?_⟩)
          rw [q2 pc]
          exact side0
end
end
section
theorem ct_rng {b l : Nat} {p : Nat → Bool} (h : ∀ i, p i = true → b ≤ i ∧ i < l) : ∀ n, ct_n p n ≤ Nat.min n l - b := by
  intro n
  induction n with
  | zero => exact Nat.zero_le _
  | succ n ih =>
    unfold ct_n
    have e1 : Nat.min n l = if n ≤ l then n else l := rfl
    have e2 : Nat.min (n + 1) l = if n + 1 ≤ l then n + 1 else l := rfl
    by_cases c : p n = true
    · rw [if_pos c]
      have := h n c
      rw [e1, if_pos (by omega)] at ih
      rw [e2, if_pos (by omega)]
      omega
    · rw [if_neg c]
      by_cases d : n + 1 ≤ l
      · rw [e1, if_pos (by omega)] at ih
        rw [e2, if_pos d]; omega
      · rw [e2, if_neg d]
        by_cases d' : n ≤ l
        · rw [e1, if_pos d'] at ih; omega
        · rw [e1, if_neg d'] at ih; omega
theorem ys_nM {n K : Nat} {kd pa pb nt : Nat → Nat} {M : Nat → Prop} (W : gr_W n kd pa pb) (hL : gr_L n kd pa K) (hM : gr_C n kd pa pb M) (gM : ∀ i, M i → kd i ≠ 8) (S : ys_M n kd pa pb nt) : ∀ f i, gr_H kd pa pb f i → nt i = 3 → M i → False := by
  intro f
  induction f with
  | zero => intro i h; exact h.elim
  | succ f ih =>
    intro i h h3 m
    have hi := (hM i m).1
    obtain ⟨s1, s2⟩ := S i hi (by omega)
    by_cases c : gr_cn (kd i)
    · have w := (W i hi).2 c
      have mm := (hM i m).2.2 c
      have t1 := gr_L_to hL w.1
      have t2 := gr_L_to hL w.2
      obtain ⟨_, _, q⟩ := s2 c _ _ t1 t2
      rcases q.mp h3 with z | z
      · exact ih _ (gr_H_to t1 (h.2 c).1) z (gr_to_C hM t1 mm.1)
      · exact ih _ (gr_H_to t2 (h.2 c).2) z (gr_to_C hM t2 mm.2)
    · exact gM i m ((s1 c).mp h3)
section
variable {f_count f_accepted f_place f_kept f_nodes f_tt f_pos f_bad f_typing f_unbound f_clash f_top f_scope f_doneName f_doneType : Int32} {a_kind a_value a_keptKind a_keptA a_keptB a_root a_what a_partA a_partB a_mark a_twin a_walk a_pairs a_now a_todo a_types a_firm a_bound a_boundType : Nat → Int32}
variable {kd pa pb : Nat → Nat} {n K : Nat}
theorem ic_L {n' : Nat} {kd' pa' pb' : Nat → Nat} {R : Nat → Prop} {cp : Nat → Nat} (W : gr_W n kd pa pb) (I : ic_I n n' kd pa pb kd' pa' pb' R cp) (hk : ∀ m, n ≤ m → m < n' → kd' m ≠ 1000) (hL : gr_L n kd pa K) : gr_L n' kd' pa' K := by
  intro i hi
  by_cases c : i < n
  · rw [gr_f_n W (fun i hi => I.2.1 i hi) K i c]
    have t := gr_to_n W (gr_L_to hL c) c
    rw [(I.2.1 _ t).1]; exact hL i c
  · rw [gr_f_r (hk i (by omega) hi)]; exact hk i (by omega) hi
theorem yw_instance {post : Int32 → SY → Prop} {b0 nl t : Nat} {M E : Nat → Prop} (W : gr_W n kd pa pb) (A : gr_A n kd pa pb) (hG : yg_G n a_what a_partA a_partB kd pa pb) (hL : gr_L n kd pa K) (hM : gr_C n kd pa pb M) (gM : ∀ i, M i → kd i ≠ 8) (cE : gr_C n kd pa pb E) (bE : ∀ i, E i → ¬ M i → b0 ≤ i ∧ i < nl) (hb : n + (nl - b0) ≤ 2000) (ht : E t)
    (h : ∀ n' kd' pa' pb' (R : Nat → Prop) cp x wh pA pB mk twin wk, gr_to kd pa t x → R x → ic_I n n' kd pa pb kd' pa' pb' R cp → n' ≤ n + (nl - b0) → yg_G n' wh pA pB kd' pa' pb' → gr_L n' kd' pa' K → post (nI (cp x)) (f_count, f_accepted, f_place, f_kept, nI n', f_tt, f_pos, f_bad, f_typing, f_unbound, f_clash, f_top, f_scope, f_doneName, f_doneType, a_kind, a_value, a_keptKind, a_keptA, a_keptB, a_root, wh, pA, pB, mk, twin, wk, a_pairs, a_now, a_todo, a_types, a_firm, a_bound, a_boundType)) :
    wpY_instance post (f_count, f_accepted, f_place, f_kept, nI n, f_tt, f_pos, f_bad, f_typing, f_unbound, f_clash, f_top, f_scope, f_doneName, f_doneType, a_kind, a_value, a_keptKind, a_keptA, a_keptB, a_root, a_what, a_partA, a_partB, a_mark, a_twin, a_walk, a_pairs, a_now, a_todo, a_types, a_firm, a_bound, a_boundType) (nI t) := by
  have tn : t < n := (cE t ht).1
  have tt := gr_L_to hL tn
  generalize e : gr_f kd pa K t = x at tt
  have xn := gr_to_n W tt tn
  refine yw_search (by omega) W A cE ht hG hL (fun nt mk wk Z hN => ?_)
  obtain ⟨hS, z2, z3⟩ := id Z
  have x2 := z3 x tt
  have ctr := ct_rng (b := b0) (l := nl) (p := fun i => decide (nt i = 3) && decide (i < n)) (fun i hi => by
    simp at hi
    have zi := z2 i hi.2 (by omega)
    obtain ⟨f, hf⟩ := A i hi.2
    exact bE i zi.2.2.1 (ys_nM W hL hM gM hS f i hf hi.1)) n
  have ctm : Nat.min n nl ≤ nl := Nat.min_le_right _ _
  have cte : ct_n (fun i => decide (nt i = 3) && decide (i < n)) n = ct_n (fun i => decide (nt i = 3) && decide ((fun _ => 0 : Nat → Nat) i = 0)) n := ct_c n (fun i hi => by simp [hi])
  generalize hbd : n + (nl - b0) = bd at hb h
  have S0 : ∀ twin, (∀ i, i < n → twin i = -1) → yi_S n bd kd pa pb nt x n (fun _ => 0) (fun _ => 0) a_what a_partA a_partB twin := fun twin hz => by
    refine ⟨hG, hz, Nat.le_refl _, fun r _ z => (z rfl).elim, fun r r' _ _ z => (z rfl).elim, fun m h1 h2 => by omega, fun r _ z => (z rfl).elim, rfl, ?_⟩
    rw [← cte]; omega
  -- what the copy is in the end
  have fin : ∀ n' tw pend wh pA pB mk twin wk, yi_S n bd kd pa pb nt x n' tw pend wh pA pB twin → (∀ m, n ≤ m → m < n' → pend m = 0) → (nt x = 2 ∨ tw x ≠ 0) → post (nI (yi_cp nt tw x)) (f_count, f_accepted, f_place, f_kept, nI n', f_tt, f_pos, f_bad, f_typing, f_unbound, f_clash, f_top, f_scope, f_doneName, f_doneType, a_kind, a_value, a_keptKind, a_keptA, a_keptB, a_root, wh, pA, pB, mk, twin, wk, a_pairs, a_now, a_todo, a_types, a_firm, a_bound, a_boundType) := by
    intro n' tw pend wh pA pB mk twin wk S hp hx
    have nb : n' ≤ bd := by have := S.2.2.2.2.2.2.2.2; omega
    obtain ⟨kd', pa', pb', I, hG', hk⟩ := yi_end W hL (by omega) Z S hp
    exact h n' kd' pa' pb' _ _ x wh pA pB mk twin wk tt ⟨xn, hx⟩ I nb hG' (ic_L W I hk hL)
  have vx : vp_in (nI x) 2000 := vp_in_nI (by omega) (by decide)
  have loop : ∀ d j twin, j + d = n → (∀ i, i < j → twin i = -1) → wY_instance_7 post (nI t) f_count f_accepted f_place f_kept (nI n) f_tt f_pos f_bad f_typing f_unbound f_clash f_top f_scope f_doneName f_doneType (d + 1) (nI j) a_kind a_value a_keptKind a_keptA a_keptB a_root a_what a_partA a_partB mk twin wk a_pairs a_now a_todo a_types a_firm a_bound a_boundType := by
    intro d
    induction d with
    | zero =>
      intro j twin hj hz
      refine br_t (nI_le (by omega) (by omega)) ?_
      have S := S0 twin (fun i hi => hz i (by omega))
      refine yw_copied hL W (by omega) hS hN S tn tt x2 (fun kn => ?_) (fun t0 x3 wh pA pB twin' S' => ?_)
      · have k2 : nt x = 2 := kn.resolve_right (fun z => z rfl)
        have e2 : yi_cp nt (fun _ => 0) x = x := if_pos k2
        have fq := fin n (fun _ => 0) (fun _ => 0) a_what a_partA a_partB mk twin wk S (fun m h1 h2 => by omega) (Or.inl k2)
        refine yw_real hG (by omega) hL tn tt ?_
        rw [e2] at fq ⊢
        exact br_t rfl ⟨1, br_t (nI_le (a := 0) (b := 0) (by omega) (by omega)) fq⟩
      · refine yw_real S'.1 (by omega) hL tn tt (br_f (fun z => by have := (nI_eq (by omega) (by omega)).mp z; omega) ?_)
        refine nm_e ?_
        rw [ys_nn (by omega)]
        refine nm_e ⟨ct_n (fun i => decide (nt i = 3) && decide (gr_u (fun _ => 0) x (n + 1) i = 0)) n + 1 + 1, ?_⟩
        have cpx : yi_cp nt (gr_u (fun _ => 0) x (n + 1)) x = n := by
          unfold yi_cp
          rw [if_neg (by omega), gr_us, Nat.add_sub_cancel]
        refine yw_inst_l (r0 := x) (y2 := nI n) (tv := n + 1) (by omega) hL W (by omega) hS hN (fun n' tw pend wh pA pB twin wk S2 hp ht2 => ?_) _ [n] (n + 1) (gr_u (fun _ => 0) x (n + 1)) (gr_u (fun _ => 0) n 1) wh pA pB twin' _ S' (st_1p (L := []) trivial) (ls_nd1 _) (fun c hc => ?_) (fun c h1 h2 _ => ?_) gr_us (by rw [List.length_singleton]; omega)
        · have fq := fin n' tw pend wh pA pB mk twin wk S2 hp (Or.inr (by omega))
          have cq : yi_cp nt tw x = n := by
            unfold yi_cp
            rw [if_neg (by omega), ht2, Nat.add_sub_cancel]
          rw [cq] at fq
          exact fq
        · rw [List.mem_singleton] at hc
          rw [hc, gr_us]; exact ⟨Nat.le_refl _, by omega, rfl⟩
        · rw [List.mem_singleton]; omega
    | succ d ih =>
      intro j twin hj hz
      refine br_f (nI_ge (by omega) (by omega)) ⟨vp_in_nI (by omega) (by decide), ?_⟩
      rw [nI_clamp (by omega)]
      refine nm_e (nm_r (nI_1 j) (ih (j + 1) _ (by omega) (fun i hi => ?_)))
      by_cases c : i = j
      · rw [c, pk_us]; rfl
      · rw [pk_un c]; exact hz i (by omega)
  exact ⟨n + 1, loop n 0 _ (by omega) (fun i hi => by omega)⟩
end
end
