theorem ct_rng {b l : Nat} {p : Nat → Bool} (h : ∀ i, p i = true → b ≤ i ∧ i < l) : ∀ n, ct_n p n ≤ Nat.min n l - b := by
  intro n
  induction n with
  | zero => exact Nat.zero_le _
  | succ n ih =>
    unfold ct_n
    have e1 : Nat.min n l = if n ≤ l then n else l := rfl
    have e2 : Nat.min (n + 1) l = if n + 1 ≤ l then n + 1 else l := rfl
    by_cases c : p n = true
    · rw [if_pos c]
      have := h n c
      rw [e1, if_pos (by omega)] at ih
      rw [e2, if_pos (by omega)]
      omega
    · rw [if_neg c]
      by_cases d : n + 1 ≤ l
      · rw [e1, if_pos (by omega)] at ih
        rw [e2, if_pos d]; omega
      · rw [e2, if_neg d]
        by_cases d' : n ≤ l
        · rw [e1, if_pos d'] at ih; omega
        · rw [e1, if_neg d'] at ih; omega
theorem ys_nM {n K : Nat} {kd pa pb nt : Nat → Nat} {M : Nat → Prop} (W : gr_W n kd pa pb) (hL : gr_L n kd pa K) (hM : gr_C n kd pa pb M) (gM : ∀ i, M i → kd i ≠ 8) (S : ys_M n kd pa pb nt) : ∀ f i, gr_H kd pa pb f i → nt i = 3 → M i → False := by
  intro f
  induction f with
  | zero => intro i h; exact h.elim
  | succ f ih =>
    intro i h h3 m
    have hi := (hM i m).1
    obtain ⟨s1, s2⟩ := S i hi (by omega)
    by_cases c : gr_cn (kd i)
    · have w := (W i hi).2 c
      have mm := (hM i m).2.2 c
      have t1 := gr_L_to hL w.1
      have t2 := gr_L_to hL w.2
      obtain ⟨_, _, q⟩ := s2 c _ _ t1 t2
      rcases q.mp h3 with z | z
      · exact ih _ (gr_H_to t1 (h.2 c).1) z (gr_to_C hM t1 mm.1)
      · exact ih _ (gr_H_to t2 (h.2 c).2) z (gr_to_C hM t2 mm.2)
    · exact gM i m ((s1 c).mp h3)
section
variable {f_count f_accepted f_place f_kept f_nodes f_tt f_pos f_bad f_typing f_unbound f_clash f_top f_scope f_doneName f_doneType : Int32} {a_kind a_value a_keptKind a_keptA a_keptB a_root a_what a_partA a_partB a_mark a_twin a_walk a_pairs a_now a_todo a_types a_firm a_bound a_boundType : Nat → Int32}
variable {kd pa pb : Nat → Nat} {n K : Nat}
theorem ic_L {n' : Nat} {kd' pa' pb' : Nat → Nat} {R : Nat → Prop} {cp : Nat → Nat} (W : gr_W n kd pa pb) (I : ic_I n n' kd pa pb kd' pa' pb' R cp) (hk : ∀ m, n ≤ m → m < n' → kd' m ≠ 1000) (hL : gr_L n kd pa K) : gr_L n' kd' pa' K := by
  intro i hi
  by_cases c : i < n
  · rw [gr_f_n W (fun i hi => I.2.1 i hi) K i c]
    have t := gr_to_n W (gr_L_to hL c) c
    rw [(I.2.1 _ t).1]; exact hL i c
  · rw [gr_f_r (hk i (by omega) hi)]; exact hk i (by omega) hi
theorem yw_instance {post : Int32 → SY → Prop} {b0 nl t : Nat} {M E : Nat → Prop} (W : gr_W n kd pa pb) (A : gr_A n kd pa pb) (hG : yg_G n a_what a_partA a_partB kd pa pb) (hL : gr_L n kd pa K) (hM : gr_C n kd pa pb M) (gM : ∀ i, M i → kd i ≠ 8) (cE : gr_C n kd pa pb E) (bE : ∀ i, E i → ¬ M i → b0 ≤ i ∧ i < nl) (hb : n + (nl - b0) ≤ 2000) (ht : E t)
    (h : ∀ n' kd' pa' pb' (R : Nat → Prop) cp x wh pA pB mk twin wk, gr_to kd pa t x → R x → ic_I n n' kd pa pb kd' pa' pb' R cp → n' ≤ n + (nl - b0) → yg_G n' wh pA pB kd' pa' pb' → gr_L n' kd' pa' K → post (nI (cp x)) (f_count, f_accepted, f_place, f_kept, nI n', f_tt, f_pos, f_bad, f_typing, f_unbound, f_clash, f_top, f_scope, f_doneName, f_doneType, a_kind, a_value, a_keptKind, a_keptA, a_keptB, a_root, wh, pA, pB, mk, twin, wk, a_pairs, a_now, a_todo, a_types, a_firm, a_bound, a_boundType)) :
    wpY_instance post (f_count, f_accepted, f_place, f_kept, nI n, f_tt, f_pos, f_bad, f_typing, f_unbound, f_clash, f_top, f_scope, f_doneName, f_doneType, a_kind, a_value, a_keptKind, a_keptA, a_keptB, a_root, a_what, a_partA, a_partB, a_mark, a_twin, a_walk, a_pairs, a_now, a_todo, a_types, a_firm, a_bound, a_boundType) (nI t) := by
  have tn : t < n := (cE t ht).1
  have tt := gr_L_to hL tn
  generalize e : gr_f kd pa K t = x at tt
  have xn := gr_to_n W tt tn
  refine yw_search (by omega) W A cE ht hG hL (fun nt mk wk Z hN => ?_)
  obtain ⟨hS, z2, z3⟩ := id Z
  have x2 := z3 x tt
  have ctr := ct_rng (b := b0) (l := nl) (p := fun i => decide (nt i = 3) && decide (i < n)) (fun i hi => by
    simp at hi
    have zi := z2 i hi.2 (by omega)
    obtain ⟨f, hf⟩ := A i hi.2
    exact bE i zi.2.2.1 (ys_nM W hL hM gM hS f i hf hi.1)) n
  have ctm : Nat.min n nl ≤ nl := Nat.min_le_right _ _
  have cte : ct_n (fun i => decide (nt i = 3) && decide (i < n)) n = ct_n (fun i => decide (nt i = 3) && decide ((fun _ => 0 : Nat → Nat) i = 0)) n := ct_c n (fun i hi => by simp [hi])
  generalize hbd : n + (nl - b0) = bd at hb h
  have S0 : ∀ twin, (∀ i, i < n → twin i = -1) → yi_S n bd kd pa pb nt x n (fun _ => 0) (fun _ => 0) a_what a_partA a_partB twin := fun twin hz => by
    refine ⟨hG, hz, Nat.le_refl _, fun r _ z => (z rfl).elim, fun r r' _ _ z => (z rfl).elim, fun m h1 h2 => by omega, fun r _ z => (z rfl).elim, rfl, ?_⟩
    rw [← cte]; omega
  -- what the copy is in the end
  have fin : ∀ n' tw pend wh pA pB mk twin wk, yi_S n bd kd pa pb nt x n' tw pend wh pA pB twin → (∀ m, n ≤ m → m < n' → pend m = 0) → (nt x = 2 ∨ tw x ≠ 0) → post (nI (yi_cp nt tw x)) (f_count, f_accepted, f_place, f_kept, nI n', f_tt, f_pos, f_bad, f_typing, f_unbound, f_clash, f_top, f_scope, f_doneName, f_doneType, a_kind, a_value, a_keptKind, a_keptA, a_keptB, a_root, wh, pA, pB, mk, twin, wk, a_pairs, a_now, a_todo, a_types, a_firm, a_bound, a_boundType) := by
    intro n' tw pend wh pA pB mk twin wk S hp hx
    have nb : n' ≤ bd := by have := S.2.2.2.2.2.2.2.2; omega
    obtain ⟨kd', pa', pb', I, hG', hk⟩ := yi_end W hL (by omega) Z S hp
    exact h n' kd' pa' pb' _ _ x wh pA pB mk twin wk tt ⟨xn, hx⟩ I nb hG' (ic_L W I hk hL)
  have vx : vp_in (nI x) 2000 := vp_in_nI (by omega) (by decide)
  have loop : ∀ d j twin, j + d = n → (∀ i, i < j → twin i = -1) → wY_instance_7 post (nI t) f_count f_accepted f_place f_kept (nI n) f_tt f_pos f_bad f_typing f_unbound f_clash f_top f_scope f_doneName f_doneType (d + 1) (nI j) a_kind a_value a_keptKind a_keptA a_keptB a_root a_what a_partA a_partB mk twin wk a_pairs a_now a_todo a_types a_firm a_bound a_boundType := by
    intro d
    induction d with
    | zero =>
      intro j twin hj hz
      refine br_t (nI_le (by omega) (by omega)) ?_
      have S := S0 twin (fun i hi => hz i (by omega))
      refine yw_copied hL W (by omega) hS hN S tn tt x2 (fun kn => ?_) (fun t0 x3 wh pA pB twin' S' => ?_)
      · have k2 : nt x = 2 := kn.resolve_right (fun z => z rfl)
        have e2 : yi_cp nt (fun _ => 0) x = x := if_pos k2
        have fq := fin n (fun _ => 0) (fun _ => 0) a_what a_partA a_partB mk twin wk S (fun m h1 h2 => by omega) (Or.inl k2)
        refine yw_real hG (by omega) hL tn tt ?_
        rw [e2] at fq ⊢
        exact br_t rfl ⟨1, br_t (nI_le (a := 0) (b := 0) (by omega) (by omega)) fq⟩
      · refine yw_real S'.1 (by omega) hL tn tt (br_f (fun z => by have := (nI_eq (by omega) (by omega)).mp z; omega) ?_)
        refine nm_e ?_
        rw [ys_nn (by omega)]
        refine nm_e ⟨ct_n (fun i => decide (nt i = 3) && decide (gr_u (fun _ => 0) x (n + 1) i = 0)) n + 1 + 1, ?_⟩
        have cpx : yi_cp nt (gr_u (fun _ => 0) x (n + 1)) x = n := by
          unfold yi_cp
          rw [if_neg (by omega), gr_us, Nat.add_sub_cancel]
        refine yw_inst_l (r0 := x) (y2 := nI n) (tv := n + 1) (by omega) hL W (by omega) hS hN (fun n' tw pend wh pA pB twin wk S2 hp ht2 => ?_) _ [n] (n + 1) (gr_u (fun _ => 0) x (n + 1)) (gr_u (fun _ => 0) n 1) wh pA pB twin' _ S' (st_1p (L := []) trivial) (ls_nd1 _) (fun c hc => ?_) (fun c h1 h2 _ => ?_) gr_us (by rw [List.length_singleton]; omega)
        · have fq := fin n' tw pend wh pA pB mk twin wk S2 hp (Or.inr (by omega))
          have cq : yi_cp nt tw x = n := by
            unfold yi_cp
            rw [if_neg (by omega), ht2, Nat.add_sub_cancel]
          rw [cq] at fq
          exact fq
        · rw [List.mem_singleton] at hc
          rw [hc, gr_us]; exact ⟨Nat.le_refl _, by omega, rfl⟩
        · rw [List.mem_singleton]; omega
    | succ d ih =>
      intro j twin hj hz
      refine br_f (nI_ge (by omega) (by omega)) ⟨vp_in_nI (by omega) (by decide), ?_⟩
      rw [nI_clamp (by omega)]
      refine nm_e (nm_r (nI_1 j) (ih (j + 1) _ (by omega) (fun i hi => ?_)))
      by_cases c : i = j
      · rw [c, pk_us]; rfl
      · rw [pk_un c]; exact hz i (by omega)
  exact ⟨n + 1, loop n 0 _ (by omega) (fun i hi => by omega)⟩
end
