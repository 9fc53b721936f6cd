/-! the reference's nodes as a graph -/
def yk (k : Nat) : Nat := if k < 9 then k else 9
/-- the arrays hold the graph -/
def yg_G (n : Nat) (wh pA pB : Nat → Int32) (kd pa pb : Nat → Nat) : Prop :=
  ∀ i, i < n → (kd i = 1000 ∧ pa i < n ∧ wh i = 7 ∧ pA i = nI (pa i)) ∨
    (kd i < 1000 ∧ kd i ≠ 9 ∧ wh i = nI (yk (kd i)) ∧ (kd i = 7 → pA i = -1) ∧ (gr_cn (kd i) → pA i = nI (pa i) ∧ (5 ≤ kd i → pB i = nI (pb i)) ∧ (kd i ≤ 4 → pb i = pa i)) ∧ (9 < kd i → pA i = nI (kd i - 10)))
section
variable {f_count f_accepted f_place f_kept f_nodes f_tt f_pos f_bad f_typing f_unbound f_clash f_top f_scope f_doneName f_doneType : Int32} {a_kind a_value a_keptKind a_keptA a_keptB a_root a_what a_partA a_partB a_mark a_twin a_walk a_pairs a_now a_todo a_types a_firm a_bound a_boundType : Nat → Int32}
variable {kd pa pb : Nat → Nat} {n K : Nat}
theorem yk_l {k : Nat} (h : k < 9) : yk k = k := if_pos h
theorem yk_9 {k : Nat} (h : 9 ≤ k) : yk k = 9 := if_neg (by omega)
theorem yk_le (k : Nat) : yk k ≤ 9 := by
  unfold yk
  by_cases h : k < 9
  · rw [if_pos h]; omega
  · rw [if_neg h]; omega
theorem yg_r {wh pA pB : Nat → Int32} {i : Nat} (hG : yg_G n wh pA pB kd pa pb) (hi : i < n) (hk : kd i ≠ 1000) : kd i < 1000 ∧ kd i ≠ 9 ∧ wh i = nI (yk (kd i)) ∧ (kd i = 7 → pA i = -1) ∧ (gr_cn (kd i) → pA i = nI (pa i) ∧ (5 ≤ kd i → pB i = nI (pb i)) ∧ (kd i ≤ 4 → pb i = pa i)) ∧ (9 < kd i → pA i = nI (kd i - 10)) := by
  rcases hG i hi with z | z
  · exact (hk z.1).elim
  · exact z
theorem yg_7 {wh pA pB : Nat → Int32} {i : Nat} (hG : yg_G n wh pA pB kd pa pb) (hi : i < n) (hk : kd i ≠ 1000) : wh i = 7 ↔ kd i = 7 := by
  obtain ⟨h1, h2, h3, _⟩ := yg_r hG hi hk
  rw [h3]
  have := yk_le (kd i)
  constructor
  · intro z
    have e := (nI_eq (b := 7) (by omega) (by omega)).mp z
    unfold yk at e
    by_cases c : kd i < 9
    · rw [if_pos c] at e; exact e
    · rw [if_neg c] at e; omega
  · intro z
    rw [z]; rfl
theorem yw_real_l {post : Int32 → Prop} (hG : yg_G n a_what a_partA a_partB kd pa pb) (hn : n ≤ 2000) : ∀ f j, j < n → kd (gr_f kd pa f j) ≠ 1000 → post (nI (gr_f kd pa f j)) → wY_real_2 post f_count f_accepted f_place f_kept f_nodes f_tt f_pos f_bad f_typing f_unbound f_clash f_top f_scope f_doneName f_doneType a_kind a_value a_keptKind a_keptA a_keptB a_root a_what a_partA a_partB a_mark a_twin a_walk a_pairs a_now a_todo a_types a_firm a_bound a_boundType (f + 1) (nI j) := by
  intro f
  induction f with
  | zero =>
    intro j hj hk hp
    have v : vp_in (nI j) 2000 := vp_in_nI (by omega) (by decide)
    refine ⟨v, ?_⟩
    rw [nI_clamp (by omega)]
    refine br_c (fun h7 => ⟨v, ?_⟩) (fun _ => hp)
    have e := (yg_7 hG hj hk).mp h7
    refine br_t ?_ hp
    rw [(yg_r hG hj hk).2.2.2.1 e]; decide
  | succ f ih =>
    intro j hj hk hp
    have v : vp_in (nI j) 2000 := vp_in_nI (by omega) (by decide)
    refine ⟨v, ?_⟩
    rw [nI_clamp (by omega)]
    by_cases c : kd j = 1000
    · rw [gr_f_l c] at hk hp
      rcases hG j hj with z | z
      · refine br_t z.2.2.1 ⟨v, br_f ?_ ⟨v, nm_r z.2.2.2 (ih _ z.2.1 hk hp)⟩⟩
        rw [z.2.2.2]
        exact nI_nlt (b := 0) (by omega) (by omega)
      · exact absurd c (by omega)
    · rw [gr_f_r c] at hp
      refine br_c (fun h7 => ⟨v, br_t ?_ hp⟩) (fun _ => hp)
      rw [(yg_r hG hj c).2.2.2.1 ((yg_7 hG hj c).mp h7)]; decide
theorem yw_real {post : Int32 → Prop} {i r : Nat} (hG : yg_G n a_what a_partA a_partB kd pa pb) (hn : n ≤ 2000) (hL : gr_L n kd pa K) (hi : i < n) (hr : gr_to kd pa i r) (hp : post (nI r)) : wpY_real post (f_count, f_accepted, f_place, f_kept, f_nodes, f_tt, f_pos, f_bad, f_typing, f_unbound, f_clash, f_top, f_scope, f_doneName, f_doneType, a_kind, a_value, a_keptKind, a_keptA, a_keptB, a_root, a_what, a_partA, a_partB, a_mark, a_twin, a_walk, a_pairs, a_now, a_todo, a_types, a_firm, a_bound, a_boundType) (nI i) := by
  have e := gr_to_u hr (gr_L_to hL hi)
  rw [e] at hp
  exact ⟨K + 1, yw_real_l hG hn K i hi (hL i hi) hp⟩
theorem yw_make {post : Int32 → SY → Prop} {k a b : Int32} (hn : n < 2000) (h : post (nI n) (f_count, f_accepted, f_place, f_kept, nI (n + 1), f_tt, f_pos, f_bad, f_typing, f_unbound, f_clash, f_top, f_scope, f_doneName, f_doneType, a_kind, a_value, a_keptKind, a_keptA, a_keptB, a_root, upd a_what n k.toInt8.toInt32, upd a_partA n a.toInt16.toInt32, upd a_partB n b.toInt16.toInt32, a_mark, a_twin, a_walk, a_pairs, a_now, a_todo, a_types, a_firm, a_bound, a_boundType)) : wpY_make post (f_count, f_accepted, f_place, f_kept, nI n, f_tt, f_pos, f_bad, f_typing, f_unbound, f_clash, f_top, f_scope, f_doneName, f_doneType, a_kind, a_value, a_keptKind, a_keptA, a_keptB, a_root, a_what, a_partA, a_partB, a_mark, a_twin, a_walk, a_pairs, a_now, a_todo, a_types, a_firm, a_bound, a_boundType) k a b := by
  have e : (nI n).toNatClampNeg = n := nI_clamp (by omega)
  have hi : vp_in (nI n) 2000 := vp_in_nI hn (by decide)
  refine br_f (fun z => by have := (nI_eq (b := 2000) (by omega) (by omega)).mp z; omega) ⟨hi, ?_⟩
  rw [e]
  exact nm_r (by rw [pk_vb]) ⟨hi, nm_r (by rw [pk_vs]) ⟨hi, nm_r (by rw [pk_vs]) (nm_r (nI_1 n) h)⟩⟩
/-- a node with numbers -/
theorem yw_mk {post : Int32 → SY → Prop} {k a b : Nat} (hn : n < 2000) (hk : k < 128) (ha : a < 32768) (hb : b < 32768) (h : post (nI n) (f_count, f_accepted, f_place, f_kept, nI (n + 1), f_tt, f_pos, f_bad, f_typing, f_unbound, f_clash, f_top, f_scope, f_doneName, f_doneType, a_kind, a_value, a_keptKind, a_keptA, a_keptB, a_root, upd a_what n (nI k), upd a_partA n (nI a), upd a_partB n (nI b), a_mark, a_twin, a_walk, a_pairs, a_now, a_todo, a_types, a_firm, a_bound, a_boundType)) : wpY_make post (f_count, f_accepted, f_place, f_kept, nI n, f_tt, f_pos, f_bad, f_typing, f_unbound, f_clash, f_top, f_scope, f_doneName, f_doneType, a_kind, a_value, a_keptKind, a_keptA, a_keptB, a_root, a_what, a_partA, a_partB, a_mark, a_twin, a_walk, a_pairs, a_now, a_todo, a_types, a_firm, a_bound, a_boundType) (nI k) (nI a) (nI b) := by
  refine yw_make hn ?_
  rw [yb_n hk, ys_n ha, ys_n hb]; exact h
theorem yw_fresh {post : Int32 → SY → Prop} (hn : n < 2000) (h : post (nI n) (f_count, f_accepted, f_place, f_kept, nI (n + 1), f_tt, f_pos, f_bad, f_typing, f_unbound, f_clash, f_top, f_scope, f_doneName, f_doneType, a_kind, a_value, a_keptKind, a_keptA, a_keptB, a_root, upd a_what n 7, upd a_partA n (-1), upd a_partB n (-1), a_mark, a_twin, a_walk, a_pairs, a_now, a_todo, a_types, a_firm, a_bound, a_boundType)) : wpY_fresh post (f_count, f_accepted, f_place, f_kept, nI n, f_tt, f_pos, f_bad, f_typing, f_unbound, f_clash, f_top, f_scope, f_doneName, f_doneType, a_kind, a_value, a_keptKind, a_keptA, a_keptB, a_root, a_what, a_partA, a_partB, a_mark, a_twin, a_walk, a_pairs, a_now, a_todo, a_types, a_firm, a_bound, a_boundType) := by
  refine yw_make hn ?_
  exact h
theorem yw_parts {post : Int32 → Prop} {k : Nat} (hk : k < 128) (h : post (nI (yp_n k))) : wpY_parts post (nI k) := by
  unfold yp_n at h
  refine pk_eq k 5 (fun e => ?_) (fun e => pk_eq k 6 (fun e' => ?_) (fun e' => pk_eq k 3 (fun e2 => ?_) (fun e2 => pk_eq k 4 (fun e3 => ?_) (fun e3 => ?_))))
  · rw [if_pos (Or.inl e)] at h; exact h
  · rw [if_pos (Or.inr e')] at h; exact h
  · rw [if_neg (by omega), if_pos (Or.inl e2)] at h; exact h
  · rw [if_neg (by omega), if_pos (Or.inr e3)] at h; exact h
  · rw [if_neg (by omega), if_neg (by omega)] at h; exact h
theorem yp_0 {k : Nat} (h : ¬ gr_cn k) : yp_n (yk k) = 0 := by
  unfold yp_n yk
  by_cases c : k < 9
  · rw [if_pos c, if_neg (by omega), if_neg (by omega)]
  · rw [if_neg c, if_neg (by omega), if_neg (by omega)]
theorem yp_1 {k : Nat} (h : gr_cn k) (h' : k ≤ 4) : yp_n (yk k) = 1 := by
  rw [yk_l (by omega)]
  unfold yp_n
  rw [if_neg (by omega), if_pos (by omega)]
theorem yp_2 {k : Nat} (h : gr_cn k) (h' : 5 ≤ k) : yp_n (yk k) = 2 := by
  rw [yk_l (by omega)]
  unfold yp_n
  rw [if_pos (by omega)]
/-- parts of a node: none, one, two -/
theorem yw_p {post : Int32 → Prop} {wh pA pB : Nat → Int32} {i : Nat} (hG : yg_G n wh pA pB kd pa pb) (hi : i < n) (hk : kd i ≠ 1000) (h0 : ¬ gr_cn (kd i) → post 0) (h1 : gr_cn (kd i) → kd i ≤ 4 → pA i = nI (pa i) → pb i = pa i → post 1) (h2 : gr_cn (kd i) → 5 ≤ kd i → pA i = nI (pa i) → pB i = nI (pb i) → post 2) : wpY_parts post (wh i) := by
  obtain ⟨z1, z2, z3, z4, z5, z6⟩ := yg_r hG hi hk
  rw [z3]
  refine yw_parts (by have := yk_le (kd i); omega) ?_
  by_cases c : gr_cn (kd i)
  · obtain ⟨q1, q2, q3⟩ := z5 c
    by_cases d : kd i ≤ 4
    · rw [yp_1 c d]; exact h1 c d q1 (q3 d)
    · rw [yp_2 c (by omega)]; exact h2 c (by omega) q1 (q2 (by omega))
  · rw [yp_0 c]; exact h0 c
theorem yg_mk {wh pA pB : Nat → Int32} {k a b w : Nat} {x y : Int32} (hG : yg_G n wh pA pB kd pa pb) (hk : k < 1000) (h9 : k ≠ 9) (hw : w = yk k) (h7 : k = 7 → x = -1) (hc : gr_cn k → x = nI a ∧ (5 ≤ k → y = nI b) ∧ (k ≤ 4 → b = a)) (hr : 9 < k → x = nI (k - 10)) : yg_G (n + 1) (upd wh n (nI w)) (upd pA n x) (upd pB n y) (gr_u kd n k) (gr_u pa n a) (gr_u pb n b) := by
  intro i hi
  by_cases c : i = n
  · subst c
    rw [gr_us, gr_us, gr_us, pk_us, pk_us, pk_us, hw]
    exact Or.inr ⟨hk, h9, rfl, h7, hc, hr⟩
  · rw [gr_un c, gr_un c, gr_un c, pk_un c, pk_un c, pk_un c]
    rcases hG i (by omega) with z | z
    · exact Or.inl ⟨z.1, by omega, z.2.2⟩
    · exact Or.inr z
theorem yw_unmark {post : SY → Prop} (hn : n ≤ 2000) (h : ∀ mk, (∀ i, i < n → mk i = -1) → post (f_count, f_accepted, f_place, f_kept, nI n, f_tt, f_pos, f_bad, f_typing, f_unbound, f_clash, f_top, f_scope, f_doneName, f_doneType, a_kind, a_value, a_keptKind, a_keptA, a_keptB, a_root, a_what, a_partA, a_partB, mk, a_twin, a_walk, a_pairs, a_now, a_todo, a_types, a_firm, a_bound, a_boundType)) : wpY_unmark post (f_count, f_accepted, f_place, f_kept, nI n, f_tt, f_pos, f_bad, f_typing, f_unbound, f_clash, f_top, f_scope, f_doneName, f_doneType, a_kind, a_value, a_keptKind, a_keptA, a_keptB, a_root, a_what, a_partA, a_partB, a_mark, a_twin, a_walk, a_pairs, a_now, a_todo, a_types, a_firm, a_bound, a_boundType) := by
  have loop : ∀ d j mk, j + d = n → (∀ i, i < j → mk i = -1) → wY_unmark_2 post f_count f_accepted f_place f_kept (nI n) f_tt f_pos f_bad f_typing f_unbound f_clash f_top f_scope f_doneName f_doneType (d + 1) (nI j) a_kind a_value a_keptKind a_keptA a_keptB a_root a_what a_partA a_partB mk a_twin a_walk a_pairs a_now a_todo a_types a_firm a_bound a_boundType := by
    intro d
    induction d with
    | zero =>
      intro j mk hj hz
      exact br_t (nI_le (by omega) (by omega)) (h mk (fun i hi => hz i (by omega)))
    | succ d ih =>
      intro j mk hj hz
      refine br_f (nI_ge (by omega) (by omega)) ⟨vp_in_nI (by omega) (by decide), ?_⟩
      rw [nI_clamp (by omega)]
      refine nm_e (nm_r (nI_1 j) (ih (j + 1) _ (by omega) (fun i hi => ?_)))
      by_cases c : i = j
      · rw [c, pk_us]; rfl
      · rw [pk_un c]; exact hz i (by omega)
  exact ⟨n + 1, loop n 0 a_mark (by omega) (fun i hi => by omega)⟩
end
