/-! the reference keeps all types -/
theorem nm_S_cg {cl : Nat → Bool} {L L' : Nat → List Nat} : ∀ N, (∀ w, w < N → L w = L' w) → nm_S cl L N = nm_S cl L' N := by
  intro N
  induction N with
  | zero => intro _; rfl
  | succ N ih =>
    intro h
    show nm_so cl (nm_S cl L N) (L N) = nm_so cl (nm_S cl L' N) (L' N)
    rw [ih (fun w hw => h w (by omega)), h N (by omega)]
theorem nm_d_cg {cl : Nat → Bool} {L L' : Nat → List Nat} {v : Nat} (h : ∀ w, w ≤ v → L w = L' w) : nm_d cl L v = nm_d cl L' v := by
  unfold nm_d
  rw [nm_S_cg v (fun w hw => h w (by omega)), h v (Nat.le_refl _)]
/-- the labels of the types at roots -/
def kl_L (nrt : Nat → Nat) (g : Nat → tr_T) (v : Nat) : List Nat := if nrt v = 0 then [] else tr_pre (g (nrt v - 1))
/-- one name that is kept -/
def kn_1 (kd pa : Nat → Nat) (m : Nat) (kk ka kb src nrt rt lo hi : Nat → Nat) (w : Nat) : Prop :=
  (nrt w = 0 ∧ rt w = 0 ∧ hi w = 0) ∨ (nrt w ≠ 0 ∧ rt w ≠ 0 ∧ gr_to kd pa (nrt w - 1) (src (rt w - 1)) ∧ hi w ≤ lo w + 12 ∧ hi w ≤ m ∧ kp_N (lo w) (rt w - 1) (hi w) kk ka kb [] ∧ ∀ i, lo w ≤ i → i < hi w → gr_cn (kk i) → ka i < hi w ∧ kb i < hi w)
def kn_I (n : Nat) (kd pa pb : Nat → Nat) (g : Nat → tr_T) (nrt : Nat → Nat) (v m : Nat) (kk ka kb src rt lo hi : Nat → Nat) : Prop :=
  kp_I n kd pa pb m kk ka kb src [] ∧ m ≤ 12 * v ∧ (∀ w, w < v → kn_1 kd pa m kk ka kb src nrt rt lo hi w) ∧ (∀ k, k < m → ∃ w, w < v ∧ nrt w ≠ 0 ∧ lo w ≤ k ∧ k < hi w) ∧ (∀ k, k < m → kk k = 8 → ∃ w, w < v ∧ nrt w ≠ 0 ∧ 1001 + src k ∈ tr_pre (g (nrt w - 1)))
section
variable {kd pa pb : Nat → Nat} {n : Nat} {g : Nat → tr_T}
theorem kp_Nfr {lo r m0 m : Nat} {kk ka kb kk' ka' kb' : Nat → Nat} (N : kp_N lo r m0 kk ka kb []) (hm : m0 ≤ m) (hc : ∀ i, lo ≤ i → i < m0 → gr_cn (kk i) → ka i < m0 ∧ kb i < m0) (f : ∀ k, k < m → kk' k = kk k ∧ ka' k = ka k ∧ kb' k = kb k) : kp_N lo r m0 kk' ka' kb' [] := by
  obtain ⟨⟨n1, n1'⟩, n2, n3, n4, n5⟩ := N
  refine ⟨⟨n1, by rw [(f r (by omega)).1]; exact n1'⟩, n2, fun k hk => (by cases hk), fun k h1 h2 _ hk => ?_, fun S s0 cl k hk => ?_⟩
  · obtain ⟨e1, e2, e3⟩ := f k (by omega)
    rw [e1] at hk
    have q := hc k h1 h2 hk
    rw [e2, e3, (f _ (by omega)).1, (f _ (by omega)).1]
    exact n4 k h1 h2 (by simp) hk
  · refine n5 S s0 (fun j hj _ hcj sj => ?_) k hk
    obtain ⟨e1, e2, e3⟩ := f j (by omega)
    have q := cl j hj (by simp) (by rw [e1]; exact hcj) sj
    rw [e2, e3] at q
    exact q
/-- one more name -/
theorem kn_next {nrt : Nat → Nat} {v m r0 r q m' : Nat} {kk ka kb src rt lo hi kk' ka' kb' src' : Nat → Nat} (W : gr_W n kd pa pb) (hg : gr_V n kd pa pb g) (gg : gr_gen n kd g) (I : kn_I n kd pa pb g nrt v m kk ka kb src rt lo hi) (hv : nrt v ≠ 0) (hT : (tr_pre (g (nrt v - 1))).length ≤ 12) (hr : gr_to kd pa (nrt v - 1) r) (hrn : nrt v - 1 < n) (Kq : kq_I n kd pa pb g (fun c => c ∈ tr_pre (g (nrt v - 1))) m r0 r (tr_pre (g (nrt v - 1))).length q m' kk' ka' kb' src' [] kk ka kb src) (hm : m' ≤ m + (tr_pre (g (nrt v - 1))).length) :
    kn_I n kd pa pb g nrt (v + 1) m' kk' ka' kb' src' (gr_u rt v (r0 + 1)) (gr_u lo v m) (gr_u hi v m') := by
  obtain ⟨i1, i2, i3, i4, i5⟩ := I
  obtain ⟨k1, k2, _, _, _, _, _, k8, k9⟩ := Kq
  have mm := k2.2.1
  have fr : ∀ k, k < m → kk' k = kk k ∧ ka' k = ka k ∧ kb' k = kb k := fun k hk => ⟨(k8 k hk).1, (k8 k hk).2.1, (k8 k hk).2.2.1⟩
  refine ⟨k1, by omega, fun w hw => ?_, fun k hk => ?_, fun k hk c8 => ?_⟩
  · by_cases c : w = v
    · subst c
      refine Or.inr ?_
      rw [gr_us, gr_us, gr_us, Nat.add_sub_cancel, k9]
      exact ⟨hv, by omega, hr, by omega, Nat.le_refl _, k2, fun i h1 h2 hc => by
        have z := k1.2.1 i h2 (by simp) hc
        exact ⟨z.1, z.2.1⟩⟩
    · rcases i3 w (by omega) with z | ⟨z1, z2, z3, z4, z5, z6, z7⟩
      · exact Or.inl ⟨z.1, by rw [gr_un c]; exact z.2.1, by rw [gr_un c]; exact z.2.2⟩
      · refine Or.inr ?_
        rw [gr_un c, gr_un c, gr_un c]
        have rl := z6.1.1
        refine ⟨z1, z2, by rw [(k8 _ (by omega)).2.2.2]; exact z3, z4, by omega, kp_Nfr z6 z5 z7 fr, fun i h1 h2 hc => ?_⟩
        obtain ⟨e1, e2, e3⟩ := fr i (by omega)
        rw [e1] at hc
        rw [e2, e3]; exact z7 i h1 h2 hc
  · by_cases c : k < m
    · obtain ⟨w, w1, w2, w3, w4⟩ := i4 k c
      have ne : w ≠ v := by omega
      exact ⟨w, by omega, w2, by rw [gr_un ne]; exact w3, by rw [gr_un ne]; exact w4⟩
    · exact ⟨v, by omega, hv, by rw [gr_us]; omega, by rw [gr_us]; exact hk⟩
  · by_cases c : k < m
    · rw [(fr k c).1] at c8
      obtain ⟨w, w1, w2, w3⟩ := i5 k c c8
      exact ⟨w, by omega, w2, by rw [(k8 k c).2.2.2]; exact w3⟩
    · refine ⟨v, by omega, hv, ?_⟩
      have all := k2.2.2.2.2 (fun j => ∀ c, c ∈ tr_pre (g (src' j)) → c ∈ tr_pre (g (nrt v - 1))) (fun c hc => ?_) (fun j hj _ hcj sj => ?_) k (Or.inl ⟨by omega, hk⟩)
      · refine all _ ?_
        obtain ⟨a1, a2, a3⟩ := k1.1 k hk
        rw [gg _ a1 (Or.inr (by rw [← a3]; exact c8)), tr_pre_at]
        exact List.mem_cons_self
      · rw [k9] at hc
        rw [gr_to_V W hg hr hrn]; exact hc
      · obtain ⟨a1, a2, a3⟩ := k1.1 j hj
        obtain ⟨b1, b2, b3, b4, _⟩ := k1.2.1 j hj (by simp) hcj
        rw [a3] at hcj
        have w := (W _ a1).2 hcj
        rw [gr_Vc hg a1 hcj, tr_pre_con] at sj
        by_cases t34 : kd (src' j) = 3 ∨ kd (src' j) = 4
        · rw [if_pos t34] at sj
          have p1 : ∀ c, c ∈ tr_pre (g (src' (ka' j))) → c ∈ tr_pre (g (nrt v - 1)) := fun c hc => sj c (List.mem_cons_of_mem _ (by rw [gr_to_V W hg b3 w.1]; exact hc))
          refine ⟨p1, ?_⟩
          have e := (k1.2.1 j hj (by simp) (by rw [a3]; exact hcj)).2.2.2.2 (by rw [a3]; omega)
          rw [e]; exact p1
        · rw [if_neg t34] at sj
          exact ⟨fun c hc => sj c (List.mem_cons_of_mem _ (List.mem_append_left _ (by rw [gr_to_V W hg b3 w.1]; exact hc))), fun c hc => sj c (List.mem_cons_of_mem _ (List.mem_append_right _ (by rw [gr_to_V W hg b4 w.2]; exact hc)))⟩
theorem kn_skip {nrt : Nat → Nat} {v m : Nat} {kk ka kb src rt lo hi : Nat → Nat} (I : kn_I n kd pa pb g nrt v m kk ka kb src rt lo hi) (hv : nrt v = 0) : kn_I n kd pa pb g nrt (v + 1) m kk ka kb src (gr_u rt v 0) lo (gr_u hi v 0) := by
  obtain ⟨i1, i2, i3, i4, i5⟩ := I
  refine ⟨i1, by omega, fun w hw => ?_, fun k hk => ?_, fun k hk c8 => ?_⟩
  · by_cases c : w = v
    · subst c
      exact Or.inl ⟨hv, gr_us, gr_us⟩
    · have z := i3 w (by omega)
      unfold kn_1 at z ⊢
      rw [gr_un c, gr_un c]
      exact z
  · obtain ⟨w, w1, w2, w3, w4⟩ := i4 k hk
    have ne : w ≠ v := by omega
    exact ⟨w, by omega, w2, w3, by rw [gr_un ne]; exact w4⟩
  · obtain ⟨w, w1, w2, w3⟩ := i5 k hk c8
    exact ⟨w, by omega, w2, w3⟩
theorem kn_end {nrt : Nat → Nat} {m : Nat} {kk ka kb src rt lo hi : Nat → Nat} (W : gr_W n kd pa pb) (A : gr_A n kd pa pb) (hk : ∀ i, i < n → kd i < 9 ∨ kd i = 1000) (hg : gr_V n kd pa pb g) (gg : gr_gen n kd g) (hrn : ∀ v, v < 12 → nrt v ≠ 0 → nrt v - 1 < n) (h12 : ∀ v, v < 12 → (kl_L nrt g v).length ≤ 12) (dis : ∀ v w j, v < 12 → w < 12 → nrt v ≠ 0 → nrt w ≠ 0 → v ≠ w → 1001 + j ∈ tr_pre (g (nrt v - 1)) → 1001 + j ∈ tr_pre (g (nrt w - 1)) → kd j = 8 → False) (I : kn_I n kd pa pb g nrt 12 m kk ka kb src rt lo hi) :
    ∃ gK, ky_K m kk ka kb rt lo hi gK ∧ (∀ v, v < 12 → ky_d kk rt gK v = nm_d (kp_c kd) (kl_L nrt g) v) ∧ (ky_o kk rt gK).length = (nm_S (kp_c kd) (kl_L nrt g) 12).length ∧ ky_X kk rt gK := by
  obtain ⟨i1, i2, i3, i4, i5⟩ := I
  have eL : ∀ v, v < 12 → kp_L rt src g v = kl_L nrt g v := fun v hv => by
    unfold kp_L kl_L
    rcases i3 v hv with z | ⟨z1, z2, z3, _⟩
    · rw [if_pos z.1, if_pos z.2.1]
    · rw [if_neg z1, if_neg z2, gr_to_V W hg z3 (hrn v hv z1)]
  have hv : ∀ v, v < 12 → rt v ≤ m ∧ hi v ≤ lo v + 12 ∧ hi v ≤ m ∧ (kp_L rt src g v).length ≤ 12 ∧ (rt v ≠ 0 → kk (rt v - 1) = 7 ∨ (lo v ≤ rt v - 1 ∧ rt v - 1 < hi v)) ∧ ∀ i, lo v ≤ i → i < hi v → gr_cn (kk i) → (kk (ka i) = 7 ∨ (lo v ≤ ka i ∧ ka i < hi v)) ∧ (kk (kb i) = 7 ∨ (lo v ≤ kb i ∧ kb i < hi v)) := by
    intro v hv
    have l12 := h12 v hv
    rw [← eL v hv] at l12
    rcases i3 v hv with z | ⟨z1, z2, z3, z4, z5, z6, z7⟩
    · exact ⟨by omega, by omega, by omega, l12, fun y => (y z.2.1).elim, fun i h1 h2 => by omega⟩
    · have rl := z6.1.1
      refine ⟨by omega, z4, z5, l12, fun _ => ?_, fun i h1 h2 hc => ?_⟩
      · rcases z6.1.2 with e | e
        · exact Or.inl e
        · exact Or.inr ⟨e, rl⟩
      · have p := z6.2.2.2.1 i h1 h2 (by simp) hc
        have y := z7 i h1 h2 hc
        exact ⟨p.1.elim Or.inl (fun e => Or.inr ⟨e, y.1⟩), p.2.elim Or.inl (fun e => Or.inr ⟨e, y.2⟩)⟩
  have reach : ∀ S : Nat → Prop, gr_C m kk ka kb S → (∀ v, v < 12 → rt v ≠ 0 → S (rt v - 1)) → ∀ i, i < m → S i := by
    intro S hS hr i hi'
    obtain ⟨w, w1, w2, w3, w4⟩ := i4 i hi'
    rcases i3 w w1 with z | ⟨z1, z2, z3, z4, z5, z6, z7⟩
    · exact (w2 z.1).elim
    · exact z6.2.2.2.2 S (hr w w1 z2) (fun k hk' _ hc sk => (hS k sk).2.2 hc) i (Or.inl ⟨w3, w4⟩)
  obtain ⟨gK, q1, q2, q3, q4⟩ := kp_K (kp_fin i1) W A hk hg gg (by omega) hv reach
  refine ⟨gK, q1, fun v hv => ?_, ?_, fun v w j hv hw ne hjv hjw c8 => ?_⟩
  · rw [q2 v hv]; exact nm_d_cg (fun w hw => eL w (by omega))
  · rw [q3, nm_S_cg 12 eL]
  · have pv : kp_p src (1001 + j) = 1001 + src j := by
      unfold kp_p
      rw [if_neg (by omega), Nat.add_sub_cancel_left]
    have mem : ∀ u, u < 12 → 1001 + j ∈ ky_L rt gK u → nrt u ≠ 0 ∧ 1001 + src j ∈ tr_pre (g (nrt u - 1)) := fun u hu h => by
      have m1 : 1001 + src j ∈ kl_L nrt g u := by
        rw [← eL u hu, q4 u hu, ← pv]
        exact List.mem_map.mpr ⟨_, h, rfl⟩
      unfold kl_L at m1
      by_cases z : nrt u = 0
      · rw [if_pos z] at m1; cases m1
      · rw [if_neg z] at m1; exact ⟨z, m1⟩
    obtain ⟨a1, a2⟩ := mem v hv hjv
    obtain ⟨b1, b2⟩ := mem w hw hjw
    have jm : j < m := by
      rcases ky_in q1 hv hjv with z | ⟨j', e, hj', _⟩
      · omega
      · omega
    exact dis v w (src j) hv hw a1 b1 ne a2 b2 (by rw [← (i1.1 j jm).2.2]; exact c8)
end
section
variable {f_count f_accepted f_place f_kept f_nodes f_tt f_pos f_bad f_typing f_unbound f_clash f_top f_scope f_doneName f_doneType : Int32} {a_kind a_value a_keptKind a_keptA a_keptB a_root a_what a_partA a_partB a_mark a_twin a_walk a_pairs a_now a_todo a_types a_firm a_bound a_boundType : Nat → Int32}
variable {kd pa pb : Nat → Nat} {n K : Nat} {g : Nat → tr_T}
theorem yw_179 {post : Int32 → SY → Prop} {nrt : Nat → Nat} (hn : n ≤ 2000) (W : gr_W n kd pa pb) (A : gr_A n kd pa pb) (hG : yg_G n a_what a_partA a_partB kd pa pb) (hL : gr_L n kd pa K) (hg : gr_V n kd pa pb g) (gg : gr_gen n kd g) (h9 : ∀ i, i < n → kd i < 9 ∨ kd i = 1000) (hR : y_R a_now nrt) (hrn : ∀ v, v < 12 → nrt v ≠ 0 → nrt v - 1 < n) (h12 : ∀ v, v < 12 → nrt v ≠ 0 → (tr_pre (g (nrt v - 1))).length ≤ 12)
    (dis : ∀ v w j, v < 12 → w < 12 → nrt v ≠ 0 → nrt w ≠ 0 → v ≠ w → 1001 + j ∈ tr_pre (g (nrt v - 1)) → 1001 + j ∈ tr_pre (g (nrt w - 1)) → kd j = 8 → False)
    (h : ∀ m kk ka kb src rt lo hi qk qa qb rta mk pr, kn_I n kd pa pb g nrt 12 m kk ka kb src rt lo hi → yk_G m qk qa qb kk ka kb → y_R rta rt → post 0 (f_count, f_accepted, f_place, nI m, f_nodes, f_tt, f_pos, f_bad, f_typing, f_unbound, f_clash, f_top, f_scope, f_doneName, f_doneType, a_kind, a_value, qk, qa, qb, rta, a_what, a_partA, a_partB, mk, a_twin, a_walk, pr, a_now, a_todo, a_types, a_firm, a_bound, a_boundType)) :
    ∀ d v m kk ka kb src rt lo hi qk qa qb rta mk pr, v + d = 12 → kn_I n kd pa pb g nrt v m kk ka kb src rt lo hi → yk_H m [] qk qa qb kk ka kb → kp_M n kd src m mk → (∀ w, w < v → rta w = mk_v' (rt w)) → wY_declare_179 post (d + 1) (nI v) f_count f_accepted f_place (nI m) f_nodes f_tt f_pos f_bad f_typing f_unbound f_clash f_top f_scope f_doneName f_doneType a_kind a_value qk qa qb rta a_what a_partA a_partB mk a_twin a_walk pr a_now a_todo a_types a_firm a_bound a_boundType := by
  intro d
  induction d with
  | zero =>
    intro v m kk ka kb src rt lo hi qk qa qb rta mk pr hv I H M hr
    have e : v = 12 := by omega
    subst e
    exact br_t (Int32.le_refl _) (h m kk ka kb src rt lo hi qk qa qb rta mk pr I (fun i hi' => ⟨(H i hi').1, (H i hi').2.1, fun c => (H i hi').2.2 c (by simp)⟩) (fun w hw => hr w hw))
  | succ d ih =>
    intro v m kk ka kb src rt lo hi qk qa qb rta mk pr hv I H M hr
    have vv : vp_in (nI v) 12 := vp_in_nI (by omega) (by decide)
    have cv : (nI v).toNatClampNeg = v := nI_clamp (by omega)
    refine br_f (nI_ge (b := 12) (by omega) (by decide)) ⟨vv, ?_⟩
    rw [cv, hR v (by omega)]
    unfold mk_v'
    by_cases z : nrt v = 0
    · rw [if_pos z]
      refine br_f (by decide) ⟨vv, nm_r (e' := upd rta v (-1)) rfl (nm_r (nI_1 v) (ih (v + 1) m kk ka kb src _ _ _ qk qa qb _ mk pr (by omega) (kn_skip I z) H M (fun w hw => ?_)))⟩
      by_cases c : w = v
      · rw [c, pk_us, gr_us]; rfl
      · rw [pk_un c, gr_un c]; exact hr w (by omega)
    · rw [if_neg z]
      have rn := hrn v (by omega) z
      refine br_t (nI_pos' (by omega)) ⟨vv, ?_⟩
      refine yw_keep (Lb := fun c => c ∈ tr_pre (g (nrt v - 1))) (T := (tr_pre (g (nrt v - 1))).length) hn W A hG hL hg gg h9 rn rfl (h12 v (by omega) z) (by have := I.2.1; omega) I.1 H M (fun c hc => hc) (fun k hk c8 lb => ?_) (fun q r0 r m' kk' ka' kb' src' qk' qa' qb' mk' pr' hr' hs' Kq H' M' l1 l2 l3 => ⟨vv, ?_⟩)
      · obtain ⟨w, w1, w2, w3⟩ := I.2.2.2.2 k hk c8
        have a3 := (I.1.1 k hk).2.2
        exact dis v w (src k) (by omega) (by omega) z w2 (by omega) lb w3 (by rw [← a3]; exact c8)
      · have I2 := kn_next W hg gg I z (h12 v (by omega) z) hr' rn Kq l2
        have m12 := I2.2.1
        rw [ys_nn (by omega)]
        refine nm_e (nm_r (nI_1 v) (ih (v + 1) m' kk' ka' kb' src' _ _ _ qk' qa' qb' _ mk' pr' (by omega) I2 H' M' (fun w hw => ?_)))
        by_cases c : w = v
        · rw [c, pk_us, gr_us]
          unfold mk_v'
          rw [if_neg (by omega), Nat.add_sub_cancel]
        · rw [pk_un c, gr_un c]; exact hr w (by omega)
theorem yw_110 {post : Int32 → SY → Prop} {nrt : Nat → Nat} {ac : Nat} (hac : ac < 20) (hn : n ≤ 2000) (W : gr_W n kd pa pb) (A : gr_A n kd pa pb) (hG : yg_G n a_what a_partA a_partB kd pa pb) (hL : gr_L n kd pa K) (hg : gr_V n kd pa pb g) (gg : gr_gen n kd g) (h9 : ∀ i, i < n → kd i < 9 ∨ kd i = 1000) (hR : y_R a_now nrt) (hrn : ∀ v, v < 12 → nrt v ≠ 0 → nrt v - 1 < n)
    (dis : ∀ v w j, v < 12 → w < 12 → nrt v ≠ 0 → nrt w ≠ 0 → v ≠ w → 1001 + j ∈ tr_pre (g (nrt v - 1)) → 1001 + j ∈ tr_pre (g (nrt w - 1)) → kd j = 8 → False)
    (hlg : (∃ v, v < 12 ∧ 12 < (kl_L nrt g v).length) → ∀ wk, post 4 (f_count, nI ac, f_place, f_kept, nI n, f_tt, f_pos, f_bad, f_typing, f_unbound, f_clash, f_top, f_scope, f_doneName, f_doneType, a_kind, a_value, a_keptKind, a_keptA, a_keptB, a_root, a_what, a_partA, a_partB, a_mark, a_twin, wk, a_pairs, a_now, a_todo, a_types, a_firm, a_bound, a_boundType))
    (h : (∀ v, v < 12 → (kl_L nrt g v).length ≤ 12) → ∀ m kk ka kb rt lo hi gK qk qa qb rta mk pr wk, ky_K m kk ka kb rt lo hi gK → (∀ v, v < 12 → ky_d kk rt gK v = nm_d (kp_c kd) (kl_L nrt g) v) → (ky_o kk rt gK).length = (nm_S (kp_c kd) (kl_L nrt g) 12).length → ky_X kk rt gK → yk_G m qk qa qb kk ka kb → y_R rta rt → post 0 (0, nI (ac + 1), (-1), nI m, nI n, f_tt, f_pos, f_bad, f_typing, f_unbound, f_clash, f_top, f_scope, f_doneName, f_doneType, a_kind, a_value, qk, qa, qb, rta, a_what, a_partA, a_partB, mk, a_twin, wk, pr, a_now, a_todo, a_types, a_firm, a_bound, a_boundType)) :
    ∀ d v wk, v + d = 12 → (∀ w, w < v → (kl_L nrt g w).length ≤ 12) → wY_declare_110 post (d + 1) (nI v) f_count (nI ac) f_place f_kept (nI n) f_tt f_pos f_bad f_typing f_unbound f_clash f_top f_scope f_doneName f_doneType a_kind a_value a_keptKind a_keptA a_keptB a_root a_what a_partA a_partB a_mark a_twin wk a_pairs a_now a_todo a_types a_firm a_bound a_boundType := by
  intro d
  induction d with
  | zero =>
    intro v wk hv hl
    have e : v = 12 := by omega
    subst e
    have h12 : ∀ v, v < 12 → nrt v ≠ 0 → (tr_pre (g (nrt v - 1))).length ≤ 12 := fun v hv z => by
      have := hl v hv
      unfold kl_L at this
      rw [if_neg z] at this
      exact this
    refine br_t (Int32.le_refl _) (nm_r (nI_1 ac) (yw_unmark hn (fun mk hz => ⟨13, ?_⟩)))
    refine yw_179 hn W A hG hL hg gg h9 hR hrn h12 dis (fun m kk ka kb src rt lo hi qk qa qb rta mk' pr I G R => ?_) 12 0 0 (fun _ => 0) (fun _ => 0) (fun _ => 0) (fun _ => 0) (fun _ => 0) (fun _ => 0) (fun _ => 0) _ _ _ _ mk _ (by omega) ?_ (fun i hi => by omega) (fun i hi _ => Or.inr ⟨fun k hk => by omega, hz i hi⟩) (fun w hw => by omega)
    · obtain ⟨gK, q1, q2, q3, q4⟩ := kn_end W A h9 hg gg hrn hl dis I
      exact h hl m kk ka kb rt lo hi gK qk qa qb rta mk' pr wk q1 q2 q3 q4 G R
    · exact ⟨⟨fun k hk => by omega, fun k hk => by omega, fun k k' hk => by omega, fun k hk => (by cases hk)⟩, Nat.zero_le _, fun w hw => by omega, fun k hk => by omega, fun k hk => by omega⟩
  | succ d ih =>
    intro v wk hv hl
    have vv : vp_in (nI v) 12 := vp_in_nI (by omega) (by decide)
    have cv : (nI v).toNatClampNeg = v := nI_clamp (by omega)
    refine br_f (nI_ge (b := 12) (by omega) (by decide)) ⟨vv, ?_⟩
    rw [cv, hR v (by omega)]
    unfold mk_v'
    by_cases z : nrt v = 0
    · rw [if_pos z]
      refine br_t (by decide) (nm_r (nI_1 v) (ih (v + 1) wk (by omega) (fun w hw => ?_)))
      by_cases c : w = v
      · rw [c]; unfold kl_L; rw [if_pos z]; exact Nat.zero_le _
      · exact hl w (by omega)
    · rw [if_neg z]
      have rn := hrn v (by omega) z
      have eL : kl_L nrt g v = tr_pre (g (nrt v - 1)) := if_neg z
      refine br_f (nI_pos (by omega)) ⟨vv, ?_⟩
      refine yw_written hn W A hG hL hg gg rn (fun wk' r r15 rl rle => ?_)
      by_cases c : r ≤ 12
      · refine br_t (nI_le (b := 12) c (by decide)) (nm_r (nI_1 v) (ih (v + 1) wk' (by omega) (fun w hw => ?_)))
        by_cases e : w = v
        · rw [e, eL, ← rl (by omega)]; exact c
        · exact hl w (by omega)
      · exact br_f (nI_ge (a := 12) (by omega) (by omega)) (hlg ⟨v, by omega, by rw [eL]; omega⟩ wk')
end
