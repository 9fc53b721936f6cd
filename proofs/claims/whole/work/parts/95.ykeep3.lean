/-! the reference keeps one type -/
theorem yk_Hm {m : Nat} {P Q : List Nat} {qk qa qb : Nat → Int32} {kk ka kb : Nat → Nat} (h : yk_H m P qk qa qb kk ka kb) (s : ∀ j, j ∈ P → j ∈ Q) : yk_H m Q qk qa qb kk ka kb := fun i hi => ⟨(h i hi).1, (h i hi).2.1, fun c n => (h i hi).2.2 c (fun z => n (s i z))⟩
theorem yk_Ha {m k : Nat} {Q : List Nat} {qk qa qb : Nat → Int32} {kk ka kb : Nat → Nat} {x : Int32} (h : yk_H m Q qk qa qb kk ka kb) (hk : k ∈ Q) (h7 : kk k ≠ 7) : yk_H m Q qk (upd qa k x) qb kk ka kb := by
  intro i hi
  by_cases c : i = k
  · subst c
    exact ⟨(h i hi).1, fun z => (h7 z).elim, fun _ n => (n hk).elim⟩
  · rw [pk_un c]; exact h i hi
theorem yk_Hb {m k : Nat} {Q : List Nat} {qk qa qb : Nat → Int32} {kk ka kb : Nat → Nat} {x : Int32} (h : yk_H m Q qk qa qb kk ka kb) (hk : k ∈ Q) : yk_H m Q qk qa (upd qb k x) kk ka kb := by
  intro i hi
  by_cases c : i = k
  · subst c
    exact ⟨(h i hi).1, (h i hi).2.1, fun _ n => (n hk).elim⟩
  · rw [pk_un c]; exact h i hi
theorem yk_Hf {m k a b : Nat} {Q P : List Nat} {qk qa qb : Nat → Int32} {kk ka kb : Nat → Nat} (h : yk_H m Q qk qa qb kk ka kb) (ha : qa k = nI a) (hb : 5 ≤ kk k → qb k = nI b) (s : ∀ j, j ∈ Q → j = k ∨ j ∈ P ∨ ¬ gr_cn (kk j)) : yk_H m P qk qa qb kk (gr_u ka k a) (gr_u kb k b) := by
  intro i hi
  refine ⟨(h i hi).1, (h i hi).2.1, fun c n => ?_⟩
  by_cases e : i = k
  · subst e
    rw [gr_us, gr_us]; exact ⟨ha, hb⟩
  · rw [gr_un e, gr_un e]
    exact (h i hi).2.2 c (fun z => (s i z).elim e (fun y => y.elim n (fun y => y c)))
section
variable {f_count f_accepted f_place f_kept f_nodes f_tt f_pos f_bad f_typing f_unbound f_clash f_top f_scope f_doneName f_doneType : Int32} {a_kind a_value a_keptKind a_keptA a_keptB a_root a_what a_partA a_partB a_mark a_twin a_walk a_pairs a_now a_todo a_types a_firm a_bound a_boundType : Nat → Int32}
variable {kd pa pb : Nat → Nat} {n K m : Nat} {g : Nat → tr_T} {kk ka kb src : Nat → Nat}
theorem yw_slotK {post : Int32 → SY → Prop} {i r : Nat} {Q : List Nat} (hn : n ≤ 2000) (hG : yg_G n a_what a_partA a_partB kd pa pb) (hL : gr_L n kd pa K) (W : gr_W n kd pa pb) (hi : i < n) (ir : gr_to kd pa i r) (hm : m < 180) (M : kp_M n kd src m a_mark) (h9 : kd r < 9) (H : yk_H m Q a_keptKind a_keptA a_keptB kk ka kb) (hlt : ∀ k, k < m → kd (src k) ≠ 1000)
    (h : ∀ m' kk' src' a Q' qk qa mk, kp_SA kd m kk src r m' kk' src' a → kp_M n kd src' m' mk → yk_H m' Q' qk qa a_keptB kk' ka kb → (∀ j, j ∈ Q' → j ∈ Q ∨ j = a) → (∀ j, j ∈ Q → j ∈ Q') → (∀ j, j < m → qa j = a_keptA j) → m ≤ m' → m' ≤ m + 1 → a < m' → post (nI a) (f_count, f_accepted, f_place, nI m', f_nodes, f_tt, f_pos, f_bad, f_typing, f_unbound, f_clash, f_top, f_scope, f_doneName, f_doneType, a_kind, a_value, qk, qa, a_keptB, a_root, a_what, a_partA, a_partB, mk, a_twin, a_walk, a_pairs, a_now, a_todo, a_types, a_firm, a_bound, a_boundType)) : wpY_slot post (f_count, f_accepted, f_place, nI m, f_nodes, f_tt, f_pos, f_bad, f_typing, f_unbound, f_clash, f_top, f_scope, f_doneName, f_doneType, a_kind, a_value, a_keptKind, a_keptA, a_keptB, a_root, a_what, a_partA, a_partB, a_mark, a_twin, a_walk, a_pairs, a_now, a_todo, a_types, a_firm, a_bound, a_boundType) (nI i) := by
  refine yw_slot hn hG hL W hi ir hm M h9 (fun k h1 h2 h3 => ?_) (fun hf mk M' => ?_)
  · exact h m kk src k Q _ _ _ (Or.inl ⟨rfl, rfl, rfl, h1, h2, h3⟩) M H (fun j hj => Or.inl hj) (fun j hj => hj) (fun j _ => rfl) (Nat.le_refl _) (by omega) h1
  · refine h (m + 1) (gr_u kk m (kd r)) (gr_u src m r) m (m :: Q) _ _ mk (Or.inr ⟨rfl, rfl, rfl, rfl, hf⟩) M' (fun j hj => ?_) (fun j hj => (List.mem_cons.mp hj).elim Or.inr Or.inl) (fun j hj => List.mem_cons_of_mem _ hj) (fun j hj => pk_un (by omega)) (by omega) (Nat.le_refl _) (by omega)
    by_cases c : j = m
    · subst c
      rw [pk_us, pk_us, gr_us]
      exact ⟨rfl, fun _ => rfl, fun _ z => (z List.mem_cons_self).elim⟩
    · rw [pk_un c, pk_un c, gr_un c]
      exact ⟨(H j (by omega)).1, (H j (by omega)).2.1, fun z1 z2 => (H j (by omega)).2.2 z1 (fun z => z2 (List.mem_cons_of_mem _ z))⟩
theorem yw_keep_l {post : Int32 → SY → Prop} {Lb : Nat → Prop} {lo r0 s0 T : Nat} {kk0 ka0 kb0 src0 : Nat → Nat} (hn : n ≤ 2000) (W : gr_W n kd pa pb) (A : gr_A n kd pa pb) (hG : yg_G n a_what a_partA a_partB kd pa pb) (hL : gr_L n kd pa K) (hg : gr_V n kd pa pb g) (gg : gr_gen n kd g) (h9 : ∀ i, i < n → kd i < 9 ∨ kd i = 1000) (hT : T ≤ 12) (hlo : lo ≤ 132)
    (h : ∀ q m kk ka kb src qk qa qb mk pr, kq_I n kd pa pb g Lb lo r0 s0 T q m kk ka kb src [] kk0 ka0 kb0 src0 → yk_H m [] qk qa qb kk ka kb → kp_M n kd src m mk → post (nI r0) (f_count, f_accepted, f_place, nI m, f_nodes, f_tt, f_pos, f_bad, f_typing, f_unbound, f_clash, f_top, f_scope, f_doneName, f_doneType, a_kind, a_value, qk, qa, qb, a_root, a_what, a_partA, a_partB, mk, a_twin, a_walk, pr, a_now, a_todo, a_types, a_firm, a_bound, a_boundType)) :
    ∀ d q PP m kk ka kb src qk qa qb mk pr, kz g PP ≤ d → kq_I n kd pa pb g Lb lo r0 s0 T q m kk ka kb src PP kk0 ka0 kb0 src0 → yk_H m (PP.map Prod.snd) qk qa qb kk ka kb → kp_M n kd src m mk → st_q pr PP → wY_keep_27 post (nI r0) (d + 1) (nI PP.length) f_count f_accepted f_place (nI m) f_nodes f_tt f_pos f_bad f_typing f_unbound f_clash f_top f_scope f_doneName f_doneType a_kind a_value qk qa qb a_root a_what a_partA a_partB mk a_twin a_walk pr a_now a_todo a_types a_firm a_bound a_boundType := by
  intro d
  induction d with
  | zero =>
    intro q PP m kk ka kb src qk qa qb mk pr hz I H M st
    have lz := kz_len W A hg gg PP (fun p hp => by
      obtain ⟨e1, e2, _⟩ := I.2.2.1 p hp
      rw [← e1]; exact (I.1.1 p.2 e2).1)
    have e : PP = [] := List.eq_nil_of_length_eq_zero (by omega)
    subst e
    exact br_t (Int32.le_refl _) (h q m kk ka kb src qk qa qb mk pr I H M)
  | succ d ih =>
    intro q PP m kk ka kb src qk qa qb mk pr hz I H M st
    cases PP with
    | nil => exact br_t (Int32.le_refl _) (h q m kk ka kb src qk qa qb mk pr I H M)
    | cons p PP =>
      obtain ⟨t, k⟩ := p
      have pn : ∀ p, p ∈ (t, k) :: PP → p.1 < n := fun p hp => by
        obtain ⟨e1, e2, _⟩ := I.2.2.1 p hp
        rw [← e1]; exact (I.1.1 p.2 e2).1
      have lz := kz_len W A hg gg _ pn
      obtain ⟨p1, p2, p3⟩ := I.2.2.1 (t, k) List.mem_cons_self
      have p1 : src k = t := p1
      have p2 : k < m := p2
      obtain ⟨u1, u2, u3⟩ := I.1.1 k p2
      rw [p1] at u1 u2 u3
      have i5 := I.2.2.2.2.1
      have i6 := I.2.2.2.2.2.1
      rw [List.length_cons] at i5 lz
      have m180 : m + 2 < 180 := by omega
      have hsrc : ∀ k, k < m → kd (src k) ≠ 1000 := fun k hk => (I.1.1 k hk).2.1
      have ct : (nI t).toNatClampNeg = t := nI_clamp (by omega)
      have ck : (nI k).toNatClampNeg = k := nI_clamp (by omega)
      have cL : (nI PP.length).toNatClampNeg = PP.length := nI_clamp (by omega)
      have cL1 : (nI (PP.length + 1)).toNatClampNeg = PP.length + 1 := nI_clamp (by omega)
      have vt : vp_in (nI t) 2000 := vp_in_nI (by omega) (by decide)
      have vk : vp_in (nI k) 180 := vp_in_nI (by omega) (by decide)
      have vL : vp_in (nI PP.length) 2100 := vp_in_nI (by omega) (by decide)
      have zt := wk_len W A hg gg u1
      have ez : kz g ((t, k) :: PP) = (tr_pre (g t)).length + kz g PP := rfl
      rw [List.length_cons]
      refine br_f (nI_nle (by omega) (by omega)) ?_
      rw [pk_m1]
      refine nm_e ⟨vL, ?_⟩
      have st1 : pr PP.length = nI (t * 4096 + k) := st.1
      rw [cL, st1, yp_s (by omega) (by omega), yp_t (by omega) (by omega)]
      refine nm_e ⟨vL, nm_e ⟨vt, ?_⟩⟩
      rw [ct]
      refine yw_p hG u1 u2 (fun c => ?_) (fun c c4 ea eb => ?_) (fun c c5 ea eb => ?_)
      · refine br_t (by decide) ?_
        unfold wY_keep_123
        have hck : ¬ gr_cn (kk k) := by rw [u3]; exact c
        refine br_t (by decide) (ih (q + 1) PP m kk ka kb src qk qa qb mk pr (by omega) (kq_done zt I hck) ?_ M st.2)
        intro i hi
        refine ⟨(H i hi).1, (H i hi).2.1, fun z1 z2 => (H i hi).2.2 z1 (fun z => ?_)⟩
        rcases List.mem_cons.mp z with e | e
        · rw [e] at z1; exact hck z1
        · exact z2 e
      · have w := (W t u1).2 c
        have ta := gr_L_to hL w.1
        generalize gr_f kd pa K (pa t) = ra at ta
        have ran := gr_to_n W ta w.1
        have hck : gr_cn (kk k) := by rw [u3]; exact c
        have k4 : kk k ≤ 4 := by rw [u3]; exact c4
        have ra9 : kd ra < 9 := (h9 ra ran).resolve_right ta.1
        refine br_f (by decide) ⟨vt, ?_⟩
        rw [ea]
        refine yw_slotK hn hG hL W w.1 ta (by omega) M ra9 H hsrc (fun m1 kk1 src1 a Q1 qk1 qa1 mk1 sa M1 H1 s1 s2 s3 l1 l2 l3 => ⟨vk, ?_⟩)
        have kkk : kk1 k = kk k := by
          rcases sa with ⟨_, e, _⟩ | ⟨_, _, e, _⟩
          · rw [e]
          · rw [e, gr_un (by omega)]
        rw [ck, ys_nn (by omega)]
        refine nm_e (nm_r (nI_1 PP.length) ⟨vt, ?_⟩)
        rw [ea]
        refine yw_real hG hn hL w.1 ta ⟨vL, ?_⟩
        rw [yp_pair (by omega) (by omega)]
        refine nm_e ?_
        unfold wY_keep_123
        have kQ : k ∈ Q1 := s2 k (by simp)
        have I2 := kq_one W eb hg gg I hck k4 sa ta
        have ez2 : kz g ((ra, a) :: PP) = (tr_pre (g ra)).length + kz g PP := rfl
        have epre : (tr_pre (g t)).length = (tr_pre (g ra)).length + 1 := by
          rw [gr_Vc hg u1 c, tr_pre_con, if_pos (by omega), List.length_cons, gr_to_V W hg ta w.1]
        refine br_t (by decide) (ih (q + 1) ((ra, a) :: PP) m1 kk1 _ _ src1 qk1 _ qb mk1 _ (by omega) I2 ?_ M1 (st_qp st.2))
        refine yk_Hf (yk_Ha H1 kQ (by rw [kkk]; omega)) pk_us (fun z => by rw [kkk] at z; omega) (fun j hj => ?_)
        rcases s1 j hj with e | e
        · rcases List.mem_cons.mp e with e | e
          · exact Or.inl e
          · exact Or.inr (Or.inl (List.mem_cons_of_mem _ e))
        · exact Or.inr (Or.inl (by rw [e]; exact List.mem_cons_self))
      · have w := (W t u1).2 c
        have ta := gr_L_to hL w.1
        have tb := gr_L_to hL w.2
        generalize gr_f kd pa K (pa t) = ra at ta
        generalize gr_f kd pa K (pb t) = rb at tb
        have ran := gr_to_n W ta w.1
        have rbn := gr_to_n W tb w.2
        have hck : gr_cn (kk k) := by rw [u3]; exact c
        have k5 : 5 ≤ kk k := by rw [u3]; exact c5
        have ra9 : kd ra < 9 := (h9 ra ran).resolve_right ta.1
        have rb9 : kd rb < 9 := (h9 rb rbn).resolve_right tb.1
        refine br_f (by decide) ⟨vt, ?_⟩
        rw [ea]
        refine yw_slotK hn hG hL W w.1 ta (by omega) M ra9 H hsrc (fun m1 kk1 src1 a Q1 qk1 qa1 mk1 sa M1 H1 s1 s2 s3 l1 l2 l3 => ⟨vk, ?_⟩)
        have kkk : kk1 k = kk k := by
          rcases sa with ⟨_, e, _⟩ | ⟨_, _, e, _⟩
          · rw [e]
          · rw [e, gr_un (by omega)]
        rw [ck, ys_nn (by omega)]
        refine nm_e (nm_r (nI_1 PP.length) ⟨vt, ?_⟩)
        rw [ea]
        refine yw_real hG hn hL w.1 ta ⟨vL, ?_⟩
        rw [yp_pair (by omega) (by omega)]
        refine nm_e ?_
        unfold wY_keep_123
        have kQ : k ∈ Q1 := s2 k (by simp)
        refine br_f (by decide) ⟨vt, ?_⟩
        rw [ct, eb]
        have hsrc1 : ∀ k, k < m1 → kd (src1 k) ≠ 1000 := fun j hj => by
          rcases sa with ⟨e0, _, e, _⟩ | ⟨e0, _, _, e, _⟩
          · rw [e]; exact hsrc j (by omega)
          · rw [e]
            by_cases z : j = m
            · rw [z, gr_us]; exact ta.1
            · rw [gr_un z]; exact hsrc j (by omega)
        refine yw_slotK hn hG hL W w.2 tb (by omega) M1 rb9 (yk_Ha H1 kQ (by rw [kkk]; omega)) hsrc1 (fun m2 kk2 src2 b Q2 qk2 qa2 mk2 sb M2 H2 s1' s2' s3' l1' l2' l3' => ⟨vk, ?_⟩)
        have kkk2 : kk2 k = kk k := by
          rcases sb with ⟨_, e, _⟩ | ⟨_, _, e, _⟩
          · rw [e, kkk]
          · rw [e, gr_un (by omega), kkk]
        rw [ck, ys_nn (by omega)]
        refine nm_e (nm_r (nI_1 (PP.length + 1)) ⟨vt, ?_⟩)
        rw [eb]
        refine yw_real hG hn hL w.2 tb ⟨vp_in_nI (by omega) (by decide), ?_⟩
        rw [cL1, yp_pair (by omega) (by omega)]
        refine nm_e ?_
        have kQ2 : k ∈ Q2 := s2' k kQ
        have I2 := kq_two W hg gg I hck k5 sa sb ta tb
        have ez2 : kz g ((rb, b) :: (ra, a) :: PP) = (tr_pre (g rb)).length + ((tr_pre (g ra)).length + kz g PP) := rfl
        have epre : (tr_pre (g t)).length = (tr_pre (g ra)).length + (tr_pre (g rb)).length + 1 := by
          rw [gr_Vc hg u1 c, tr_pre_con, if_neg (by omega), List.length_cons, List.length_append, gr_to_V W hg ta w.1, gr_to_V W hg tb w.2]
        refine ih (q + 1) ((rb, b) :: (ra, a) :: PP) m2 kk2 _ _ src2 qk2 qa2 _ mk2 _ (by omega) I2 ?_ M2 (st_qp (L := (ra, a) :: PP) (st_qp st.2))
        refine yk_Hf (yk_Hb H2 kQ2) (by rw [s3' k (by omega)]; exact pk_us) (fun _ => pk_us) (fun j hj => ?_)
        rcases s1' j hj with e | e
        · rcases s1 j e with e | e
          · rcases List.mem_cons.mp e with e | e
            · exact Or.inl e
            · exact Or.inr (Or.inl (List.mem_cons_of_mem _ (List.mem_cons_of_mem _ e)))
          · exact Or.inr (Or.inl (by rw [e]; exact List.mem_cons_of_mem _ List.mem_cons_self))
        · exact Or.inr (Or.inl (by rw [e]; exact List.mem_cons_self))
theorem yw_keep {post : Int32 → SY → Prop} {Lb : Nat → Prop} {i T : Nat} (hn : n ≤ 2000) (W : gr_W n kd pa pb) (A : gr_A n kd pa pb) (hG : yg_G n a_what a_partA a_partB kd pa pb) (hL : gr_L n kd pa K) (hg : gr_V n kd pa pb g) (gg : gr_gen n kd g) (h9 : ∀ i, i < n → kd i < 9 ∨ kd i = 1000) (hi : i < n) (hT : T = (tr_pre (g i)).length) (hT12 : T ≤ 12) (hm : m ≤ 132) (I : kp_I n kd pa pb m kk ka kb src []) (H : yk_H m [] a_keptKind a_keptA a_keptB kk ka kb) (M : kp_M n kd src m a_mark) (hLb : ∀ c, c ∈ tr_pre (g i) → Lb c) (h8 : ∀ k, k < m → kk k = 8 → ¬ Lb (1001 + src k))
    (h : ∀ q r0 r m' kk' ka' kb' src' qk qa qb mk pr, gr_to kd pa i r → src' r0 = r → kq_I n kd pa pb g Lb m r0 r T q m' kk' ka' kb' src' [] kk ka kb src → yk_H m' [] qk qa qb kk' ka' kb' → kp_M n kd src' m' mk → r0 < m' → m' ≤ m + T → m ≤ m' → post (nI r0) (f_count, f_accepted, f_place, nI m', f_nodes, f_tt, f_pos, f_bad, f_typing, f_unbound, f_clash, f_top, f_scope, f_doneName, f_doneType, a_kind, a_value, qk, qa, qb, a_root, a_what, a_partA, a_partB, mk, a_twin, a_walk, pr, a_now, a_todo, a_types, a_firm, a_bound, a_boundType)) : wpY_keep post (f_count, f_accepted, f_place, nI m, f_nodes, f_tt, f_pos, f_bad, f_typing, f_unbound, f_clash, f_top, f_scope, f_doneName, f_doneType, a_kind, a_value, a_keptKind, a_keptA, a_keptB, a_root, a_what, a_partA, a_partB, a_mark, a_twin, a_walk, a_pairs, a_now, a_todo, a_types, a_firm, a_bound, a_boundType) (nI i) := by
  have ir := gr_L_to hL hi
  generalize gr_f kd pa K i = r at ir
  have rn := gr_to_n W ir hi
  have r9 : kd r < 9 := (h9 r rn).resolve_right ir.1
  have egr : tr_pre (g i) = tr_pre (g r) := by rw [gr_to_V W hg ir hi]
  have zt := wk_len W A hg gg hi
  unfold wpY_keep
  refine yw_slotK hn hG hL W hi ir (by omega) M r9 H (fun k hk => (I.1 k hk).2.1) (fun m1 kk1 src1 a Q1 qk1 qa1 mk1 sa M1 H1 s1 s2 s3 l1 l2 l3 => ?_)
  refine nm_e (yw_real hG hn hL hi ir ?_)
  rw [yp_pair (by omega) (by omega)]
  refine nm_e ⟨T + 1, ?_⟩
  obtain ⟨Q, q1, q2, q3, q4, q5, q6, q7, q8, q9, q10, q11⟩ := kp_SAi I sa rn ir.1
  have oa : kk1 a = 7 ∨ m ≤ a := by
    by_cases z : m ≤ a
    · exact Or.inr z
    · rcases q11 (by omega) with c7 | c8
      · exact Or.inl c7
      · refine (h8 a (by omega) (by rw [← (q9 a (by omega)).1]; exact c8) (hLb _ ?_)).elim
        rw [← (q9 a (by omega)).2, q5, egr, gg r rn (Or.inr (by rw [← q6]; exact c8)), tr_pre_at]
        exact List.mem_cons_self
  have I1 : kq_I n kd pa pb g Lb m a r T 0 m1 kk1 ka kb src1 [(r, a)] kk ka kb src := by
    refine ⟨⟨q1.1, fun k hk hP hc => q1.2.1 k hk (fun z => ?_) hc, q1.2.2.1, fun k hk => ?_⟩, ⟨⟨q4, oa⟩, q7, fun k hk => ?_, fun k h1 h2 hP _ => ?_, fun S s0 _ k hk => ?_⟩, fun p hp => ?_, List.pairwise_singleton _ _, ?_, ?_, fun k hk c8 => ?_, fun k hk => ⟨(q9 k hk).1, rfl, rfl, (q9 k hk).2⟩, q5⟩
    · rcases q2 k z with e | e
      · cases e
      · exact hP (by rw [e]; exact List.mem_cons_self)
    · rw [List.mem_singleton.mp hk]; exact q4
    · rw [List.mem_singleton.mp hk]; exact oa
    · exact (hP (by rw [q10 k h1 h2]; exact List.mem_cons_self)).elim
    · rcases hk with e | e
      · rw [q10 k e.1 e.2]; exact s0
      · rw [List.mem_singleton.mp e]; exact s0
    · rw [List.mem_singleton.mp hp]
      exact ⟨q5, q4, fun c hc => hLb c (by rw [egr]; exact hc)⟩
    · show m1 ≤ m + 0 + 1
      omega
    · show 0 + ((tr_pre (g r)).length + 0) ≤ T
      rw [hT, egr]; omega
    · rw [(q9 k hk).1] at c8
      rw [(q9 k hk).2]
      exact h8 k hk c8
  refine yw_keep_l (r0 := a) hn W A hG hL hg gg h9 hT12 hm (fun q m2 kk2 ka2 kb2 src2 qk2 qa2 qb2 mk2 pr2 I2 H2 M2 => ?_) T 0 [(r, a)] m1 kk1 ka kb src1 qk1 qa1 _ mk1 _ (by show (tr_pre (g r)).length + 0 ≤ T; rw [hT, egr]; omega) I1 (yk_Hm H1 (fun j hj => ?_)) M1 (st_qp (L := []) trivial)
  · have i5 := I2.2.2.2.2.1
    have i6 := I2.2.2.2.2.2.1
    have e0 : kz g [] = 0 := rfl
    rw [List.length_nil] at i5
    exact h q a r m2 kk2 ka2 kb2 src2 qk2 qa2 qb2 mk2 pr2 ir I2.2.2.2.2.2.2.2.2 I2 H2 M2 I2.2.1.1.1 (by omega) I2.2.1.2.1
  · rcases s1 j hj with e | e
    · cases e
    · rw [e]; exact List.mem_cons_self
end
