/-! the reference's state while it reads a declaration -/
/-- the graph at work -/
def ya_G (kc : Nat) (kk ka kb rt : Nat → Nat) (g : Nat → tr_T) (nl n : Nat) (stk env : List Nat) (bs : List (Nat × Bool)) (V : dv_W) (wh pA pB : Nat → Int32) : Prop :=
  ∃ K kd pa pb, rp_I kc nl n kd pa pb (ky_o kk rt g) stk env bs V ∧ yg_G n wh pA pB kd pa pb ∧ gr_L n kd pa K ∧ yl_L kc kk ka kb (ky_o kk rt g) n kd pa pb
/-- typing goes on, or it is over: H says with which answer -/
def ya_W (H : Int32 → Int32 → Prop) (ty ub cl : Int32) (G : Prop) : Prop := (ty = 1 ∧ ub = -1 ∧ cl = -1 ∧ G) ∨ (ty = 0 ∧ H ub cl)
theorem ya_m {H : Int32 → Int32 → Prop} {ty ub cl : Int32} {G G' : Prop} (I : ya_W H ty ub cl G) (h : G → G') : ya_W H ty ub cl G' := by
  rcases I with ⟨a, b, c, d⟩ | z
  · exact Or.inl ⟨a, b, c, h d⟩
  · exact Or.inr z
section
variable {kc : Nat} {kk ka kb rt lo hi : Nat → Nat} {g : Nat → tr_T} {nl n : Nat} {stk env : List Nat} {bs : List (Nat × Bool)} {V : dv_W} {wh pA pB : Nat → Int32}
theorem ya_var (I : ya_G kc kk ka kb rt g nl n stk env bs V wh pA pB) : ya_G kc kk ka kb rt g nl (n + 1) (n :: stk) env bs (fun ν st E => ∃ τ st0, st = τ :: st0 ∧ V ν st0 E) (upd wh n 7) (upd pA n (-1)) (upd pB n (-1)) := by
  obtain ⟨K, kd, pa, pb, I, hG, hL, hl⟩ := I
  refine ⟨K, gr_u kd n 7, gr_u pa n 0, gr_u pb n 0, rp_var I, yg_mk (k := 7) (w := 7) hG (by omega) (by omega) rfl (fun _ => rfl) (fun z => by omega) (fun z => by omega), gr_L_n I.1 (gr_same_u (b := 0)) hL (by rw [gr_us]; omega), yl_ext hl (by omega) gr_same_u (fun i h1 h2 => Or.inl ?_)⟩
  have e : i = n := by omega
  rw [e, gr_us]; omega
theorem ya_leaf (I : ya_G kc kk ka kb rt g nl n stk env bs V wh pA pB) {k : Nat} (hk : k < 3) {x y : Int32} : ya_G kc kk ka kb rt g nl (n + 1) (n :: stk) env bs (fun ν st E => ∃ st0, st = tr_at k :: st0 ∧ V ν st0 E) (upd wh n (nI k)) (upd pA n x) (upd pB n y) := by
  obtain ⟨K, kd, pa, pb, I, hG, hL, hl⟩ := I
  refine ⟨K, gr_u kd n k, gr_u pa n 0, gr_u pb n 0, rp_leaf I (by omega) (by omega) (by omega), yg_mk (k := k) (w := k) hG (by omega) (by omega) (yk_l (by omega)).symm (fun z => by omega) (fun z => by omega) (fun z => by omega), gr_L_n I.1 (gr_same_u (b := 0)) hL (by rw [gr_us]; omega), yl_ext hl (by omega) gr_same_u (fun i h1 h2 => Or.inl ?_)⟩
  have e : i = n := by omega
  rw [e, gr_us]; omega
theorem ya_con (I : ya_G kc kk ka kb rt g nl n stk env bs V wh pA pB) {k a b : Nat} {y : Int32} (hk : gr_cn k) (ha : a ∈ stk ∨ a ∈ mo_l bs env) (hb : b ∈ stk ∨ b ∈ mo_l bs env) (h4 : k ≤ 4 → b = a) (h5 : 5 ≤ k → y = nI b) (A B : List tr_T → List tr_T → List tr_T → tr_T) (hA : ∀ ρ : Nat → tr_T, A ((ky_o kk rt g).map ρ) (stk.map ρ) (env.map ρ) = ρ a) (hB : ∀ ρ : Nat → tr_T, B ((ky_o kk rt g).map ρ) (stk.map ρ) (env.map ρ) = ρ b) : ya_G kc kk ka kb rt g nl (n + 1) (n :: stk) env bs (fun ν st E => ∃ st0, st = tr_con k (A ν st0 E) (B ν st0 E) :: st0 ∧ V ν st0 E) (upd wh n (nI k)) (upd pA n (nI a)) (upd pB n y) := by
  obtain ⟨K, kd, pa, pb, I, hG, hL, hl⟩ := I
  refine ⟨K, gr_u kd n k, gr_u pa n a, gr_u pb n b, rp_con I hk ha hb A B hA hB, yg_mk (k := k) (w := k) hG (by omega) (by omega) (yk_l (by omega)).symm (fun z => by omega) (fun _ => ⟨rfl, h5, h4⟩) (fun z => by omega), gr_L_n I.1 (gr_same_u (b := b)) hL (by rw [gr_us]; omega), yl_ext hl (by omega) gr_same_u (fun i h1 h2 => Or.inl ?_)⟩
  have e : i = n := by omega
  rw [e, gr_us]; omega
theorem ya_sel (I : ya_G kc kk ka kb rt g nl n stk env bs V wh pA pB) {stk' : List Nat} (f : List tr_T → List tr_T → List tr_T → List tr_T) (hs : ∀ x, x ∈ stk' → x ∈ stk ∨ x ∈ mo_l bs env) (hf : ∀ ρ : Nat → tr_T, f ((ky_o kk rt g).map ρ) (stk.map ρ) (env.map ρ) = stk'.map ρ) : ya_G kc kk ka kb rt g nl n stk' env bs (fun ν st' E => ∃ st, V ν st E ∧ f ν st E = st') wh pA pB := by
  obtain ⟨K, kd, pa, pb, I, r⟩ := I
  exact ⟨K, kd, pa, pb, rp_sel I f hs hf, r⟩
theorem ya_cg {V' : dv_W} (I : ya_G kc kk ka kb rt g nl n stk env bs V wh pA pB) (h : ∀ ν st E, V ν st E ↔ V' ν st E) : ya_G kc kk ka kb rt g nl n stk env bs V' wh pA pB := by
  obtain ⟨K, kd, pa, pb, I, r⟩ := I
  exact ⟨K, kd, pa, pb, rp_cg h I, r⟩
theorem ya_bind {t : Nat} (nm : Nat) (I : ya_G kc kk ka kb rt g nl n (t :: stk) env bs V wh pA pB) : ya_G kc kk ka kb rt g nl n stk (t :: env) ((nm, false) :: bs) (dv_bind V) wh pA pB := by
  obtain ⟨K, kd, pa, pb, I, r⟩ := I
  exact ⟨K, kd, pa, pb, rp_bind nm I, r⟩
theorem ya_unbind {t : Nat} {b : Nat × Bool} (I : ya_G kc kk ka kb rt g nl n stk (t :: env) (b :: bs) V wh pA pB) : ya_G kc kk ka kb rt g nl n stk env bs (dv_let V) wh pA pB := by
  obtain ⟨K, kd, pa, pb, I, r⟩ := I
  exact ⟨K, kd, pa, pb, rp_unbind I, r⟩
end
section
variable {kc : Nat} {kk ka kb rt lo hi : Nat → Nat} {g : Nat → tr_T} {nl n : Nat} {stk env : List Nat} {bs : List (Nat × Bool)} {V : dv_W} {wh pA pB : Nat → Int32}
/-- a node that nothing uses -/
theorem ya_skip (I : ya_G kc kk ka kb rt g nl n stk env bs V wh pA pB) {k : Nat} (hk : k < 3) {x y : Int32} : ya_G kc kk ka kb rt g nl (n + 1) stk env bs V (upd wh n (nI k)) (upd pA n x) (upd pB n y) := by
  refine ya_cg (ya_sel (ya_leaf I hk) (stk' := stk) (fun _ st _ => st.drop 1) (fun z hz => Or.inl (List.mem_cons_of_mem _ hz)) (fun ρ => rfl)) (fun ν st E => ?_)
  constructor
  · intro ⟨s1, ⟨s0, e, v⟩, e'⟩
    rw [← e', e]; exact v
  · intro v
    exact ⟨_, ⟨st, rfl, v⟩, rfl⟩
theorem ya_skipv (I : ya_G kc kk ka kb rt g nl n stk env bs V wh pA pB) : ya_G kc kk ka kb rt g nl (n + 1) stk env bs V (upd wh n 7) (upd pA n (-1)) (upd pB n (-1)) := by
  refine ya_cg (ya_sel (ya_var I) (stk' := stk) (fun _ st _ => st.drop 1) (fun z hz => Or.inl (List.mem_cons_of_mem _ hz)) (fun ρ => rfl)) (fun ν st E => ?_)
  constructor
  · intro ⟨s1, ⟨τ, s0, e, v⟩, e'⟩
    rw [← e', e]; exact v
  · intro v
    exact ⟨_, ⟨tr_at 0, st, rfl, v⟩, rfl⟩
end
section
variable {f_count f_accepted f_place f_kept f_nodes f_tt f_pos f_bad f_typing f_unbound f_clash f_top f_scope f_doneName f_doneType : Int32} {a_kind a_value a_keptKind a_keptA a_keptB a_root a_what a_partA a_partB a_mark a_twin a_walk a_pairs a_now a_todo a_types a_firm a_bound a_boundType : Nat → Int32}
variable {kc : Nat} {kk ka kb rt lo hi : Nat → Nat} {g : Nat → tr_T} {nl n : Nat} {stk env : List Nat} {bs : List (Nat × Bool)} {V : dv_W} {H : Int32 → Int32 → Prop} {ty ub cl : Int32}
theorem yw_dem {post : SY → Prop} {s t p : Nat} (HK : ky_K kc kk ka kb rt lo hi g) (hn : n ≤ 2000) (I : ya_W H ty ub cl (ya_G kc kk ka kb rt g nl n stk env bs V a_what a_partA a_partB)) (hs : s ∈ stk ∨ s ∈ mo_l bs env) (ht : t ∈ stk ∨ t ∈ mo_l bs env) (f : dv_W) (hf : ∀ ρ : Nat → tr_T, f ((ky_o kk rt g).map ρ) (stk.map ρ) (env.map ρ) ↔ ρ s = ρ t) (hbad : ty = 1 → (∀ ν st E, ¬ (V ν st E ∧ f ν st E)) → H (-1) (nI p))
    (h : ∀ ty' cl' wh pA mk wk pr, (ty' = 1 → ty = 1) → ya_W H ty' ub cl' (ya_G kc kk ka kb rt g nl n stk env bs (fun ν st E => V ν st E ∧ f ν st E) wh pA a_partB) → post (f_count, f_accepted, f_place, f_kept, nI n, f_tt, f_pos, f_bad, ty', ub, cl', f_top, f_scope, f_doneName, f_doneType, a_kind, a_value, a_keptKind, a_keptA, a_keptB, a_root, wh, pA, a_partB, mk, a_twin, wk, pr, a_now, a_todo, a_types, a_firm, a_bound, a_boundType)) :
    wpY_demand post (f_count, f_accepted, f_place, f_kept, nI n, f_tt, f_pos, f_bad, ty, ub, cl, f_top, f_scope, f_doneName, f_doneType, a_kind, a_value, a_keptKind, a_keptA, a_keptB, a_root, a_what, a_partA, a_partB, a_mark, a_twin, a_walk, a_pairs, a_now, a_todo, a_types, a_firm, a_bound, a_boundType) (nI s) (nI t) (nI p) := by
  rcases I with ⟨e1, e2, e3, K, kd, pa, pb, J, hG, hL, hl⟩ | ⟨e1, hh⟩
  · subst e1 e2 e3
    have J' := J
    obtain ⟨W, A, ⟨M, E, ⟨hM, gM, oM, sM, eM⟩, cE, mE, eE, bE⟩, en, hlen, hP, hV⟩ := J
    have ms : M s := hs.elim (sM s) (eM s)
    have mt : M t := ht.elim (sM t) (eM t)
    refine br_f (by decide) (yw_unify hn W hM gM ms mt hG hL (fun un wh pA mk wk pr => ?_) (fun kd' pa' K' S wh pA mk wk pr U G' L' hS h0 => ?_))
    · exact br_t rfl (h 0 (nI p) wh pA mk wk pr (fun _ => rfl) (Or.inr ⟨rfl, hbad rfl (rp_ne J' un f hf)⟩))
    · exact br_f (by decide) (h 1 (-1) wh pA mk wk pr (fun _ => rfl) (Or.inl ⟨rfl, rfl, rfl, K', kd', pa', pb, rp_eq J' oM sM eM U L' hS (Or.inl h0) f hf (fun i _ k8 m => gM i m k8) cE mE eE bE, G', L', yl_un HK hl hM gM U⟩))
  · exact br_t e1 (h ty cl _ _ _ _ _ id (Or.inr ⟨e1, hh⟩))
theorem yw_gen {post : SY → Prop} {t nm : Nat} (HK : ky_K kc kk ka kb rt lo hi g) (hn : n ≤ 2000) (I : ya_G kc kk ka kb rt g nl n (t :: stk) env bs V a_what a_partA a_partB) (CI : ∀ ν E τ st τ' st', V ν (τ :: st) E → V ν (τ' :: st') E → V ν (τ' :: st) E) (hB : st_1 a_boundType env) (hb : env.length < 40) (hR : y_R a_now rt)
    (h : ∀ wh mk wk, ya_G kc kk ka kb rt g n n stk (t :: env) ((nm, true) :: bs) (dv_bind V) wh a_partA a_partB → post (f_count, f_accepted, f_place, f_kept, nI n, f_tt, f_pos, f_bad, f_typing, f_unbound, f_clash, f_top, nI env.length, f_doneName, f_doneType, a_kind, a_value, a_keptKind, a_keptA, a_keptB, a_root, wh, a_partA, a_partB, mk, a_twin, wk, a_pairs, a_now, a_todo, a_types, a_firm, a_bound, a_boundType)) : wpY_generalise post (f_count, f_accepted, f_place, f_kept, nI n, f_tt, f_pos, f_bad, f_typing, f_unbound, f_clash, f_top, nI env.length, f_doneName, f_doneType, a_kind, a_value, a_keptKind, a_keptA, a_keptB, a_root, a_what, a_partA, a_partB, a_mark, a_twin, a_walk, a_pairs, a_now, a_todo, a_types, a_firm, a_bound, a_boundType) (nI t) := by
  obtain ⟨K, kd, pa, pb, J, hG, hL, hl⟩ := I
  refine yw_g6 (nm := nm) hn hG hL J CI hB hb hR hl.1 (fun v hv h0 => yl_kr HK hl hv h0) (fun ρ ρ' r r' he => yl_kb HK hl r r' he) (fun wh kd' mk wk G' J' k1 _ kb' k78 => h wh mk wk ⟨K, kd', pa, pb, J', G', gr_L_78 k1 hL, yl_gen hl (fun i _ => k78 i) kb'⟩)
/-! small steps -/
theorem yw_push {post : SY → Prop} {h x : Nat} {b : Bool} (hh : h < 64) (hx : x < 32768) (hp : post (f_count, f_accepted, f_place, f_kept, f_nodes, f_tt, f_pos, f_bad, f_typing, f_unbound, f_clash, nI (h + 1), f_scope, f_doneName, f_doneType, a_kind, a_value, a_keptKind, a_keptA, a_keptB, a_root, a_what, a_partA, a_partB, a_mark, a_twin, a_walk, a_pairs, a_now, a_todo, upd a_types h (nI x), upd a_firm h (if b = true then 1 else 0), a_bound, a_boundType)) : wpY_push post (f_count, f_accepted, f_place, f_kept, f_nodes, f_tt, f_pos, f_bad, f_typing, f_unbound, f_clash, nI h, f_scope, f_doneName, f_doneType, a_kind, a_value, a_keptKind, a_keptA, a_keptB, a_root, a_what, a_partA, a_partB, a_mark, a_twin, a_walk, a_pairs, a_now, a_todo, a_types, a_firm, a_bound, a_boundType) (nI x) (if b = true then 1 else 0) := by
  have e : (nI h).toNatClampNeg = h := nI_clamp (by omega)
  have hi : vp_in (nI h) 64 := vp_in_nI hh (by decide)
  refine ⟨hi, ?_⟩
  rw [e, ys_nn hx]
  have nb : vp_nar .boolean (if b = true then 1 else 0) = if b = true then 1 else 0 := by
    cases b
    · rfl
    · rfl
  rw [nb]
  exact nm_e (nm_r (nI_1 h) ⟨hi, nm_e hp⟩)
/-- a token's kind as the reference sees it -/
def yt (K : Nat → Nat) (a : Nat) : Int32 := if K a = 99 then -1 else nI (K a)
theorem yw_tok {post : Int32 → Prop} {c a : Nat} {K N : Nat → Nat} (hT : tk_T a_kind a_value c K N) (ha : a ≤ c) (h : post (yt K a)) : wpY_tok post (nI c, f_accepted, f_place, f_kept, f_nodes, f_tt, nI a, f_bad, f_typing, f_unbound, f_clash, f_top, f_scope, f_doneName, f_doneType, a_kind, a_value, a_keptKind, a_keptA, a_keptB, a_root, a_what, a_partA, a_partB, a_mark, a_twin, a_walk, a_pairs, a_now, a_todo, a_types, a_firm, a_bound, a_boundType) := by
  obtain ⟨c24, k99, kk⟩ := hT
  unfold yt at h
  by_cases e : a < c
  · obtain ⟨e1, e2, _⟩ := kk a e
    rw [if_neg (by omega)] at h
    refine br_f (nI_ge (by omega) (by omega)) ⟨vp_in_nI (by omega) (by decide), ?_⟩
    rw [nI_clamp (by omega), e1]; exact h
  · have e' : a = c := by omega
    rw [k99 a (by omega), if_pos rfl] at h
    refine br_t (nI_le (by omega) (by omega)) h
theorem yt_y {K : Nat → Nat} {a k : Nat} (h : K a = k) (hk : k < 99) : yt K a = nI k := by
  unfold yt
  rw [if_neg (by omega), h]
theorem yt_n {c a k : Nat} {K N : Nat → Nat} {ks vs : Nat → Int32} (hT : tk_T ks vs c K N) (h : K a ≠ k) (hk : k < 99) : ¬ yt K a = nI k := by
  unfold yt
  by_cases e : K a = 99
  · rw [if_pos e]
    intro z
    have : (nI k).toInt = -1 := by rw [← z]; rfl
    rw [nI_toInt (by omega)] at this
    omega
  · rw [if_neg e]
    have lt : K a < 99 := by
      by_cases q : a < c
      · have := (hT.2.2 a q).2.1; omega
      · exact (e (hT.2.1 a (by omega))).elim
    intro z
    exact h ((nI_eq (by omega) (by omega)).mp z)
theorem yw_take {post : Int32 → SY → Prop} {c a k : Nat} {K N : Nat → Nat} (hT : tk_T a_kind a_value c K N) (ha : a ≤ c) (hk : k < 99) (h1 : K a = k → post 1 (nI c, f_accepted, f_place, f_kept, f_nodes, f_tt, nI (a + 1), 0, f_typing, f_unbound, f_clash, f_top, f_scope, f_doneName, f_doneType, a_kind, a_value, a_keptKind, a_keptA, a_keptB, a_root, a_what, a_partA, a_partB, a_mark, a_twin, a_walk, a_pairs, a_now, a_todo, a_types, a_firm, a_bound, a_boundType)) (h0 : K a ≠ k → post 0 (nI c, f_accepted, f_place, f_kept, f_nodes, f_tt, nI a, 1, f_typing, f_unbound, f_clash, f_top, f_scope, f_doneName, f_doneType, a_kind, a_value, a_keptKind, a_keptA, a_keptB, a_root, a_what, a_partA, a_partB, a_mark, a_twin, a_walk, a_pairs, a_now, a_todo, a_types, a_firm, a_bound, a_boundType)) : wpY_take post (nI c, f_accepted, f_place, f_kept, f_nodes, f_tt, nI a, 0, f_typing, f_unbound, f_clash, f_top, f_scope, f_doneName, f_doneType, a_kind, a_value, a_keptKind, a_keptA, a_keptB, a_root, a_what, a_partA, a_partB, a_mark, a_twin, a_walk, a_pairs, a_now, a_todo, a_types, a_firm, a_bound, a_boundType) (nI k) := by
  refine br_t rfl (yw_tok hT ha ?_)
  by_cases e : K a = k
  · exact br_t (yt_y e hk) (nm_r (nI_1 a) (h1 e))
  · exact br_f (yt_n hT e hk) (h0 e)
theorem yo_pair {s w : Nat} (hs : s < 64) (hw : w < 1048576) : nI s ||| (nI w <<< ((6 : Int32) &&& 31)) = nI (s + 64 * w) := by
  rw [pk_shlN _ 6 (by decide) (by omega)]
  apply Int32.toBitVec_inj.mp
  apply BitVec.eq_of_toNat_eq
  rw [Int32.toBitVec_or, BitVec.toNat_or, pk_tn (by omega), pk_tn (by omega), pk_tn (by omega), Nat.or_comm, Nat.mul_comm w]
  rw [← Nat.two_pow_add_eq_or_of_lt (i := 6) (by omega) w]
  omega
theorem yo_5 {s w : Nat} (hs : s < 32) (hw : w < 1048576) : nI s ||| (nI w <<< ((5 : Int32) &&& 31)) = nI (s + 32 * w) := by
  rw [pk_shlN _ 5 (by decide) (by omega)]
  apply Int32.toBitVec_inj.mp
  apply BitVec.eq_of_toNat_eq
  rw [Int32.toBitVec_or, BitVec.toNat_or, pk_tn (by omega), pk_tn (by omega), pk_tn (by omega), Nat.or_comm, Nat.mul_comm w]
  rw [← Nat.two_pow_add_eq_or_of_lt (i := 5) (by omega) w]
  omega
theorem yw_then {post : SY → Prop} {t s w : Nat} (ht : t < 320) (hs : s < 64) (hw : w < 1048576) (h : post (f_count, f_accepted, f_place, f_kept, f_nodes, nI (t + 1), f_pos, f_bad, f_typing, f_unbound, f_clash, f_top, f_scope, f_doneName, f_doneType, a_kind, a_value, a_keptKind, a_keptA, a_keptB, a_root, a_what, a_partA, a_partB, a_mark, a_twin, a_walk, a_pairs, a_now, upd a_todo t (nI (s + 64 * w)), a_types, a_firm, a_bound, a_boundType)) : wpY_then post (f_count, f_accepted, f_place, f_kept, f_nodes, nI t, f_pos, f_bad, f_typing, f_unbound, f_clash, f_top, f_scope, f_doneName, f_doneType, a_kind, a_value, a_keptKind, a_keptA, a_keptB, a_root, a_what, a_partA, a_partB, a_mark, a_twin, a_walk, a_pairs, a_now, a_todo, a_types, a_firm, a_bound, a_boundType) (nI s) (nI w) := by
  refine nm_r (nI_1 t) ⟨vp_in_nI ht (by decide), ?_⟩
  rw [nI_clamp (by omega), yo_pair hs hw]
  exact nm_e h
theorem yw_bind {post : SY → Prop} {e x v : Nat} (he : e < 40) (hv : v < 128) (hx : x < 32768) (h : post (f_count, f_accepted, f_place, f_kept, f_nodes, f_tt, f_pos, f_bad, f_typing, f_unbound, f_clash, f_top, nI (e + 1), f_doneName, f_doneType, a_kind, a_value, a_keptKind, a_keptA, a_keptB, a_root, a_what, a_partA, a_partB, a_mark, a_twin, a_walk, a_pairs, a_now, a_todo, a_types, a_firm, upd a_bound e (nI v), upd a_boundType e (nI x))) : wpY_bind post (f_count, f_accepted, f_place, f_kept, f_nodes, f_tt, f_pos, f_bad, f_typing, f_unbound, f_clash, f_top, nI e, f_doneName, f_doneType, a_kind, a_value, a_keptKind, a_keptA, a_keptB, a_root, a_what, a_partA, a_partB, a_mark, a_twin, a_walk, a_pairs, a_now, a_todo, a_types, a_firm, a_bound, a_boundType) (nI v) (nI x) := by
  have hi : vp_in (nI e) 40 := vp_in_nI he (by decide)
  refine ⟨hi, ?_⟩
  rw [nI_clamp (by omega), yb_nn hv, ys_nn hx]
  exact nm_e (nm_r (nI_1 e) ⟨hi, nm_e h⟩)
end
