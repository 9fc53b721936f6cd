/-! the reference reads a declaration: the parser's turns and the steps' meaning, side by side -/
def yh_H (gnT gcT : Option Nat → Prop) (ub cl : Int32) : Prop := (ub = -1 ∧ ∃ q, q < 24 ∧ cl = nI q ∧ gcT (some q)) ∨ (∃ q, q < 24 ∧ ub = nI q ∧ gnT (some q))
def yr_k (s : Nat) : Prop := s < 38 ∨ s = 40 ∨ s = 42 ∨ s = 44 ∨ s = 46 ∨ s = 47 ∨ s = 50 ∨ s = 51 ∨ s = 52 ∨ s = 53 ∨ s = 54 ∨ s = 55 ∨ s = 82 ∨ s = 83 ∨ s = 84 ∨ s = 86 ∨ s = 88 ∨ s = 89
/-- how many types wait when the symbol is done -/
def yh_n (s h : Nat) : Nat := if s = 42 ∨ s = 55 ∨ s = 46 then h + 1 else if s = 82 ∨ s = 83 ∨ s = 88 ∨ s = 89 then h - 1 else if s = 84 then h - 2 else h
def yr_H : pm_L → Nat → Prop
  | [], _ => True
  | (s, _) :: ss, h => (s = 47 → 1 ≤ h) ∧ yr_H ss (yh_n s h)
def yr_S (K mq : Nat → Nat) (c : Nat) (ss : pm_L) (a : Nat) (sp : pm_L) (fll bsl : Nat) (td : Nat → Int32) : Prop :=
  a ≤ c ∧ pm_46 ss ∧ (∀ x, x ∈ ss → yr_k x.1 ∧ ((x.1 = 88 ∨ x.1 = 89) → x.2 + 1 < a)) ∧ pm_ys ss ≤ 1 + 9 * a + pm_h5 ss ∧ sp.length + pm_cs ss ≤ 2 * a ∧ fll ≤ sp.length ∧ st_1 td (yk_S K mq ss bsl) ∧ yr_H ss fll
/-- the bindings in the arrays; d: the innermost has just been completed -/
def yt_P (N : Nat → Nat) (d : Bool) (bs : List (Nat × Bool)) (env : List Nat) (sc dn dt : Int32) (bd bt : Nat → Int32) : Prop :=
  (d = false ∧ sc = nI bs.length ∧ st_1 bd (bs.map (fun b => N b.1)) ∧ st_1 bt env) ∨
  (d = true ∧ ∃ b bs' e env', bs = b :: bs' ∧ env = e :: env' ∧ sc = nI bs'.length ∧ dn = nI (N b.1) ∧ dt = nI e ∧ st_1 bd (bs'.map (fun b => N b.1)) ∧ st_1 bt env')
/-- what lies about, and the arrays, whatever the bindings' arrays hold -/
def yt_A (kc : Nat) (K : Nat → Nat) (a : Nat) (bs : List (Nat × Bool)) (fl : List Bool) (x : Nat × Nat × Nat) (nl n : Nat) (stk env : List Nat) (tys fr : Nat → Int32) : Prop :=
  st_1 tys stk ∧ st_b fr fl ∧ fl.length = stk.length ∧ (∀ z, z ∈ stk → z < 2000) ∧ bs.length = env.length ∧ (∀ z, z ∈ env → z < 2000) ∧ bs_S bs ∧ (∀ b, b ∈ bs → b.1 < a ∧ K b.1 = 3) ∧ n ≤ kc + x.1 ∧ nl ≤ kc + Nat.max x.2.1 x.2.2 ∧ x.1 ≤ 1503
def yt_I (kc : Nat) (kk ka kb rt : Nat → Nat) (g : Nat → tr_T) (c : Nat) (K N mq : Nat → Nat) (Fin : List (Nat × Bool) → List Bool → Prop) (gnT gcT : Option Nat → Prop) (E0 : List (Nat × Bool) × List Bool × dv_W) (d : Bool) (a : Nat) (sp1 : pm_L) (bs : List (Nat × Bool)) (fl : List Bool) (V : dv_W) (x : Nat × Nat × Nat) (nl n : Nat) (stk env : List Nat) (ty ub cl sc dn dt : Int32) (wh pA pB tys fr bd bt : Nat → Int32) : Prop :=
  gd_ok K N mq (Dc_U (ky_d kk rt g)) c Fin sp1 bs fl V x ∧ ya_W (yh_H gnT gcT) ty ub cl (ya_G kc kk ka kb rt g nl n stk env bs V wh pA pB) ∧ yt_A kc K a bs fl x nl n stk env tys fr ∧
  (ub = -1 ∨ 0 ≤ ub) ∧ (ub = -1 → ∀ r, gn_N K N mq (ky_d kk rt g) sp1 bs fl r → gnT r) ∧ (ty = 1 → (∀ r, gc_C K N mq (Dc_U (ky_d kk rt g)) sp1 bs fl V r → gcT r) ∧ gd_E K N mq (Dc_U (ky_d kk rt g)) sp1 bs fl V = E0) ∧ yt_P N d bs env sc dn dt bd bt
/-- how the reading ends where the tokens aren't a declaration -/
def yr_Z (c a' : Nat) (post : Int32 → SY → Prop) (f_accepted f_place f_kept : Int32) (a_kind a_value a_keptKind a_keptA a_keptB a_root a_now : Nat → Int32) : Prop := ∀ (f_nodes f_tt f_bad f_top : Int32) (f_typing f_unbound f_clash f_scope f_doneName f_doneType : Int32) (a_what a_partA a_partB a_mark a_twin a_walk a_pairs a_todo a_types a_firm a_bound a_boundType : Nat → Int32), post 0 (nI c, f_accepted, f_place, f_kept, f_nodes, f_tt, nI a', f_bad, f_typing, f_unbound, f_clash, f_top, f_scope, f_doneName, f_doneType, a_kind, a_value, a_keptKind, a_keptA, a_keptB, a_root, a_what, a_partA, a_partB, a_mark, a_twin, a_walk, a_pairs, a_now, a_todo, a_types, a_firm, a_bound, a_boundType)
def yr_P (kc : Nat) (kk ka kb rt : Nat → Nat) (g : Nat → tr_T) (c : Nat) (K N mq : Nat → Nat) (Fin : List (Nat × Bool) → List Bool → Prop) (gnT gcT : Option Nat → Prop) (E0 : List (Nat × Bool) × List Bool × dv_W) (a' : Nat) (b : Bool) (post : Int32 → SY → Prop) (f_accepted f_place f_kept : Int32) (a_kind a_value a_keptKind a_keptA a_keptB a_root a_now : Nat → Int32) (f : Nat) : Prop :=
  ∀ (ss : pm_L) (a : Nat) (sp sp1 : pm_L) (bs : List (Nat × Bool)) (fl : List Bool) (V : dv_W) (x : Nat × Nat × Nat) (nl n : Nat) (stk env : List Nat) (F : Nat) (f_typing f_unbound f_clash f_scope f_doneName f_doneType : Int32) (a_what a_partA a_partB a_mark a_twin a_walk a_pairs a_todo a_types a_firm a_bound a_boundType : Nat → Int32), pm_go K f ss a sp = some (a', sp ++ sp1, b) → yr_S K mq c ss a sp fl.length bs.length a_todo → yt_I kc kk ka kb rt g c K N mq Fin gnT gcT E0 (pm_pd ss) a sp1 bs fl V x nl n stk env f_typing f_unbound f_clash f_scope f_doneName f_doneType a_what a_partA a_partB a_types a_firm a_bound a_boundType → 8 * f ≤ F → wY_read_46 post (F + 1) (nI c) f_accepted f_place f_kept (nI n) (nI ss.length) (nI a) 0 f_typing f_unbound f_clash (nI stk.length) f_scope f_doneName f_doneType a_kind a_value a_keptKind a_keptA a_keptB a_root a_what a_partA a_partB a_mark a_twin a_walk a_pairs a_now a_todo a_types a_firm a_bound a_boundType
theorem pm_go_s {K : Nat → Nat} {f s p a a1 : Nat} {ss sp sp1 l w : pm_L} {a' : Nat} {b : Bool} (h : pm_go K (f + 1) ((s, p) :: ss) a sp = some (a', sp ++ sp1, b)) (t : pm_turn K s p a = (a1, some (l, w))) : ∃ sp2, sp1 = w ++ sp2 ∧ pm_go K f (l ++ ss) a1 (sp ++ w) = some (a', (sp ++ w) ++ sp2, b) := by
  rcases pm_go_1 h with ⟨e, _⟩ | ⟨g, l', w', sp2, ef, et, e, hgo⟩
  · rw [t] at e; cases e
  · rw [t] at et hgo
    cases et
    have : g = f := by omega
    subst this
    exact ⟨sp2, e, hgo⟩
theorem pm_go_n {K : Nat → Nat} {f s p a a1 : Nat} {ss sp sp1 : pm_L} {a' : Nat} {b : Bool} (h : pm_go K (f + 1) ((s, p) :: ss) a sp = some (a', sp ++ sp1, b)) (t : pm_turn K s p a = (a1, none)) : a' = a1 ∧ b = false := by
  rcases pm_go_1 h with ⟨_, e, _, eb⟩ | ⟨g, l', w', sp2, ef, et, e, hgo⟩
  · rw [t] at e; exact ⟨e, eb⟩
  · rw [t] at et; cases et
theorem pm_ys_len : ∀ ss : pm_L, ss.length ≤ pm_ys ss := by
  intro ss
  induction ss with
  | nil => exact Nat.le_refl _
  | cons x ss ih =>
    have : 1 ≤ pm_y x.1 := by
      unfold pm_y
      by_cases h : x.1 = 46
      · rw [if_pos h]; omega
      · rw [if_neg h]
        by_cases h' : x.1 = 47
        · rw [if_pos h']; omega
        · rw [if_neg h']; exact Nat.le_refl _
    unfold pm_ys
    rw [List.length_cons]
    omega
theorem yr_len {K mq : Nat → Nat} {c : Nat} {ss : pm_L} {a : Nat} {sp : pm_L} {fll bsl : Nat} {td : Nat → Int32} (hc : c ≤ 24) (S : yr_S K mq c ss a sp fll bsl td) : ss.length ≤ 230 ∧ fll ≤ 48 := by
  obtain ⟨h1, h2, h3, h4, h5, h6, h7⟩ := S
  have := pm_ys_len ss
  have := pm_h5_le ss
  omega
theorem yr_turn {K mq : Nat → Nat} {c s p a a1 : Nat} {l w ss sp : pm_L} {fll fll' bsl bsl' : Nat} {td td' : Nat → Int32} (hK : ∀ i, c ≤ i → K i = 99) (hc : c ≤ 24) (S : yr_S K mq c ((s, p) :: ss) a sp fll bsl td) (t : pm_turn K s p a = (a1, some (l, w))) (hl : ∀ x, x ∈ l → yr_k x.1 ∧ ((x.1 = 88 ∨ x.1 = 89) → x.2 + 1 < a1)) (hf : fll' ≤ sp.length + w.length) (st : st_1 td' (yk_S K mq (l ++ ss) bsl')) (hH : yr_H (l ++ ss) fll') : yr_S K mq c (l ++ ss) a1 (sp ++ w) fll' bsl' td' ∧ pm_pd (l ++ ss) = (decide (s = 88) || decide (s = 89)) ∧ a ≤ a1 := by
  obtain ⟨h1, h2, h3, h4, h5, h6, h7⟩ := S
  obtain ⟨n1, n2, _, _, n5, n6⟩ := pm_N_turn hK hc h1 t
  have m := pm_46_turn (h3 _ List.mem_cons_self).1 t h2
  have e1 : pm_ys ((s, p) :: ss) = pm_y s + pm_ys ss := rfl
  have e2 : pm_h5 ((s, p) :: ss) = if s = 55 ∨ s = 63 then 5 else 0 := rfl
  have e3 : pm_cs ((s, p) :: ss) = pm_c s + pm_cs ss := rfl
  rw [e1, e2] at h4
  rw [e3] at h5
  have e4 := pm_ys_a l ss
  have e5 := pm_cs_a l ss
  have e6 := pm_h5_a (l := l) (ss := ss) (pm_h5_le l)
  refine ⟨⟨n2, m.1, fun x hx => ?_, by omega, by rw [List.length_append]; omega, by rw [List.length_append]; exact hf, st, hH⟩, m.2, n1⟩
  rcases List.mem_append.mp hx with z | z
  · exact hl x z
  · have q := h3 x (List.mem_cons_of_mem _ z)
    exact ⟨q.1, fun w => by have := q.2 w; omega⟩
section
variable {kc : Nat} {kk ka kb rt lo hi : Nat → Nat} {g : Nat → tr_T} {c : Nat} {K N mq : Nat → Nat} {Fin : List (Nat × Bool) → List Bool → Prop} {gnT gcT : Option Nat → Prop} {E0 : List (Nat × Bool) × List Bool × dv_W} {nl n : Nat} {stk env : List Nat} {bs : List (Nat × Bool)} {fl : List Bool} {V : dv_W} {x : Nat × Nat × Nat}
theorem yt_hc {s p : Nat} {sp2 : pm_L} {ty ty' ub' cl' : Int32} {n' nl' : Nat} {stk' env' : List Nat} {bs' : List (Nat × Bool)} {wh pA pB : Nat → Int32} {H : Int32 → Int32 → Prop} (old : ty = 1 → (∀ r, gc_C K N mq (Dc_U (ky_d kk rt g)) ((s, p) :: sp2) bs fl V r → gcT r) ∧ gd_E K N mq (Dc_U (ky_d kk rt g)) ((s, p) :: sp2) bs fl V = E0) (ht : ty' = 1 → ty = 1) (W : ya_W H ty' ub' cl' (ya_G kc kk ka kb rt g nl' n' stk' env' bs' (dd_V K N mq (Dc_U (ky_d kk rt g)) bs V s p) wh pA pB)) : ty' = 1 → (∀ r, gc_C K N mq (Dc_U (ky_d kk rt g)) sp2 (dd_bs mq bs fl s p) (dd_fl K fl s p) (dd_V K N mq (Dc_U (ky_d kk rt g)) bs V s p) r → gcT r) ∧ gd_E K N mq (Dc_U (ky_d kk rt g)) sp2 (dd_bs mq bs fl s p) (dd_fl K fl s p) (dd_V K N mq (Dc_U (ky_d kk rt g)) bs V s p) = E0 := by
  intro e
  refine ⟨fun r h => ?_, (old (ht e)).2⟩
  rcases W with ⟨_, _, _, Kd, kd, pa, pb, J, _⟩ | ⟨e0, _⟩
  · exact (old (ht e)).1 r (Or.inl ⟨rp_some J, h⟩)
  · rw [e0] at e; exact absurd e (by decide)
theorem yt_hb {s p : Nat} {sp2 : pm_L} {ty : Int32} (old : ty = 1 → (∀ r, gc_C K N mq (Dc_U (ky_d kk rt g)) ((s, p) :: sp2) bs fl V r → gcT r) ∧ gd_E K N mq (Dc_U (ky_d kk rt g)) ((s, p) :: sp2) bs fl V = E0) (hq : (if s = 88 then p + mq p + 1 else p) < 24) : ty = 1 → (∀ ν st E, ¬ dd_V K N mq (Dc_U (ky_d kk rt g)) bs V s p ν st E) → yh_H gnT gcT (-1) (nI (if s = 88 then p + mq p + 1 else p)) := fun e no => Or.inl ⟨rfl, _, hq, rfl, (old e).1 _ (Or.inr ⟨no, rfl⟩)⟩
theorem yt_hn {s p : Nat} {sp2 : pm_L} {ub : Int32} (old : ub = -1 → ∀ r, gn_N K N mq (ky_d kk rt g) ((s, p) :: sp2) bs fl r → gnT r) (hs : ¬ (s = 80 ∧ K p = 3 ∧ bx_ix N bs (N p) = none ∧ ky_d kk rt g (N p) = [])) : ub = -1 → ∀ r, gn_N K N mq (ky_d kk rt g) sp2 (dd_bs mq bs fl s p) (dd_fl K fl s p) r → gnT r := by
  intro e r h
  refine old e r ?_
  unfold gn_N
  rw [if_neg hs]; exact h
end
