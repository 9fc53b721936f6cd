theorem pm_1s {K : Nat → Nat} {f s p a a1 : Nat} {ss sp sp1 l w : pm_L} {a' : Nat} {b : Bool} (h : pm_go K (f + 1) ((s, p) :: ss) a sp = some (a', sp ++ sp1, b)) (ht : pm_turn K s p a = (a1, some (l, w))) : ∃ sp2, sp1 = w ++ sp2 ∧ pm_go K f (l ++ ss) a1 (sp ++ w) = some (a', (sp ++ w) ++ sp2, b) := by
  rcases pm_go_1 h with ⟨z, _⟩ | ⟨g, l', w', sp2, e, z, e1, z2⟩
  · rw [ht] at z; cases z
  · rw [ht] at z z2
    cases z
    have : g = f := by omega
    subst this
    exact ⟨sp2, e1, z2⟩
theorem pm_1n {K : Nat → Nat} {f s p a a1 : Nat} {ss sp sp1 : pm_L} {a' : Nat} {b : Bool} (h : pm_go K (f + 1) ((s, p) :: ss) a sp = some (a', sp ++ sp1, b)) (ht : pm_turn K s p a = (a1, none)) : a' = a1 ∧ b = false := by
  rcases pm_go_1 h with ⟨_, z, _, z2⟩ | ⟨g, l', w', sp2, e, z, e1, z2⟩
  · rw [ht] at z; exact ⟨z, z2⟩
  · rw [ht] at z; cases z
section
variable {K : Nat → Nat} {p a s : Nat}
theorem pt_45 : pm_turn K 45 p a = (a, some ([(63, 0), (62, 0), (61, 0), (60, 0)], [])) := rfl
theorem pt_60 : pm_turn K 60 p a = if K a = 37 then (a + 1, some ([(63, 0), (62, 0), (61, 0), (60, 0), (83, a)], [])) else (a, some ([], [])) := rfl
theorem pt_61 : pm_turn K 61 p a = if K a = 36 then (a + 1, some ([(63, 0), (62, 0), (61, 0), (83, a)], [])) else (a, some ([], [])) := rfl
theorem pt_62 : pm_turn K 62 p a = if K a = 34 ∨ K a = 23 then (a + 1, some ([(62, 0)], [(83, a)])) else (a, some ([], [])) := rfl
theorem pt_63 : pm_turn K 63 p a = if K a = 15 then (a + 1, some ([(45, 0), (16, 0)], [])) else if (31 ≤ K a ∧ K a ≤ 33) ∨ K a = 35 then (a + 1, some ([], [(80, a)])) else (a, none) := rfl
theorem pt_83 : pm_turn K 83 p a = (a, some ([], [(83, p)])) := rfl
theorem pt_s (h : s < 38) : pm_turn K s p a = if K a = s then (a + 1, some ([], [])) else (a, none) := by
  unfold pm_turn
  rw [if_neg (by omega), if_pos h]
end
/-- what is known in the middle of a type -/
def yx_I (kc : Nat) (kk ka kb : Nat → Nat) (c : Nat) (K N : Nat → Nat) (E0 : List tr_T) (l sp1 : pm_L) (a n : Nat) (stk : List Nat) (wh pA pB td tys : Nat → Int32) : Prop :=
  th_ok K c (yE l) stk.length ∧ yK K c l ∧ a ≤ c ∧ yW l ≤ 2 + 4 * a ∧ stk.length ≤ a ∧ n + stk.length ≤ kc + 2 * a ∧ st_1 td (yV K l) ∧ ∃ st0, yu_I kc kk ka kb n stk st0 wh pA pB tys ∧ ts_E K N sp1 st0 = E0
section
variable {f_count f_accepted f_place f_kept f_nodes f_tt f_pos f_bad f_typing f_unbound f_clash f_top f_scope f_doneName f_doneType : Int32} {a_kind a_value a_keptKind a_keptA a_keptB a_root a_what a_partA a_partB a_mark a_twin a_walk a_pairs a_now a_todo a_types a_firm a_bound a_boundType : Nat → Int32}
variable {kc c : Nat} {kk ka kb K N : Nat → Nat} {E0 : List tr_T}
theorem yw_rtl {post : Int32 → SY → Prop} {a' : Nat} {b : Bool} (hT : tk_T a_kind a_value c K N) (hkc : kc ≤ 144)
    (hbad : (b = false ∨ a' ≠ c) → ∀ nn tt bad top wh pA pB td tys fr, post 0 (nI c, f_accepted, f_place, f_kept, nn, tt, nI a', bad, f_typing, f_unbound, f_clash, top, f_scope, f_doneName, f_doneType, a_kind, a_value, a_keptKind, a_keptA, a_keptB, a_root, wh, pA, pB, a_mark, a_twin, a_walk, a_pairs, a_now, td, tys, fr, a_bound, a_boundType))
    (hok : b = true → a' = c → ∀ n t T wh pA pB tt bad top td tys fr, yu_I kc kk ka kb n [t] [T] wh pA pB tys → E0 = [T] → n ≤ kc + 48 → post 1 (nI c, f_accepted, f_place, f_kept, nI n, tt, nI c, bad, f_typing, f_unbound, f_clash, top, f_scope, f_doneName, f_doneType, a_kind, a_value, a_keptKind, a_keptA, a_keptB, a_root, wh, pA, pB, a_mark, a_twin, a_walk, a_pairs, a_now, td, tys, fr, a_bound, a_boundType)) :
    ∀ (f : Nat) (l : pm_L) (a n : Nat) (stk : List Nat) (wh pA pB td tys fr : Nat → Int32) (sp sp1 : pm_L) (F : Nat), pm_go K f (yE l) a sp = some (a', sp ++ sp1, b) → yx_I kc kk ka kb c K N E0 l sp1 a n stk wh pA pB td tys → 2 * f + 1 ≤ F →
    wY_read_46 post F (nI c) f_accepted f_place f_kept (nI n) (nI l.length) (nI a) 0 f_typing f_unbound f_clash (nI stk.length) f_scope f_doneName f_doneType a_kind a_value a_keptKind a_keptA a_keptB a_root wh pA pB a_mark a_twin a_walk a_pairs a_now td tys fr a_bound a_boundType := by
  have c24 := hT.1
  intro f
  induction f with
  | zero => intro l a n stk wh pA pB td tys fr sp sp1 F h; cases h
  | succ f ih =>
    intro l a n stk wh pA pB td tys fr sp sp1 F hgo I hF
    obtain ⟨F, rfl⟩ : ∃ k, F = k + 2 := ⟨F - 2, by omega⟩
    obtain ⟨i1, i2, i3, i4, i5, i6, i7, st0, i8, i9⟩ := I
    have wl := yW_len l
    cases l with
    | nil =>
      obtain ⟨z1, z2, z3⟩ := pm_go_0 hgo
      subst z1 z2
      have l1 : stk.length = 1 := i1
      obtain ⟨t, r, ee⟩ := ls_1 (l := stk) (by omega)
      have er : r = [] := by
        rw [ee] at l1
        simpa using l1
      subst er ee
      have ls : st0.length = 1 := by
        obtain ⟨_, _, _, I, _⟩ := i8
        rw [← sp_len I]; rfl
      obtain ⟨T, r, ee⟩ : ∃ a r, st0 = a :: r := by
        cases st0 with
        | nil => simp at ls
        | cons a r => exact ⟨a, r, rfl⟩
      have er : r = [] := by
        rw [ee] at ls
        simpa using ls
      subst er ee
      refine br_t (Int32.le_refl _) ?_
      unfold wY_read_140
      refine br_t rfl ?_
      by_cases e : a' = c
      · subst e
        exact br_t rfl (hok z3 rfl n t T wh pA pB _ _ _ td tys fr i8 i9.symm (by omega))
      · exact br_f (fun z => e ((nI_eq (by omega) (by omega)).mp z)) (hbad (Or.inr e) _ _ _ _ _ _ _ _ _ _)
    | cons y l =>
      obtain ⟨r, p⟩ := y
      obtain ⟨k0, i2⟩ := i2
      have vl : (yV K l).length = l.length := yV_len l
      rw [List.length_cons] at wl ⊢
      have w1 : (if r = 27 then 2 else 1) + yW l ≤ 2 + 4 * a := i4
      have n2 : n < 2000 := by omega
      have s64 : stk.length < 64 := by omega
      have L3 : (yV K l).length + 4 < 320 := by
        have := yW_len l
        have : yW l ≤ 2 + 4 * a := by
          by_cases q : r = 27
          · rw [if_pos q] at w1; omega
          · rw [if_neg q] at w1; omega
        omega
      rw [← vl]
      rcases k0 with rfl | rfl | rfl | rfl | rfl | ⟨rfl, pc, kp⟩ | ⟨rfl, p38⟩
      · obtain ⟨sp2, e1, g2⟩ := pm_1s (s := 45) (p := 0) hgo pt_45
        have th := th_turn (s := 45) (p := 0) (ss := yE l) hT.2.1 (pt_45 (a := a)) i1
        have th' : th_ok K c (yE ((29, 0) :: (28, 0) :: l)) stk.length := by
          rcases th with ⟨_, z⟩ | ⟨s', p', z, _⟩
          · exact z
          · cases z
        refine yw_tt (r := 27) (w := 0) (by omega) (by omega) (by omega) (by omega) i7 (yr_27 hT i3 (by omega) i7.2 (fun td' st' => ?_))
        have q := ih ((29, 0) :: (28, 0) :: l) a n stk wh pA pB td' tys fr (sp ++ []) sp2 (F + 1) g2 ⟨th', ⟨by omega, by omega, i2⟩, i3, ?_, i5, i6, st', st0, i8, by rw [e1] at i9; exact i9⟩ (by omega)
        · rw [vl]; exact q
        · show 1 + (1 + yW l) ≤ _
          rw [if_pos rfl] at w1; omega
      · rw [if_neg (by decide)] at w1
        refine yw_tt (r := 28) (w := 0) (by omega) (by omega) (by omega) (by omega) i7 (yr_28 hT i3 (by omega) i7.2 (fun k => ?_) (fun k td' st' => ?_))
        · have pt : pm_turn K 60 0 a = (a, some ([], [])) := by rw [pt_60, if_neg k]
          obtain ⟨sp2, e1, g2⟩ := pm_1s (s := 60) (p := 0) hgo pt
          have th := th_turn (s := 60) (p := 0) (ss := yE l) hT.2.1 pt i1
          have th' : th_ok K c (yE l) stk.length := by
            rcases th with ⟨_, z⟩ | ⟨s', p', z, _⟩
            · exact z
            · cases z
          have q := ih l a n stk wh pA pB td tys fr (sp ++ []) sp2 (F + 1) g2 ⟨th', i2, i3, by omega, i5, i6, i7.2, st0, i8, by rw [e1] at i9; exact i9⟩ (by omega)
          rw [vl]; exact q
        · have pt : pm_turn K 60 0 a = (a + 1, some ([(63, 0), (62, 0), (61, 0), (60, 0), (83, a)], [])) := by rw [pt_60, if_pos k]
          have ac : a < c := Nat.lt_of_not_le (fun q => by have := hT.2.1 a q; omega)
          obtain ⟨sp2, e1, g2⟩ := pm_1s (s := 60) (p := 0) hgo pt
          have th := th_turn (s := 60) (p := 0) (ss := yE l) hT.2.1 pt i1
          have th' : th_ok K c (yE ((29, 0) :: (28, 0) :: (32, a) :: l)) stk.length := by
            rcases th with ⟨_, z⟩ | ⟨s', p', z, _⟩
            · exact z
            · cases z
          refine yw_tt (L := (32 + 64 * 6) :: yV K l) (r := 27) (w := 0) (by omega) (by omega) (by omega) (by rw [List.length_cons]; omega) st' (yr_27 hT (by omega) (by rw [List.length_cons]; omega) st'.2 (fun td2 st2 => ?_))
          have ev : yv K 32 a = 32 + 64 * 6 := by
            unfold yv
            rw [if_pos rfl, if_neg (by omega)]
          have q := ih ((29, 0) :: (28, 0) :: (32, a) :: l) (a + 1) n stk wh pA pB td2 tys fr (sp ++ []) sp2 F g2 ⟨th', ⟨by omega, by omega, Or.inr (Or.inr (Or.inr (Or.inr (Or.inr (Or.inl ⟨rfl, ac, Or.inr k⟩))))), i2⟩, by omega, ?_, by omega, by omega, ?_, st0, i8, by rw [e1] at i9; exact i9⟩ (by omega)
          · rw [show ((32 + 64 * 6) :: yV K l).length + 2 = ((29, 0) :: (28, 0) :: (32, a) :: l).length by rw [List.length_cons, vl]; rfl]
            exact q
          · show 1 + (1 + (1 + yW l)) ≤ _
            omega
          · show st_1 td2 (29 :: 28 :: yv K 32 a :: yV K l)
            rw [ev]; exact st2
      · rw [if_neg (by decide)] at w1
        refine yw_tt (r := 29) (w := 0) (by omega) (by omega) (by omega) (by omega) i7 (yr_29 hT i3 (by omega) i7.2 i8 s64 n2 (fun k k' tt td' => ?_) (fun k td' st' => ?_) (fun k td' wh' pA' pB' tys' fr' J st' => ?_))
        · have pt : pm_turn K 63 0 a = (a, none) := by rw [pt_63, if_neg k, if_neg k']
          obtain ⟨z1, z2⟩ := pm_1n (s := 63) (p := 0) hgo pt
          subst z1
          exact yw_bad (hbad (Or.inl z2) _ _ _ _ _ _ _ _ _ _)
        · have pt : pm_turn K 63 0 a = (a + 1, some ([(45, 0), (16, 0)], [])) := by rw [pt_63, if_pos k]
          have ac : a < c := Nat.lt_of_not_le (fun q => by have := hT.2.1 a q; omega)
          obtain ⟨sp2, e1, g2⟩ := pm_1s (s := 63) (p := 0) (ss := (62, 0) :: (61, 0) :: yE l) hgo pt
          have th := th_turn (s := 63) (p := 0) (ss := (62, 0) :: (61, 0) :: yE l) hT.2.1 pt i1
          have th' : th_ok K c (yE ((27, 0) :: (1, 16) :: (31, 0) :: (30, 0) :: l)) stk.length := by
            rcases th with ⟨_, z⟩ | ⟨s', p', z, _⟩
            · exact z
            · cases z
          have q := ih ((27, 0) :: (1, 16) :: (31, 0) :: (30, 0) :: l) (a + 1) n stk wh pA pB td' tys fr (sp ++ []) sp2 (F + 1) g2 ⟨th', ⟨by omega, by omega, by omega, by omega, i2⟩, by omega, ?_, by omega, by omega, st', st0, i8, by rw [e1] at i9; exact i9⟩ (by omega)
          · rw [vl]; exact q
          · show 2 + (1 + (1 + (1 + yW l))) ≤ _
            omega
        · have k15 : K a ≠ 15 := by omega
          have pt : pm_turn K 63 0 a = (a + 1, some ([], [(80, a)])) := by rw [pt_63, if_neg k15, if_pos k]
          have ac : a < c := Nat.lt_of_not_le (fun q => by have := hT.2.1 a q; omega)
          obtain ⟨sp2, e1, g2⟩ := pm_1s (s := 63) (p := 0) (ss := (62, 0) :: (61, 0) :: yE l) hgo pt
          have th := th_turn (s := 63) (p := 0) (ss := (62, 0) :: (61, 0) :: yE l) hT.2.1 pt i1
          have th' : th_ok K c (yE ((31, 0) :: (30, 0) :: l)) (n :: stk).length := by
            rcases th with ⟨z, _⟩ | ⟨s', p', z, _, z2⟩
            · cases z
            · cases z
              exact z2
          have q := ih ((31, 0) :: (30, 0) :: l) (a + 1) (n + 1) (n :: stk) wh' pA' pB' td' tys' fr' (sp ++ [(80, a)]) sp2 (F + 1) g2 ⟨th', ⟨by omega, by omega, i2⟩, by omega, ?_, by rw [List.length_cons]; omega, by rw [List.length_cons]; omega, st', _, J, by rw [e1] at i9; exact i9⟩ (by omega)
          · rw [vl]; exact q
          · show 1 + (1 + yW l) ≤ _
            omega
      · rw [if_neg (by decide)] at w1
        refine yw_tt (r := 30) (w := 0) (by omega) (by omega) (by omega) (by omega) i7 (yr_30 hT i3 (by omega) i7.2 (fun k => ?_) (fun k td' st' => ?_))
        · have pt : pm_turn K 61 0 a = (a, some ([], [])) := by rw [pt_61, if_neg k]
          obtain ⟨sp2, e1, g2⟩ := pm_1s (s := 61) (p := 0) hgo pt
          have th := th_turn (s := 61) (p := 0) (ss := yE l) hT.2.1 pt i1
          have th' : th_ok K c (yE l) stk.length := by
            rcases th with ⟨_, z⟩ | ⟨s', p', z, _⟩
            · exact z
            · cases z
          have q := ih l a n stk wh pA pB td tys fr (sp ++ []) sp2 (F + 1) g2 ⟨th', i2, i3, by omega, i5, i6, i7.2, st0, i8, by rw [e1] at i9; exact i9⟩ (by omega)
          rw [vl]; exact q
        · have pt : pm_turn K 61 0 a = (a + 1, some ([(63, 0), (62, 0), (61, 0), (83, a)], [])) := by rw [pt_61, if_pos k]
          have ac : a < c := Nat.lt_of_not_le (fun q => by have := hT.2.1 a q; omega)
          obtain ⟨sp2, e1, g2⟩ := pm_1s (s := 61) (p := 0) hgo pt
          have th := th_turn (s := 61) (p := 0) (ss := yE l) hT.2.1 pt i1
          have th' : th_ok K c (yE ((29, 0) :: (32, a) :: l)) stk.length := by
            rcases th with ⟨_, z⟩ | ⟨s', p', z, _⟩
            · exact z
            · cases z
          have ev : yv K 32 a = 32 + 64 * 5 := by
            unfold yv
            rw [if_pos rfl, if_pos k]
          have q := ih ((29, 0) :: (32, a) :: l) (a + 1) n stk wh pA pB td' tys fr (sp ++ []) sp2 (F + 1) g2 ⟨th', ⟨by omega, Or.inr (Or.inr (Or.inr (Or.inr (Or.inr (Or.inl ⟨rfl, ac, Or.inl k⟩))))), i2⟩, by omega, ?_, by omega, by omega, ?_, st0, i8, by rw [e1] at i9; exact i9⟩ (by omega)
          · rw [vl]; exact q
          · show 1 + (1 + yW l) ≤ _
            omega
          · show st_1 td' (29 :: yv K 32 a :: yV K l)
            rw [ev]; exact st'
      · rw [if_neg (by decide)] at w1
        have th1 : 1 ≤ stk.length := by
          obtain ⟨h', t, _⟩ := i1
          unfold th_1 at t
          omega
        refine yw_tt (r := 31) (w := 0) (by omega) (by omega) (by omega) (by omega) i7 (yr_31 hT i3 (by omega) i7.2 i8 th1 s64 n2 (fun k => ?_) (fun k stk' td' wh' pA' pB' tys' el J st' => ?_))
        · have pt : pm_turn K 62 0 a = (a, some ([], [])) := by rw [pt_62, if_neg k]
          obtain ⟨sp2, e1, g2⟩ := pm_1s (s := 62) (p := 0) hgo pt
          have th := th_turn (s := 62) (p := 0) (ss := yE l) hT.2.1 pt i1
          have th' : th_ok K c (yE l) stk.length := by
            rcases th with ⟨_, z⟩ | ⟨s', p', z, _⟩
            · exact z
            · cases z
          have q := ih l a n stk wh pA pB td tys fr (sp ++ []) sp2 (F + 1) g2 ⟨th', i2, i3, by omega, i5, i6, i7.2, st0, i8, by rw [e1] at i9; exact i9⟩ (by omega)
          rw [vl]; exact q
        · have pt : pm_turn K 62 0 a = (a + 1, some ([(62, 0)], [(83, a)])) := by rw [pt_62, if_pos k]
          have ac : a < c := Nat.lt_of_not_le (fun q => by have := hT.2.1 a q; omega)
          obtain ⟨sp2, e1, g2⟩ := pm_1s (s := 62) (p := 0) hgo pt
          have th := th_turn (s := 62) (p := 0) (ss := yE l) hT.2.1 pt i1
          have th' : th_ok K c (yE ((31, 0) :: l)) stk'.length := by
            rcases th with ⟨z, _⟩ | ⟨s', p', z, _, z2⟩
            · cases z
            · cases z
              rw [el]
              unfold ts_h at z2
              rw [if_neg (by decide), if_pos k] at z2
              exact z2
          have q := ih ((31, 0) :: l) (a + 1) (n + 1) stk' wh' pA' pB' td' tys' fr (sp ++ [(83, a)]) sp2 (F + 1) g2 ⟨th', ⟨by omega, i2⟩, by omega, ?_, by omega, by omega, st', _, J, by rw [e1] at i9; exact i9⟩ (by omega)
          · rw [vl, ← el]; exact q
          · show 1 + yW l ≤ _
            omega
      · rw [if_neg (by decide)] at w1
        obtain ⟨sp2, e1, g2⟩ := pm_1s (s := 83) (p := p) hgo pt_83
        have th := th_turn (s := 83) (p := p) (ss := yE l) hT.2.1 (pt_83 (a := a)) i1
        have kq : ¬ (K p = 34 ∨ K p = 23) := by omega
        obtain ⟨th2, th'⟩ : 2 ≤ stk.length ∧ th_ok K c (yE l) (stk.length - 1) := by
          rcases th with ⟨z, _⟩ | ⟨s', p', z, z1, z2⟩
          · cases z
          · cases z
            unfold ts_h at z2
            rw [if_neg (by decide), if_neg kq] at z2
            refine ⟨?_, z2⟩
            unfold ts_pre at z1
            omega
        obtain ⟨k, hk, ev⟩ : ∃ k, ((K p = 36 ∧ k = 5) ∨ (K p = 37 ∧ k = 6)) ∧ yv K 32 p = 32 + 64 * k := by
          rcases kp with kp | kp
          · refine ⟨5, Or.inl ⟨kp, rfl⟩, ?_⟩
            unfold yv
            rw [if_pos rfl, if_pos kp]
          · refine ⟨6, Or.inr ⟨kp, rfl⟩, ?_⟩
            unfold yv
            rw [if_pos rfl, if_neg (by omega)]
        have i7' : st_1 td ((32 + 64 * k) :: yV K l) := by rw [← ev]; exact i7
        refine yw_tt (r := 32) (w := k) (by omega) (by omega) (by omega) (by omega) i7' (yr_32 hT i3 i8 th2 s64 n2 hk (fun stk' wh' pA' pB' tys' fr' el J => ?_))
        have q := ih l a (n + 1) stk' wh' pA' pB' td tys' fr' (sp ++ [(83, p)]) sp2 (F + 1) g2 ⟨by rw [show stk'.length = stk.length - 1 by omega]; exact th', i2, i3, by omega, by omega, by omega, i7.2, _, J, by rw [e1] at i9; exact i9⟩ (by omega)
        rw [vl]; exact q
      · rw [if_neg (by decide)] at w1
        refine yw_te (r := 1) (w := p) (by omega) (by omega) (by omega) i7 (ye_1 hT i3 p38 (fun k => ?_) (fun k => ?_))
        · have pt : pm_turn K p 0 a = (a + 1, some ([], [])) := by rw [pt_s p38, if_pos k]
          have ac : a < c := Nat.lt_of_not_le (fun q => by have := hT.2.1 a q; omega)
          obtain ⟨sp2, e1, g2⟩ := pm_1s (s := p) (p := 0) hgo pt
          have th := th_turn (s := p) (p := 0) (ss := yE l) hT.2.1 pt i1
          have th' : th_ok K c (yE l) stk.length := by
            rcases th with ⟨_, z⟩ | ⟨s', p', z, _⟩
            · exact z
            · cases z
          have q := ih l (a + 1) n stk wh pA pB td tys fr (sp ++ []) sp2 (F + 1) g2 ⟨th', i2, by omega, by omega, by omega, by omega, i7.2, st0, i8, by rw [e1] at i9; exact i9⟩ (by omega)
          rw [vl]; exact q
        · have pt : pm_turn K p 0 a = (a, none) := by rw [pt_s p38, if_neg k]
          obtain ⟨z1, z2⟩ := pm_1n (s := p) (p := 0) hgo pt
          subst z1
          exact yw_bad (hbad (Or.inl z2) _ _ _ _ _ _ _ _ _ _)
end
