/-! the component writes a type out -/
section
variable {f_tokenCount f_accepted f_lastPlace f_openCount f_draftOpen f_symbolCount f_stepCount f_bindingCount f_waitingCount f_clashPlace f_nodeCount f_todoCount : Int32} {a_kinds a_values a_declaredSize a_declaredNodes a_draftSize a_draftNodes a_symbols a_symbolPlaces a_steps a_stepPlaces a_bindings a_boundType a_waitingTypes a_waitingFirm a_shape a_left a_right a_link a_note a_todo a_todoOther a_generalNode : Nat → Int32}
variable {kd pa pb : Nat → Nat} {n K : Nat} {g : Nat → tr_T}
theorem xw_addParts {post : SX → Prop} {r k : Nat} {S : List Nat} (hn : n ≤ 4096) (hr : r < n) (hs : a_shape r = nI k) (hk : k < 30) (hc : gr_cn k → a_left r = nI (pa r) ∧ a_right r = nI (pb r)) (hS : S.length < 4000) (st : st_1 a_todo S)
    (h : ∀ S' td tdo, ((k = 5 ∨ k = 6) → S' = pa r :: pb r :: S) → ((k = 3 ∨ k = 4) → S' = pa r :: S) → (¬ gr_cn k → S' = S) → st_1 td S' → post (f_tokenCount, f_accepted, f_lastPlace, f_openCount, f_draftOpen, f_symbolCount, f_stepCount, f_bindingCount, f_waitingCount, f_clashPlace, f_nodeCount, nI S'.length, a_kinds, a_values, a_declaredSize, a_declaredNodes, a_draftSize, a_draftNodes, a_symbols, a_symbolPlaces, a_steps, a_stepPlaces, a_bindings, a_boundType, a_waitingTypes, a_waitingFirm, a_shape, a_left, a_right, a_link, a_note, td, tdo, a_generalNode)) : wpX_addParts post (f_tokenCount, f_accepted, f_lastPlace, f_openCount, f_draftOpen, f_symbolCount, f_stepCount, f_bindingCount, f_waitingCount, f_clashPlace, f_nodeCount, nI S.length, a_kinds, a_values, a_declaredSize, a_declaredNodes, a_draftSize, a_draftNodes, a_symbols, a_symbolPlaces, a_steps, a_stepPlaces, a_bindings, a_boundType, a_waitingTypes, a_waitingFirm, a_shape, a_left, a_right, a_link, a_note, a_todo, a_todoOther, a_generalNode) (nI r) := by
  have vr : vp_in (nI r) 4096 := vp_in_nI (by omega) (by decide)
  have cr : (nI r).toNatClampNeg = r := nI_clamp (by omega)
  have two : (k = 5 ∨ k = 6) → wX_addParts_21 post (nI r) f_tokenCount f_accepted f_lastPlace f_openCount f_draftOpen f_symbolCount f_stepCount f_bindingCount f_waitingCount f_clashPlace f_nodeCount (nI S.length) a_kinds a_values a_declaredSize a_declaredNodes a_draftSize a_draftNodes a_symbols a_symbolPlaces a_steps a_stepPlaces a_bindings a_boundType a_waitingTypes a_waitingFirm a_shape a_left a_right a_link a_note a_todo a_todoOther a_generalNode := fun q => by
    unfold wX_addParts_21
    refine ⟨vr, ?_⟩
    rw [cr, (hc (by omega)).2]
    refine xw_addPair (by omega) ?_
    unfold wX_addParts_32
    refine xw_parts (i := r) (k := k) (by omega) hs hk (fun _ => br_f (by decide) ⟨vr, ?_⟩) (fun z => (z (by omega)).elim)
    rw [cr, (hc (by omega)).1]
    refine xw_addPair (by omega) ?_
    exact h (pa r :: pb r :: S) _ _ (fun _ => rfl) (fun z => by omega) (fun z => (z (by omega)).elim) (st_1p (L := pb r :: S) (st_1p st))
  refine ⟨vr, ?_⟩
  rw [cr, hs]
  refine pk_eq k 5 (fun q => two (Or.inl q)) (fun q5 => ⟨vr, ?_⟩)
  refine pk_eq k 6 (fun q => two (Or.inr q)) (fun q6 => ?_)
  unfold wX_addParts_32
  refine xw_parts (i := r) (k := k) (by omega) hs hk (fun c => br_f (by decide) ⟨vr, ?_⟩) (fun z => br_t rfl ?_)
  · rw [cr, (hc c).1]
    refine xw_addPair (by omega) ?_
    exact h (pa r :: S) _ _ (fun z => by omega) (fun _ => rfl) (fun z => (z c).elim) (st_1p st)
  · exact h S _ _ (fun q => by omega) (fun q => (z (by omega)).elim) (fun _ => rfl) st
theorem xg_r {sh lf rt lk : Nat → Int32} {i : Nat} (hG : xg_G n sh lf rt lk kd pa pb) (hi : i < n) (hk : kd i ≠ 1000) : kd i < 30 ∧ sh i = nI (kd i) ∧ (gr_cn (kd i) → lf i = nI (pa i) ∧ rt i = nI (pb i)) := by
  rcases hG i hi with z | z
  · exact (hk z.1).elim
  · exact ⟨z.2.1, z.2.2.2.1, z.2.2.2.2⟩
theorem xw_draftType {post : Int32 → SX → Prop} {t v : Nat} {so0 : List Nat} {nt : Nat → Nat} {T : List Nat} (hT : T = tr_pre (g t)) (hn : n ≤ 4000) (W : gr_W n kd pa pb) (hG : xg_G n a_shape a_left a_right a_link kd pa pb) (hL : gr_L n kd pa K) (hK : K ≤ 4096) (hg : gr_V n kd pa pb g) (gg : gr_gen n kd g) (ht : t < n) (hv : v < 12) (h7 : ∀ c, c ∈ T → c < 7 ∨ 1001 ≤ c) (hds : a_draftSize v = 0) (hnt : ∀ i, i < n → a_note i = nI (nt i)) (hN : dn_N n kd nt so0 [] (fun i => 1001 + i ∈ T)) (hso : so0.length ≤ 200)
    (hbig : 12 < T.length → ∀ dop tc ds dn note td tdo, post 0 (f_tokenCount, f_accepted, f_lastPlace, f_openCount, dop, f_symbolCount, f_stepCount, f_bindingCount, f_waitingCount, f_clashPlace, f_nodeCount, tc, a_kinds, a_values, a_declaredSize, a_declaredNodes, ds, dn, a_symbols, a_symbolPlaces, a_steps, a_stepPlaces, a_bindings, a_boundType, a_waitingTypes, a_waitingFirm, a_shape, a_left, a_right, a_link, note, td, tdo, a_generalNode))
    (hok : T.length ≤ 12 → ∀ nt' tc ds dn note td tdo, dn_N n kd nt' (nm_so (kp_c kd) so0 T) (nm_sg (kp_c kd) [] T) (fun i => 1001 + i ∈ T) → (∀ i, i < n → note i = nI (nt' i)) → (∀ i, i < n → 1001 + i ∉ T → nt' i = nt i) → ds v = nI T.length → (∀ w, w ≠ v → ds w = a_draftSize w) → (∀ (k x : Nat), (nm_l (kp_c kd) so0 [] T)[k]? = some x → dn (v * 12 + k) = nI x) → (∀ j, j < v * 12 → dn j = a_draftNodes j) → post 1 (f_tokenCount, f_accepted, f_lastPlace, f_openCount, nI (nm_so (kp_c kd) so0 T).length, f_symbolCount, f_stepCount, f_bindingCount, f_waitingCount, f_clashPlace, f_nodeCount, tc, a_kinds, a_values, a_declaredSize, a_declaredNodes, ds, dn, a_symbols, a_symbolPlaces, a_steps, a_stepPlaces, a_bindings, a_boundType, a_waitingTypes, a_waitingFirm, a_shape, a_left, a_right, a_link, note, td, tdo, a_generalNode)) :
    wpX_draftType post (f_tokenCount, f_accepted, f_lastPlace, f_openCount, nI so0.length, f_symbolCount, f_stepCount, f_bindingCount, f_waitingCount, f_clashPlace, f_nodeCount, f_todoCount, a_kinds, a_values, a_declaredSize, a_declaredNodes, a_draftSize, a_draftNodes, a_symbols, a_symbolPlaces, a_steps, a_stepPlaces, a_bindings, a_boundType, a_waitingTypes, a_waitingFirm, a_shape, a_left, a_right, a_link, a_note, a_todo, a_todoOther, a_generalNode) (nI v) (nI t) := by
  have vv : vp_in (nI v) 12 := vp_in_nI hv (by decide)
  have cv : (nI v).toNatClampNeg = v := nI_clamp (by omega)
  have lso : ∀ l : List Nat, (nm_so (kp_c kd) so0 l).length ≤ so0.length + l.length := by
    have key : ∀ (l s : List Nat), (nm_so (kp_c kd) s l).length ≤ s.length + l.length := by
      intro l
      induction l with
      | nil => intro s; exact Nat.le_refl _
      | cons y l ih =>
        intro s
        have q := ih (nm_o (kp_c kd) s y)
        have : (nm_o (kp_c kd) s y).length ≤ s.length + 1 := by
          unfold nm_o ix_add
          by_cases c1 : y < 7 ∨ kp_c kd y = true
          · rw [if_pos c1]; omega
          · rw [if_neg c1]
            by_cases c2 : y ∈ s
            · rw [if_pos c2]; omega
            · rw [if_neg c2, List.length_append]; exact Nat.le_refl _
        show (nm_so (kp_c kd) (nm_o (kp_c kd) s y) l).length ≤ _
        rw [List.length_cons]
        omega
    exact fun l => key l so0
  have lsg : ∀ l : List Nat, (nm_sg (kp_c kd) [] l).length ≤ l.length := by
    have key : ∀ (l s : List Nat), (nm_sg (kp_c kd) s l).length ≤ s.length + l.length := by
      intro l
      induction l with
      | nil => intro s; exact Nat.le_refl _
      | cons y l ih =>
        intro s
        have q := ih (nm_g (kp_c kd) s y)
        have : (nm_g (kp_c kd) s y).length ≤ s.length + 1 := by
          unfold nm_g ix_add
          by_cases c1 : y < 7 ∨ kp_c kd y = false
          · rw [if_pos c1]; omega
          · rw [if_neg c1]
            by_cases c2 : y ∈ s
            · rw [if_pos c2]; omega
            · rw [if_neg c2, List.length_append]; exact Nat.le_refl _
        show (nm_sg (kp_c kd) (nm_g (kp_c kd) s y) l).length ≤ _
        rw [List.length_cons]
        omega
    exact fun l => by have := key l []; simpa using this
  -- L1 is written, S waits
  have loop : ∀ d L1 S nt1 ds dn note td tdo, L1.length + d = 12 → T = L1 ++ wk_L g S → st_1 td S → (∀ i, i ∈ S → i < n) → S.length ≤ L1.length + 1 → dn_N n kd nt1 (nm_so (kp_c kd) so0 L1) (nm_sg (kp_c kd) [] L1) (fun i => 1001 + i ∈ T) → (∀ i, i < n → note i = nI (nt1 i)) → (∀ i, i < n → 1001 + i ∉ T → nt1 i = nt i) → ds v = nI L1.length → (∀ w, w ≠ v → ds w = a_draftSize w) → (∀ (k x : Nat), (nm_l (kp_c kd) so0 [] L1)[k]? = some x → dn (v * 12 + k) = nI x) → (∀ j, j < v * 12 → dn j = a_draftNodes j) → wX_draftType_16 post (nI v) (d + 1) (nI (nm_sg (kp_c kd) [] L1).length) (nI L1.length) f_tokenCount f_accepted f_lastPlace f_openCount (nI (nm_so (kp_c kd) so0 L1).length) f_symbolCount f_stepCount f_bindingCount f_waitingCount f_clashPlace f_nodeCount (nI S.length) a_kinds a_values a_declaredSize a_declaredNodes ds dn a_symbols a_symbolPlaces a_steps a_stepPlaces a_bindings a_boundType a_waitingTypes a_waitingFirm a_shape a_left a_right a_link note td tdo a_generalNode := by
    intro d
    induction d with
    | zero =>
      intro L1 S nt1 ds dn note td tdo hj eT st hS hl N1 hno hun hd1 hd2 hc1 hc2
      refine br_f (nI_nlt (a := 12) (by omega) (by omega)) ?_
      cases S with
      | nil =>
        have e : T = L1 := by rw [eT]; exact List.append_nil _
        rw [e] at hok
        exact br_t (Int32.le_refl _) (hok (by omega) nt1 _ ds dn note td tdo (by rw [e] at N1; exact N1) hno (by rw [e] at hun; exact hun) hd1 hd2 hc1 hc2)
      | cons i S =>
        have lS : (i :: S).length = S.length + 1 := rfl
        refine br_f (nI_nle (by omega) (by omega)) ⟨vv, ?_⟩
        rw [cv, hd1]
        refine br_f (nI_nlt (b := 12) (by omega) (by omega)) (hbig ?_ _ _ _ _ _ _ _)
        have iN := hS i List.mem_cons_self
        rw [eT, wk_0, List.length_append, List.length_append]
        have := gr_L_to hL iN
        have q := wk_1 (S := S) W hg gg iN this
        have e0 : 1 ≤ (wk_L g (i :: S)).length := by
          generalize gr_f kd pa K i = r at this q
          by_cases fr : gr_fr (kd r)
          · rw [q.1 fr, List.length_cons]; omega
          · by_cases c3 : kd r = 3 ∨ kd r = 4
            · rw [q.2.1 c3, List.length_cons]; omega
            · by_cases c5 : kd r = 5 ∨ kd r = 6
              · rw [q.2.2.1 c5, List.length_cons]; omega
              · rw [q.2.2.2 (by omega) fr, List.length_cons]; omega
        rw [wk_0, List.length_append] at e0
        omega
    | succ d ih =>
      intro L1 S nt1 ds dn note td tdo hj eT st hS hl N1 hno hun hd1 hd2 hc1 hc2
      refine br_f (nI_nlt (a := 12) (by omega) (by omega)) ?_
      cases S with
      | nil =>
        have e : T = L1 := by rw [eT]; exact List.append_nil _
        rw [e] at hok
        exact br_t (Int32.le_refl _) (hok (by omega) nt1 _ ds dn note td tdo (by rw [e] at N1; exact N1) hno (by rw [e] at hun; exact hun) hd1 hd2 hc1 hc2)
      | cons i S =>
        rw [List.length_cons] at hl ⊢
        have iN := hS i List.mem_cons_self
        have hS' : ∀ z, z ∈ S → z < n := fun z hz => hS z (List.mem_cons_of_mem _ hz)
        have ir := gr_L_to hL iN
        generalize gr_f kd pa K i = r at ir
        have rn := gr_to_n W ir iN
        have vr : vp_in (nI r) 4096 := vp_in_nI (by omega) (by decide)
        have cr : (nI r).toNatClampNeg = r := nI_clamp (by omega)
        obtain ⟨k30, shr, lrr⟩ := xg_r hG rn ir.1
        obtain ⟨w1, w2, w3, w4⟩ := wk_1 (S := S) W hg gg iN ir
        have lso1 := lso L1
        have lsg1 := lsg L1
        refine br_f (nI_nle (by omega) (by omega)) ⟨vv, ?_⟩
        rw [cv, hd1]
        refine br_t (nI_lt (b := 12) (by omega) (by decide)) ?_
        refine xw_take (by omega) st ?_
        refine xw_find hG (by omega) hL hK iN ir ⟨vr, ?_⟩
        rw [cr, shr]
        -- writing the code x for the label c
        have wr : ∀ c x S' nt2 note2 td2 tdo2, T = (L1 ++ [c]) ++ wk_L g S' → nm_c (kp_c kd) (nm_so (kp_c kd) so0 L1) (nm_sg (kp_c kd) [] L1) c = x → x < 1000 → st_1 td2 S' → (∀ i, i ∈ S' → i < n) → S'.length ≤ L1.length + 2 → dn_N n kd nt2 (nm_so (kp_c kd) so0 (L1 ++ [c])) (nm_sg (kp_c kd) [] (L1 ++ [c])) (fun i => 1001 + i ∈ T) → (∀ i, i < n → note2 i = nI (nt2 i)) → (∀ i, i < n → 1001 + i ∉ T → nt2 i = nt i) → wX_draftType_172 post (wX_draftType_16 post (nI v) (d + 1)) (nI v) (nI (nm_sg (kp_c kd) [] (L1 ++ [c])).length) (nI L1.length) (nI x) f_tokenCount f_accepted f_lastPlace f_openCount (nI (nm_so (kp_c kd) so0 (L1 ++ [c])).length) f_symbolCount f_stepCount f_bindingCount f_waitingCount f_clashPlace f_nodeCount (nI S'.length) a_kinds a_values a_declaredSize a_declaredNodes ds dn a_symbols a_symbolPlaces a_steps a_stepPlaces a_bindings a_boundType a_waitingTypes a_waitingFirm a_shape a_left a_right a_link note2 td2 tdo2 a_generalNode := by
          intro c x S' nt2 note2 td2 tdo2 e1 e2 e3 e4 e5 e6 e7 e8 e9
          unfold wX_draftType_172
          refine ⟨vv, ?_⟩
          have em : nI v * 12 + nI L1.length = nI (v * 12 + L1.length) := by
            rw [show (12 : Int32) = nI 12 from rfl, pk_mul, nI_add]
          rw [cv, hd1, em]
          refine ⟨vp_in_nI (by omega) (by decide), ?_⟩
          rw [nI_clamp (by omega)]
          refine nm_e ⟨vv, vv, ?_⟩
          rw [nI_1]
          refine nm_e (nm_e ?_)
          have ll : (L1 ++ [c]).length = L1.length + 1 := by simp
          rw [← ll]
          refine ih (L1 ++ [c]) S' nt2 _ _ note2 td2 tdo2 (by omega) e1 e4 e5 (by omega) e7 e8 e9 (by rw [pk_us]) (fun w hw => by rw [pk_un hw]; exact hd2 w hw) (fun k y hy => ?_) (fun j hj' => by rw [pk_un (by omega)]; exact hc2 j hj')
          rw [nm_l_app] at hy
          have l1 : (nm_l (kp_c kd) so0 [] L1).length = L1.length := nm_l_len _ _ _
          by_cases kl : k < L1.length
          · rw [List.getElem?_append_left (by omega)] at hy
            rw [pk_un (by omega)]; exact hc1 k y hy
          · rw [List.getElem?_append_right (by omega), l1] at hy
            have ek : k = L1.length := by
              have := (List.getElem?_eq_some_iff.mp hy).1
              have : (nm_l (kp_c kd) (nm_so (kp_c kd) so0 L1) (nm_sg (kp_c kd) [] L1) [c]).length = 1 := nm_l_len _ _ _
              omega
            subst ek
            rw [Nat.sub_self] at hy
            have hy2 : some (nm_c (kp_c kd) (nm_so (kp_c kd) so0 L1) (nm_sg (kp_c kd) [] L1) c) = some y := hy
            rw [e2] at hy2
            cases hy2
            rw [pk_us]
        have so1 : ∀ c, nm_so (kp_c kd) so0 (L1 ++ [c]) = nm_o (kp_c kd) (nm_so (kp_c kd) so0 L1) c := fun c => by unfold nm_so; rw [List.foldl_append]; rfl
        have sg1 : ∀ c, nm_sg (kp_c kd) [] (L1 ++ [c]) = nm_g (kp_c kd) (nm_sg (kp_c kd) [] L1) c := fun c => by unfold nm_sg; rw [List.foldl_append]; rfl
        have inT : ∀ c R, wk_L g (i :: S) = c :: R → c ∈ T ∧ T = (L1 ++ [c]) ++ R := fun c R e => by
          rw [eT, e]; exact ⟨by simp, by simp⟩
        refine nm_e (pk_eq (kd r) 8 (fun c8 => ⟨vr, ?_⟩) (fun c8 => pk_eq (kd r) 7 (fun c7 => ⟨vr, ?_⟩) (fun c7 => ?_)))
        · obtain ⟨cT, eT2⟩ := inT _ _ (w1 (Or.inr c8))
          obtain ⟨m1, m2, m3, m4, m5⟩ := dn_g N1 rn c8 cT
          have s1 := so1 (1001 + r)
          have s2 := sg1 (1001 + r)
          rw [m2] at s1
          rw [m3] at s2
          rw [hno r rn]
          by_cases z : nt1 r = 0
          · rw [if_pos z] at m1 s2
            refine br_t (by rw [z]; rfl) (nm_r (nI_1 _) ⟨vr, ?_⟩)
            refine nm_e ?_
            unfold wX_draftType_94
            refine ⟨vr, ?_⟩
            rw [cr, pk_us]
            have q := wr (1001 + r) _ S (gr_u nt1 r ((nm_sg (kp_c kd) [] L1).length + 1)) (upd note r (nI ((nm_sg (kp_c kd) [] L1).length + 1))) td tdo eT2 m1 (by omega) st.2 hS' (by omega) (by rw [s1, s2]; exact m4 z) (fun j hj' => ?_) (fun j hj' hn' => ?_)
            · rw [s1, s2, List.length_append] at q
              refine nm_r (e' := nI (10 + (nm_sg (kp_c kd) [] L1).length)) ?_ q
              rw [show (10 : Int32) = nI 10 from rfl, nI_add, ← Nat.add_assoc, nI_pred]
            · by_cases e : j = r
              · rw [e, pk_us, gr_us]
              · rw [pk_un e, gr_un e]; exact hno j hj'
            · rw [gr_un (fun e => hn' (by rw [e]; exact cT))]; exact hun j hj' hn'
          · rw [if_neg z] at m1 s2
            have nz := m5 z
            refine br_f (fun y => z ((nI_eq (b := 0) (by omega) (by omega)).mp y)) ?_
            unfold wX_draftType_94
            refine ⟨vr, ?_⟩
            rw [cr, hno r rn]
            have q := wr (1001 + r) _ S nt1 note td tdo eT2 m1 (by omega) st.2 hS' (by omega) (by rw [s1, s2]; exact N1) hno hun
            rw [s1, s2] at q
            refine nm_r (e' := nI (10 + (nt1 r - 1))) ?_ q
            rw [show (10 : Int32) = nI 10 from rfl, nI_add, show 10 + nt1 r = (10 + (nt1 r - 1)) + 1 by omega, nI_pred]
        · obtain ⟨cT, eT2⟩ := inT _ _ (w1 (Or.inl c7))
          obtain ⟨m1, m2, m3, m4, m5⟩ := dn_o N1 rn c7
          have s1 := so1 (1001 + r)
          have s2 := sg1 (1001 + r)
          rw [m3] at s1
          rw [m2] at s2
          rw [hno r rn]
          by_cases z : nt1 r = 0
          · rw [if_pos z] at m1 s1
            refine br_t (by rw [z]; rfl) (nm_r (nI_1 _) ⟨vr, ?_⟩)
            refine nm_e ?_
            unfold wX_draftType_149
            refine ⟨vr, ?_⟩
            rw [cr, pk_us]
            have q := wr (1001 + r) _ S (gr_u nt1 r ((nm_so (kp_c kd) so0 L1).length + 1)) (upd note r (nI ((nm_so (kp_c kd) so0 L1).length + 1))) td tdo eT2 m1 (by omega) st.2 hS' (by omega) (by rw [s1, s2]; exact m4 z) (fun j hj' => ?_) (fun j hj' hn' => ?_)
            · rw [s1, s2, List.length_append] at q
              refine nm_r (e' := nI (100 + (nm_so (kp_c kd) so0 L1).length)) ?_ q
              rw [show (100 : Int32) = nI 100 from rfl, nI_add, ← Nat.add_assoc, nI_pred]
            · by_cases e : j = r
              · rw [e, pk_us, gr_us]
              · rw [pk_un e, gr_un e]; exact hno j hj'
            · rw [gr_un (fun e => hn' (by rw [e]; exact cT))]; exact hun j hj' hn'
          · rw [if_neg z] at m1 s1
            have nz := m5 z
            refine br_f (fun y => z ((nI_eq (b := 0) (by omega) (by omega)).mp y)) ?_
            unfold wX_draftType_149
            refine ⟨vr, ?_⟩
            rw [cr, hno r rn]
            have q := wr (1001 + r) _ S nt1 note td tdo eT2 m1 (by omega) st.2 hS' (by omega) (by rw [s1, s2]; exact N1) hno hun
            rw [s1, s2] at q
            refine nm_r (e' := nI (100 + (nt1 r - 1))) ?_ q
            rw [show (100 : Int32) = nI 100 from rfl, nI_add, show 100 + nt1 r = (100 + (nt1 r - 1)) + 1 by omega, nI_pred]
        · have lab : ∃ R, wk_L g (i :: S) = kd r :: R := by
            by_cases c3 : kd r = 3 ∨ kd r = 4
            · exact ⟨_, w2 c3⟩
            · by_cases c5 : kd r = 5 ∨ kd r = 6
              · exact ⟨_, w3 c5⟩
              · exact ⟨_, w4 (by omega) (by omega)⟩
          obtain ⟨R, eR⟩ := lab
          obtain ⟨cT, eT2⟩ := inT _ _ eR
          have k7 : kd r < 7 := by have := h7 _ cT; omega
          obtain ⟨m1, m2, m3⟩ := dn_k (cl := kp_c kd) (so := nm_so (kp_c kd) so0 L1) (sg := nm_sg (kp_c kd) [] L1) k7
          have s1 := so1 (kd r)
          have s2 := sg1 (kd r)
          rw [m2] at s1
          rw [m3] at s2
          refine xw_addParts (k := kd r) (by omega) rn shr k30 lrr (by omega) st.2 (fun S' td2 tdo2 z1 z2 z3 st2 => ?_)
          have eS : wk_L g (i :: S) = kd r :: wk_L g S' ∧ (∀ z, z ∈ S' → z < n) ∧ S'.length ≤ S.length + 2 := by
            by_cases c3 : kd r = 3 ∨ kd r = 4
            · rw [z2 c3]
              have w := (W r rn).2 (by omega)
              exact ⟨w2 c3, fun z hz => (List.mem_cons.mp hz).elim (fun e => e ▸ w.1) (hS' z), by rw [List.length_cons]; omega⟩
            · by_cases c5 : kd r = 5 ∨ kd r = 6
              · rw [z1 c5]
                have w := (W r rn).2 (by omega)
                exact ⟨w3 c5, fun z hz => (List.mem_cons.mp hz).elim (fun e => e ▸ w.1) (fun y => (List.mem_cons.mp y).elim (fun e => e ▸ w.2) (hS' z)), by rw [List.length_cons, List.length_cons]; omega⟩
              · rw [z3 (by omega)]
                exact ⟨w4 (by omega) (by omega), hS', by omega⟩
          obtain ⟨_, eT3⟩ := inT _ _ eS.1
          have q := wr (kd r) _ S' nt1 note td2 tdo2 eT3 m1 (by omega) st2 eS.2.1 (by omega) (by rw [s1, s2]; exact N1) hno hun
          rw [s1, s2] at q
          exact q
  unfold wpX_draftType
  refine xw_addPair (t := 0) (by omega) ?_
  refine ⟨13, ?_⟩
  refine loop 12 [] [t] nt _ _ _ _ _ rfl ?_ (st_1p (L := []) trivial) (fun i hi => by rw [List.mem_singleton.mp hi]; exact ht) (Nat.le_refl _) hN hnt (fun _ _ _ => rfl) hds (fun w _ => rfl) (fun k x hx => by cases hx) (fun j _ => rfl)
  rw [wk_0, hT]
  exact (List.append_nil _).symm
end
