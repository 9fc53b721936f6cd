/-! the component's generalise against the worlds -/
section
variable {f_tokenCount f_accepted f_lastPlace f_openCount f_draftOpen f_symbolCount f_stepCount f_bindingCount f_waitingCount f_clashPlace f_nodeCount f_todoCount : Int32} {a_kinds a_values a_declaredSize a_declaredNodes a_draftSize a_draftNodes a_symbols a_symbolPlaces a_steps a_stepPlaces a_bindings a_boundType a_waitingTypes a_waitingFirm a_shape a_left a_right a_link a_note a_todo a_todoOther a_generalNode : Nat → Int32}
variable {kd pa pb : Nat → Nat} {n K : Nat}
/-- the bindings' places and their types, the innermost first -/
def xb_B (bd bt : Nat → Int32) : List (Nat × Bool) → List Nat → Prop
  | [], [] => True
  | b :: bs, e :: env => bd bs.length = nI b.1 ∧ b.1 < 24 ∧ bt b.1 = nI e ∧ xb_B bd bt bs env
  | _, _ => False
theorem xb_at {bd bt : Nat → Int32} : ∀ (bs : List (Nat × Bool)) (env : List Nat), xb_B bd bt bs env → ∀ i, i < bs.length → ∃ pl e, bd i = nI pl ∧ pl < 24 ∧ bt pl = nI e ∧ e ∈ env := by
  intro bs
  induction bs with
  | nil => intro env _ i hi; simp at hi
  | cons b bs ih =>
    intro env h i hi
    cases env with
    | nil => exact h.elim
    | cons e env =>
      by_cases c : i = bs.length
      · subst c; exact ⟨b.1, e, h.1, h.2.1, h.2.2.1, List.mem_cons_self⟩
      · rw [List.length_cons] at hi
        obtain ⟨pl, x, h1, h2, h3, h4⟩ := ih env h.2.2.2 i (by omega)
        exact ⟨pl, x, h1, h2, h3, List.mem_cons_of_mem _ h4⟩
theorem xb_all {bd bt : Nat → Int32} : ∀ (bs : List (Nat × Bool)) (env : List Nat), xb_B bd bt bs env → ∀ e, e ∈ env → ∃ i pl, i < bs.length ∧ bd i = nI pl ∧ pl < 24 ∧ bt pl = nI e := by
  intro bs
  induction bs with
  | nil => intro env h e he; cases env with
    | nil => cases he
    | cons e env => exact h.elim
  | cons b bs ih =>
    intro env h e he
    cases env with
    | nil => exact h.elim
    | cons e' env =>
      rcases List.mem_cons.mp he with z | z
      · rw [z]; exact ⟨bs.length, b.1, by rw [List.length_cons]; omega, h.1, h.2.1, h.2.2.1⟩
      · obtain ⟨i, pl, h1, h2, h3, h4⟩ := ih env h.2.2.2 e z
        exact ⟨i, pl, by rw [List.length_cons]; omega, h2, h3, h4⟩
theorem gr_f_78 {kd' : Nat → Nat} (h : ∀ i, kd' i = 1000 ↔ kd i = 1000) : ∀ f i, gr_f kd' pa f i = gr_f kd pa f i := by
  intro f
  induction f with
  | zero => intro i; rfl
  | succ f ih =>
    intro i
    by_cases c : kd i = 1000
    · rw [gr_f_l c, gr_f_l ((h i).mpr c)]; exact ih _
    · rw [gr_f_r c, gr_f_r (fun z => c ((h i).mp z))]
theorem gr_L_78 {kd' : Nat → Nat} (h : ∀ i, kd' i = 1000 ↔ kd i = 1000) (hL : gr_L n kd pa K) : gr_L n kd' pa K := by
  intro i hi z
  rw [gr_f_78 h] at z
  exact hL i hi ((h _).mp z)
theorem gr_nr_78 {kd' : Nat → Nat} (h : ∀ i, kd' i = 1000 ↔ kd i = 1000) : ∀ n, gr_nr kd' n = gr_nr kd n := by
  intro n
  induction n with
  | zero => rfl
  | succ n ih =>
    unfold gr_nr
    rw [ih]
    by_cases c : kd n = 1000
    · rw [if_pos c, if_pos ((h n).mpr c)]
    · rw [if_neg c, if_neg (fun z => c ((h n).mp z))]
/-- nodes that stand for a node of a set that holds its nodes' parts -/
theorem xq_C {S : Nat → Prop} (W : gr_W n kd pa pb) (hS : ∀ r, S r → r < n ∧ kd r ≠ 1000 ∧ (gr_cn (kd r) → (∀ x, gr_to kd pa (pa r) x → S x) ∧ ∀ x, gr_to kd pa (pb r) x → S x)) (hL : gr_L n kd pa K) : gr_C n kd pa pb (fun i => i < n ∧ ∃ r, gr_to kd pa i r ∧ S r) := by
  intro i ⟨hi, r, t, s⟩
  refine ⟨hi, fun c => ⟨(W i hi).1 c, r, gr_to_p c t, s⟩, fun c => ?_⟩
  have e := gr_to_u t (gr_to_r (by omega))
  subst e
  have w := (W r hi).2 c
  obtain ⟨a, b⟩ := (hS r s).2.2 c
  have t1 := gr_L_to hL w.1
  have t2 := gr_L_to hL w.2
  exact ⟨⟨w.1, _, t1, a _ t1⟩, w.2, _, t2, b _ t2⟩
theorem xw_g38 {post : SX → Prop} {b0 nl : Nat} {op stk env : List Nat} {bs : List (Nat × Bool)} {V : dv_W} {t nm : Nat} (hn : n ≤ 4000) (hG : xg_G n a_shape a_left a_right a_link kd pa pb) (hL : gr_L n kd pa K) (hK : K ≤ 4096) (I : rp_I b0 nl n kd pa pb op (t :: stk) env bs V)
    (CI : ∀ ν E τ st τ' st', V ν (τ :: st) E → V ν (τ' :: st') E → V ν (τ' :: st) E) (hB : xb_B a_bindings a_boundType bs env) (hb : bs.length < 24) (hb0 : ∀ i, i < b0 → i ∈ op)
    (h : ∀ sh kd' note td tc, xg_G n sh a_left a_right a_link kd' pa pb → rp_I b0 n n kd' pa pb op stk (t :: env) ((nm, true) :: bs) (dv_bind V) → (∀ i, kd' i = 1000 ↔ kd i = 1000) → (∀ i, kd i = 8 → kd' i = 8) → post (f_tokenCount, f_accepted, f_lastPlace, f_openCount, f_draftOpen, f_symbolCount, f_stepCount, nI (bs.length + 1), f_waitingCount, f_clashPlace, nI n, tc, a_kinds, a_values, a_declaredSize, a_declaredNodes, a_draftSize, a_draftNodes, a_symbols, a_symbolPlaces, a_steps, a_stepPlaces, a_bindings, a_boundType, a_waitingTypes, a_waitingFirm, sh, a_left, a_right, a_link, note, td, a_todoOther, a_generalNode)) :
    ∀ d j Q note td, j + d = bs.length → xq_I n kd note td Q → (∀ x, x ∈ Q → ∀ ρ ρ', gr_V n kd pa pb ρ → gr_V n kd pa pb ρ' → op.map ρ = op.map ρ' → env.map ρ = env.map ρ' → ρ x = ρ' x) → (∀ x, x ∈ op → ∀ r, gr_to kd pa x r → r ∈ Q) → (∀ i pl e r, i < j → a_bindings i = nI pl → pl < 24 → a_boundType pl = nI e → e < n → gr_to kd pa e r → r ∈ Q) → wX_generalise_38 post (nI t) (d + 1) (nI j) f_tokenCount f_accepted f_lastPlace f_openCount f_draftOpen f_symbolCount f_stepCount (nI (bs.length + 1)) f_waitingCount f_clashPlace (nI n) (nI Q.length) a_kinds a_values a_declaredSize a_declaredNodes a_draftSize a_draftNodes a_symbols a_symbolPlaces a_steps a_stepPlaces a_bindings a_boundType a_waitingTypes a_waitingFirm a_shape a_left a_right a_link note td a_todoOther a_generalNode := by
  have W := I.1
  have A := I.2.1
  obtain ⟨M, Es, ⟨hM, gM, oM, sM, eM⟩, _, _, _, _⟩ := I.2.2.1
  have en := I.2.2.2.1
  have tn : t < n := (hM t (sM t List.mem_cons_self)).1
  intro d
  induction d with
  | zero =>
    intro j Q note td hj hQ hD ho he
    have ec : nI (bs.length + 1) - 1 = nI bs.length := nI_pred _
    refine br_t (by rw [ec]; exact nI_le (by omega) (by omega)) ?_
    refine xw_rparts (P := fun x => ∀ ρ ρ', gr_V n kd pa pb ρ → gr_V n kd pa pb ρ' → op.map ρ = op.map ρ' → env.map ρ = env.map ρ' → ρ x = ρ' x) hn W hG hL hK (fun i hi hPi hc => ?_) Q 0 hQ (by omega) (fun i x _ hx => hD x (List.mem_of_getElem? hx)) (fun note1 td1 R1 hQ1 hR1 hc1 => ?_)
    · have w := (W i hi).2 hc
      refine ⟨fun x hx ρ ρ' h1 h2 h3 h4 => ?_, fun x hx ρ ρ' h1 h2 h3 h4 => ?_⟩
      · have e := hPi ρ ρ' h1 h2 h3 h4
        rw [gr_Vc h1 hi hc, gr_Vc h2 hi hc] at e
        rw [← gr_to_V W h1 hx w.1, ← gr_to_V W h2 hx w.1]; exact (tr_con_inj e).2.1
      · have e := hPi ρ ρ' h1 h2 h3 h4
        rw [gr_Vc h1 hi hc, gr_Vc h2 hi hc] at e
        rw [← gr_to_V W h1 hx w.2, ← gr_to_V W h2 hx w.2]; exact (tr_con_inj e).2.2
    · have tt := gr_L_to hL tn
      generalize e0 : gr_f kd pa K t = r at tt
      have rn := gr_to_n W tt tn
      refine xw_find hG (by omega) hL hK tn tt ?_
      -- the last part: Q2 all that is reached in the end
      have last : ∀ Q2 note2 td2, xq_I n kd note2 td2 Q2 → (∀ x, x ∈ Q ++ R1 → x ∈ Q2) → (∀ i x, (Q ++ R1).length ≤ i → Q2[i]? = some x → x ∉ Q ++ R1) → (∀ x, x ∈ Q2 → x ∈ Q ++ R1 ∨ ∃ i : Nat, (Q ++ R1).length ≤ i ∧ Q2[i]? = some x) → (∀ (i x : Nat), (Q ++ R1).length ≤ i → Q2[i]? = some x → ∀ ρ ρ', gr_V n kd pa pb ρ → gr_V n kd pa pb ρ' → ρ t = ρ' t → ρ x = ρ' x) → (∀ x, x ∈ Q2 → gr_cn (kd x) → (∀ y, gr_to kd pa (pa x) y → y ∈ Q2) ∧ ∀ y, gr_to kd pa (pb x) y → y ∈ Q2) → r ∈ Q2 → (Q ++ R1).length ≤ Q2.length → ∃ n104 : Nat, wX_generalise_104 post f_tokenCount f_accepted f_lastPlace f_openCount f_draftOpen f_symbolCount f_stepCount (nI (bs.length + 1)) f_waitingCount f_clashPlace (nI n) (nI Q2.length) n104 (nI (Q ++ R1).length) a_kinds a_values a_declaredSize a_declaredNodes a_draftSize a_draftNodes a_symbols a_symbolPlaces a_steps a_stepPlaces a_bindings a_boundType a_waitingTypes a_waitingFirm a_shape a_left a_right a_link note2 td2 a_todoOther a_generalNode := by
        intro Q2 note2 td2 hQ2 sub out split det clo hr hl
        refine ⟨(Q2.length - (Q ++ R1).length) + 1, ?_⟩
        refine xw_g104 hn hQ2 hG (Q ++ R1).length (fun sh kd' hG' hk => ?_) _ (Q ++ R1).length a_shape kd (Nat.le_refl _) (by omega) hG (fun i => Or.inr ⟨fun q => ?_, rfl⟩)
        · have k1 : ∀ i, kd' i = 1000 ↔ kd i = 1000 := by
            intro i
            rcases hk i with z | z
            · omega
            · rw [z.2]
          refine h sh kd' note2 td2 _ hG' ?_ k1 (fun i k8 => ?_)
          · have FS : gr_C n kd pa pb (fun i => i < n ∧ ∃ r, gr_to kd pa i r ∧ r ∈ Q ++ R1) := by
              refine xq_C W (fun x hx => ⟨(hQ1.1 x hx).1, (hQ1.1 x hx).2, fun c => ?_⟩) hL
              obtain ⟨i, hi⟩ := List.getElem?_of_mem hx
              exact hc1 i x (by omega) hi c
            have QS : gr_C n kd pa pb (fun i => i < n ∧ ∃ r, gr_to kd pa i r ∧ r ∈ Q2) := by
              refine xq_C W (fun x hx => ⟨(hQ2.1 x hx).1, (hQ2.1 x hx).2, fun c => clo x hx c⟩) hL
            have inF : ∀ x, x ∈ Q → x ∈ Q ++ R1 := fun x hx => List.mem_append_left _ hx
            refine rp_gen (F := fun i => i < n ∧ ∃ r, gr_to kd pa i r ∧ r ∈ Q ++ R1) (R := fun i => i < n ∧ ∀ ρ ρ', gr_V n kd pa pb ρ → gr_V n kd pa pb ρ' → ρ t = ρ' t → ρ i = ρ' i) I CI FS ?_ ?_ ?_ (fun ρ ρ' h1 h2 e i hi => hi.2 ρ ρ' h1 h2 e) (fun ρ ρ' h1 h2 e => e t ⟨tn, fun _ _ _ _ q => q⟩) ?_ ?_
            · intro ρ ρ' h1 h2 h3 h4 _ i ⟨hi, x, hx, hxQ⟩
              rw [gr_to_V W h1 hx hi, gr_to_V W h2 hx hi]
              rcases List.mem_append.mp hxQ with z | z
              · exact hD x z ρ ρ' h1 h2 h3 h4
              · exact hR1 x z ρ ρ' h1 h2 h3 h4
            · intro ρ ρ' h1 h2 e
              refine ⟨mp_i fun x hx => ?_, mp_i fun x hx => ?_⟩
              · have xn := (hM x (oM x hx)).1
                have tx := gr_L_to hL xn
                exact e x ⟨xn, _, tx, inF _ (ho x hx _ tx)⟩
              · have xn := en x hx
                have tx := gr_L_to hL xn
                obtain ⟨i, pl, b1, b2, b3, b4⟩ := xb_all bs env hB x hx
                exact e x ⟨xn, _, tx, inF _ (he i pl x _ (by omega) b2 b3 b4 xn tx)⟩
            · intro i ⟨hi, hd⟩
              refine ⟨hi, fun c => ⟨(W i hi).1 c, fun ρ ρ' h1 h2 e => ?_⟩, fun c => ?_⟩
              · rw [← gr_Vl h1 hi c, ← gr_Vl h2 hi c]; exact hd ρ ρ' h1 h2 e
              · refine ⟨⟨((W i hi).2 c).1, fun ρ ρ' h1 h2 e => ?_⟩, ((W i hi).2 c).2, fun ρ ρ' h1 h2 e => ?_⟩
                · have q := hd ρ ρ' h1 h2 e
                  rw [gr_Vc h1 hi c, gr_Vc h2 hi c] at q
                  exact (tr_con_inj q).2.1
                · have q := hd ρ ρ' h1 h2 e
                  rw [gr_Vc h1 hi c, gr_Vc h2 hi c] at q
                  exact (tr_con_inj q).2.2
            · intro ρ ρ' h1 h2 e i hi
              have io := hb0 i hi
              have xn := (hM i (oM i io)).1
              have tx := gr_L_to hL xn
              exact e i ⟨xn, _, tx, inF _ (ho i io _ tx)⟩
            · intro i
              have eqv : (kd i = 7 ∧ (∃ j, (Q ++ R1).length ≤ j ∧ Q2[j]? = some i)) ↔ (kd i = 7 ∧ (i < n ∧ ∀ ρ ρ', gr_V n kd pa pb ρ → gr_V n kd pa pb ρ' → ρ t = ρ' t → ρ i = ρ' i) ∧ ¬ (i < n ∧ ∃ r, gr_to kd pa i r ∧ r ∈ Q ++ R1)) := by
                constructor
                · intro ⟨k7, j, j1, j2⟩
                  have iQ := List.mem_of_getElem? j2
                  refine ⟨k7, ⟨(hQ2.1 i iQ).1, det j i j1 j2⟩, fun ⟨_, x, hx, hxQ⟩ => ?_⟩
                  have e := gr_to_u hx (gr_to_r (by omega))
                  rw [e] at hxQ
                  exact out j i j1 j2 hxQ
                · intro ⟨k7, ⟨hi, hd⟩, nf⟩
                  have iQ : i ∈ Q2 := by
                    by_cases q : i ∈ Q2
                    · exact q
                    · exfalso
                      obtain ⟨ρ, h1, r1⟩ := gr_ex A (fun _ => tr_at 0)
                      obtain ⟨ρ', h2, r2⟩ := gr_ex A (fun j => if j = i then tr_at 1 else tr_at 0)
                      have et : ρ t = ρ' t := by
                        refine gr_agA A h1 h2 QS (fun j hj c => ?_) ⟨tn, r, tt, hr⟩
                        rw [r1 j hj.1 c, r2 j hj.1 c]
                        have ne : ¬ j = i := fun z => by
                          subst z
                          obtain ⟨x, hx, hxQ⟩ := hj.2
                          have e := gr_to_u hx (gr_to_r (by omega))
                          rw [e] at hxQ
                          exact q hxQ
                        rw [if_neg ne]
                      have ei := hd ρ ρ' h1 h2 et
                      rw [r1 i hi (Or.inl k7), r2 i hi (Or.inl k7), if_pos rfl] at ei
                      exact absurd (tr_at_inj ei) (by decide)
                  rcases split i iQ with z | z
                  · exact (nf ⟨hi, i, gr_to_r (by omega), z⟩).elim
                  · exact ⟨k7, z⟩
              rcases hk i with z | z
              · obtain ⟨e1, e2, e3⟩ := eqv.mp ⟨z.1, z.2.1⟩
                exact Or.inl ⟨e1, e2, e3, z.2.2⟩
              · exact Or.inr ⟨fun q => z.1 (eqv.mpr q), z.2⟩
          · rcases hk i with z | z
            · exact z.2.2
            · rw [z.2]; exact k8
        · obtain ⟨_, k, k1, k2, _⟩ := q
          omega
      have clo1 : ∀ x, x ∈ Q ++ R1 → gr_cn (kd x) → (∀ y, gr_to kd pa (pa x) y → y ∈ Q ++ R1) ∧ ∀ y, gr_to kd pa (pb x) y → y ∈ Q ++ R1 := by
        intro x hx c
        obtain ⟨i, hi⟩ := List.getElem?_of_mem hx
        exact hc1 i x (by omega) hi c
      have none : ∀ (i x : Nat), (Q ++ R1).length ≤ i → ¬ (Q ++ R1)[i]? = some x := by
        intro i x hi hx
        have := (List.getElem?_eq_some_iff.mp hx).1
        omega
      have hPt : ∀ i, i < n → (∀ ρ ρ', gr_V n kd pa pb ρ → gr_V n kd pa pb ρ' → ρ t = ρ' t → ρ i = ρ' i) → gr_cn (kd i) → (∀ x, gr_to kd pa (pa i) x → ∀ ρ ρ', gr_V n kd pa pb ρ → gr_V n kd pa pb ρ' → ρ t = ρ' t → ρ x = ρ' x) ∧ ∀ x, gr_to kd pa (pb i) x → ∀ ρ ρ', gr_V n kd pa pb ρ → gr_V n kd pa pb ρ' → ρ t = ρ' t → ρ x = ρ' x := by
        intro i hi hPi hc
        have w := (W i hi).2 hc
        refine ⟨fun x hx ρ ρ' h1 h2 h3 => ?_, fun x hx ρ ρ' h1 h2 h3 => ?_⟩
        · have e := hPi ρ ρ' h1 h2 h3
          rw [gr_Vc h1 hi hc, gr_Vc h2 hi hc] at e
          rw [← gr_to_V W h1 hx w.1, ← gr_to_V W h2 hx w.1]; exact (tr_con_inj e).2.1
        · have e := hPi ρ ρ' h1 h2 h3
          rw [gr_Vc h1 hi hc, gr_Vc h2 hi hc] at e
          rw [← gr_to_V W h1 hx w.2, ← gr_to_V W h2 hx w.2]; exact (tr_con_inj e).2.2
      refine xw_reach hn hQ1 rn tt.1 (fun hr => ?_) (fun hr note2 td2 hQ2 => ?_)
      · refine xw_rparts (P := fun x => ∀ ρ ρ', gr_V n kd pa pb ρ → gr_V n kd pa pb ρ' → ρ t = ρ' t → ρ x = ρ' x) hn W hG hL hK hPt (Q ++ R1) (Q ++ R1).length hQ1 (Nat.le_refl _) (fun i x hi hx => (none i x hi hx).elim) (fun note3 td3 R3 hQ3 hR3 hc3 => ?_)
        have nd := hQ3.2.2.2.1
        rw [List.nodup_append] at nd
        refine last _ note3 td3 hQ3 (fun x hx => List.mem_append_left _ hx) (fun i x hi hx hxQ => ?_) (fun x hx => ?_) (fun i x hi hx => ?_) (fun x hx c => ?_) (List.mem_append_left _ hr) (by simp only [List.length_append]; omega)
        · rw [List.getElem?_append_right hi] at hx
          exact nd.2.2 x hxQ x (List.mem_of_getElem? hx) rfl
        · rcases List.mem_append.mp hx with z | z
          · exact Or.inl z
          · obtain ⟨i, hi⟩ := List.getElem?_of_mem z
            refine Or.inr ⟨(Q ++ R1).length + i, by omega, ?_⟩
            rw [List.getElem?_append_right (by omega), Nat.add_sub_cancel_left]; exact hi
        · rw [List.getElem?_append_right hi] at hx
          exact hR3 x (List.mem_of_getElem? hx)
        · rcases List.mem_append.mp hx with z | z
          · obtain ⟨a1, a2⟩ := clo1 x z c
            exact ⟨fun y hy => List.mem_append_left _ (a1 y hy), fun y hy => List.mem_append_left _ (a2 y hy)⟩
          · obtain ⟨i, hi⟩ := List.getElem?_of_mem z
            refine hc3 ((Q ++ R1).length + i) x (by omega) ?_ c
            rw [List.getElem?_append_right (by omega), Nat.add_sub_cancel_left]; exact hi
      · have dr : ∀ ρ ρ', gr_V n kd pa pb ρ → gr_V n kd pa pb ρ' → ρ t = ρ' t → ρ r = ρ' r := fun ρ ρ' h1 h2 e => by
          rw [← gr_to_V W h1 tt tn, ← gr_to_V W h2 tt tn]; exact e
        have one : ∀ (i x : Nat), (Q ++ R1).length ≤ i → (Q ++ R1 ++ [r])[i]? = some x → x = r := by
          intro i x hi hx
          rw [List.getElem?_append_right hi] at hx
          exact List.mem_singleton.mp (List.mem_of_getElem? hx)
        refine xw_rparts (P := fun x => ∀ ρ ρ', gr_V n kd pa pb ρ → gr_V n kd pa pb ρ' → ρ t = ρ' t → ρ x = ρ' x) hn W hG hL hK hPt (Q ++ R1 ++ [r]) (Q ++ R1).length hQ2 (by rw [List.length_append (as := Q ++ R1)]; omega) (fun i x hi hx => by rw [one i x hi hx]; exact dr) (fun note3 td3 R3 hQ3 hR3 hc3 => ?_)
        have nd := hQ3.2.2.2.1
        have eq : Q ++ R1 ++ [r] ++ R3 = (Q ++ R1) ++ (r :: R3) := by rw [List.append_assoc (Q ++ R1)]; rfl
        rw [eq] at nd hQ3 hc3 ⊢
        rw [List.nodup_append] at nd
        have det : ∀ x, x ∈ r :: R3 → ∀ ρ ρ', gr_V n kd pa pb ρ → gr_V n kd pa pb ρ' → ρ t = ρ' t → ρ x = ρ' x := by
          intro x hx
          rcases List.mem_cons.mp hx with z | z
          · rw [z]; exact dr
          · exact hR3 x z
        refine last _ note3 td3 hQ3 (fun x hx => List.mem_append_left _ hx) (fun i x hi hx hxQ => ?_) (fun x hx => ?_) (fun i x hi hx => ?_) (fun x hx c => ?_) (List.mem_append_right _ List.mem_cons_self) (by rw [List.length_append (as := Q ++ R1)]; omega)
        · rw [List.getElem?_append_right hi] at hx
          exact nd.2.2 x hxQ x (List.mem_of_getElem? hx) rfl
        · rcases List.mem_append.mp hx with z | z
          · exact Or.inl z
          · obtain ⟨i, hi⟩ := List.getElem?_of_mem z
            refine Or.inr ⟨(Q ++ R1).length + i, by omega, ?_⟩
            rw [List.getElem?_append_right (by omega), Nat.add_sub_cancel_left]; exact hi
        · rw [List.getElem?_append_right hi] at hx
          exact det x (List.mem_of_getElem? hx)
        · rcases List.mem_append.mp hx with z | z
          · obtain ⟨a1, a2⟩ := clo1 x z c
            exact ⟨fun y hy => List.mem_append_left _ (a1 y hy), fun y hy => List.mem_append_left _ (a2 y hy)⟩
          · obtain ⟨i, hi⟩ := List.getElem?_of_mem z
            refine hc3 ((Q ++ R1).length + i) x (by omega) ?_ c
            rw [List.getElem?_append_right (by omega), Nat.add_sub_cancel_left]; exact hi
  | succ d ih =>
    intro j Q note td hj hQ hD ho he
    have ec : nI (bs.length + 1) - 1 = nI bs.length := nI_pred _
    obtain ⟨pl, e, b1, b2, b3, b4⟩ := xb_at bs env hB j (by omega)
    have xn := en e b4
    have te := gr_L_to hL xn
    generalize e0 : gr_f kd pa K e = r at te
    have rn := gr_to_n W te xn
    refine br_f (by rw [ec]; exact nI_ge (by omega) (by omega)) ⟨vp_in_nI (by omega) (by decide), ?_⟩
    rw [nI_clamp (by omega), b1]
    refine ⟨vp_in_nI (by omega) (by decide), ?_⟩
    rw [nI_clamp (by omega), b3]
    refine xw_find hG (by omega) hL hK xn te ?_
    have dr : ∀ ρ ρ', gr_V n kd pa pb ρ → gr_V n kd pa pb ρ' → op.map ρ = op.map ρ' → env.map ρ = env.map ρ' → ρ r = ρ' r := fun ρ ρ' h1 h2 _ h4 => by
      rw [← gr_to_V W h1 te xn, ← gr_to_V W h2 te xn]; exact mp_e h4 e b4
    have old : ∀ i pl' e' r', i < j + 1 → a_bindings i = nI pl' → pl' < 24 → a_boundType pl' = nI e' → e' < n → gr_to kd pa e' r' → r' ∈ Q ∨ r' = r := by
      intro i pl' e' r' hi h1 hpl h2 h3 h4
      by_cases c : i = j
      · subst c
        have e1 : pl' = pl := by
          rw [b1] at h1
          exact ((nI_eq (by omega) (by omega)).mp h1).symm
        subst e1
        rw [b3] at h2
        have e2 : e = e' := (nI_eq (by omega) (by omega)).mp h2
        subst e2
        exact Or.inr (gr_to_u h4 te)
      · exact Or.inl (he i pl' e' r' (by omega) h1 hpl h2 h3 h4)
    refine xw_reach hn hQ rn te.1 (fun hr => nm_r (nI_1 j) ?_) (fun hr note2 td2 hQ2 => nm_r (nI_1 j) ?_)
    · refine ih (j + 1) Q note td (by omega) hQ hD ho (fun i pl' e' r' hi h1 hpl h2 h3 h4 => ?_)
      rcases old i pl' e' r' hi h1 hpl h2 h3 h4 with z | z
      · exact z
      · rw [z]; exact hr
    · refine ih (j + 1) (Q ++ [r]) note2 td2 (by omega) hQ2 (fun x hx => ?_) (fun x hx r' h' => List.mem_append_left _ (ho x hx r' h')) (fun i pl' e' r' hi h1 hpl h2 h3 h4 => ?_)
      · rcases List.mem_append.mp hx with z | z
        · exact hD x z
        · rw [List.mem_singleton.mp z]; exact dr
      · rcases old i pl' e' r' hi h1 hpl h2 h3 h4 with z | z
        · exact List.mem_append_left _ z
        · rw [z]; exact List.mem_append_right _ List.mem_cons_self
end
section
variable {f_tokenCount f_accepted f_lastPlace f_openCount f_draftOpen f_symbolCount f_stepCount f_bindingCount f_waitingCount f_clashPlace f_nodeCount f_todoCount : Int32} {a_kinds a_values a_declaredSize a_declaredNodes a_draftSize a_draftNodes a_symbols a_symbolPlaces a_steps a_stepPlaces a_bindings a_boundType a_waitingTypes a_waitingFirm a_shape a_left a_right a_link a_note a_todo a_todoOther a_generalNode : Nat → Int32}
variable {kd pa pb : Nat → Nat} {n K : Nat}
theorem xw_generalise {post : SX → Prop} {nl : Nat} {stk env : List Nat} {bs : List (Nat × Bool)} {V : dv_W} {t nm oc : Nat} (hn : n ≤ 4000) (hG : xg_G n a_shape a_left a_right a_link kd pa pb) (hL : gr_L n kd pa K) (hK : K ≤ 4096) (I : rp_I oc nl n kd pa pb (List.range oc) (t :: stk) env bs V)
    (CI : ∀ ν E τ st τ' st', V ν (τ :: st) E → V ν (τ' :: st') E → V ν (τ' :: st) E) (hB : xb_B a_bindings a_boundType bs env) (hb : bs.length < 24)
    (h : ∀ sh kd' note td tc, xg_G n sh a_left a_right a_link kd' pa pb → rp_I oc n n kd' pa pb (List.range oc) stk (t :: env) ((nm, true) :: bs) (dv_bind V) → (∀ i, kd' i = 1000 ↔ kd i = 1000) → (∀ i, kd i = 8 → kd' i = 8) → post (f_tokenCount, f_accepted, f_lastPlace, nI oc, f_draftOpen, f_symbolCount, f_stepCount, nI (bs.length + 1), f_waitingCount, f_clashPlace, nI n, tc, a_kinds, a_values, a_declaredSize, a_declaredNodes, a_draftSize, a_draftNodes, a_symbols, a_symbolPlaces, a_steps, a_stepPlaces, a_bindings, a_boundType, a_waitingTypes, a_waitingFirm, sh, a_left, a_right, a_link, note, td, a_todoOther, a_generalNode)) :
    wpX_generalise post (f_tokenCount, f_accepted, f_lastPlace, nI oc, f_draftOpen, f_symbolCount, f_stepCount, nI (bs.length + 1), f_waitingCount, f_clashPlace, nI n, f_todoCount, a_kinds, a_values, a_declaredSize, a_declaredNodes, a_draftSize, a_draftNodes, a_symbols, a_symbolPlaces, a_steps, a_stepPlaces, a_bindings, a_boundType, a_waitingTypes, a_waitingFirm, a_shape, a_left, a_right, a_link, a_note, a_todo, a_todoOther, a_generalNode) (nI t) := by
  have W := I.1
  obtain ⟨M, Es, ⟨hM, gM, oM, sM, eM⟩, _, _, _, _⟩ := I.2.2.1
  have on : ∀ i, i < oc → i < n := fun i hi => (hM i (oM i (List.mem_range.mpr hi))).1
  have ocn : oc ≤ n := by
    by_cases c : oc = 0
    · omega
    · have := on (oc - 1) (by omega); omega
  unfold wpX_generalise
  refine xw_clear (by omega) (fun note hz => ?_)
  refine ⟨oc + 1, ?_⟩
  have loop : ∀ d j Q note td, j + d = oc → xq_I n kd note td Q → (∀ x, x ∈ Q → ∀ ρ ρ', gr_V n kd pa pb ρ → gr_V n kd pa pb ρ' → (List.range oc).map ρ = (List.range oc).map ρ' → env.map ρ = env.map ρ' → ρ x = ρ' x) → (∀ x, x < j → ∀ r, gr_to kd pa x r → r ∈ Q) → wX_generalise_11 post (nI t) (d + 1) (nI j) f_tokenCount f_accepted f_lastPlace (nI oc) f_draftOpen f_symbolCount f_stepCount (nI (bs.length + 1)) f_waitingCount f_clashPlace (nI n) (nI Q.length) a_kinds a_values a_declaredSize a_declaredNodes a_draftSize a_draftNodes a_symbols a_symbolPlaces a_steps a_stepPlaces a_bindings a_boundType a_waitingTypes a_waitingFirm a_shape a_left a_right a_link note td a_todoOther a_generalNode := by
    intro d
    induction d with
    | zero =>
      intro j Q note td hj hQ hD ho
      refine br_t (nI_le (by omega) (by omega)) ⟨bs.length + 1, ?_⟩
      exact xw_g38 hn hG hL hK I CI hB hb (fun i hi => List.mem_range.mpr hi) h bs.length 0 Q note td (by omega) hQ hD (fun x hx => ho x (by have := List.mem_range.mp hx; omega)) (fun i pl e r hi => by omega)
    | succ d ih =>
      intro j Q note td hj hQ hD ho
      have xn := on j (by omega)
      have te := gr_L_to hL xn
      generalize e0 : gr_f kd pa K j = r at te
      have rn := gr_to_n W te xn
      refine br_f (nI_ge (by omega) (by omega)) ?_
      refine xw_find hG (by omega) hL hK xn te ?_
      have old : ∀ x, x < j + 1 → ∀ r', gr_to kd pa x r' → r' ∈ Q ∨ r' = r := by
        intro x hx r' h'
        by_cases c : x = j
        · subst c; exact Or.inr (gr_to_u h' te)
        · exact Or.inl (ho x (by omega) r' h')
      refine xw_reach hn hQ rn te.1 (fun hr => nm_r (nI_1 j) ?_) (fun hr note2 td2 hQ2 => nm_r (nI_1 j) ?_)
      · refine ih (j + 1) Q note td (by omega) hQ hD (fun x hx r' h' => ?_)
        rcases old x hx r' h' with z | z
        · exact z
        · rw [z]; exact hr
      · refine ih (j + 1) (Q ++ [r]) note2 td2 (by omega) hQ2 (fun x hx => ?_) (fun x hx r' h' => ?_)
        · rcases List.mem_append.mp hx with z | z
          · exact hD x z
          · rw [List.mem_singleton.mp z]
            intro ρ ρ' h1 h2 h3 _
            rw [← gr_to_V W h1 te xn, ← gr_to_V W h2 te xn]; exact mp_e h3 j (List.mem_range.mpr (by omega))
        · rcases old x hx r' h' with z | z
          · exact List.mem_append_left _ z
          · rw [z]; exact List.mem_append_right _ List.mem_cons_self
  exact loop oc 0 [] note a_todo (by omega) (xq_0 hz) (fun x hx => by cases hx) (fun x hx => by omega)
end
