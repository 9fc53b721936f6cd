/-! the component's generalise as a whole -/
section
variable {f_tokenCount f_accepted f_lastPlace f_openCount f_draftOpen f_symbolCount f_stepCount f_bindingCount f_waitingCount f_clashPlace f_nodeCount f_todoCount : Int32} {a_kinds a_values a_declaredSize a_declaredNodes a_draftSize a_draftNodes a_symbols a_symbolPlaces a_steps a_stepPlaces a_bindings a_boundType a_waitingTypes a_waitingFirm a_shape a_left a_right a_link a_note a_todo a_todoOther a_generalNode : Nat → Int32}
variable {kd pa pb : Nat → Nat} {n K : Nat}
theorem xw_rparts {post : SX → Prop} {P : Nat → Prop} (hn : n ≤ 4000) (W : gr_W n kd pa pb) (hG : xg_G n a_shape a_left a_right a_link kd pa pb) (hL : gr_L n kd pa K) (hK : K ≤ 4096)
    (hP : ∀ i, i < n → P i → gr_cn (kd i) → (∀ x, gr_to kd pa (pa i) x → P x) ∧ ∀ x, gr_to kd pa (pb i) x → P x) (Q0 : List Nat) (j0 : Nat) (I : xq_I n kd a_note a_todo Q0) (hj : j0 ≤ Q0.length) (hq : ∀ (i x : Nat), j0 ≤ i → Q0[i]? = some x → P x)
    (h : ∀ note td R, xq_I n kd note td (Q0 ++ R) → (∀ x, x ∈ R → P x) → (∀ (i x : Nat), j0 ≤ i → (Q0 ++ R)[i]? = some x → gr_cn (kd x) → (∀ y, gr_to kd pa (pa x) y → y ∈ Q0 ++ R) ∧ ∀ y, gr_to kd pa (pb x) y → y ∈ Q0 ++ R) → post (f_tokenCount, f_accepted, f_lastPlace, f_openCount, f_draftOpen, f_symbolCount, f_stepCount, f_bindingCount, f_waitingCount, f_clashPlace, f_nodeCount, nI (Q0 ++ R).length, a_kinds, a_values, a_declaredSize, a_declaredNodes, a_draftSize, a_draftNodes, a_symbols, a_symbolPlaces, a_steps, a_stepPlaces, a_bindings, a_boundType, a_waitingTypes, a_waitingFirm, a_shape, a_left, a_right, a_link, note, td, a_todoOther, a_generalNode)) :
    wpX_reachParts post (f_tokenCount, f_accepted, f_lastPlace, f_openCount, f_draftOpen, f_symbolCount, f_stepCount, f_bindingCount, f_waitingCount, f_clashPlace, f_nodeCount, nI Q0.length, a_kinds, a_values, a_declaredSize, a_declaredNodes, a_draftSize, a_draftNodes, a_symbols, a_symbolPlaces, a_steps, a_stepPlaces, a_bindings, a_boundType, a_waitingTypes, a_waitingFirm, a_shape, a_left, a_right, a_link, a_note, a_todo, a_todoOther, a_generalNode) (nI j0) := by
  refine ⟨n + 1, ?_⟩
  have z := xw_rparts_l (post := post) hn W hG hL hK hP Q0 j0 h n j0 [] a_note a_todo (by rw [List.append_nil]; exact I) (Nat.le_refl _) (by rw [List.append_nil]; exact hj) (by omega) (fun x hx => by cases hx) (by rw [List.append_nil]; exact hq) (fun i x h1 h2 => by omega)
  rw [List.append_nil] at z
  exact z
/-- the variables reached from the place j0 on become general -/
theorem xw_g104 {post : SX → Prop} {Q : List Nat} (hn : n ≤ 4000) (I : xq_I n kd a_note a_todo Q) (hG : xg_G n a_shape a_left a_right a_link kd pa pb) (j0 : Nat)
    (h : ∀ sh kd', xg_G n sh a_left a_right a_link kd' pa pb → (∀ i, (kd i = 7 ∧ (∃ j, j0 ≤ j ∧ Q[j]? = some i) ∧ kd' i = 8) ∨ (¬ (kd i = 7 ∧ ∃ j, j0 ≤ j ∧ Q[j]? = some i) ∧ kd' i = kd i)) → post (f_tokenCount, f_accepted, f_lastPlace, f_openCount, f_draftOpen, f_symbolCount, f_stepCount, f_bindingCount, f_waitingCount, f_clashPlace, f_nodeCount, nI Q.length, a_kinds, a_values, a_declaredSize, a_declaredNodes, a_draftSize, a_draftNodes, a_symbols, a_symbolPlaces, a_steps, a_stepPlaces, a_bindings, a_boundType, a_waitingTypes, a_waitingFirm, sh, a_left, a_right, a_link, a_note, a_todo, a_todoOther, a_generalNode)) :
    ∀ d j sh kd', j0 ≤ j → j + d = Q.length → xg_G n sh a_left a_right a_link kd' pa pb → (∀ i, (kd i = 7 ∧ (∃ k, j0 ≤ k ∧ k < j ∧ Q[k]? = some i) ∧ kd' i = 8) ∨ (¬ (kd i = 7 ∧ ∃ k, j0 ≤ k ∧ k < j ∧ Q[k]? = some i) ∧ kd' i = kd i)) → wX_generalise_104 post f_tokenCount f_accepted f_lastPlace f_openCount f_draftOpen f_symbolCount f_stepCount f_bindingCount f_waitingCount f_clashPlace f_nodeCount (nI Q.length) (d + 1) (nI j) a_kinds a_values a_declaredSize a_declaredNodes a_draftSize a_draftNodes a_symbols a_symbolPlaces a_steps a_stepPlaces a_bindings a_boundType a_waitingTypes a_waitingFirm sh a_left a_right a_link a_note a_todo a_todoOther a_generalNode := by
  have hlen := xq_len I
  intro d
  induction d with
  | zero =>
    intro j sh kd' h0 hj hG' hk
    refine br_t (nI_le (by omega) (by omega)) (h sh kd' hG' (fun i => ?_))
    have e : (∃ k, j0 ≤ k ∧ k < j ∧ Q[k]? = some i) ↔ ∃ k, j0 ≤ k ∧ Q[k]? = some i := by
      constructor
      · intro ⟨k, k1, k2, k3⟩; exact ⟨k, k1, k3⟩
      · intro ⟨k, k1, k3⟩
        have := (List.getElem?_eq_some_iff.mp k3).1
        exact ⟨k, k1, by omega, k3⟩
    rw [← e]; exact hk i
  | succ d ih =>
    intro j sh kd' h0 hj hG' hk
    obtain ⟨x, hx⟩ : ∃ x, Q[j]? = some x := ⟨Q[j], List.getElem?_eq_getElem (by omega)⟩
    have xQ : x ∈ Q := List.mem_of_getElem? hx
    obtain ⟨xn, xk⟩ := I.1 x xQ
    have etd : a_todo j = nI x := I.2.2.1 j x hx
    have vj : vp_in (nI j) 4096 := vp_in_nI (by omega) (by decide)
    have vx : vp_in (nI x) 4096 := vp_in_nI (by omega) (by decide)
    have cx : (nI x).toNatClampNeg = x := nI_clamp (by omega)
    have notyet : ¬ ∃ k, j0 ≤ k ∧ k < j ∧ Q[k]? = some x := by
      intro ⟨k, k1, k2, k3⟩
      have l1 := (List.getElem?_eq_some_iff.mp k3)
      have l2 := (List.getElem?_eq_some_iff.mp hx)
      obtain ⟨l1, e1⟩ := l1
      obtain ⟨l2, e2⟩ := l2
      have := (List.getElem_inj I.2.2.2.1).mp (e1.trans e2.symm)
      omega
    have ekx : kd' x = kd x := by
      rcases hk x with z | z
      · exact (notyet z.2.1).elim
      · exact z.2
    have sx : kd' x < 30 ∧ sh x = nI (kd' x) := by
      have := xg_sh hG' xn (by rw [ekx]; exact xk)
      exact ⟨this.1, this.2.1⟩
    have up : ∀ i, (∃ k, j0 ≤ k ∧ k < j + 1 ∧ Q[k]? = some i) ↔ (∃ k, j0 ≤ k ∧ k < j ∧ Q[k]? = some i) ∨ i = x := by
      intro i
      constructor
      · intro ⟨k, k1, k2, k3⟩
        by_cases e : k = j
        · subst e; rw [hx] at k3; exact Or.inr (Option.some.inj k3).symm
        · exact Or.inl ⟨k, k1, by omega, k3⟩
      · intro z
        rcases z with ⟨k, k1, k2, k3⟩ | z
        · exact ⟨k, k1, by omega, k3⟩
        · rw [z]; exact ⟨j, h0, by omega, hx⟩
    refine br_f (nI_ge (by omega) (by omega)) ⟨vj, ?_⟩
    rw [nI_clamp (by omega), etd]
    refine ⟨vx, ?_⟩
    rw [cx, sx.2]
    refine pk_eq (kd' x) 7 (fun k7 => ⟨vj, vx, nm_e (nm_r (nI_1 j) ?_)⟩) (fun k7 => nm_r (nI_1 j) ?_)
    · refine ih (j + 1) _ (gr_u kd' x 8) (by omega) (by omega) (fun i hi => ?_) (fun i => ?_)
      · by_cases e : i = x
        · subst e
          rw [gr_us, pk_us]
          rcases hG' i hi with z | z
          · omega
          · exact Or.inr ⟨by omega, by omega, z.2.2.1, rfl, fun q => by omega⟩
        · rw [gr_un e, pk_un e]; exact hG' i hi
      · rw [up i]
        by_cases e : i = x
        · subst e
          rw [gr_us]
          exact Or.inl ⟨by omega, Or.inr rfl, rfl⟩
        · rw [gr_un e]
          rcases hk i with z | z
          · exact Or.inl ⟨z.1, Or.inl z.2.1, z.2.2⟩
          · exact Or.inr ⟨fun q => z.1 ⟨q.1, q.2.elim id (fun q => (e q).elim)⟩, z.2⟩
    · refine ih (j + 1) sh kd' (by omega) (by omega) hG' (fun i => ?_)
      rw [up i]
      by_cases e : i = x
      · subst e
        exact Or.inr ⟨fun q => by omega, ekx⟩
      · rcases hk i with z | z
        · exact Or.inl ⟨z.1, Or.inl z.2.1, z.2.2⟩
        · exact Or.inr ⟨fun q => z.1 ⟨q.1, q.2.elim id (fun q => (e q).elim)⟩, z.2⟩
end
