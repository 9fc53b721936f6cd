/-! the component's demand, and the waiting types -/
section
variable {f_tokenCount f_accepted f_lastPlace f_openCount f_draftOpen f_symbolCount f_stepCount f_bindingCount f_waitingCount f_clashPlace f_nodeCount f_todoCount : Int32} {a_kinds a_values a_declaredSize a_declaredNodes a_draftSize a_draftNodes a_symbols a_symbolPlaces a_steps a_stepPlaces a_bindings a_boundType a_waitingTypes a_waitingFirm a_shape a_left a_right a_link a_note a_todo a_todoOther a_generalNode : Nat → Int32}
variable {kd pa pb : Nat → Nat} {n K : Nat}
def xt_I (oc nl n K : Nat) (kd pa pb : Nat → Nat) (stk env : List Nat) (bs : List (Nat × Bool)) (V : dv_W) (sh lf rt lk : Nat → Int32) : Prop :=
  rp_I oc nl n kd pa pb (List.range oc) stk env bs V ∧ xg_G n sh lf rt lk kd pa pb ∧ gr_L n kd pa K ∧ K + gr_nr kd n ≤ n
/-- nodes that are valid, whatever they mean -/
def xt_C (n : Nat) (sh lf rt lk : Nat → Int32) : Prop := ∃ kd pa pb K, gr_W n kd pa pb ∧ xg_G n sh lf rt lk kd pa pb ∧ gr_L n kd pa K ∧ K + gr_nr kd n ≤ n
theorem xt_CI {oc nl : Nat} {stk env : List Nat} {bs : List (Nat × Bool)} {V : dv_W} {sh lf rt lk : Nat → Int32} (I : xt_I oc nl n K kd pa pb stk env bs V sh lf rt lk) : xt_C n sh lf rt lk := ⟨kd, pa, pb, K, I.1.1, I.2.1, I.2.2.1, I.2.2.2⟩
theorem xw_demand {post : SX → Prop} {oc nl s t p : Nat} {stk env : List Nat} {bs : List (Nat × Bool)} {V : dv_W} (I : xt_I oc nl n K kd pa pb stk env bs V a_shape a_left a_right a_link) (hn : n ≤ 4000) (hs : s ∈ stk ∨ s ∈ mo_l bs env) (ht : t ∈ stk ∨ t ∈ mo_l bs env) (f : dv_W) (hf : ∀ ρ : Nat → tr_T, f ((List.range oc).map ρ) (stk.map ρ) (env.map ρ) ↔ ρ s = ρ t)
    (hok : ∀ kd' pa' K' lk note td tdo, xt_I oc nl n K' kd' pa' pb stk env bs (fun ν st E => V ν st E ∧ f ν st E) a_shape a_left a_right lk → post (f_tokenCount, f_accepted, f_lastPlace, f_openCount, f_draftOpen, f_symbolCount, f_stepCount, f_bindingCount, f_waitingCount, -1, nI n, 0, a_kinds, a_values, a_declaredSize, a_declaredNodes, a_draftSize, a_draftNodes, a_symbols, a_symbolPlaces, a_steps, a_stepPlaces, a_bindings, a_boundType, a_waitingTypes, a_waitingFirm, a_shape, a_left, a_right, lk, note, td, tdo, a_generalNode))
    (hbad : (∀ ν st E, ¬ (V ν st E ∧ f ν st E)) → ∀ lk note td tdo tc, xt_C n a_shape a_left a_right lk → post (f_tokenCount, f_accepted, f_lastPlace, f_openCount, f_draftOpen, f_symbolCount, f_stepCount, f_bindingCount, f_waitingCount, nI p, nI n, tc, a_kinds, a_values, a_declaredSize, a_declaredNodes, a_draftSize, a_draftNodes, a_symbols, a_symbolPlaces, a_steps, a_stepPlaces, a_bindings, a_boundType, a_waitingTypes, a_waitingFirm, a_shape, a_left, a_right, lk, note, td, tdo, a_generalNode)) :
    wpX_demand post (f_tokenCount, f_accepted, f_lastPlace, f_openCount, f_draftOpen, f_symbolCount, f_stepCount, f_bindingCount, f_waitingCount, -1, nI n, f_todoCount, a_kinds, a_values, a_declaredSize, a_declaredNodes, a_draftSize, a_draftNodes, a_symbols, a_symbolPlaces, a_steps, a_stepPlaces, a_bindings, a_boundType, a_waitingTypes, a_waitingFirm, a_shape, a_left, a_right, a_link, a_note, a_todo, a_todoOther, a_generalNode) (nI s) (nI t) (nI p) := by
  obtain ⟨J, hG, hL, hK⟩ := I
  have J' := J
  obtain ⟨W, A, ⟨M, E, ⟨hM, gM, oM, sM, eM⟩, cE, mE, eE, bE⟩, en, hl, hP, hV⟩ := J
  have ms : M s := hs.elim (sM s) (eM s)
  have mt : M t := ht.elim (sM t) (eM t)
  have tn : t < n := (hM t mt).1
  unfold wpX_demand
  refine br_t (by decide) ?_
  refine xw_eq hn W hM gM ms mt hG hL hK (fun un kd1 pa1 K1 tc lk td tdo w1 g1 l1 k1 => ?_) (fun kd1 pa1 K1 lk td tdo U g1 l1 k1 => ?_)
  · exact br_t rfl (hbad (rp_ne J' un f hf) lk a_note td tdo tc ⟨kd1, pa1, pb, K1, w1, g1, l1, k1⟩)
  · refine br_f (by decide) ?_
    have w1 := U.1
    refine xw_cyc hn w1 g1 l1 (by omega) tn (fun no note td' => ?_) (fun S hS h0 note td' => ?_)
    · refine br_f (by decide) (hbad (fun ν st E ⟨v, u⟩ => ?_) lk note td' tdo _ ⟨kd1, pa1, pb, K1, w1, g1, l1, k1⟩)
      obtain ⟨ρ, h, e1, e2, e3⟩ := (hV _ _ _).mp v
      rw [← e1, ← e2, ← e3] at u
      exact no ρ ((U.2.1 ρ).mp ⟨h, (hf ρ).mp u⟩).1
    · refine br_t rfl (hok kd1 pa1 K1 lk note td' tdo ⟨?_, g1, l1, k1⟩)
      exact rp_eq J' oM sM eM U l1 hS (Or.inr h0) f hf (fun i _ k8 m => gM i m k8) cE mE eE bE
/-- a stack of truth values -/
def st_b (a : Nat → Int32) : List Bool → Prop
  | [] => True
  | b :: L => a L.length = (if b = true then 1 else 0) ∧ st_b a L
theorem st_bu {a : Nat → Int32} {k : Nat} {x : Int32} : ∀ L : List Bool, L.length ≤ k → st_b a L → st_b (upd a k x) L := by
  intro L
  induction L with
  | nil => intro _ _; trivial
  | cons y L ih =>
    intro h z
    rw [List.length_cons] at h
    refine ⟨?_, ih (by omega) z.2⟩
    rw [pk_un (by omega)]; exact z.1
theorem st_bp {a : Nat → Int32} {b : Bool} {L : List Bool} (h : st_b a L) : st_b (upd a L.length (if b = true then 1 else 0)) (b :: L) := ⟨pk_us, st_bu L (Nat.le_refl _) h⟩
theorem xw_push {post : SX → Prop} {h : Nat} {x : Int32} {b : Bool} (hh : h < 64) (hp : post (f_tokenCount, f_accepted, f_lastPlace, f_openCount, f_draftOpen, f_symbolCount, f_stepCount, f_bindingCount, nI (h + 1), f_clashPlace, f_nodeCount, f_todoCount, a_kinds, a_values, a_declaredSize, a_declaredNodes, a_draftSize, a_draftNodes, a_symbols, a_symbolPlaces, a_steps, a_stepPlaces, a_bindings, a_boundType, upd a_waitingTypes h x, upd a_waitingFirm h (if b = true then 1 else 0), a_shape, a_left, a_right, a_link, a_note, a_todo, a_todoOther, a_generalNode)) : wpX_pushType post (f_tokenCount, f_accepted, f_lastPlace, f_openCount, f_draftOpen, f_symbolCount, f_stepCount, f_bindingCount, nI h, f_clashPlace, f_nodeCount, f_todoCount, a_kinds, a_values, a_declaredSize, a_declaredNodes, a_draftSize, a_draftNodes, a_symbols, a_symbolPlaces, a_steps, a_stepPlaces, a_bindings, a_boundType, a_waitingTypes, a_waitingFirm, a_shape, a_left, a_right, a_link, a_note, a_todo, a_todoOther, a_generalNode) x (if b = true then 1 else 0) := by
  have e : (nI h).toNatClampNeg = h := nI_clamp (by omega)
  have hi : vp_in (nI h) 64 := vp_in_nI hh (by decide)
  refine br_f (nI_ge (b := 64) hh (by decide)) ⟨hi, ?_⟩
  rw [e]
  have nb : vp_nar .boolean (if b = true then 1 else 0) = if b = true then 1 else 0 := by
    cases b
    · rfl
    · rfl
  rw [nb]
  exact nm_e ⟨hi, nm_e (nm_r (nI_1 h) hp)⟩
theorem xw_pop {post : Int32 → SX → Prop} {h : Nat} (hh : h < 64) (hp : post (a_waitingTypes h) (f_tokenCount, f_accepted, f_lastPlace, f_openCount, f_draftOpen, f_symbolCount, f_stepCount, f_bindingCount, nI h, f_clashPlace, f_nodeCount, f_todoCount, a_kinds, a_values, a_declaredSize, a_declaredNodes, a_draftSize, a_draftNodes, a_symbols, a_symbolPlaces, a_steps, a_stepPlaces, a_bindings, a_boundType, a_waitingTypes, a_waitingFirm, a_shape, a_left, a_right, a_link, a_note, a_todo, a_todoOther, a_generalNode)) : wpX_popType post (f_tokenCount, f_accepted, f_lastPlace, f_openCount, f_draftOpen, f_symbolCount, f_stepCount, f_bindingCount, nI (h + 1), f_clashPlace, f_nodeCount, f_todoCount, a_kinds, a_values, a_declaredSize, a_declaredNodes, a_draftSize, a_draftNodes, a_symbols, a_symbolPlaces, a_steps, a_stepPlaces, a_bindings, a_boundType, a_waitingTypes, a_waitingFirm, a_shape, a_left, a_right, a_link, a_note, a_todo, a_todoOther, a_generalNode) := by
  have e : (nI h).toNatClampNeg = h := nI_clamp (by omega)
  refine br_f (nI_nle (by omega) (by omega)) (nm_r (nI_pred h) ⟨vp_in_nI hh (by decide), ?_⟩)
  rw [e]
  exact hp
theorem xw_firm {post : Int32 → Prop} {h : Nat} {b : Bool} (hh : h < 64) (hb : a_waitingFirm h = if b = true then 1 else 0) (hp : post (if b = true then 1 else 0)) : wpX_isTopFirm post (f_tokenCount, f_accepted, f_lastPlace, f_openCount, f_draftOpen, f_symbolCount, f_stepCount, f_bindingCount, nI (h + 1), f_clashPlace, f_nodeCount, f_todoCount, a_kinds, a_values, a_declaredSize, a_declaredNodes, a_draftSize, a_draftNodes, a_symbols, a_symbolPlaces, a_steps, a_stepPlaces, a_bindings, a_boundType, a_waitingTypes, a_waitingFirm, a_shape, a_left, a_right, a_link, a_note, a_todo, a_todoOther, a_generalNode) := by
  refine br_f (nI_nle (by omega) (by omega)) ?_
  rw [nI_pred]
  refine ⟨vp_in_nI hh (by decide), ?_⟩
  rw [nI_clamp (by omega), hb]
  cases b with
  | true => exact br_f (by decide) hp
  | false => exact br_t rfl hp
theorem xw_setFirm {post : SX → Prop} {h : Nat} (hh : h < 64) (hp : post (f_tokenCount, f_accepted, f_lastPlace, f_openCount, f_draftOpen, f_symbolCount, f_stepCount, f_bindingCount, nI (h + 1), f_clashPlace, f_nodeCount, f_todoCount, a_kinds, a_values, a_declaredSize, a_declaredNodes, a_draftSize, a_draftNodes, a_symbols, a_symbolPlaces, a_steps, a_stepPlaces, a_bindings, a_boundType, a_waitingTypes, upd a_waitingFirm h (if false = true then 1 else 0), a_shape, a_left, a_right, a_link, a_note, a_todo, a_todoOther, a_generalNode)) : wpX_setTopFirm post (f_tokenCount, f_accepted, f_lastPlace, f_openCount, f_draftOpen, f_symbolCount, f_stepCount, f_bindingCount, nI (h + 1), f_clashPlace, f_nodeCount, f_todoCount, a_kinds, a_values, a_declaredSize, a_declaredNodes, a_draftSize, a_draftNodes, a_symbols, a_symbolPlaces, a_steps, a_stepPlaces, a_bindings, a_boundType, a_waitingTypes, a_waitingFirm, a_shape, a_left, a_right, a_link, a_note, a_todo, a_todoOther, a_generalNode) 0 := by
  refine br_f (nI_nle (by omega) (by omega)) ?_
  rw [nI_pred]
  refine ⟨vp_in_nI hh (by decide), ?_⟩
  rw [nI_clamp (by omega)]
  exact nm_e hp
end
