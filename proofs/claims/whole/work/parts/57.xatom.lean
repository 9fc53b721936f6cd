/-! the component's inference of atoms -/
/-- the declared types: dc the codes of each name, none for a name that isn't declared -/
def Dc_U (dc : Nat → List Nat) (nm : Nat) (ν : List tr_T) (τ : tr_T) : Prop := ∃ γ : Nat → tr_T, cd_ev (fun o => ls_g o ν) γ (dc nm) = [τ]
def xd_D (oc : Nat) (dc : Nat → List Nat) (sz nd : Nat → Int32) : Prop :=
  ∀ v, v < 12 → sz v = nI (dc v).length ∧ (dc v).length ≤ 12 ∧ (dc v ≠ [] → cd_wf oc (dc v) ∧ cd_n (dc v) = 1) ∧ ∀ (k x : Nat), (dc v)[k]? = some x → nd (v * 12 + k) = nI x
theorem bx_ix_lt {N : Nat → Nat} {nm : Nat} : ∀ (bs : List (Nat × Bool)) (j : Nat), bx_ix N bs nm = some j → ∃ b, bs[j]? = some b := by
  intro bs
  induction bs with
  | nil => intro j h; cases h
  | cons b bs ih =>
    intro j h
    unfold bx_ix at h
    by_cases c : N b.1 = nm
    · rw [if_pos c] at h
      cases h
      exact ⟨b, rfl⟩
    · rw [if_neg c] at h
      cases e : bx_ix N bs nm with
      | none => rw [e] at h; cases h
      | some i =>
        rw [e] at h
        cases h
        obtain ⟨b', hb'⟩ := ih i e
        exact ⟨b', by rw [List.getElem?_cons_succ]; exact hb'⟩
theorem mo_at {α : Type} : ∀ (bs : List (Nat × Bool)) (env : List α) (j q : Nat) (t : α), bs[j]? = some (q, false) → env[j]? = some t → t ∈ mo_l bs env := by
  intro bs
  induction bs with
  | nil => intro env j q t h; cases h
  | cons b bs ih =>
    intro env j q t h h'
    cases env with
    | nil => cases h'
    | cons e env =>
      cases j with
      | zero =>
        simp at h h'
        subst h h'
        rw [mo_f]; exact List.mem_cons_self
      | succ j =>
        rw [List.getElem?_cons_succ] at h h'
        have z := ih env j q t h h'
        obtain ⟨m, p⟩ := b
        cases p with
        | true => rw [mo_t]; exact z
        | false => rw [mo_f]; exact List.mem_cons_of_mem _ z
theorem ls_map_range {ρ : Nat → tr_T} {oc o : Nat} (h : o < oc) : ls_g o ((List.range oc).map ρ) = ρ o := by
  unfold ls_g
  rw [List.getD_eq_getElem?_getD, List.getElem?_map, List.getElem?_range h]
  rfl
theorem cd_wf_op {oc : Nat} : ∀ cs, cd_wf oc cs → ∀ c, c ∈ cs → 100 ≤ c → c - 100 < oc := by
  intro cs
  induction cs with
  | nil => intro _ c h; cases h
  | cons d cs ih =>
    intro h c hc h1
    rcases List.mem_cons.mp hc with z | z
    · subst z; have := h.1; omega
    · exact ih h.2.2 c z h1
theorem rp_decl {b0 nl n n' oc t nm : Nat} {kd pa pb kd' pa' pb' : Nat → Nat} {stk env : List Nat} {bs : List (Nat × Bool)} {V : dv_W} {gn : Nat → Option Nat} {dc : Nat → List Nat} (I : rp_I b0 nl n kd pa pb (List.range oc) stk env bs V) (D : bd_I oc 7 n n' kd pa pb kd' pa' pb' gn [t] (dc nm)) (wf : cd_wf oc (dc nm)) : rp_I b0 nl n' kd' pa' pb' (List.range oc) (t :: stk) env bs (dv_psh (fun ν _ τ => Dc_U dc nm ν τ) V) := by
  obtain ⟨i1, i2, i3, i4, i5, i6, i7, i8, i9, i10, i11⟩ := D
  have I' := I
  obtain ⟨W, A, ⟨M, E, ⟨hM, gM, oM, sM, eM⟩, cE, mE, eE, bE⟩, en, hl, hP, hV⟩ := I
  have rs : ∀ ρ, gr_V n' kd' pa' pb' ρ → gr_V n kd pa pb ρ := fun ρ h i hi => by
    have e := h i (by omega)
    rw [(i2 i hi).1, (i2 i hi).2.1, (i2 i hi).2.2] at e
    exact e
  have vl : ∀ ρ, gr_V n' kd' pa' pb' ρ → [ρ t] = cd_ev (fun o => ls_g o ((List.range oc).map ρ)) (fun g => ((gn g).map ρ).getD (tr_at 0)) (dc nm) := fun ρ h => by
    have e := i10 ρ h
    rw [List.map_cons, List.map_nil] at e
    rw [e]
    exact cd_ev_c _ (fun c hc h1 => (ls_map_range (cd_wf_op _ wf c hc h1)).symm) (fun _ _ _ _ => rfl)
  refine rp_ext I' i1 i2 i3 i4 (fun m m1 m2 => ?_) ?_ (fun ν st E => ?_)
  · obtain ⟨q1, q2, q3⟩ := i5 m m1 m2
    refine ⟨fun z => by have := q2 z; omega, q1, fun z => ?_⟩
    have := q3 z
    exact ⟨this.1.elim (fun q => Or.inl (List.mem_range.mpr q)) Or.inr, this.2.elim (fun q => Or.inl (List.mem_range.mpr q)) Or.inr⟩
  · exact (i6 t List.mem_cons_self).elim (fun q => Or.inl (List.mem_range.mpr q)) Or.inr
  · constructor
    · intro ⟨τ, st0, e, v, γ, hγ⟩
      obtain ⟨ρ, h, e1, e2, e3⟩ := (hV _ _ _).mp v
      obtain ⟨ρ', h', a', b'⟩ := i11 ρ h γ
      have eo : (List.range oc).map ρ' = ν := by
        rw [← e1]; exact mp_i fun x hx => a' x (hM x (oM x hx)).1
      refine ⟨ρ', h', eo, ?_, ?_⟩
      · rw [List.map_cons, e, ← e2]
        congr 1
        · have z := vl ρ' h'
          rw [eo] at z
          have z2 : cd_ev (fun o => ls_g o ν) (fun g => ((gn g).map ρ').getD (tr_at 0)) (dc nm) = cd_ev (fun o => ls_g o ν) γ (dc nm) := by
            refine cd_ev_c _ (fun _ _ _ => rfl) (fun c hc h1 h2 => ?_)
            cases eg : gn (c - 10) with
            | none => exact (i9 c hc h1 h2 eg).elim
            | some x => show ρ' x = _; exact b' _ x eg
          rw [z2, hγ] at z
          exact List.head_eq_of_cons_eq z
        · exact mp_i fun x hx => a' x (hM x (sM x hx)).1
      · rw [← e3]; exact mp_i fun x hx => a' x (en x hx)
    · intro ⟨ρ, h, e1, e2, e3⟩
      refine ⟨ρ t, stk.map ρ, by rw [← e2, List.map_cons], (hV _ _ _).mpr ⟨ρ, rs ρ h, e1, rfl, e3⟩, (fun g => ((gn g).map ρ).getD (tr_at 0)), ?_⟩
      rw [← e1]; exact (vl ρ h).symm
section
variable {f_tokenCount f_accepted f_lastPlace f_openCount f_draftOpen f_symbolCount f_stepCount f_bindingCount f_waitingCount f_clashPlace f_nodeCount f_todoCount : Int32} {a_kinds a_values a_declaredSize a_declaredNodes a_draftSize a_draftNodes a_symbols a_symbolPlaces a_steps a_stepPlaces a_bindings a_boundType a_waitingTypes a_waitingFirm a_shape a_left a_right a_link a_note a_todo a_todoOther a_generalNode : Nat → Int32}
variable {kd pa pb : Nat → Nat} {n K : Nat}
theorem xb_T_at {bt : Nat → Int32} : ∀ (bs : List (Nat × Bool)) (env : List Nat) (j : Nat) (b : Nat × Bool), xb_T bt bs env → bs[j]? = some b → ∃ t, env[j]? = some t ∧ bt b.1 = nI t := by
  intro bs
  induction bs with
  | nil => intro env j b _ h; cases h
  | cons b' bs ih =>
    intro env j b hT h
    cases env with
    | nil => exact hT.elim
    | cons e env =>
      cases j with
      | zero =>
        simp at h
        subst h
        exact ⟨e, rfl, hT.1⟩
      | succ j =>
        rw [List.getElem?_cons_succ] at h
        obtain ⟨t, h1, h2⟩ := ih env j b hT.2 h
        exact ⟨t, by rw [List.getElem?_cons_succ]; exact h1, h2⟩
theorem xw_atom {post : SX → Prop} {oc nl p c : Nat} {stk env : List Nat} {bs : List (Nat × Bool)} {fl : List Bool} {V : dv_W} {N Kt : Nat → Nat} {dc : Nat → List Nat} (I : xt_I oc nl n K kd pa pb stk env bs V a_shape a_left a_right a_link) (hn : n + 12 ≤ 4000) (hn2 : Kt p = 3 → n + (nl - oc) ≤ 4000) (hT : tk_T a_kinds a_values c Kt N) (hD : xd_D oc dc a_declaredSize a_declaredNodes) (hp : p < c) (hk : pm_alone (Kt p) = true) (hS : bs_S bs) (hP : xb_P a_bindings bs) (hB : xb_T a_boundType bs env) (hN : ∀ b, b ∈ bs → b.1 < c ∧ Kt b.1 = 3) (hb : bs.length ≤ 24) (h1 : st_1 a_waitingTypes stk) (h2 : st_b a_waitingFirm fl) (hfl : fl.length = stk.length) (hs : stk.length < 64) (hoc : oc ≤ n)
    (hun : Kt p = 3 → bx_ix N bs (N p) = none → dc (N p) ≠ [])
    (hok : xh_O oc nl (if Kt p = 3 then n + 12 + (nl - oc) else n + 5) stk env bs (true :: fl) (if Kt p = 3 then dv_psh (dd_name N (Dc_U dc) bs V (N p)) V else dv_psh (fun _ _ τ => cs_T (Kt p) τ) V) (f_tokenCount, f_accepted, f_lastPlace, f_openCount, f_draftOpen, f_symbolCount, f_stepCount, nI bs.length, f_waitingCount, f_clashPlace, f_nodeCount, f_todoCount, a_kinds, a_values, a_declaredSize, a_declaredNodes, a_draftSize, a_draftNodes, a_symbols, a_symbolPlaces, a_steps, a_stepPlaces, a_bindings, a_boundType, a_waitingTypes, a_waitingFirm, a_shape, a_left, a_right, a_link, a_note, a_todo, a_todoOther, a_generalNode) post) : wpX_inferAtom post (f_tokenCount, f_accepted, f_lastPlace, f_openCount, f_draftOpen, f_symbolCount, f_stepCount, nI bs.length, nI stk.length, -1, nI n, f_todoCount, a_kinds, a_values, a_declaredSize, a_declaredNodes, a_draftSize, a_draftNodes, a_symbols, a_symbolPlaces, a_steps, a_stepPlaces, a_bindings, a_boundType, a_waitingTypes, a_waitingFirm, a_shape, a_left, a_right, a_link, a_note, a_todo, a_todoOther, a_generalNode) (nI p) := by
  have I0 := I
  obtain ⟨J, hG, hL, hK⟩ := I
  have c24 := hT.1
  obtain ⟨t1, t2, t3, _⟩ := hT.2.2 p hp
  have vp : vp_in (nI p) 24 := vp_in_nI (by omega) (by decide)
  have cp : (nI p).toNatClampNeg = p := nI_clamp (by omega)
  have J' := J
  obtain ⟨W, A, ⟨M, E, ⟨hM, gM, oM, sM, eM⟩, cE, mE, eE, bE⟩, en, hl, hPr, hV⟩ := J
  unfold wpX_inferAtom
  refine ⟨vp, ?_⟩
  rw [cp, t1]
  refine pk_eq (Kt p) 3 (fun k3 => ⟨vp, ?_⟩) (fun k3 => ?_)
  · obtain ⟨v1, v2⟩ := t3 k3
    rw [v1]
    simp only [if_pos k3] at hok
    refine xw_bindingOf (N := N) v2 bs hb hP (fun b hb' => ?_) (fun j b hj hb' => ?_) (fun no => ?_)
    · obtain ⟨q1, q2⟩ := hN b hb'
      exact (hT.2.2 b.1 q1).2.2.1 q2
    · have b24 : b.1 < 24 := by
        have := (hN b (List.mem_of_getElem? hb')).1
        omega
      obtain ⟨t, ht, bt⟩ := xb_T_at bs env j b hB hb'
      have tE : E t := eE t (List.mem_of_getElem? ht)
      refine br_f (nI_pos (by omega)) ⟨vp_in_nI b24 (by decide), ?_⟩
      rw [nI_clamp (by omega), bt]
      refine xw_instance W A hG hL hK hM gM cE bE (hn2 k3) tE (fun n' kd' pa' pb' nt r0 sh lf rt lk note td tr nr ic hn' hG' hL' hK' => ?_)
      refine xw_push (b := true) (by omega) ?_
      refine hok n' K kd' pa' pb' (nt r0 - 1) sh lf rt lk note td _ _ _ _ _ (by omega) ⟨?_, hG', hL', hK'⟩ (st_1p h1) ?_
      · have r0n := gr_to_n W tr (cE t tE).1
        have eU : dd_name N (Dc_U dc) bs V (N p) = if (bs[j]?).map Prod.snd = some true then dd_poly bs V j else dd_mono j := by
          unfold dd_name
          rw [hj]
        rw [eU, hb']
        obtain ⟨q, fb⟩ := b
        cases fb with
        | true =>
          have e1 : Option.map Prod.snd (some (q, true)) = some true := rfl
          rw [if_pos e1]
          obtain ⟨u1, u2⟩ := rp_ug J' ht hb'
          have z := rp_use (r0 := r0) (U := dd_poly bs V j) J' ic (cE t tE).1 tr ⟨r0n, nr⟩ u1 u2
          exact z
        | false =>
          have e1 : ¬ Option.map Prod.snd (some (q, false)) = some true := by simp
          rw [if_neg e1]
          obtain ⟨u1, u2⟩ := rp_um J' ht (mo_at bs env j q t hb' ht)
          have z := rp_use (r0 := r0) (U := dd_mono j) J' ic (cE t tE).1 tr ⟨r0n, nr⟩ u1 u2
          exact z
      · rw [← hfl]; exact st_bp h2
    · have ne := hun k3 no
      obtain ⟨d1, d2, d3, d4⟩ := hD (N p) v2
      obtain ⟨wf, one⟩ := d3 ne
      refine br_t (by decide) ⟨vp, ?_⟩
      rw [cp, t1, k3]
      refine br_t rfl ⟨vp, ?_⟩
      rw [v1]
      refine xw_declared (gk := 7) v2 d1 d4 d2 wf one hoc (Or.inl rfl) hn W A hG hL hK (fun n' kd' pa' pb' gn t sh lf rt lk note td tdo gna tc hn' bd hG' hL' hK' => ?_)
      refine xw_push (b := true) (by omega) ?_
      refine hok n' K kd' pa' pb' t sh lf rt lk note td tdo _ _ tc _ (by omega) ⟨?_, hG', hL', hK'⟩ (st_1p h1) ?_
      · have eU : dd_name N (Dc_U dc) bs V (N p) = fun ν _ τ => Dc_U dc (N p) ν τ := by
          unfold dd_name
          rw [no]
        rw [eU]
        exact rp_decl J' bd wf
      · rw [← hfl]; exact st_bp h2
  · simp only [if_neg k3] at hok
    refine br_t (by decide) ⟨vp, ?_⟩
    rw [cp, t1]
    refine br_f (fun z => k3 ((nI_eq (b := 3) (by omega) (by omega)).mp z)) ⟨vp, ?_⟩
    refine xw_const I0 (by omega) hk k3 (fun n' kd' pa' pb' t sh lf rt lk note hn' It => ?_)
    refine xw_push (b := true) (by omega) ?_
    refine hok n' K kd' pa' pb' t sh lf rt lk note _ _ _ _ _ _ (by omega) It (st_1p h1) ?_
    rw [← hfl]; exact st_bp h2
end
