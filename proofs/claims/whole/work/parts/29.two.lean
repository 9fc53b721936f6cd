/-! two graphs that stand for the same worlds write the same labels, but for their names -/
theorem fl_cls {b0 nl n : Nat} {kd pa pb : Nat → Nat} {op : List Nat} {t nm : Nat} {fl : Bool} {V : List tr_T → List tr_T → List tr_T → Prop} {g : Nat → tr_T} (I : rp_I b0 nl n kd pa pb op [] [t] [(nm, fl)] V) (hk : ∀ i, i < n → kd i ≤ 1000) (hg : gr_V n kd pa pb g) (gg : gr_gen n kd g) (j : Nat) (hj : (∃ x, x ∈ op ∧ 1001 + j ∈ tr_fl (g x)) ∨ 1001 + j ∈ tr_fl (g t)) : (kd j = 8 ↔ fl = true ∧ ¬ ∃ x, x ∈ op ∧ 1001 + j ∈ tr_fl (g x)) ∧ gr_fr (kd j) ∧ j < n := by
  obtain ⟨W, A, ⟨M, E, ⟨hM, gM, oM, sM, eM⟩, cE, mE, eE, bE⟩, en, hl, hP, hV⟩ := I
  have inM : ∀ x, M x → 1001 + j ∈ tr_fl (g x) → M j ∧ gr_fr (kd j) := by
    intro x hx hc
    obtain ⟨f, hf⟩ := A x (hM x hx).1
    rcases fl_in hk hg gg hM f x hx hf _ hc with z | ⟨j', e, m, c⟩
    · omega
    · have : j' = j := by omega
      rw [this] at m c
      exact ⟨m, c⟩
  by_cases co : ∃ x, x ∈ op ∧ 1001 + j ∈ tr_fl (g x)
  · obtain ⟨x, hx, hc⟩ := co
    obtain ⟨m, c⟩ := inM x (oM x hx) hc
    exact ⟨⟨fun z => (gM j m z).elim, fun z => (z.2 ⟨x, hx, hc⟩).elim⟩, c, (hM j m).1⟩
  · have ht : 1001 + j ∈ tr_fl (g t) := hj.resolve_left co
    have tn : t < n := en t List.mem_cons_self
    obtain ⟨f, hf⟩ := A t tn
    have fj : gr_fr (kd j) ∧ j < n := by
      rcases fl_in hk hg gg (gr_Ca W) f t tn hf _ ht with z | ⟨j', e, m, c⟩
      · omega
      · have : j' = j := by omega
        rw [this] at m c
        exact ⟨c, m⟩
    refine ⟨?_, fj⟩
    cases fl with
    | false =>
      obtain ⟨m, c⟩ := inM t (eM t List.mem_cons_self) ht
      exact ⟨fun z => (gM j m z).elim, fun z => (by cases z.1)⟩
    | true =>
      refine ⟨fun _ => ⟨rfl, co⟩, fun _ => ?_⟩
      rcases fj.1 with c7 | c8
      · obtain ⟨ρ', h', r'⟩ := gr_ex A (fun i => if i = j then tr_at 0 else tr_at (1001 + i))
        have ag : ∀ i, i < n → gr_fr (kd i) → i ≠ j → g i = ρ' i := by
          intro i hi ci ne
          rw [gg i hi ci, r' i hi ci, if_neg ne]
        have eo : op.map g = op.map ρ' := by
          refine mp_i fun x hx => ?_
          have xn := (hM x (oM x hx)).1
          obtain ⟨f', hf'⟩ := A x xn
          refine fl_ag W hg gg hg h' f' x xn hf' (fun i hi => ?_)
          have ne : i ≠ j := fun e => co ⟨x, hx, e ▸ hi⟩
          rcases fl_in hk hg gg (gr_Ca W) f' x xn hf' _ hi with z | ⟨i', e, m, c⟩
          · omega
          · have : i' = i := by omega
            rw [this] at m c
            exact ag i m c ne
        have et := hP.1 rfl g ρ' hg h' eo rfl (fun i hi c => ag i hi (Or.inr c) (fun e => by rw [e] at c; omega))
        have C := gr_agC W hg h'
        rcases fl_in hk hg gg C f t ⟨tn, et⟩ hf _ ht with z | ⟨j', e, m, c⟩
        · omega
        · have e' : j' = j := by omega
          rw [e'] at m
          have q := m.2
          rw [gg j fj.2 fj.1, r' j fj.2 fj.1, if_pos rfl] at q
          have := tr_at_inj q
          omega
      · exact c8
theorem fm_cg {α : Type} {f h : α → List Nat} : ∀ l : List α, (∀ x, x ∈ l → f x = h x) → l.flatMap f = l.flatMap h := by
  intro l
  induction l with
  | nil => intro _; rfl
  | cons x l ih =>
    intro hx
    rw [List.flatMap_cons, List.flatMap_cons, hx x List.mem_cons_self, ih (fun y hy => hx y (List.mem_cons_of_mem _ hy))]
theorem fm_mp {α : Type} {f h : α → tr_T} {k : tr_T → List Nat} : ∀ (l : List α) (m : List α), l.map f = m.map h → l.flatMap (fun x => k (f x)) = m.flatMap (fun x => k (h x)) := by
  intro l m e
  have e1 := List.flatMap_map f k l
  have e2 := List.flatMap_map h k m
  rw [← e1, ← e2, e]
theorem gx_two {b0 nl n b0' nl' n' : Nat} {kd pa pb kd' pa' pb' : Nat → Nat} {op op' : List Nat} {t t' nm nm' : Nat} {fl : Bool} {V : List tr_T → List tr_T → List tr_T → Prop} {g g' : Nat → tr_T}
    (I : rp_I b0 nl n kd pa pb op [] [t] [(nm, fl)] V) (hk : ∀ i, i < n → kd i ≤ 1000) (hg : gr_V n kd pa pb g) (gg : gr_gen n kd g)
    (I' : rp_I b0' nl' n' kd' pa' pb' op' [] [t'] [(nm', fl)] V) (hk' : ∀ i, i < n' → kd' i ≤ 1000) (hg' : gr_V n' kd' pa' pb' g') (gg' : gr_gen n' kd' g') :
    ∃ s : Nat → Nat, (∀ c, c < 1001 → s c = c) ∧
      (∀ c, (∃ y, y ∈ op' ++ [t'] ∧ c ∈ tr_fl (g' y)) → 1001 ≤ c → 1001 ≤ s c ∧ (kd (s c - 1001) = 8 ↔ kd' (c - 1001) = 8) ∧ gr_fr (kd (s c - 1001)) ∧ s c - 1001 < n) ∧
      (∀ c d, (∃ y, y ∈ op' ++ [t'] ∧ c ∈ tr_fl (g' y)) → (∃ y, y ∈ op' ++ [t'] ∧ d ∈ tr_fl (g' y)) → s c = s d → c = d) ∧
      (∀ x y i : Nat, op[i]? = some x → op'[i]? = some y → tr_pre (g x) = (tr_pre (g' y)).map s) ∧ tr_pre (g t) = (tr_pre (g' t')).map s ∧ op.length = op'.length := by
  have cls := fl_cls I hk hg gg
  have cls' := fl_cls I' hk' hg' gg'
  obtain ⟨W, A, ⟨M, E, ⟨hM, gM, oM, sM, eM⟩, cE, mE, eE, bE⟩, en, hl, hP, hV⟩ := I
  obtain ⟨W', A', ⟨M', E', ⟨hM', gM', oM', sM', eM'⟩, cE', mE', eE', bE'⟩, en', hl', hP', hV'⟩ := I'
  obtain ⟨ρ', r', o', _, q'⟩ := (hV' _ _ _).mp ((hV (op.map g) [] [g t]).mpr ⟨g, hg, rfl, rfl, rfl⟩)
  obtain ⟨ρ, r, o, _, q⟩ := (hV _ _ _).mp ((hV' (op'.map g') [] [g' t']).mpr ⟨g', hg', rfl, rfl, rfl⟩)
  have qt' : ρ' t' = g t := by simpa using q'
  have qt : ρ t = g' t' := by simpa using q
  have P' : (op' ++ [t']).map ρ' = (op ++ [t]).map g := by
    rw [List.map_append, List.map_append, o', List.map_cons, List.map_cons, qt']; rfl
  have P : (op ++ [t]).map ρ = (op' ++ [t']).map g' := by
    rw [List.map_append, List.map_append, o, List.map_cons, List.map_cons, qt]; rfl
  have pn : ∀ x, x ∈ op ++ [t] → x < n := by
    intro x hx
    rcases List.mem_append.mp hx with z | z
    · exact (hM x (oM x z)).1
    · exact en x z
  have pn' : ∀ x, x ∈ op' ++ [t'] → x < n' := by
    intro x hx
    rcases List.mem_append.mp hx with z | z
    · exact (hM' x (oM' x z)).1
    · exact en' x z
  have ex' : ∀ y, y ∈ op' ++ [t'] → ∃ x, x ∈ op ++ [t] ∧ g x = ρ' y := by
    intro y hy
    have : ρ' y ∈ (op ++ [t]).map g := by rw [← P']; exact List.mem_map.mpr ⟨y, hy, rfl⟩
    exact List.mem_map.mp this
  have ex : ∀ y, y ∈ op ++ [t] → ∃ x, x ∈ op' ++ [t'] ∧ g' x = ρ y := by
    intro y hy
    have : ρ y ∈ (op' ++ [t']).map g' := by rw [← P]; exact List.mem_map.mpr ⟨y, hy, rfl⟩
    exact List.mem_map.mp this
  have ok' : ∀ y, y ∈ op' ++ [t'] → tr_ok (ρ' y) := by
    intro y hy
    obtain ⟨x, hx, e⟩ := ex' y hy
    obtain ⟨f, hf⟩ := A x (pn x hx)
    rw [← e]; exact fl_gok W hg gg f x (pn x hx) hf
  have ok : ∀ y, y ∈ op ++ [t] → tr_ok (ρ y) := by
    intro y hy
    obtain ⟨x, hx, e⟩ := ex y hy
    obtain ⟨f, hf⟩ := A' x (pn' x hx)
    rw [← e]; exact fl_gok W' hg' gg' f x (pn' x hx) hf
  -- all labels
  have e1 : (op ++ [t]).flatMap (fun x => tr_fl (g x)) = ((op' ++ [t']).flatMap (fun x => tr_fl (g' x))).flatMap (cd_sf ρ') := by
    rw [List.flatMap_assoc, ← fm_mp (k := tr_fl) _ _ P']
    refine fm_cg _ (fun y hy => ?_)
    obtain ⟨f, hf⟩ := A' y (pn' y hy)
    exact fl_fac W' hk' hg' gg' r' f y (pn' y hy) hf
  have e2 : (op' ++ [t']).flatMap (fun x => tr_fl (g' x)) = ((op ++ [t]).flatMap (fun x => tr_fl (g x))).flatMap (cd_sf ρ) := by
    rw [List.flatMap_assoc, ← fm_mp (k := tr_fl) _ _ P]
    refine fm_cg _ (fun y hy => ?_)
    obtain ⟨f, hf⟩ := A y (pn y hy)
    exact fl_fac W hk hg gg r f y (pn y hy) hf
  have lab' : ∀ y c, y ∈ op' ++ [t'] → c ∈ tr_fl (g' y) → 1001 ≤ c → tr_ok (ρ' (c - 1001)) := by
    intro y c hy hc h1
    obtain ⟨f, hf⟩ := A' y (pn' y hy)
    refine fl_ok W' hk' hg' gg' r' f y (pn' y hy) hf (ok' y hy) (c - 1001) ?_
    rw [show 1001 + (c - 1001) = c by omega]; exact hc
  have lab : ∀ y c, y ∈ op ++ [t] → c ∈ tr_fl (g y) → 1001 ≤ c → tr_ok (ρ (c - 1001)) := by
    intro y c hy hc h1
    obtain ⟨f, hf⟩ := A y (pn y hy)
    refine fl_ok W hk hg gg r f y (pn y hy) hf (ok y hy) (c - 1001) ?_
    rw [show 1001 + (c - 1001) = c by omega]; exact hc
  have sf0 : ∀ (κ : Nat → tr_T) c, c < 1001 → cd_sf κ c = [c] := fun κ c h => if_pos h
  have sf1 : ∀ (κ : Nat → tr_T) c, 1001 ≤ c → cd_sf κ c = tr_fl (κ (c - 1001)) := fun κ c h => if_neg (by omega)
  have h1 : ∀ c, c ∈ (op' ++ [t']).flatMap (fun x => tr_fl (g' x)) → cd_sf ρ' c ≠ [] := by
    intro c hc
    obtain ⟨y, hy, hc⟩ := List.mem_flatMap.mp hc
    by_cases c1 : c < 1001
    · rw [sf0 _ c c1]; exact List.cons_ne_nil _ _
    · rw [sf1 _ c (by omega)]; exact tr_ok_ne (lab' y c hy hc (by omega))
  have h2 : ∀ c, c ∈ (op ++ [t]).flatMap (fun x => tr_fl (g x)) → cd_sf ρ c ≠ [] := by
    intro c hc
    obtain ⟨y, hy, hc⟩ := List.mem_flatMap.mp hc
    by_cases c1 : c < 1001
    · rw [sf0 _ c c1]; exact List.cons_ne_nil _ _
    · rw [sf1 _ c (by omega)]; exact tr_ok_ne (lab y c hy hc (by omega))
  have l1 := fm_len _ h1
  have l2 := fm_len _ h2
  rw [← e1] at l1
  rw [← e2] at l2
  have s1 := fm_map _ h1 (by rw [← e1]; exact l2)
  obtain ⟨f1, f2⟩ := fm_two e1 e2 h1 h2
  have mem' : ∀ c, (∃ y, y ∈ op' ++ [t'] ∧ c ∈ tr_fl (g' y)) → c ∈ (op' ++ [t']).flatMap (fun x => tr_fl (g' x)) := fun c h => List.mem_flatMap.mpr h
  have back : ∀ c, c ∈ (op' ++ [t']).flatMap (fun x => tr_fl (g' x)) → (cd_sf ρ ((cd_sf ρ' c).headD 0)).headD 0 = c := by
    intro c hc
    have := f2
    rw [f1, List.map_map] at this
    have q := mp_e (f := fun x => x) (g := fun x => (cd_sf ρ ((cd_sf ρ' x).headD 0)).headD 0) (l := (op' ++ [t']).flatMap (fun x => tr_fl (g' x))) (by rw [List.map_id']; exact this) c hc
    exact q.symm
  have sv : ∀ c, c ∈ (op' ++ [t']).flatMap (fun x => tr_fl (g' x)) → cd_sf ρ' c = [(cd_sf ρ' c).headD 0] := by
    intro c hc
    obtain ⟨d, e⟩ := s1 c hc
    rw [e]; rfl
  have inj : ∀ c d, (∃ y, y ∈ op' ++ [t'] ∧ c ∈ tr_fl (g' y)) → (∃ y, y ∈ op' ++ [t'] ∧ d ∈ tr_fl (g' y)) → (cd_sf ρ' c).headD 0 = (cd_sf ρ' d).headD 0 → c = d := by
    intro c d hc hd e
    rw [← back c (mem' c hc), ← back d (mem' d hd), e]
  have val : ∀ y, y ∈ op' ++ [t'] → ∀ j, 1001 + j ∈ tr_fl (g' y) → ρ' j = tr_at ((cd_sf ρ' (1001 + j)).headD 0) := by
    intro y hy j hj
    have e := sv _ (mem' _ ⟨y, hy, hj⟩)
    have ok1 := lab' y _ hy hj (by omega)
    rw [sf1 ρ' (1001 + j) (by omega)] at e ⊢
    rw [Nat.add_sub_cancel_left] at e ok1 ⊢
    exact tr_ok_one ok1 e
  have comp : ∀ x y, y ∈ op' ++ [t'] → ρ' y = g x → tr_pre (g x) = (tr_pre (g' y)).map (fun c => (cd_sf ρ' c).headD 0) := by
    intro x y hy e
    obtain ⟨f, hf⟩ := A' y (pn' y hy)
    rw [← e]
    refine fl_ren W' hk' hg' gg' r' (fun c h => ?_) (pn' y hy) hf (val y hy)
    show (cd_sf ρ' c).headD 0 = c
    rw [sf0 _ c h]; rfl
  have fcomp : ∀ x y, y ∈ op' ++ [t'] → ρ' y = g x → ∀ c, c ∈ tr_fl (g' y) → (cd_sf ρ' c).headD 0 ∈ tr_fl (g x) := by
    intro x y hy e c hc
    obtain ⟨f, hf⟩ := A' y (pn' y hy)
    rw [← e, fl_fac W' hk' hg' gg' r' f y (pn' y hy) hf]
    refine List.mem_flatMap.mpr ⟨c, hc, ?_⟩
    have := sv c (mem' c ⟨y, hy, hc⟩)
    rw [this]; exact List.mem_cons_self
  have fback : ∀ x y, y ∈ op' ++ [t'] → ρ' y = g x → ∀ c, (∃ y, y ∈ op' ++ [t'] ∧ c ∈ tr_fl (g' y)) → (cd_sf ρ' c).headD 0 ∈ tr_fl (g x) → c ∈ tr_fl (g' y) := by
    intro x y hy e c hc hs
    obtain ⟨f, hf⟩ := A' y (pn' y hy)
    rw [← e, fl_fac W' hk' hg' gg' r' f y (pn' y hy) hf] at hs
    obtain ⟨d, hd, hs⟩ := List.mem_flatMap.mp hs
    have q := sv d (mem' d ⟨y, hy, hd⟩)
    rw [q] at hs
    have := inj c d hc ⟨y, hy, hd⟩ (List.mem_singleton.mp hs)
    rw [this]; exact hd
  have eo : ∀ y, y ∈ op' → ∃ x, x ∈ op ∧ g x = ρ' y := by
    intro y hy
    have : ρ' y ∈ op.map g := by rw [← o']; exact List.mem_map.mpr ⟨y, hy, rfl⟩
    exact List.mem_map.mp this
  have eo2 : ∀ x, x ∈ op → ∃ y, y ∈ op' ∧ ρ' y = g x := by
    intro x hx
    have : g x ∈ op'.map ρ' := by rw [o']; exact List.mem_map.mpr ⟨x, hx, rfl⟩
    exact List.mem_map.mp this
  refine ⟨fun c => (cd_sf ρ' c).headD 0, fun c h => ?_, fun c hc h1001 => ?_, inj, ?_, comp t t' (List.mem_append_right _ List.mem_cons_self) qt', ?_⟩
  · show (cd_sf ρ' c).headD 0 = c
    rw [sf0 _ c h]; rfl
  · show 1001 ≤ (cd_sf ρ' c).headD 0 ∧ (kd ((cd_sf ρ' c).headD 0 - 1001) = 8 ↔ _) ∧ gr_fr (kd ((cd_sf ρ' c).headD 0 - 1001)) ∧ (cd_sf ρ' c).headD 0 - 1001 < n
    have hb := back c (mem' c hc)
    have ge : 1001 ≤ (cd_sf ρ' c).headD 0 := by
      refine Nat.le_of_not_lt (fun z => ?_)
      rw [sf0 ρ _ z] at hb
      have : (cd_sf ρ' c).headD 0 = c := hb
      omega
    generalize hd : (cd_sf ρ' c).headD 0 = d at *
    have ed : 1001 + (d - 1001) = d := by omega
    have ec : 1001 + (c - 1001) = c := by omega
    obtain ⟨y, hy, hcy⟩ := hc
    obtain ⟨x, hx, ex1⟩ := ex' y hy
    have hdx := fcomp x y hy ex1.symm c hcy
    rw [hd] at hdx
    have C := cls (d - 1001) (by
      rw [ed]
      rcases List.mem_append.mp hx with z | z
      · exact Or.inl ⟨x, z, hdx⟩
      · rw [List.mem_singleton.mp z] at hdx; exact Or.inr hdx)
    have C' := cls' (c - 1001) (by
      rw [ec]
      rcases List.mem_append.mp hy with z | z
      · exact Or.inl ⟨y, z, hcy⟩
      · rw [List.mem_singleton.mp z] at hcy; exact Or.inr hcy)
    rw [ed] at C
    rw [ec] at C'
    refine ⟨ge, ?_, C.2⟩
    rw [C.1, C'.1]
    refine and_congr Iff.rfl (not_congr ⟨fun ⟨x1, hx1, hm⟩ => ?_, fun ⟨y1, hy1, hm⟩ => ?_⟩)
    · obtain ⟨y1, hy1, e1⟩ := eo2 x1 hx1
      refine ⟨y1, hy1, fback x1 y1 (List.mem_append_left _ hy1) e1 c ⟨y, hy, hcy⟩ ?_⟩
      rw [hd]; exact hm
    · obtain ⟨x1, hx1, e1⟩ := eo y1 hy1
      refine ⟨x1, hx1, ?_⟩
      have := fcomp x1 y1 (List.mem_append_left _ hy1) e1.symm c hm
      rw [hd] at this; exact this
  · intro x y i hx hy
    refine comp x y (List.mem_append_left _ (List.mem_of_getElem? hy)) ?_
    have := congrArg (fun l => l[i]?) o'
    simp only [List.getElem?_map, hx, hy, Option.map_some] at this
    exact Option.some.inj this
  · have := congrArg List.length o'
    simpa using this.symm
