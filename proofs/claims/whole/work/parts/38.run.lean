/-! a whole run of the parser over a declaration: every step that it writes has what it needs -/
def gd_ok (K N mq : Nat → Nat) (Dc : Nat → List tr_T → tr_T → Prop) (c : Nat) (Fin : List (Nat × Bool) → List Bool → Prop) : pm_L → List (Nat × Bool) → List Bool → dv_W → Nat × Nat × Nat → Prop
  | [], bs, fl, _, _ => Fin bs fl
  | (s, p) :: sp, bs, fl, V, x => dd_pre K mq c bs fl V s p ∧ (cr_1 K mq x s p).1 ≤ 1503 ∧ gd_ok K N mq Dc c Fin sp (dd_bs mq bs fl s p) (dd_fl K fl s p) (dd_V K N mq Dc bs V s p) (cr_1 K mq x s p)
/-- the lowest symbol is the declaration itself -/
def pm_bt (ss : pm_L) (a : Nat) (bs : List (Nat × Bool)) : Prop :=
  (ss = [] ∧ ∃ f, bs = [(1, f)]) ∨ (∃ r, ss = r ++ [(88, 0)] ∨ ss = r ++ [(89, 0)]) ∨ (ss = [(40, 0)] ∧ a = 0)
theorem pm_decl_l {K : Nat → Nat} {a a' : Nat} {l w : pm_L} (h : pm_decl K a = (a', some (l, w))) : l = [(42, 0), (89, a)] ∨ l = [(42, 0), (88, a)] := by
  unfold pm_decl at h
  by_cases c1 : K a = 7
  · rw [if_pos c1] at h
    by_cases c2 : K (a + 1) = 3
    · rw [if_pos c2] at h
      by_cases c3 : K (a + 2) = 9
      · rw [if_pos c3] at h
        simp at h
        exact Or.inl h.2.1.symm
      · rw [if_neg c3] at h
        simp at h
    · rw [if_neg c2] at h
      simp at h
  · rw [if_neg c1] at h
    by_cases c4 : K a = 8
    · rw [if_pos c4] at h
      by_cases c5 : K (a + 1) = 3
      · rw [if_pos c5] at h
        by_cases c6 : K (a + 2) = 3
        · rw [if_pos c6] at h
          by_cases c7 : K (pm_nq K 24 (a + 3)) = 9
          · rw [if_pos c7] at h
            simp at h
            exact Or.inr h.2.1.symm
          · rw [if_neg c7] at h
            simp at h
        · rw [if_neg c6] at h
          simp at h
      · rw [if_neg c5] at h
        simp at h
    · rw [if_neg c4] at h
      simp at h
theorem pm_bt_turn {K : Nat → Nat} {s p a a' : Nat} {l w ss : pm_L} {bs bs' : List (Nat × Bool)} (hb : pm_bt ((s, p) :: ss) a bs) (ht : pm_turn K s p a = (a', some (l, w)))
    (hend : l ++ ss = [] → ∀ s', (s' = 88 ∨ s' = 89) → w = [(s', 0)] → ∃ f, bs' = [(1, f)]) : pm_bt (l ++ ss) a' bs' := by
  have mid : ∀ e : Nat × Nat, e = (88, 0) ∨ e = (89, 0) → ∀ r, (s, p) :: ss = r ++ [e] → pm_bt (l ++ ss) a' bs' := by
    intro e he r hr
    cases r with
    | nil =>
      simp at hr
      obtain ⟨h1, h2⟩ := hr
      subst h2
      have hs : (s = 88 ∨ s = 89) ∧ p = 0 := by
        rcases he with z | z
        · rw [← h1] at z; simp at z; exact ⟨Or.inl z.1, z.2⟩
        · rw [← h1] at z; simp at z; exact ⟨Or.inr z.1, z.2⟩
      have s80 : 80 ≤ s := by omega
      unfold pm_turn at ht
      rw [if_pos s80] at ht
      simp at ht
      obtain ⟨_, rfl, rfl⟩ := ht
      exact Or.inl ⟨rfl, hend rfl s hs.1 (by rw [hs.2])⟩
    | cons y r =>
      simp at hr
      rw [hr.2, ← List.append_assoc]
      rcases he with z | z
      · exact Or.inr (Or.inl ⟨l ++ r, Or.inl (by rw [z])⟩)
      · exact Or.inr (Or.inl ⟨l ++ r, Or.inr (by rw [z])⟩)
  rcases hb with ⟨z, _⟩ | ⟨r, z | z⟩ | ⟨z, ha⟩
  · cases z
  · exact mid _ (Or.inl rfl) r z
  · exact mid _ (Or.inr rfl) r z
  · simp at z
    obtain ⟨⟨rfl, rfl⟩, rfl⟩ := z
    subst ha
    unfold pm_turn at ht
    simp at ht
    rcases pm_decl_l ht with q | q
    · rw [q]; exact Or.inr (Or.inl ⟨[(42, 0)], Or.inr rfl⟩)
    · rw [q]; exact Or.inr (Or.inl ⟨[(42, 0)], Or.inl rfl⟩)
theorem pm_run {K N mq : Nat → Nat} {Dc : Nat → List tr_T → tr_T → Prop} {c : Nat} (hK : ∀ i, c ≤ i → K i = 99) (hc : c ≤ 24) (hm : ∀ q, mq q = pm_nq K 24 (q + 3) - (q + 1)) : ∀ f ss a sp a' sp' b, pm_go K f ss a sp = some (a', sp', b) → ∀ h el fs bs fl V x, a ≤ c → pd_ok K mq c ss h el fs → di_I h el fs bs fl V → (∀ y, y ∈ bs → y.1 < a) → cq_I mq c ss a x → pm_nb a ss → pm_bt ss a bs → ∃ sp1, sp' = sp ++ sp1 ∧ gd_ok K N mq Dc c (fun bs fl => b = true → (∃ f, bs = [(1, f)]) ∧ fl = []) sp1 bs fl V x := by
  intro f
  induction f with
  | zero => intro ss a sp a' sp' b h; cases h
  | succ f ih =>
    intro ss a sp a' sp' b hgo h el fs bs fl V x ha ok D hx C nb bt
    cases ss with
    | nil =>
      unfold pm_go at hgo
      simp at hgo
      obtain ⟨_, rfl, rfl⟩ := hgo
      refine ⟨[], by rw [List.append_nil], fun _ => ?_⟩
      obtain ⟨e1, _, _⟩ := ok
      refine ⟨?_, List.eq_nil_of_length_eq_zero (by rw [D.1, e1])⟩
      rcases bt with ⟨_, q⟩ | ⟨r, q | q⟩ | ⟨q, _⟩
      · exact q
      · simp at q
      · simp at q
      · cases q
    | cons y ss =>
      obtain ⟨s, p⟩ := y
      unfold pm_go at hgo
      cases e : (pm_turn K s p a).2 with
      | none =>
        rw [e] at hgo
        simp at hgo
        obtain ⟨_, rfl, rfl⟩ := hgo
        exact ⟨[], by rw [List.append_nil], fun z => by cases z⟩
      | some q =>
        obtain ⟨l, w⟩ := q
        rw [e] at hgo
        simp only at hgo
        have ht : pm_turn K s p a = ((pm_turn K s p a).1, some (l, w)) := by rw [← e]
        have nN := pm_N_turn hK hc ha ht
        have nb' := pm_nb_turn nb.2.2 ht
        have ok0 := ok
        obtain ⟨_, _, _, R, _⟩ := ok0
        have rs := R.2.2.1
        have h55 : s = 55 → cq_h ss = 0 := fun z => by
          obtain ⟨q, r, z2⟩ := nb.1 z
          rw [z2]; rfl
        have pq := pd_turn (N := N) (Dc := Dc) hK hm nb.2.1 ht hx D ok
        have cq := cq_turn hK hm ha rs h55 ht C
        obtain ⟨h2, el2, fs2, ok2, pq⟩ := pq
        rcases pq with ⟨w0, D2, hx2⟩ | ⟨s', p', w1, pre, D2, hx2⟩
        · subst w0
          rcases cq with ⟨_, C2⟩ | ⟨s', p', w1, _⟩
          · have bt2 := pm_bt_turn (bs' := bs) bt ht (fun _ s' _ z => by cases z)
            obtain ⟨sp1, e1, g⟩ := ih _ _ _ _ _ _ hgo h2 el2 fs2 bs fl V x nN.2.1 ok2 D2 hx2 C2 nb' bt2
            exact ⟨sp1, by rw [e1, List.append_nil], g⟩
          · cases w1
        · subst w1
          rcases cq with ⟨w0, _⟩ | ⟨s2, p2, w1, C2⟩
          · cases w0
          · simp at w1
            obtain ⟨rfl, rfl⟩ := w1
            have bt2 := pm_bt_turn (bs' := dd_bs mq bs fl s' p') bt ht (fun nil s2 hs2 z => by
              simp at z
              obtain ⟨rfl, rfl⟩ := z
              rw [nil] at ok2
              obtain ⟨_, e2, _⟩ := ok2
              have l1 : (dd_bs mq bs fl s' 0).length = 1 := by rw [D2.2.1, e2]; rfl
              rcases hs2 with rfl | rfl
              · refine ⟨true, ?_⟩
                unfold dd_bs at l1 ⊢
                simp at l1 ⊢
                omega
              · refine ⟨fl.headD false, ?_⟩
                unfold dd_bs at l1 ⊢
                simp at l1 ⊢
                exact l1)
            obtain ⟨sp1, e1, g⟩ := ih _ _ _ _ _ _ hgo h2 el2 fs2 _ _ _ _ nN.2.1 ok2 D2 hx2 C2 nb' bt2
            refine ⟨(s', p') :: sp1, by rw [e1, List.append_assoc]; rfl, pre, ?_, g⟩
            exact Nat.le_trans (Nat.le_trans (Nat.le_add_right _ _) (pf_n _ _ _)) C2.1
/-- the run from the beginning: no binding, nothing waits, any open variables -/
theorem pm_run0 {K N mq : Nat → Nat} {Dc : Nat → List tr_T → tr_T → Prop} {c oc : Nat} (hK : ∀ i, c ≤ i → K i = 99) (hc : c ≤ 24) (hm : ∀ q, mq q = pm_nq K 24 (q + 3) - (q + 1)) {f a' : Nat} {sp' : pm_L} {b : Bool} (hgo : pm_go K f [(40, 0)] 0 [] = some (a', sp', b)) : gd_ok K N mq Dc c (fun bs fl => b = true → (∃ f, bs = [(1, f)]) ∧ fl = []) sp' [] [] (fun ν st E => ν.length = oc ∧ st = [] ∧ E = []) (0, 0, 0) := by
  have V0 : dv_len 0 0 (fun ν st E => ν.length = oc ∧ st = [] ∧ E = []) := by
    intro ν st E ⟨_, e1, e2⟩
    rw [e1, e2]; exact ⟨rfl, rfl⟩
  have q0 : pf ((c - 0) + 4 * cq_46 [(40, 0)] - cq_40 [(40, 0)]) (0 + (cq_h [(40, 0)] + cq_p mq [(40, 0)])) (cq_m [(40, 0)] (0, 0, 0)) ≤ 1503 := by
    have q : pf 21 0 0 ≤ 1503 := by decide +kernel
    have e1 : (c - 0) + 4 * cq_46 [(40, 0)] - cq_40 [(40, 0)] ≤ 21 := by
      show (c - 0) + 4 * 0 - 3 ≤ 21
      omega
    exact Nat.le_trans (pf_bb _ _ e1) q
  obtain ⟨sp1, e, g⟩ := pm_run (N := N) (Dc := Dc) hK hc hm f _ _ _ _ _ _ hgo 0 [] [] [] [] (fun ν st E => ν.length = oc ∧ st = [] ∧ E = []) (0, 0, 0) (Nat.zero_le _) ⟨0, [(0, true)], [], pd_40 (Nat.le_refl _) (Nat.le_refl _), rfl, rfl, rfl⟩ ⟨rfl, rfl, fun i x h => (by cases h), V0, trivial⟩ (fun y hy => (by cases hy)) ⟨q0, Nat.le_refl _, fun _ => Or.inl rfl, fun y hy => (by cases hy), trivial⟩ ⟨fun z => (by simp at z), fun z => (by simp at z), trivial⟩ (Or.inr (Or.inr ⟨rfl, rfl⟩))
  rw [List.nil_append] at e
  rw [e]; exact g
