/-! the reference: keeping types -/
/-- the marks of variables: the copies that they have -/
def kp_M (n : Nat) (kd src : Nat → Nat) (m : Nat) (mk : Nat → Int32) : Prop := ∀ i, i < n → gr_fr (kd i) → (∃ k, k < m ∧ src k = i ∧ mk i = nI k) ∨ ((∀ k, k < m → src k ≠ i) ∧ mk i = -1)
def kz (g : Nat → tr_T) : List (Nat × Nat) → Nat
  | [] => 0
  | p :: P => (tr_pre (g p.1)).length + kz g P
/-- the arrays of the copies; P: those whose parts are still to come -/
def yk_H (m : Nat) (P : List Nat) (qk qa qb : Nat → Int32) (kk ka kb : Nat → Nat) : Prop :=
  ∀ i, i < m → qk i = nI (kk i) ∧ (kk i = 7 → qa i = -1) ∧ (gr_cn (kk i) → i ∉ P → qa i = nI (ka i) ∧ (5 ≤ kk i → qb i = nI (kb i)))
section
variable {f_count f_accepted f_place f_kept f_nodes f_tt f_pos f_bad f_typing f_unbound f_clash f_top f_scope f_doneName f_doneType : Int32} {a_kind a_value a_keptKind a_keptA a_keptB a_root a_what a_partA a_partB a_mark a_twin a_walk a_pairs a_now a_todo a_types a_firm a_bound a_boundType : Nat → Int32}
variable {kd pa pb : Nat → Nat} {n K m : Nat} {g : Nat → tr_T} {kk ka kb src : Nat → Nat}
theorem yw_slot {post : Int32 → SY → Prop} {i r : Nat} (hn : n ≤ 2000) (hG : yg_G n a_what a_partA a_partB kd pa pb) (hL : gr_L n kd pa K) (W : gr_W n kd pa pb) (hi : i < n) (ir : gr_to kd pa i r) (hm : m < 180) (M : kp_M n kd src m a_mark) (h9 : kd r < 9)
    (hold : ∀ k, k < m → src k = r → gr_fr (kd r) → post (nI k) (f_count, f_accepted, f_place, nI m, f_nodes, f_tt, f_pos, f_bad, f_typing, f_unbound, f_clash, f_top, f_scope, f_doneName, f_doneType, a_kind, a_value, a_keptKind, a_keptA, a_keptB, a_root, a_what, a_partA, a_partB, a_mark, a_twin, a_walk, a_pairs, a_now, a_todo, a_types, a_firm, a_bound, a_boundType))
    (hnew : (gr_fr (kd r) → ∀ k, k < m → src k ≠ r) → ∀ mk, kp_M n kd (gr_u src m r) (m + 1) mk → post (nI m) (f_count, f_accepted, f_place, nI (m + 1), f_nodes, f_tt, f_pos, f_bad, f_typing, f_unbound, f_clash, f_top, f_scope, f_doneName, f_doneType, a_kind, a_value, upd a_keptKind m (nI (kd r)), upd a_keptA m (-1), a_keptB, a_root, a_what, a_partA, a_partB, mk, a_twin, a_walk, a_pairs, a_now, a_todo, a_types, a_firm, a_bound, a_boundType)) : wpY_slot post (f_count, f_accepted, f_place, nI m, f_nodes, f_tt, f_pos, f_bad, f_typing, f_unbound, f_clash, f_top, f_scope, f_doneName, f_doneType, a_kind, a_value, a_keptKind, a_keptA, a_keptB, a_root, a_what, a_partA, a_partB, a_mark, a_twin, a_walk, a_pairs, a_now, a_todo, a_types, a_firm, a_bound, a_boundType) (nI i) := by
  have rn := gr_to_n W ir hi
  have vr : vp_in (nI r) 2000 := vp_in_nI (by omega) (by decide)
  have cr : (nI r).toNatClampNeg = r := nI_clamp (by omega)
  have cm : (nI m).toNatClampNeg = m := nI_clamp (by omega)
  obtain ⟨_, _, ew, _⟩ := yg_r hG rn ir.1
  rw [yk_l h9] at ew
  have new : (gr_fr (kd r) → ∀ k, k < m → src k ≠ r) → wY_slot_54 post (nI r) f_count f_accepted f_place (nI m) f_nodes f_tt f_pos f_bad f_typing f_unbound f_clash f_top f_scope f_doneName f_doneType a_kind a_value a_keptKind a_keptA a_keptB a_root a_what a_partA a_partB a_mark a_twin a_walk a_pairs a_now a_todo a_types a_firm a_bound a_boundType := fun hf => by
    unfold wY_slot_54
    refine ⟨vr, ?_⟩
    rw [cr, ys_nn (by omega)]
    refine nm_e ⟨vr, vp_in_nI hm (by decide), ?_⟩
    rw [cm, ew, yb_v (by omega)]
    refine nm_e ⟨vp_in_nI hm (by decide), nm_r (e' := upd a_keptA m (-1)) rfl (nm_r (nI_1 m) (hnew hf _ (fun j hj c => ?_)))⟩
    by_cases e : j = r
    · subst e
      exact Or.inl ⟨m, by omega, gr_us, pk_us⟩
    · rw [pk_un e]
      rcases M j hj c with ⟨k, k1, k2, k3⟩ | ⟨k1, k2⟩
      · exact Or.inl ⟨k, by omega, by rw [gr_un (by omega)]; exact k2, k3⟩
      · refine Or.inr ⟨fun k hk => ?_, k2⟩
        by_cases q : k = m
        · rw [q, gr_us]; exact fun z => e z.symm
        · rw [gr_un q]; exact k1 k (by omega)
  have var : gr_fr (kd r) → wY_slot_28 post (nI r) f_count f_accepted f_place (nI m) f_nodes f_tt f_pos f_bad f_typing f_unbound f_clash f_top f_scope f_doneName f_doneType a_kind a_value a_keptKind a_keptA a_keptB a_root a_what a_partA a_partB a_mark a_twin a_walk a_pairs a_now a_todo a_types a_firm a_bound a_boundType := fun c => by
    unfold wY_slot_28 wY_slot_33
    refine br_f (by decide) ⟨vr, ?_⟩
    rw [cr]
    rcases M r rn c with ⟨k, k1, k2, k3⟩ | ⟨k1, k2⟩
    · rw [k3]
      exact br_f (nI_pos (by omega)) ⟨vr, hold k k1 k2 c⟩
    · rw [k2]
      exact br_t (by decide) (new (fun _ => k1))
  refine yw_real hG hn hL hi ir ⟨vr, ?_⟩
  rw [cr, ew]
  by_cases c7 : kd r = 7
  · exact br_t (by rw [c7]; rfl) (var (Or.inl c7))
  · refine br_f (fun z => c7 ((nI_eq (b := 7) (by omega) (by omega)).mp z)) ⟨vr, ?_⟩
    by_cases c8 : kd r = 8
    · exact br_t (by rw [c8]; rfl) (var (Or.inr c8))
    · refine br_f (fun z => c8 ((nI_eq (b := 8) (by omega) (by omega)).mp z)) ?_
      unfold wY_slot_33
      exact br_t rfl (new (fun c => by omega))
/-- what keeping one type has come to -/
def kq_I (n : Nat) (kd pa pb : Nat → Nat) (g : Nat → tr_T) (Lb : Nat → Prop) (lo r0 s0 T q m : Nat) (kk ka kb src : Nat → Nat) (PP : List (Nat × Nat)) (kk0 ka0 kb0 src0 : Nat → Nat) : Prop :=
  kp_I n kd pa pb m kk ka kb src (PP.map Prod.snd) ∧ kp_N lo r0 m kk ka kb (PP.map Prod.snd) ∧ (∀ p, p ∈ PP → src p.2 = p.1 ∧ p.2 < m ∧ ∀ c, c ∈ tr_pre (g p.1) → Lb c) ∧ (PP.map Prod.snd).Pairwise (fun y z => y = z → ¬ gr_cn (kk y)) ∧
  m ≤ lo + q + PP.length ∧ q + kz g PP ≤ T ∧ (∀ k, k < lo → kk k = 8 → ¬ Lb (1001 + src k)) ∧ (∀ k, k < lo → kk k = kk0 k ∧ ka k = ka0 k ∧ kb k = kb0 k ∧ src k = src0 k) ∧ src r0 = s0
theorem kz_len (W : gr_W n kd pa pb) (A : gr_A n kd pa pb) (hg : gr_V n kd pa pb g) (gg : gr_gen n kd g) : ∀ PP : List (Nat × Nat), (∀ p, p ∈ PP → p.1 < n) → PP.length ≤ kz g PP := by
  intro PP
  induction PP with
  | nil => intro _; exact Nat.le_refl _
  | cons p PP ih =>
    intro h
    have q := wk_len W A hg gg (h p List.mem_cons_self)
    have := ih (fun y hy => h y (List.mem_cons_of_mem _ hy))
    unfold kz
    rw [List.length_cons]
    omega
end
