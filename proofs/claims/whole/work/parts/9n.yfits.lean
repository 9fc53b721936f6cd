/-! the reference's fits -/
theorem yg_rg {n j kc : Nat} {kd pa pb : Nat → Nat} {wh pA pB : Nat → Int32} (hG : yg_G n wh pA pB (rg kd j) pa pb) (hj : j < kc) (k144 : kc ≤ 144) (h7 : kd j = 7) : yg_G n (upd wh j 9) (upd pA j (nI (4 + j))) pB (rg kd (j + 1)) pa pb := by
  intro i hi
  by_cases c : i = j
  · subst c
    rw [pk_us, pk_us, rg_1 ⟨Nat.lt_succ_self _, h7⟩]
    refine Or.inr ⟨by omega, by omega, by rw [yk_9 (by omega)]; rfl, fun z => by omega, fun z => by omega, fun _ => ?_⟩
    congr 1
    omega
  · rw [pk_un c, pk_un c]
    have e : rg kd (j + 1) i = rg kd j i := by
      by_cases q : i < j ∧ kd i = 7
      · rw [rg_1 q, rg_1 ⟨by omega, q.2⟩]
      · rw [rg_0 q, rg_0 (fun z => q ⟨by omega, z.2⟩)]
    rw [e]; exact hG i hi
theorem rg_S {kd : Nat → Nat} {j : Nat} (h7 : kd j ≠ 7) : rg kd (j + 1) = rg kd j := by
  funext i
  by_cases q : i < j ∧ kd i = 7
  · rw [rg_1 q, rg_1 ⟨by omega, q.2⟩]
  · rw [rg_0 q]
    refine rg_0 (fun z => ?_)
    by_cases c : i = j
    · rw [c] at z; exact h7 z.2
    · exact q ⟨by omega, z.2⟩
theorem rg_z {kd : Nat → Nat} : rg kd 0 = kd := by
  funext i
  exact rg_0 (fun z => by omega)
section
variable {f_count f_accepted f_place f_kept f_nodes f_tt f_pos f_bad f_typing f_unbound f_clash f_top f_scope f_doneName f_doneType : Int32} {a_kind a_value a_keptKind a_keptA a_keptB a_root a_what a_partA a_partB a_mark a_twin a_walk a_pairs a_now a_todo a_types a_firm a_bound a_boundType : Nat → Int32}
variable {kc : Nat} {kk ka kb rt lo hi : Nat → Nat} {g : Nat → tr_T} {n : Nat} {kd pa pb : Nat → Nat}
theorem yw_f51 {post : Int32 → SY → Prop} {m tS : Nat} {T : tr_T} (H : ky_K kc kk ka kb rt lo hi g) (I : sp_I kc n kd pa pb [tS] [T]) (s : gr_same kc kk ka kb kd pa pb) (hR : y_R a_root rt) (hm : m < 12) (h0 : rt m ≠ 0) (hn : n ≤ kc + 48) (ht : a_types 0 = nI tS)
    (h6 : (¬ ∃ ρ, gr_V n (rg kd kc) pa pb ρ ∧ ρ (rt m - 1) = T) → ∀ nn wh pA pB mk tw wk pr, post 6 (f_count, f_accepted, f_place, nI kc, nn, f_tt, f_pos, f_bad, f_typing, f_unbound, f_clash, f_top, f_scope, f_doneName, f_doneType, a_kind, a_value, a_keptKind, a_keptA, a_keptB, a_root, wh, pA, pB, mk, tw, wk, pr, a_now, a_todo, a_types, a_firm, a_bound, a_boundType))
    (hf : (∃ ρ, gr_V n (rg kd kc) pa pb ρ ∧ ρ (rt m - 1) = T) → ∀ nn wh pA pB mk tw wk pr, post 0 (f_count, f_accepted, f_place, nI kc, nn, f_tt, f_pos, f_bad, f_typing, f_unbound, f_clash, f_top, f_scope, f_doneName, f_doneType, a_kind, a_value, a_keptKind, a_keptA, a_keptB, a_root, wh, pA, pB, mk, tw, wk, pr, a_now, a_todo, a_types, a_firm, a_bound, a_boundType)) :
    ∀ (d j : Nat) (wh pA : Nat → Int32), j + d = kc → yg_G n wh pA a_partB (rg kd j) pa pb → wY_fits_51 post (nI m) f_count f_accepted f_place (nI kc) (nI n) f_tt f_pos f_bad f_typing f_unbound f_clash f_top f_scope f_doneName f_doneType (d + 1) (nI j) a_kind a_value a_keptKind a_keptA a_keptB a_root wh pA a_partB a_mark a_twin a_walk a_pairs a_now a_todo a_types a_firm a_bound a_boundType := by
  obtain ⟨KW, KA, k9, kp, hg, gg, k144, hr, reach⟩ := id H
  obtain ⟨i1, W, A, i4, i5, i6⟩ := I
  have tSn := i5 tS List.mem_cons_self
  intro d
  induction d with
  | zero =>
    intro j wh pA hj hG
    have e : j = kc := by omega
    subst e
    have vm : vp_in (nI m) 12 := vp_in_nI hm (by decide)
    refine br_t (Int32.le_refl _) ⟨vm, ?_⟩
    rw [nI_clamp (by omega), hR m hm, show mk_v' (rt m) = nI (rt m - 1) from if_neg h0]
    obtain ⟨r1, r2, r3, r4, r5, r6⟩ := hr m hm
    have W2 := rg_W (pa := pa) (pb := pb) k144 W
    have A2 := rg_A k144 W A
    have kl : ∀ i, i < j → kd i = kk i ∧ pa i = ka i ∧ pb i = kb i := s
    have n1 : ∀ i, i < n → rg kd j i ≠ 1000 ∧ rg kd j i ≠ 7 := fun i hi => by
      by_cases c : i < j
      · have := k9 i c
        have := (kl i c).1
        by_cases c7 : kd i = 7
        · rw [rg_1 ⟨c, c7⟩]; omega
        · rw [rg_0 (fun z => c7 z.2)]; omega
      · have := (i4 i (by omega) hi).1
        rw [rg_0 (fun z => c z.1)]; omega
    have L2 : gr_L n (rg kd j) pa 0 := fun i hi => (n1 i hi).1
    have k7 : ∀ i, i < j → kk i = 7 → rg kd j i = 14 + i := fun i hi c => rg_1 ⟨hi, by rw [(kl i hi).1]; exact c⟩
    have kx : ∀ i, i < j → kk i ≠ 7 → rg kd j i = kk i := fun i hi c => by rw [rg_0 (fun z => c (by rw [← (kl i hi).1]; exact z.2))]; exact (kl i hi).1
    have sp : ∀ i, j ≤ i → rg kd j i = kd i := fun i hi => rg_0 (by omega)
    have cM : gr_C n (rg kd j) pa pb (fun i => (i < j ∧ kk i = 7) ∨ (j ≤ i ∧ i < n)) := by
      intro i hi
      rcases hi with ⟨a, b⟩ | ⟨a, b⟩
      · rw [k7 i a b]
        exact ⟨by omega, fun z => by omega, fun z => by omega⟩
      · have q := i4 i a b
        rw [sp i a]
        refine ⟨b, fun z => by omega, fun z => ?_⟩
        have w := (W i b).2 z
        exact ⟨Or.inr ⟨(q.2 z).1, w.1⟩, Or.inr ⟨(q.2 z).2, w.2⟩⟩
    have gM : ∀ i, ((i < j ∧ kk i = 7) ∨ (j ≤ i ∧ i < n)) → rg kd j i ≠ 8 := by
      intro i hi
      rcases hi with ⟨a, b⟩ | ⟨a, b⟩
      · rw [k7 i a b]; omega
      · have q := i4 i a b
        rw [sp i a]; omega
    have cE : gr_C n (rg kd j) pa pb (fun i => ((i < j ∧ kk i = 7) ∨ (j ≤ i ∧ i < n)) ∨ (lo m ≤ i ∧ i < hi m)) := by
      intro i hi'
      rcases hi' with z | ⟨a, b⟩
      · have q := cM i z
        exact ⟨q.1, fun z => Or.inl (q.2.1 z), fun z => ⟨Or.inl (q.2.2 z).1, Or.inl (q.2.2 z).2⟩⟩
      · have ij : i < j := by omega
        by_cases c7 : kk i = 7
        · rw [k7 i ij c7]
          exact ⟨by omega, fun z => by omega, fun z => by omega⟩
        · have q9 := k9 i ij
          rw [kx i ij c7]
          refine ⟨by omega, fun z => by omega, fun z => ?_⟩
          have w := (KW i ij).2 z
          obtain ⟨q1, q2⟩ := r6 i a b z
          rw [(kl i ij).2.1, (kl i ij).2.2]
          refine ⟨?_, ?_⟩
          · rcases q1 with y | y
            · exact Or.inl (Or.inl ⟨w.1, y⟩)
            · exact Or.inr y
          · rcases q2 with y | y
            · exact Or.inl (Or.inl ⟨w.2, y⟩)
            · exact Or.inr y
    have tE : (((rt m - 1 < j ∧ kk (rt m - 1) = 7) ∨ (j ≤ rt m - 1 ∧ rt m - 1 < n)) ∨ (lo m ≤ rt m - 1 ∧ rt m - 1 < hi m)) := by
      rcases r5 h0 with z | z
      · exact Or.inl (Or.inl ⟨by omega, z⟩)
      · exact Or.inr z
    refine yw_instance (b0 := lo m) (nl := hi m) (K := 0) W2 A2 hG L2 cM gM cE (fun i h1 h2 => h1.resolve_left h2) (by omega) tE (fun n' kd' pa' pb' R cp x wh' pA' pB' mk tw wk tx Rx ic hn' hG' hL' => ?_)
    have ex : x = rt m - 1 := gr_to_u tx ⟨(n1 _ (by omega)).1, 0, rfl⟩
    subst ex
    obtain ⟨M', cM', gM', sM', rM'⟩ := ic_M ic cM gM W2
    dsimp only
    rw [ht]
    have spT : ∀ ρ, gr_V n' kd' pa' pb' ρ → ρ tS = T := fun ρ v => by
      have q := i6 ρ (rg_V (ic_V ic v))
      simpa using q
    have hsame := ic.2.1
    refine yw_unify (n := n') (K := 0) (by omega) (ic_W ic W2) cM' gM' (rM' _ Rx) (sM' tS (Or.inr tSn)) hG' hL' (fun no wh pA mk wk pr => ?_) (fun kd2 pa2 K2 S wh pA mk wk pr U _ hL3 _ _ => ?_)
    · refine br_t rfl (h6 (fun ⟨ρ, v, e⟩ => ?_) _ _ _ _ _ _ _ _)
      obtain ⟨ρ', v', a1, a2⟩ := ic_3 ic W2 A2 v v (fun _ _ _ => rfl)
      exact no ρ' v' (by rw [a2 _ Rx, e, spT ρ' v'])
    · have hS : gr_C n' kd' pa' pb' (fun i => j ≤ i ∧ i < n) := by
        intro i hi'
        obtain ⟨q1, q2, q3⟩ := hsame i hi'.2
        have q := i4 i hi'.1 hi'.2
        have := ic.1
        rw [q1, q2, q3, sp i hi'.1]
        refine ⟨by omega, fun z => by omega, fun z => ?_⟩
        have w := (W i hi'.2).2 z
        exact ⟨⟨(q.2 z).1, w.1⟩, (q.2 z).2, w.2⟩
      have h7 : ∀ i, j ≤ i ∧ i < n → kd' i ≠ 7 ∧ kd' i ≠ 8 := fun i hi' => by
        rw [(hsame i hi'.2).1, sp i hi'.1]
        have := (i4 i hi'.1 hi'.2).1
        omega
      have hl : ∀ i, i < n' → kd' i ≠ 1000 := fun i hi' => by
        by_cases c : i < n
        · rw [(hsame i c).1]; exact (n1 i c).1
        · obtain ⟨r, _, _, z⟩ := ic_new ic (m := i) (by omega) hi'
          rcases z with z | z
          · omega
          · have := z.1
            omega
      obtain ⟨ρ, v, eq⟩ := un_match' (M0 := M') (Sp := fun i => j ≤ i ∧ i < n) U (ic_W ic W2) (ic_A ic W2 A2) hL3 hl cM' gM' hS h7 (rM' _ Rx) tSn
      obtain ⟨ρ2, v2, _, a2⟩ := ic_2 ic W2 A2 v
      exact br_f (by decide) (hf ⟨ρ2, v2, by rw [a2 _ Rx, eq, spT ρ v]⟩ _ _ _ _ _ _ _ _)
  | succ d ih =>
    intro j wh pA hj hG
    have jn : j < n := by omega
    have vj : vp_in (nI j) 2000 := vp_in_nI (by omega) (by decide)
    have cj : (nI j).toNatClampNeg = j := nI_clamp (by omega)
    have ej : rg kd j j = kd j := rg_0 (by omega)
    have kj : kd j = kk j := (s j (by omega)).1
    have k9j := k9 j (by omega)
    have w7 := yg_7 hG jn (by rw [ej]; omega)
    rw [ej] at w7
    refine br_f (nI_ge (by omega) (by omega)) ⟨vj, ?_⟩
    rw [cj]
    by_cases c7 : kd j = 7
    · refine br_t (w7.mpr c7) ⟨vj, nm_e ⟨vj, ?_⟩⟩
      have e4 : (4 : Int32) + nI j = nI (4 + j) := nI_add 4 j
      rw [e4, ys_nn (by omega)]
      exact nm_e (nm_r (nI_1 j) (ih (j + 1) _ _ (by omega) (yg_rg hG (kc := kc) (by omega) k144 c7)))
    · refine br_f (fun z => c7 (w7.mp z)) (nm_r (nI_1 j) (ih (j + 1) _ _ (by omega) ?_))
      rw [rg_S c7]; exact hG
end
