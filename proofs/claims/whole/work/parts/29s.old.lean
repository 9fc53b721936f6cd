/-! the labels of the types declared before, in the graph at work -/
/-- general variables of different names are different -/
def ky_X (kk rt : Nat → Nat) (g : Nat → tr_T) : Prop := ∀ v w j, v < 12 → w < 12 → v ≠ w → 1001 + j ∈ ky_L rt g v → 1001 + j ∈ ky_L rt g w → kk j ≠ 8
section
variable {kc : Nat} {kk ka kb rt lo hi : Nat → Nat} {g : Nat → tr_T} {n : Nat} {kd pa pb : Nat → Nat} {gY : Nat → tr_T}
/-- a general code's node is a label of the name -/
theorem ky_glab (H : ky_K kc kk ka kb rt lo hi g) {v c : Nat} (hv : v < 12) (hc : c ∈ ky_d kk rt g v) (h1 : 10 ≤ c) (h2 : c < 100) : 1001 + ky_g kk rt g v (c - 10) ∈ ky_L rt g v := by
  rw [ky_dfin hv] at hc
  obtain ⟨x, hx, e⟩ := List.mem_map.mp hc
  rcases ky_code H hv hx with z | ⟨j, k, e1, hj, c7, e2, e3⟩ | ⟨j, k, e1, hj, c8, e2, e3, k12, e4⟩
  · omega
  · omega
  · have ek : c - 10 = k := by omega
    rw [ek, e3, ← e1]; exact hx
theorem yl_lab (H : ky_K kc kk ka kb rt lo hi g) (L : yl_L kc kk ka kb (ky_o kk rt g) n kd pa pb) (hg : gr_V n kd pa pb gY) (gg : gr_gen n kd gY) {v : Nat} (hv : v < 12) (h0 : rt v ≠ 0) : tr_pre (gY (rt v - 1)) = (ky_d kk rt g v).flatMap (cd_lb (fun o => tr_pre (gY ((ky_o kk rt g).getD o 0))) (fun k => [1001 + ky_g kk rt g v k])) := by
  have ev := ky_ev H hv h0 (L.2.1 gY hg)
  have wf := (ky_wf H hv (fun z => h0 ((ky_nil H hv).mp z))).1
  have p := cd_pre (ν := fun o => gY ((ky_o kk rt g).getD o 0)) (γ := fun k => gY (ky_g kk rt g v k)) (ky_d kk rt g v) wf
  rw [ev, List.flatMap_cons, List.flatMap_nil, List.append_nil] at p
  rw [p]
  refine fm_cg _ (fun c hc => ?_)
  unfold cd_lb
  by_cases c1 : 100 ≤ c
  · rw [if_pos c1, if_pos c1]
  · rw [if_neg c1, if_neg c1]
    by_cases c2 : 10 ≤ c
    · rw [if_pos c2, if_pos c2]
      obtain ⟨q1, q2, q3, q4⟩ := ky_gen H hv hc c2 (by omega)
      have c8 := yl_8 H L q2 q3
      have := L.1
      show tr_pre (gY (ky_g kk rt g v (c - 10))) = [1001 + ky_g kk rt g v (c - 10)]
      rw [gg _ (by omega) (Or.inr c8), tr_pre_at]
    · rw [if_neg c2, if_neg c2]
/-- where a general label of a declared type comes from -/
theorem yl_lab8 {M : Nat → Prop} (H : ky_K kc kk ka kb rt lo hi g) (L : yl_L kc kk ka kb (ky_o kk rt g) n kd pa pb) (W : gr_W n kd pa pb) (A : gr_A n kd pa pb) (hM : gr_C n kd pa pb M) (gM : ∀ i, M i → kd i ≠ 8) (oM : ∀ x, x ∈ ky_o kk rt g → M x) (hk : ∀ i, i < n → kd i ≤ 1000) (hg : gr_V n kd pa pb gY) (gg : gr_gen n kd gY) {v j : Nat} (hv : v < 12) (h0 : rt v ≠ 0) (hj : 1001 + j ∈ tr_pre (gY (rt v - 1))) (c8 : kd j = 8) : j < kc ∧ kk j = 8 ∧ 1001 + j ∈ ky_L rt g v := by
  rw [yl_lab H L hg gg hv h0] at hj
  obtain ⟨c, hc, hm⟩ := List.mem_flatMap.mp hj
  unfold cd_lb at hm
  by_cases c1 : 100 ≤ c
  · rw [if_pos c1] at hm
    have wf := (ky_wf H hv (fun z => h0 ((ky_nil H hv).mp z))).1
    have key : ∀ cs : List Nat, cd_wf (ky_o kk rt g).length cs → ∀ c, c ∈ cs → 100 ≤ c → c - 100 < (ky_o kk rt g).length := by
      intro cs
      induction cs with
      | nil => intro _ c hc; cases hc
      | cons d cs ih =>
        intro ⟨a, b, e⟩ c hc h1
        rcases List.mem_cons.mp hc with z | z
        · omega
        · exact ih e c z h1
    have lt := key _ wf c hc c1
    have hm : 1001 + j ∈ tr_pre (gY ((ky_o kk rt g).getD (c - 100) 0)) := hm
    rw [List.getD_eq_getElem?_getD, List.getElem?_eq_getElem lt] at hm
    have mx := oM _ (List.getElem_mem lt)
    simp only [Option.getD_some] at hm
    obtain ⟨f, hf⟩ := A _ (hM _ mx).1
    rcases fl_in hk hg gg hM f _ mx hf _ (tr_pre_fl (fl_gok W hg gg f _ (hM _ mx).1 hf) hm) with z | ⟨j', e, mj, _⟩
    · omega
    · have : j' = j := by omega
      rw [this] at mj
      exact (gM j mj c8).elim
  · rw [if_neg c1] at hm
    by_cases c2 : 10 ≤ c
    · rw [if_pos c2] at hm
      have e : j = ky_g kk rt g v (c - 10) := by have := List.mem_singleton.mp hm; omega
      obtain ⟨q1, q2, q3, q4⟩ := ky_gen H hv hc c2 (by omega)
      rw [e]
      exact ⟨q2, q3, ky_glab H hv hc c2 (by omega)⟩
    · rw [if_neg c2] at hm
      have := List.mem_singleton.mp hm
      omega
end
