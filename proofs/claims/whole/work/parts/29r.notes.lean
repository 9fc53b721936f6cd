/-! numbering by notes at the nodes: 0 none yet, else the number and one -/
def dn_x (c : Nat) (l : List Nat) : Nat := if c ∈ l then ix_of c l + 1 else 0
def dn_N (n : Nat) (kd nt : Nat → Nat) (so sg : List Nat) (Q : Nat → Prop) : Prop :=
  ∀ i, i < n → (kd i = 7 → nt i = dn_x (1001 + i) so) ∧ (kd i = 8 → Q i → nt i = dn_x (1001 + i) sg)
theorem dn_x0 {c : Nat} {l : List Nat} (h : c ∉ l) : dn_x c l = 0 := if_neg h
theorem dn_x1 {c : Nat} {l : List Nat} (h : c ∈ l) : dn_x c l = ix_of c l + 1 := if_pos h
theorem dn_xz {c : Nat} {l : List Nat} : dn_x c l = 0 ↔ c ∉ l := by
  by_cases h : c ∈ l
  · rw [dn_x1 h]; exact ⟨fun z => by omega, fun z => (z h).elim⟩
  · rw [dn_x0 h]; exact ⟨fun _ => h, fun _ => rfl⟩
theorem dn_xa {c d : Nat} {l : List Nat} (h : d ∉ l) : dn_x c (l ++ [d]) = if c = d then l.length + 1 else dn_x c l := by
  by_cases e : c = d
  · rw [if_pos e, e, dn_x1 (List.mem_append_right _ List.mem_cons_self), ix_app' h, if_pos rfl]
  · rw [if_neg e]
    by_cases m : c ∈ l
    · rw [dn_x1 m, dn_x1 (List.mem_append_left _ m), ix_app m]
    · rw [dn_x0 m, dn_x0]
      intro z
      rcases List.mem_append.mp z with q | q
      · exact m q
      · exact e (List.mem_singleton.mp q)
section
variable {n : Nat} {kd nt : Nat → Nat} {so sg : List Nat} {Q : Nat → Prop} {r : Nat}
theorem dn_cl7 (h : kd r = 7) : kp_c kd (1001 + r) = false := by
  unfold kp_c
  rw [Nat.add_sub_cancel_left, h]; rfl
theorem dn_cl8 (h : kd r = 8) : kp_c kd (1001 + r) = true := by
  unfold kp_c
  rw [Nat.add_sub_cancel_left, h]; rfl
/-- an open variable -/
theorem dn_o (N : dn_N n kd nt so sg Q) (hr : r < n) (h7 : kd r = 7) :
    nm_c (kp_c kd) so sg (1001 + r) = 100 + (if nt r = 0 then so.length else nt r - 1) ∧ nm_g (kp_c kd) sg (1001 + r) = sg ∧
    nm_o (kp_c kd) so (1001 + r) = (if nt r = 0 then so ++ [1001 + r] else so) ∧
    (nt r = 0 → dn_N n kd (gr_u nt r (so.length + 1)) (so ++ [1001 + r]) sg Q) ∧ (nt r ≠ 0 → nt r ≤ so.length) := by
  have cl := dn_cl7 (kd := kd) h7
  have e := (N r hr).1 h7
  have n7 : ¬ 1001 + r < 7 := by omega
  have c1 : nm_c (kp_c kd) so sg (1001 + r) = 100 + ix_of (1001 + r) so := by
    unfold nm_c
    rw [if_neg n7, cl]
    exact if_neg (by decide)
  have c2 : nm_g (kp_c kd) sg (1001 + r) = sg := if_pos (Or.inr cl)
  have c3 : nm_o (kp_c kd) so (1001 + r) = ix_add (1001 + r) so := if_neg (fun z => z.elim n7 (fun z => by rw [cl] at z; cases z))
  rw [c1, c2, c3]
  unfold ix_add
  by_cases m : 1001 + r ∈ so
  · rw [dn_x1 m] at e
    have lt := ix_lt.mpr m
    have ne : ¬ nt r = 0 := by omega
    rw [if_neg ne, if_neg ne, if_pos m]
    exact ⟨by omega, rfl, rfl, fun z => (ne z).elim, fun _ => by omega⟩
  · rw [dn_x0 m] at e
    rw [if_pos e, if_pos e, if_neg m, ix_no m]
    refine ⟨rfl, rfl, rfl, fun _ => ?_, fun z => (z e).elim⟩
    intro i hi
    refine ⟨fun c => ?_, fun c q => ?_⟩
    · rw [dn_xa m]
      by_cases z : i = r
      · rw [z, gr_us, if_pos rfl]
      · have z2 : ¬ 1001 + i = 1001 + r := by omega
        rw [gr_un z, if_neg z2]; exact (N i hi).1 c
    · have z : i ≠ r := fun z => by rw [z] at c; omega
      rw [gr_un z]; exact (N i hi).2 c q
/-- a general one -/
theorem dn_g (N : dn_N n kd nt so sg Q) (hr : r < n) (h8 : kd r = 8) (hq : Q r) :
    nm_c (kp_c kd) so sg (1001 + r) = 10 + (if nt r = 0 then sg.length else nt r - 1) ∧ nm_o (kp_c kd) so (1001 + r) = so ∧
    nm_g (kp_c kd) sg (1001 + r) = (if nt r = 0 then sg ++ [1001 + r] else sg) ∧
    (nt r = 0 → dn_N n kd (gr_u nt r (sg.length + 1)) so (sg ++ [1001 + r]) Q) ∧ (nt r ≠ 0 → nt r ≤ sg.length) := by
  have cl := dn_cl8 (kd := kd) h8
  have e := (N r hr).2 h8 hq
  have n7 : ¬ 1001 + r < 7 := by omega
  have c1 : nm_c (kp_c kd) so sg (1001 + r) = 10 + ix_of (1001 + r) sg := by
    unfold nm_c
    rw [if_neg n7, cl]
    exact if_pos rfl
  have c2 : nm_o (kp_c kd) so (1001 + r) = so := if_pos (Or.inr cl)
  have c3 : nm_g (kp_c kd) sg (1001 + r) = ix_add (1001 + r) sg := if_neg (fun z => z.elim n7 (fun z => by rw [cl] at z; cases z))
  rw [c1, c2, c3]
  unfold ix_add
  by_cases m : 1001 + r ∈ sg
  · rw [dn_x1 m] at e
    have lt := ix_lt.mpr m
    have ne : ¬ nt r = 0 := by omega
    rw [if_neg ne, if_neg ne, if_pos m]
    exact ⟨by omega, rfl, rfl, fun z => (ne z).elim, fun _ => by omega⟩
  · rw [dn_x0 m] at e
    rw [if_pos e, if_pos e, if_neg m, ix_no m]
    refine ⟨rfl, rfl, rfl, fun _ => ?_, fun z => (z e).elim⟩
    intro i hi
    refine ⟨fun c => ?_, fun c q => ?_⟩
    · have z : i ≠ r := fun z => by rw [z] at c; omega
      rw [gr_un z]; exact (N i hi).1 c
    · rw [dn_xa m]
      by_cases z : i = r
      · rw [z, gr_us, if_pos rfl]
      · have z2 : ¬ 1001 + i = 1001 + r := by omega
        rw [gr_un z, if_neg z2]; exact (N i hi).2 c q
/-- anything else -/
theorem dn_k {cl : Nat → Bool} {c : Nat} (h : c < 7) : nm_c cl so sg c = c ∧ nm_o cl so c = so ∧ nm_g cl sg c = sg := by
  unfold nm_c nm_o nm_g
  rw [if_pos h, if_pos (Or.inl h), if_pos (Or.inl h)]
  exact ⟨rfl, rfl, rfl⟩
end
