/-! small numbers of the reference: shorts, bytes, two nodes in one int -/
theorem ys_n {a : Nat} (h : a < 32768) : (nI a).toInt16.toInt32 = nI a := by
  apply Int32.toInt_inj.mp
  rw [Int16.toInt_toInt32, Int32.toInt_toInt16, nI_toInt (by omega)]
  exact Int.bmod_eq_of_le (by omega) (by omega)
theorem yb_n {a : Nat} (h : a < 128) : (nI a).toInt8.toInt32 = nI a := by
  apply Int32.toInt_inj.mp
  rw [Int8.toInt_toInt32, Int32.toInt_toInt8, nI_toInt (by omega)]
  exact Int.bmod_eq_of_le (by omega) (by omega)
theorem ys_v {a : Nat} (h : a < 32768) : vp_nar .short (nI a) = nI a := ys_n h
theorem yb_v {a : Nat} (h : a < 128) : vp_nar .byte (nI a) = nI a := yb_n h
theorem ys_nn {a : Nat} (h : a < 32768) : vp_nar .short ((nI a).toInt16.toInt32) = nI a := by rw [pk_vs]; exact ys_n h
theorem yb_nn {a : Nat} (h : a < 128) : vp_nar .byte ((nI a).toInt8.toInt32) = nI a := by rw [pk_vb]; exact yb_n h
theorem yn_i {a : Nat} (h : a < 2 ^ 31) : ((-1 : Int32) - nI a).toInt = -1 - (a : Int) := by
  rw [Int32.toInt_sub, nI_toInt h]
  show Int.bmod (-1 - (a : Int)) (2 ^ 32) = _
  exact Int.bmod_eq_of_le (by omega) (by omega)
theorem ys_m {a : Nat} (h : a < 32768) : ((-1 : Int32) - nI a).toInt16.toInt32 = -1 - nI a := by
  apply Int32.toInt_inj.mp
  rw [Int16.toInt_toInt32, Int32.toInt_toInt16, yn_i (by omega)]
  exact Int.bmod_eq_of_le (by omega) (by omega)
theorem ys_mm {a : Nat} (h : a < 32768) : vp_nar .short (((-1 : Int32) - nI a).toInt16.toInt32) = -1 - nI a := by rw [pk_vs]; exact ys_m h
theorem yn_lt {a : Nat} (h : a < 2 ^ 31) : ¬ (0 : Int32) ≤ -1 - nI a := by
  rw [Int32.le_iff_toInt_le, yn_i h]
  show ¬ (0 : Int) ≤ _
  omega
theorem yn_back (x : Int32) : (-1 : Int32) - ((-1) - x) = x := by
  rw [Int32.sub_eq_iff_eq_add, Int32.add_comm, Int32.sub_add_cancel]
theorem yp_pair {s t : Nat} (hs : s < 4096) (ht : t < 4096) : (nI s <<< ((12 : Int32) &&& 31)) ||| nI t = nI (s * 4096 + t) := by
  rw [pk_shlN _ 12 (by decide) (by omega)]
  apply Int32.toBitVec_inj.mp
  apply BitVec.eq_of_toNat_eq
  rw [Int32.toBitVec_or, BitVec.toNat_or, pk_tn (by omega), pk_tn (by omega), pk_tn (by omega), Nat.mul_comm s]
  exact (Nat.two_pow_add_eq_or_of_lt (i := 12) (by omega) s).symm
theorem yp_s {s t : Nat} (hs : s < 4096) (ht : t < 4096) : nI (s * 4096 + t) >>> ((12 : Int32) &&& 31) = nI s := by
  rw [pk_shrN (by omega) _ 12 (by decide)]
  congr 1
  omega
theorem yp_t {s t : Nat} (hs : s < 4096) (ht : t < 4096) : nI (s * 4096 + t) &&& 4095 = nI t := by
  rw [pk_andN (by omega) 12 (by decide)]
  congr 1
  omega
/-- the parts of a kind -/
def yp_n (k : Nat) : Nat := if k = 5 ∨ k = 6 then 2 else if k = 3 ∨ k = 4 then 1 else 0
