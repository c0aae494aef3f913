/-! loops whose end no counter tells -/
theorem and_m1 {x : Int32} (h : x ≠ 0) : (x &&& (x - 1)).toBitVec.toNat < x.toBitVec.toNat := by
  have h0 : x.toBitVec.toNat ≠ 0 := fun e => h (Int32.toBitVec_inj.mp (BitVec.eq_of_toNat_eq (by rw [e]; decide)))
  have h1 : (x &&& (x - 1)).toBitVec.toNat ≤ (x - 1).toBitVec.toNat := by
    rw [Int32.toBitVec_and, BitVec.toNat_and]
    exact Nat.and_le_right
  have h2 : (x - 1).toBitVec.toNat = x.toBitVec.toNat - 1 := by
    rw [Int32.toBitVec_sub, BitVec.toNat_sub]
    have e1 : (1 : Int32).toBitVec.toNat = 1 := by decide
    rw [e1]
    have := x.toBitVec.isLt
    omega
  omega
theorem M_sizeOf_t {N : Nat} (hN : 8589934592 ≤ N) {a1 : Int32} : tot (f_M_sizeOf N a1) (fun r => rg (-2147483648) 2147483647 r) := by
  unfold f_M_sizeOf
  refine t_it2 (fun _ _ => True) (fun _ x => x.toBitVec.toNat) ?_ _ _ _ trivial (by have := a1.toBitVec.isLt; omega)
  rintro self i1 i2 - ih
  unfold M_sizeOf_B4
  refine t_if (fun h => t_some (rg_f _)) (fun h => t_bnd ?_)
  exact ih _ _ trivial (and_m1 h)
theorem rem_lt {x y : Int32} (h : y ≠ 0) : (x - x / y * y).toInt.natAbs < y.toInt.natAbs := by
  have hy : y.toInt ≠ 0 := fun e => h (Int32.toInt_inj.mp (by rw [e]; decide))
  have b1 := i_bd x
  have b2 := i_bd y
  have e : (x - x / y * y).toInt = x.toInt.tmod y.toInt := by
    have m1 := Int.tmod_def x.toInt y.toInt
    have m2 : y.toInt * x.toInt.tdiv y.toInt = x.toInt.tdiv y.toInt * y.toInt := Int.mul_comm _ _
    have m3 : (x.toInt.tmod y.toInt).natAbs < y.toInt.natAbs := by
      rw [Int.natAbs_tmod]
      exact Nat.mod_lt _ (by omega)
    rw [Int32.toInt_sub, Int32.toInt_mul, Int32.toInt_div, Int.bmod_mul_bmod, Int.sub_bmod_bmod, bm (by omega) (by omega)]
    omega
  rw [e, Int.natAbs_tmod]
  exact Nat.mod_lt _ (by omega)
theorem M_commonOf_t {N : Nat} (hN : 8589934592 ≤ N) {a1 a2 : Int32} : tot (f_M_commonOf N a1 a2) (fun r => rg (-2147483648) 2147483647 r) := by
  unfold f_M_commonOf
  refine t_it2 (fun _ _ => True) (fun _ x => x.toInt.natAbs) ?_ _ _ _ trivial (by have := i_bd a2; omega)
  rintro self i1 i2 - ih
  unfold M_commonOf_B4
  refine t_if (fun h => t_some (rg_f _)) (fun h => t_gd (by unfold nz; simp [h]) (t_bnd ?_))
  exact ih _ _ trivial (rem_lt h)
