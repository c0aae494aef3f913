/-! cups: the least row of four, as the component builds it -/
theorem nbv {u : Nat} (h : u < 2147483648) : (nI u).toBitVec.toNat = u := by
  have h1 : (nI u).toInt = (u : Int) := nI_toInt (by omega)
  have h2 := i_nat (x := nI u) (by omega)
  omega
theorem shl3 {u v : Nat} (hu : u < 16777216) (hv : v < 8) : (nI u <<< ((3 : Int32) &&& 31)) ||| nI v = nI (8 * u + v) := by
  apply Int32.toBitVec_inj.mp
  apply BitVec.eq_of_toNat_eq
  have e1 : ((3 : Int32) &&& 31) = 3 := by decide
  have e2 : (nI u <<< (3 : Int32)).toBitVec = (nI u).toBitVec <<< 3 := rfl
  rw [e1, Int32.toBitVec_or, e2, BitVec.toNat_or, BitVec.toNat_shiftLeft, nbv (by omega), nbv (by omega), nbv (by omega), Nat.shiftLeft_eq, Nat.mod_eq_of_lt (by omega)]
  have := Nat.two_pow_add_eq_or_of_lt (i := 3) (b := v) (by omega) u
  have e3 : u * 2 ^ 3 = 2 ^ 3 * u := Nat.mul_comm _ _
  rw [e3, ← this]
theorem shl12 {u v : Nat} (hu : u < 65536) (hv : v < 4096) : (nI u <<< ((12 : Int32) &&& 31)) ||| nI v = nI (4096 * u + v) := by
  apply Int32.toBitVec_inj.mp
  apply BitVec.eq_of_toNat_eq
  have e1 : ((12 : Int32) &&& 31) = 12 := by decide
  have e2 : (nI u <<< (12 : Int32)).toBitVec = (nI u).toBitVec <<< 12 := rfl
  rw [e1, Int32.toBitVec_or, e2, BitVec.toNat_or, BitVec.toNat_shiftLeft, nbv (by omega), nbv (by omega), nbv (by omega), Nat.shiftLeft_eq, Nat.mod_eq_of_lt (by omega)]
  have := Nat.two_pow_add_eq_or_of_lt (i := 12) (b := v) (by omega) u
  have e3 : u * 2 ^ 12 = 2 ^ 12 * u := Nat.mul_comm _ _
  rw [e3, ← this]
def co4 (p q r s : Nat) : Nat := 8 * (8 * (8 * p + q) + r) + s
/-- the row of a way: the least player first, the other two as they stand -/
def r4w (m : Nat) : Nat → Nat
  | 0 => co4 (el m 0) (el m 1) (el m 2) (el m 3)
  | 1 => co4 (el m 0) (el m 2) (el m 1) (el m 3)
  | _ => co4 (el m 0) (el m 3) (el m 1) (el m 2)
theorem lr4_D {N : Nat} {σ : Mem} {n m : Nat} (h8 : n ≤ 8) (h3 : gI σ 3 0 = nI n) (hm : m < 2 ^ n) (h4 : pc (nI m) = 4) (B : Int32) : par (f_Cu_leastRowOfFour N (nI m) B σ) (fun q => fr [21] [] σ q.2 ∧ ((q.1 = -1 ∧ ∀ w, w < 3 → bt B (wm (gI σ 13) m w) = false) ∨ ∃ w, w < 3 ∧ bt B (wm (gI σ 13) m w) = true ∧ (∀ v, v < w → bt B (wm (gI σ 13) m v) = false) ∧ q.1 = nI (r4w m w))) := by
  have hp : (2 : Nat) ^ n ≤ 256 := Nat.pow_le_pow_right (n := 2) (by decide) h8
  obtain ⟨f1, f2, f3, f4, -⟩ := four_f m (by omega) h4
  have l3 : (3 : Int32) = nI 3 := rfl
  unfold f_Cu_leastRowOfFour
  refine p_obq _ (put4 h8 h3 hm h4) (fun r2 s1 hs => ?_)
  obtain ⟨s0, r0, r1, r2', r3⟩ := hs
  have s0' : fr [21] [] σ s1 := s0
  have t1 : (1 : Int32).toNatClampNeg = 1 := by decide
  have t2 : (2 : Int32).toNatClampNeg = 2 := by decide
  have t3 : (3 : Int32).toNatClampNeg = 3 := by decide
  have u1 : (nI 0 + (1 : Int32)).toNatClampNeg = 1 := by decide
  have u2 : (nI 1 + (1 : Int32)).toNatClampNeg = 2 := by decide
  have u3 : (nI 2 + (1 : Int32)).toNatClampNeg = 3 := by decide
  refine p_it1 (fun i6 => ∃ w, w ≤ 3 ∧ i6 = nI w ∧ ∀ v, v < w → bt B (wm (gI σ 13) m v) = false) ?_ N _ ⟨0, by omega, rfl, fun v hv => by omega⟩
  rintro self _ ⟨w, hw, rfl, hz⟩ ih
  unfold Cu_leastRowOfFour_B9
  refine p_if (fun c => ?_) (fun c => ?_)
  · rw [l3, nle (by omega) (by omega)] at c
    exact p_some ⟨s0', Or.inl ⟨rfl, fun v hv => hz v (by omega)⟩⟩
  · rw [l3, nle (by omega) (by omega)] at c
    have g13 : gI s1 13 = gI σ 13 := s0'.1 13 (by decide)
    refine p_ob _ (bw_D (by omega) (by omega) (by omega) f4 r0 r1 r2' r3 (by omega : w < 3)) (fun r6 h6 => ?_)
    rw [g13] at h6
    have e6 : r6 = nI (wm (gI σ 13) m w) := h6
    have l8' := (wm_in (f := gI σ 13) (w := w) (by omega : m < 256) h4).2
    rw [e6, bit_bt (by omega), nadd1]
    cases hb : bt B (wm (gI σ 13) m w)
    · rw [if_neg (by decide)]
      refine ih _ ⟨w + 1, by omega, rfl, fun v hv => ?_⟩
      by_cases cv : v = w
      · rw [cv]; exact hb
      · exact hz v (by omega)
    · rw [if_pos (by rfl)]
      unfold Cu_leastRowOfFour_K27
      rcases (show w = 0 ∨ w = 1 ∨ w = 2 by omega) with rfl | rfl | rfl
      · rw [if_pos (show nI 0 = (0 : Int32) by decide)]
        unfold Cu_leastRowOfFour_J36
        rw [if_neg (show ¬ nI 0 = (2 : Int32) by decide)]
        unfold Cu_leastRowOfFour_J48
        rw [n0, u1, t2, t3, r0, r1, r2', r3, shl3 (by omega) (by omega), shl3 (by omega) (by omega), shl3 (by omega) (by omega)]
        exact p_gd (fun _ => p_gd (fun _ => p_gd (fun _ => p_some ⟨s0', Or.inr ⟨0, by decide, hb, hz, rfl⟩⟩)))
      · rw [if_neg (show ¬ nI 1 = (0 : Int32) by decide)]
        unfold Cu_leastRowOfFour_J36
        rw [if_neg (show ¬ nI 1 = (2 : Int32) by decide)]
        unfold Cu_leastRowOfFour_J48
        rw [n0, u2, t1, t3, r0, r1, r2', r3, shl3 (by omega) (by omega), shl3 (by omega) (by omega), shl3 (by omega) (by omega)]
        exact p_gd (fun _ => p_gd (fun _ => p_gd (fun _ => p_some ⟨s0', Or.inr ⟨1, by decide, hb, hz, rfl⟩⟩)))
      · rw [if_neg (show ¬ nI 2 = (0 : Int32) by decide)]
        unfold Cu_leastRowOfFour_J36
        rw [if_pos (show nI 2 = (2 : Int32) by decide)]
        unfold Cu_leastRowOfFour_J48
        rw [n0, u3, t1, t2, r0, r1, r2', r3, shl3 (by omega) (by omega), shl3 (by omega) (by omega), shl3 (by omega) (by omega)]
        exact p_gd (fun _ => p_gd (fun _ => p_gd (fun _ => p_some ⟨s0', Or.inr ⟨2, by decide, hb, hz, rfl⟩⟩)))
