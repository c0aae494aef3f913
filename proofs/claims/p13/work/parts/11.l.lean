/-! the reference: loops that end by their own ground -/
theorem or_ge {x y : Int32} (hx : 0 ≤ x.toInt) (hy : 0 ≤ y.toInt) : x.toInt ≤ (x ||| y).toInt := by
  have e1 := i_nat hx
  have e2 := i_nat hy
  have l1 := i_natlt hx
  have l2 := i_natlt hy
  have e : (x ||| y).toBitVec.toNat < 2 ^ 31 := by
    rw [Int32.toBitVec_or, BitVec.toNat_or]
    exact Nat.or_lt_two_pow (by omega) (by omega)
  have g : x.toBitVec.toNat ≤ (x ||| y).toBitVec.toNat := by
    rw [Int32.toBitVec_or, BitVec.toNat_or]
    exact Nat.left_le_or
  have e3 := i_of_nat (x := x ||| y) (by omega)
  omega
theorem M_closed_t {N : Nat} (hN : 8589934592 ≤ N) {a1 a2 : Int32} (h_a1 : rg 0 7 a1) (h_a2 : rg 0 255 a2) {σ : Mem} (hm : InvM σ) : tot (f_M_closed N a1 a2 σ) (fun r => rg 0 255 r) := by
  unfold f_M_closed
  refine t_le 1 128 (rg_shl1 7 h_a1 (by decide)) (fun x _ fx => ?_)
  refine t_it2 (fun i2 _ => rg 0 255 i2) (fun i2 i3 => 2 * (255 - i2.toInt).toNat + if i3 = i2 then 0 else 1) ?_ _ _ _ (rg_w fx (by decide)) (by have := fx.1; split <;> omega)
  rintro self i2 i3 f2 ih
  unfold M_closed_B7
  refine t_if (fun h => t_some f2) (fun h => ?_)
  rw [if_neg h] at ih
  refine t_it2 (fun i5 i6 => rg 0 255 i5 ∧ i2.toInt ≤ i5.toInt ∧ rg 0 8 i6) (fun _ i6 => (8 - i6.toInt).toNat) ?_ _ _ _ ⟨f2, Int.le_refl _, by decide⟩ (ms_u0 hN _ (by decide))
  rintro self2 i5 i6 ⟨f5, g5, f6⟩ ih2
  unfold M_closed_B19
  refine t_if (fun h2 => ?_) (fun h2 => ?_)
  · refine ih _ _ f5 ?_
    by_cases e : i2 = i5
    · subst e
      rw [if_pos rfl]
      omega
    · rw [if_neg e]
      have e2 : i2.toInt ≠ i5.toInt := fun q => e (Int32.toInt_inj.mp q)
      have := f5.2
      omega
  · have f7 := (rg_ltL (lo := 0) (hi := 7) (i_nle h2) f6 hm.n1 (by decide))
    have nx := rg_w (lo := 0) (hi := 8) (rg_add (lo := 1) (hi := 8) f7 (by decide : rg 1 1 (1 : Int32)) (by decide)) (by decide)
    refine t_if (fun h3 => ?_) (fun h3 => ?_)
    · refine t_bnd ?_
      exact ih2 _ _ ⟨rg_or 8 f5 (d := 0) (by decide) (by decide), Int.le_trans g5 (or_ge f5.1 (by decide)), nx⟩ (ms_up f7 (by decide : rg 1 1 (1 : Int32)) (by decide))
    · refine t_ob _ (M_over_t f7 hm) (fun r9 f9 => ?_)
      refine t_gd (inb_rg (rg_andr (lo := 0) (hi := 255) _ h_a2 (by decide)) (by decide)) (t_bnd ?_)
      exact ih2 _ _ ⟨rg_or 8 f5 (hm.r22 _) (by decide), Int.le_trans g5 (or_ge f5.1 (hm.r22 _).1), nx⟩ (ms_up f7 (by decide : rg 1 1 (1 : Int32)) (by decide))
theorem M_uncovered_le {N : Nat} (hN : 8589934592 ≤ N) {a1 : Int32} (h_a1 : rg 0 255 a1) {σ : Mem} (hm : InvM σ) : tot (f_M_uncovered N a1 σ) (fun r => rg 0 a1.toInt r) := by
  unfold f_M_uncovered
  refine t_it2 (fun i1 i3 => rg 0 a1.toInt i1 ∧ rg 0 8 i3) (fun i1 i3 => (8 - i3.toInt).toNat) ?_ _ _ _ ⟨⟨h_a1.1, Int.le_refl _⟩, by decide⟩ (ms_u0 hN _ (by decide))
  rintro self7 i1 i3 ⟨f2, f4⟩ ih6
  unfold M_uncovered_B4
  refine t_if (fun h8 => t_some f2) (fun h8 => ?_)
  have f9 := (rg_ltL (lo := 0) (hi := 7) (i_nle h8) f4 hm.n1 (by decide))
  refine t_it2 (fun i11 i13 => rg 0 a1.toInt i11 ∧ rg 0 8 i13) (fun i11 i13 => (8 - i13.toInt).toNat) ?_ _ _ _ ⟨f2, by decide⟩ (ms_u0 hN _ (by decide))
  rintro self17 i11 i13 ⟨f12, f14⟩ ih16
  unfold M_uncovered_B15
  refine t_if (fun h18 => ?_) (fun h18 => ?_)
  · exact ih6 _ _ ⟨f12, (rg_w (lo := 0) (hi := 8) (rg_add (lo := 1) (hi := 8) f9 (by decide : rg 1 1 (1 : Int32)) (by decide)) (by decide))⟩ (ms_up f9 (by decide : rg 1 1 (1 : Int32)) (by decide))
  · have f20 := (rg_ltL (lo := 0) (hi := 7) (i_nle h18) f14 hm.n1 (by decide))
    have nx : ∀ y, tot (self17 (i11 &&& y) (i13 + 1)) (fun r => rg 0 a1.toInt r) := fun y => ih16 _ _ ⟨rg_andl y f12 ⟨Int.le_refl _, Int.le_refl _⟩, (rg_w (lo := 0) (hi := 8) (rg_add (lo := 1) (hi := 8) f20 (by decide : rg 1 1 (1 : Int32)) (by decide)) (by decide))⟩ (ms_up f20 (by decide : rg 1 1 (1 : Int32)) (by decide))
    refine t_if (fun h21 => nx _) (fun h21 => t_if (fun h25 => nx _) (fun h25 => t_if (fun h29 => nx _) (fun h29 => ?_)))
    refine t_ob _ (M_covers_t f9 f20 h_a1 hm) (fun x33 f34 => ?_)
    exact t_if (fun _ => nx _) (fun _ => nx _)
theorem M_againUncovered_t {N : Nat} (hN : 8589934592 ≤ N) {a1 : Int32} (h_a1 : rg 0 255 a1) {σ : Mem} (hm : InvM σ) : tot (f_M_againUncovered N a1 σ) (fun r => rg 0 255 r) := by
  unfold f_M_againUncovered
  refine t_ob _ (M_uncovered_le hN h_a1 hm) (fun r1 g1 => ?_)
  refine t_it2 (fun i2 i3 => rg 0 255 i2 ∧ rg 0 i2.toInt i3) (fun i2 i3 => 2 * i3.toInt.toNat + if i3 = i2 then 0 else 1) ?_ _ _ _ ⟨h_a1, g1⟩ (by have := h_a1.2; have := g1.2; split <;> omega)
  rintro self i2 i3 ⟨f2, f3⟩ ih
  unfold M_againUncovered_B8
  refine t_if (fun h => t_some f2) (fun h => ?_)
  rw [if_neg h] at ih
  have f3' : rg 0 255 i3 := ⟨f3.1, Int.le_trans f3.2 f2.2⟩
  refine t_ob _ (M_uncovered_le hN f3' hm) (fun r g => ?_)
  refine ih _ _ ⟨f3', g⟩ ?_
  have := g.2
  have := g.1
  by_cases e : r = i3
  · rw [if_pos e, e]
    omega
  · rw [if_neg e]
    have : r.toInt ≠ i3.toInt := fun q => e (Int32.toInt_inj.mp q)
    omega
