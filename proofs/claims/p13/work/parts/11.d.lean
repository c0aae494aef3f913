theorem fif : ∀ i, i < 64 → (15#64).getLsbD i = decide (i < 4) := by decide
theorem low4 (B : BitVec 64) {n : Nat} (h : n < 16) : ((B <<< 4) ||| BitVec.ofNat 64 n) &&& 15#64 = BitVec.ofNat 64 n := by
  apply BitVec.eq_of_getLsbD_eq
  intro i hi
  rw [BitVec.getLsbD_and, BitVec.getLsbD_or, BitVec.getLsbD_shiftLeft, fif i hi]
  by_cases h4 : i < 4
  · simp [h4]
  · have h5 : (BitVec.ofNat 64 n).getLsbD i = false := by
      rw [BitVec.getLsbD_ofNat, Nat.testBit_lt_two_pow (Nat.lt_of_lt_of_le h (Nat.le_trans (by decide : 16 ≤ 2 ^ 4) (Nat.pow_le_pow_right (by decide) (by omega))))]
      simp
    simp [h4, h5]
theorem low15 (B : Int64) {n : Nat} (h : n < 16) : (((B <<< ((4 : Int32).toInt64 &&& 63)) ||| (nI n).toInt64) &&& 15).toInt32 = nI n := by
  have e1 : ((B <<< ((4 : Int32).toInt64 &&& 63)) ||| (nI n).toInt64) &&& 15 = lN n := by
    rw [nI_l (by omega)]
    apply Int64.toBitVec_inj.mp
    have e2 : (B <<< ((4 : Int32).toInt64 &&& 63)).toBitVec = B.toBitVec <<< 4 := by
      have : ((4 : Int32).toInt64 &&& 63) = 4 := by decide
      rw [this]
      rfl
    rw [Int64.toBitVec_and, Int64.toBitVec_or, e2]
    exact low4 B.toBitVec h
  rw [e1, lN_i]
theorem packedS_t {N n : Nat} (hN : 20 ≤ N) {σ : Mem} (hn : n ≤ 8) (hp : gI σ 4 0 = nI n) : tot (f_Du_packedS N σ) (fun r => ∃ B : Int64, r = (B <<< ((4 : Int32).toInt64 &&& 63)) ||| (nI n).toInt64) := by
  unfold f_Du_packedS
  refine t_it2 (fun _ i => ∃ k, k ≤ n ∧ i = nI k) (fun _ i => n - i.toNatClampNeg) ?_ N _ _ ⟨0, by omega, rfl⟩ (by rw [n0]; omega)
  rintro self b _ ⟨k, hk, rfl⟩ ih
  unfold Du_packedS_B4
  rw [hp]
  refine t_if (fun _ => t_some ⟨b, rfl⟩) (fun h => ?_)
  have hkn : k < n := by
    rw [nle (by omega) (by omega)] at h
    omega
  refine t_bnd ?_
  rw [nadd1]
  refine t_it2 (fun _ i => ∃ j, j ≤ n ∧ i = nI j) (fun _ i => n - i.toNatClampNeg) ?_ N _ _ ⟨k + 1, by omega, rfl⟩ (by rw [nI_clamp (by omega)]; omega)
  rintro self2 b2 _ ⟨j, hj, rfl⟩ ih2
  unfold Du_packedS_B17
  rw [hp]
  refine t_if (fun _ => ?_) (fun h2 => ?_)
  · rw [nadd1]
    refine ih _ _ ⟨k + 1, by omega, rfl⟩ ?_
    rw [nI_clamp (by omega), nI_clamp (by omega)]
    omega
  · have hjn : j < n := by
      rw [nle (by omega) (by omega)] at h2
      omega
    refine t_gd (inb_nI (by omega) (by decide)) (t_bnd ?_)
    rw [nadd1]
    refine ih2 _ _ ⟨j + 1, by omega, rfl⟩ ?_
    rw [nI_clamp (by omega), nI_clamp (by omega)]
    omega
theorem neg1_lt : nI 0 + (-1) < 0 := by decide
/-- unpack: any number of PLAYERS up to 8 in its lowest four bits -/
theorem unpackN_t {N n : Nat} (hN : 20 ≤ N) (hn : n ≤ 8) {r : Int64} (hr : (r &&& 15).toInt32 = nI n) (σ : Mem) : tot (f_Du_unpackN N r σ) (fun τ => fr [3, 13] [] σ τ ∧ gI τ 3 0 = nI n) := by
  unfold f_Du_unpackN
  refine t_ob _ (clearN_t hN σ) (fun s1 h1 => ?_)
  rw [hr]
  refine t_bnd (t_bnd (t_bnd ?_))
  refine t_it3 (fun _ i s => (∃ k, k ≤ n ∧ i = nI k + (-1)) ∧ fr [3, 13] [] σ s) (fun _ i _ => (i + 1).toNatClampNeg) ?_ N _ _ _ ⟨⟨n, Nat.le_refl n, by rw [Int32.sub_eq_add_neg]⟩, h1⟩ ?_
  · rintro self b _ s ⟨⟨k, hk, rfl⟩, hf⟩ ih
    unfold Du_unpackN_B21
    by_cases hk0 : k = 0
    · subst hk0
      rw [if_pos neg1_lt]
      unfold Du_unpackN_K84
      refine t_bnd (t_some ⟨fr_t hf (fr_sI (by decide)), ?_⟩)
      rw [gI_sI, if_pos rfl, upd_ap, if_pos rfl]
    · have hk1 : nI k + (-1) = nI (k - 1) := nsub1 (by omega)
      rw [hk1, if_neg (nI_pos (by omega))]
      refine t_bnd ?_
      rw [nsub1' (by omega)]
      refine t_it3 (fun _ i s => (∃ j, j < n ∧ k - 1 ≤ j ∧ i = nI j) ∧ fr [3, 13] [] σ s) (fun _ i _ => i.toNatClampNeg) ?_ N _ _ _ ⟨⟨n - 1, by omega, by omega, rfl⟩, hf⟩ (by rw [nI_clamp (by omega)]; omega)
      rintro self2 b2 _ s2 ⟨⟨j, hj, hj2, rfl⟩, hf2⟩ ih2
      unfold Du_unpackN_B31
      refine t_if (fun _ => ?_) (fun h2 => ?_)
      · refine ih _ _ _ ⟨⟨k - 1, by omega, rfl⟩, hf2⟩ ?_
        have e3 : nI k + (-1) + 1 = nI k := by rw [hk1, nadd1]; congr 1; omega
        have e4 : nI (k - 1) + (-1) + 1 = nI (k - 1) := by
          rw [Int32.add_assoc]
          have : (-1 : Int32) + 1 = 0 := by decide
          rw [this, Int32.add_zero]
        have e5 : nI (k - 1) + 1 = nI k := by rw [nadd1]; congr 1; omega
        rw [e4, nI_clamp (by omega), e3, nI_clamp (by omega)]
        omega
      · have hjk : k - 1 < j := by
          rw [nle (by omega) (by omega)] at h2
          omega
        refine t_if (fun _ => ?_) (fun _ => ?_)
        · refine t_ob _ (letBeatN_t (by omega) (by omega) s2) (fun s3 h3 => t_bnd ?_)
          rw [nsub1 (by omega)]
          refine ih2 _ _ _ ⟨⟨j - 1, by omega, by omega, rfl⟩, fr_t hf2 (fr_m h3 (by decide) (by decide))⟩ ?_
          rw [nI_clamp (by omega), nI_clamp (by omega)]
          omega
        · refine t_ob _ (letBeatN_t (by omega) (by omega) s2) (fun s3 h3 => t_bnd ?_)
          rw [nsub1 (by omega)]
          refine ih2 _ _ _ ⟨⟨j - 1, by omega, by omega, rfl⟩, fr_t hf2 (fr_m h3 (by decide) (by decide))⟩ ?_
          rw [nI_clamp (by omega), nI_clamp (by omega)]
          omega
  · have e4 : nI n - 1 + 1 = nI n := by
      rw [Int32.sub_add_cancel]
    rw [e4, nI_clamp (by omega)]
    omega
