/-! sign, end, judge keep the relation -/
theorem nat_sh (a : Int32) {d : Nat} (hd : d ≤ 24) : ((a >>> (nI d &&& 31)) &&& (255 : Int32)).toBitVec.toNat = (a.toBitVec.toNat >>> d) % 256 := by
  apply Nat.eq_of_testBit_eq
  intro j
  have e : (256 : Nat) = 2 ^ 8 := rfl
  rw [BitVec.testBit_toNat, e, Nat.testBit_mod_two_pow, Nat.testBit_shiftRight, BitVec.testBit_toNat]
  show bt _ j = _
  by_cases hj : j < 8
  · rw [bt_and, bt_shr (by omega) (by omega), decide_eq_true hj, Bool.true_and]
    have h255 : ∀ j, j < 8 → bt (255 : Int32) j = true := by decide
    rw [h255 j hj, Bool.and_true]
    show bt a (j + d) = bt a (d + j)
    rw [Nat.add_comm]
  · rw [decide_eq_false hj, Bool.false_and]
    exact bt_hi (rg_andr (lo := 0) (hi := 255) _ (by decide : rg 0 255 (255 : Int32)) (by decide)) 8 (by decide) (by omega)
theorem chr_sign (a : Int32) {d : Nat} (hd : d ≤ 24) : chr (vp_nar .char ((((a >>> (nI d &&& 31)) &&& (255 : Int32)).toUInt32 % 65536).toInt32)) (vp_nar .byte (((a.toUInt32 >>> ((nI d).toUInt32 &&& Int32.toUInt32 31)).toInt32).toInt8.toInt32)) := by
  have hw := nat_sh a hd
  have rw' : rg 0 255 ((a >>> (nI d &&& 31)) &&& (255 : Int32)) := rg_andr _ (by decide : rg 0 255 (255 : Int32)) (by decide)
  generalize hW : ((a >>> (nI d &&& 31)) &&& (255 : Int32)) = w at *
  have hlt : w.toBitVec.toNat < 256 := by rw [hw]; exact Nat.mod_lt _ (by decide)
  have ec : vp_nar .char ((w.toUInt32 % 65536).toInt32) = w := by
    show (((w.toUInt32 % 65536).toInt32).toUInt32 % 65536).toInt32 = w
    apply Int32.toBitVec_inj.mp
    apply BitVec.eq_of_toNat_eq
    show ((w.toUInt32 % 65536) % 65536).toNat = w.toBitVec.toNat
    rw [UInt32.toNat_mod, UInt32.toNat_mod]
    show w.toBitVec.toNat % 65536 % 65536 = _
    omega
  have ex : ((a.toUInt32 >>> ((nI d).toUInt32 &&& Int32.toUInt32 31)).toInt32).toBitVec.toNat = a.toBitVec.toNat >>> d := by
    show (a.toUInt32 >>> ((nI d).toUInt32 &&& Int32.toUInt32 31)).toNat = _
    rw [UInt32.toNat_shiftRight]
    have e1 : ((nI d).toUInt32 &&& Int32.toUInt32 31).toNat = d := by
      have : ((nI d).toUInt32 &&& Int32.toUInt32 31).toNat = (nI d &&& 31).toBitVec.toNat := rfl
      rw [this, a31 (by omega), bv31 (by omega)]
    rw [e1, Nat.mod_eq_of_lt (by omega)]
    rfl
  generalize hX : (a.toUInt32 >>> ((nI d).toUInt32 &&& Int32.toUInt32 31)).toInt32 = x at *
  have eb : vp_nar .byte (x.toInt8.toInt32) = x.toInt8.toInt32 := by
    show x.toInt8.toInt32.toInt8.toInt32 = x.toInt8.toInt32
    simp
  unfold chr
  rw [ec, eb, Int8.toInt_toInt32, i_of_nat (by omega), hw, ← ex]
  have e8 : x.toInt8.toInt = x.toInt.bmod (2 ^ 8) := Int32.toInt_toInt8 x
  have e9 : x.toInt = Int.bmod (x.toBitVec.toNat : Int) (2 ^ 32) := BitVec.toInt_eq_toNat_bmod _
  rw [e8, e9]
  have l := x.toBitVec.isLt
  rw [Int.bmod_def, Int.bmod_def]
  split <;> split <;> omega
def CD (a : Int32) (m : Nat) : Int32 := vp_nar .char ((((a >>> (nI (24 - 8 * m) &&& 31)) &&& (255 : Int32)).toUInt32 % 65536).toInt32)
def CB (a : Int32) (m : Nat) : Int32 := vp_nar .byte (((a.toUInt32 >>> ((nI (24 - 8 * m)).toUInt32 &&& Int32.toUInt32 31)).toInt32).toInt8.toInt32)
theorem si_e : ∀ j, j < 4 → nI (8 * (4 - j)) + (-8) = nI (24 - 8 * j) := by decide
theorem signD_v {N : Nat} (hN : 8589934592 ≤ N) {a : Int32} {σ : Mem} {k : Nat} (hk : k ≤ 300) (h1 : gI σ 1 0 = nI k) : tot (f_D_sign N a σ) (fun q => fr [1, 12] [] σ q.2 ∧ ∀ j, gI q.2 12 j = if k + 4 ≤ 300 ∧ k ≤ j ∧ j < k + 4 then CD a (j - k) else gI σ 12 j) := by
  unfold f_D_sign
  refine t_ob2 (fun r s => fr [1, 12] [] σ s ∧ ∀ j, gI s 12 j = if k + 4 ≤ 300 ∧ k ≤ j ∧ j < k + 4 then CD a (j - k) else gI σ 12 j) ?_ (fun r s h => t_some h)
  unfold f_Sg_addFour
  rw [h1, l4, nI_add, l300]
  refine t_if (fun h => ?_) (fun h => ?_)
  · have h2 : k + 4 ≤ 300 := by rwa [nle (by omega) (by decide)] at h
    refine t_it2 (fun i s => ∃ m, m ≤ 4 ∧ i = nI (8 * (4 - m)) + (-8) ∧ gI s 1 0 = nI (k + m) ∧ fr [1, 12] [] σ s ∧ ∀ j, gI s 12 j = if k ≤ j ∧ j < k + m then CD a (j - k) else gI σ 12 j) (fun i _ => (i + 8).toNatClampNeg) ?_ N _ _ ⟨0, by decide, by decide, h1, fr_r _ _ _, fun j => by rw [if_neg (by omega)]⟩ (Nat.lt_of_le_of_lt (by decide : ((24 : Int32) + 8).toNatClampNeg ≤ 32) (by omega))
    rintro self _ s ⟨m, hm, rfl, hs, fs, hj⟩ ih
    unfold Sg_addFour_B17
    have ei : ∀ j, j < 5 → ((nI (8 * (4 - j)) + (-8) < 0) ↔ j = 4) := by decide
    refine t_if (fun h3 => ?_) (fun h3 => ?_)
    · have : m = 4 := (ei m (by omega)).mp h3
      subst this
      refine t_some ⟨fs, fun j => ?_⟩
      show gI s 12 j = _
      rw [hj]
      by_cases c : k ≤ j ∧ j < k + 4
      · rw [if_pos c, if_pos ⟨h2, c⟩]
      · rw [if_neg c, if_neg (fun q => c q.2)]
    · have hm4 : m < 4 := by
        have : m ≠ 4 := fun e => h3 ((ei m (by omega)).mpr e)
        omega
      rw [hs, si_e m hm4]
      refine t_gd (inb_nI (by omega) (by decide)) ?_
      rw [nI_clamp (by omega)]
      refine t_let (fun t et => ?_)
      have qt : gI t 1 0 = nI (k + m) := by rw [et, gI_sI, if_neg (by decide)]; exact hs
      rw [qt, nadd1]
      refine t_let (fun u eu => ?_)
      have ej : ∀ j, j < 4 → nI (24 - 8 * j) + (-8) = nI (8 * (4 - (j + 1))) + (-8) := by decide
      have em : ∀ j, j < 4 → (nI (8 * (4 - (j + 1))) + (-8) + 8).toNatClampNeg < (nI (24 - 8 * j) + 8).toNatClampNeg := by decide
      rw [ej m hm4]
      rw [si_e m hm4] at ih
      refine ih _ _ ⟨m + 1, by omega, rfl, ?_, ?_, fun j => ?_⟩ (em m hm4)
      · rw [eu, gI_sI, if_pos rfl, upd_ap, if_pos rfl]; rfl
      · rw [eu, et]; exact fr_t fs (fr_t (fr_sI (by decide)) (fr_sI (by decide)))
      · rw [eu, gI_sI, if_neg (by decide), et, gI_sI, if_pos rfl, upd_ap, hj]
        by_cases c : j = k + m
        · rw [if_pos c, if_pos (by omega)]
          have : j - k = m := by omega
          rw [this]
          rfl
        · rw [if_neg c]
          by_cases c2 : k ≤ j ∧ j < k + m
          · rw [if_pos c2, if_pos (by omega)]
          · rw [if_neg c2, if_neg (by omega)]
  · have h2 : ¬ k + 4 ≤ 300 := by rwa [nle (by omega) (by decide)] at h
    exact t_some ⟨fr_r _ _ _, fun j => by rw [if_neg (fun q => h2 q.1)]⟩
theorem signM_v {N : Nat} (hN : 8589934592 ≤ N) {a : Int32} {μ : Mem} {k : Nat} (hk : k ≤ 300) (h7 : gI μ 7 0 = nI k) : tot (f_M_sign N a μ) (fun q => fr [0, 6, 7] [] μ q.2 ∧ ∀ j, gI q.2 6 j = if k + 4 ≤ 300 ∧ k ≤ j ∧ j < k + 4 then CB a (j - k) else gI μ 6 j) := by
  unfold f_M_sign
  refine t_let (fun s1 e1 => ?_)
  have q7 : gI s1 7 0 = nI k := by rw [e1, gI_sI, if_neg (by decide)]; exact h7
  have q6 : gI s1 6 = gI μ 6 := by rw [e1, gI_sI, if_neg (by decide)]
  have f1 : fr [0, 6, 7] [] μ s1 := by rw [e1]; exact fr_sI (by decide)
  rw [q7, l4, nI_add, l300]
  refine t_if (fun h => ?_) (fun h => ?_)
  · have h2 : k + 4 ≤ 300 := by rwa [nle (by omega) (by decide)] at h
    refine t_it2 (fun i s => ∃ m, m ≤ 4 ∧ i = nI (8 * (4 - m)) + (-8) ∧ gI s 7 0 = nI (k + m) ∧ fr [0, 6, 7] [] μ s ∧ ∀ j, gI s 6 j = if k ≤ j ∧ j < k + m then CB a (j - k) else gI μ 6 j) (fun i _ => (i + 8).toNatClampNeg) ?_ N _ _ ⟨0, by decide, by decide, q7, f1, fun j => by rw [if_neg (by omega), q6]⟩ (Nat.lt_of_le_of_lt (by decide : ((24 : Int32) + 8).toNatClampNeg ≤ 32) (by omega))
    rintro self _ s ⟨m, hm, rfl, hs, fs, hj⟩ ih
    unfold M_sign_B22
    have ei : ∀ j, j < 5 → ((nI (8 * (4 - j)) + (-8) < 0) ↔ j = 4) := by decide
    refine t_if (fun h3 => ?_) (fun h3 => ?_)
    · have : m = 4 := (ei m (by omega)).mp h3
      subst this
      refine t_some ⟨fs, fun j => ?_⟩
      show gI s 6 j = _
      rw [hj]
      by_cases c : k ≤ j ∧ j < k + 4
      · rw [if_pos c, if_pos ⟨h2, c⟩]
      · rw [if_neg c, if_neg (fun q => c q.2)]
    · have hm4 : m < 4 := by
        have : m ≠ 4 := fun e => h3 ((ei m (by omega)).mpr e)
        omega
      rw [hs, si_e m hm4]
      refine t_gd (inb_nI (by omega) (by decide)) ?_
      rw [nI_clamp (by omega)]
      refine t_let (fun t et => ?_)
      have qt : gI t 7 0 = nI (k + m) := by rw [et, gI_sI, if_neg (by decide)]; exact hs
      rw [qt, nadd1]
      refine t_let (fun u eu => ?_)
      have ej : ∀ j, j < 4 → nI (24 - 8 * j) + (-8) = nI (8 * (4 - (j + 1))) + (-8) := by decide
      have em : ∀ j, j < 4 → (nI (8 * (4 - (j + 1))) + (-8) + 8).toNatClampNeg < (nI (24 - 8 * j) + 8).toNatClampNeg := by decide
      rw [ej m hm4]
      rw [si_e m hm4] at ih
      refine ih _ _ ⟨m + 1, by omega, rfl, ?_, ?_, fun j => ?_⟩ (em m hm4)
      · rw [eu, gI_sI, if_pos rfl, upd_ap, if_pos rfl]; rfl
      · rw [eu, et]; exact fr_t fs (fr_t (fr_sI (by decide)) (fr_sI (by decide)))
      · rw [eu, gI_sI, if_neg (by decide), et, gI_sI, if_pos rfl, upd_ap, hj]
        by_cases c : j = k + m
        · rw [if_pos c, if_pos (by omega)]
          have : j - k = m := by omega
          rw [this]
          rfl
        · rw [if_neg c]
          by_cases c2 : k ≤ j ∧ j < k + m
          · rw [if_pos c2, if_pos (by omega)]
          · rw [if_neg c2, if_neg (by omega)]
  · have h2 : ¬ k + 4 ≤ 300 := by rwa [nle (by omega) (by decide)] at h
    exact t_some ⟨f1, fun j => by show gI s1 6 j = _; rw [if_neg (fun q => h2 q.1), q6]⟩
theorem Rl_T {σ μ : Mem} (h : Rl σ μ) : RelT σ μ := ⟨h.1, h.2.1, h.2.2.1.1⟩
/-- only the text has changed -/
theorem Rl_txt {σ μ s t : Mem} {S J S' J' : List Nat} (h : Rl σ μ) (k1 : KD S J σ s) (k2 : KM S' J' μ t) (h1 : (3 ∉ S ∧ 5 ∉ S ∧ 13 ∉ S) ∧ 15 ∉ J ∧ 16 ∉ J) (h7 : 1 ∉ S' ∧ 2 ∉ S' ∧ 3 ∉ S' ∧ 4 ∉ S' ∧ 5 ∉ S') (hT : RlT s t) : Rl s t := by
  obtain ⟨⟨a3, a5, a13⟩, a15, a16⟩ := h1
  obtain ⟨b1', b2, b3, b4, b5⟩ := h7
  exact ⟨k1.1, k2.1, hT, RlN_f h.2.2.2.1 (k1.2.1 3 a3) (k1.2.1 13 a13) (k2.2.1 1 b1'), RlU_f h.2.2.2.2.1 (k1.2.1 5 a5) (k1.2.2 15 a15) (k2.2.1 3 b3) (k2.2.1 2 b2), RlK_f h.2.2.2.2.2 (k1.2.2 16 a16) (k2.2.1 5 b5) (k2.2.1 4 b4)⟩
theorem st_Rl_sign_c {N : Nat} (hN : 8589934592 ≤ N) {σ μ : Mem} (hR : Rl σ μ) (a : Int32) : ∃ q q2 : Int32 × Mem, f_D_sign N a σ = some (q.1, q.2) ∧ f_M_sign N a μ = some (q2.1, q2.2) ∧ Rl q.2 q2.2 ∧ q.1 = q2.1 := by
  obtain ⟨q, q2, e1, e2, hT, hq⟩ := st_RelT_sign_c hN (Rl_T hR) a
  obtain ⟨k, hk, -, hk3, -⟩ := rg_ex (hR.1.r1 0) (by decide)
  have h7 : gI μ 7 0 = nI k := by rw [← hR.2.2.1.1]; exact hk
  obtain ⟨f1, v1⟩ := of_tot (signD_v hN (a := a) (by omega) hk) e1
  obtain ⟨f2, v2⟩ := of_tot (signM_v hN (a := a) (by omega) h7) e2
  obtain ⟨kD, -⟩ := of_tot (D_sign_t hN (a1 := a) hR.1) e1
  obtain ⟨kM, -⟩ := of_tot (M_sign_t hN (a1 := a) hR.2.1) e2
  refine ⟨q, q2, e1, e2, Rl_txt hR kD kM (by decide) (by decide) ⟨hT.2.2, fun j => ?_⟩, hq⟩
  rw [v1, v2]
  by_cases c : k + 4 ≤ 300 ∧ k ≤ j ∧ j < k + 4
  · rw [if_pos c, if_pos c]
    exact chr_sign a (by omega)
  · rw [if_neg c, if_neg c]
    exact hR.2.2.1.2 j
theorem st_Rl_end_c {N : Nat} (hN : 8589934592 ≤ N) {σ μ : Mem} (hR : Rl σ μ) (a : Int32) : ∃ q q2 : Int32 × Mem, f_D_end a σ = some (q.1, q.2) ∧ f_M_end a μ = some (q2.1, q2.2) ∧ Rl q.2 q2.2 ∧ q.1 = q2.1 := by
  obtain ⟨q, q2, e1, e2, hT, hq⟩ := st_RelT_end_c hN (Rl_T hR) a
  obtain ⟨kD, -⟩ := of_tot (D_end_t (a1 := a) hR.1) e1
  obtain ⟨kM, -⟩ := of_tot (M_end_t (a1 := a) hR.2.1) e2
  refine ⟨q, q2, e1, e2, Rl_txt hR kD kM (by decide) (by decide) ⟨hT.2.2, fun j => ?_⟩, hq⟩
  rw [kD.2.1 12 (by decide), kM.2.1 6 (by decide)]
  exact hR.2.2.1.2 j
theorem st_Rl_judge {N : Nat} (hN : 8589934592 ≤ N) {σ μ : Mem} (hR : Rl σ μ) : ∃ q q2 : Int32 × Mem, f_D_judge N σ = some (q.1, q.2) ∧ f_M_judge N μ = some (q2.1, q2.2) ∧ Rl q.2 q2.2 := by
  obtain ⟨q, e1, k1, h1⟩ := D_judge_t hN hR.1
  obtain ⟨q2, e2, k2, h2⟩ := M_judge_t hN hR.2.1
  refine ⟨q, q2, e1, e2, Rl_txt hR k1 k2 (by decide) (by decide) ⟨by rw [h1, h2], fun j => ?_⟩⟩
  rw [k1.2.1 12 (by decide), k2.2.1 6 (by decide)]
  exact hR.2.2.1.2 j
