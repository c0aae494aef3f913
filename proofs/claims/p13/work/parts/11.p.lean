/-! rounds packed into a long, and out of it -/
theorem lbv {n : Nat} (h : n < 2 ^ 62) : (lN n).toBitVec.toNat = n := by
  show (BitVec.ofNat 64 n).toNat = n
  rw [BitVec.toNat_ofNat, Nat.mod_eq_of_lt (by omega)]
theorem l_ext {x : Int64} {n : Nat} (hn : n < 2 ^ 62) (h : x.toBitVec.toNat = n) : x = lN n := by
  apply Int64.toBitVec_inj.mp
  apply BitVec.eq_of_toNat_eq
  rw [h, lbv hn]
theorem l_push {x b : Nat} (hx : x < 2 ^ 60) (hb : b ≤ 1) : (lN x <<< ((1 : Int32).toInt64 &&& 63)) ||| lN b = lN (2 * x + b) := by
  apply l_ext (by omega)
  have e1 : ((1 : Int32).toInt64 &&& 63) = 1 := by decide
  have e2 : (lN x <<< (1 : Int64)).toBitVec = (lN x).toBitVec <<< 1 := rfl
  rw [e1, Int64.toBitVec_or, e2, BitVec.toNat_or, BitVec.toNat_shiftLeft, lbv (by omega), lbv (by omega), Nat.shiftLeft_eq, Nat.mod_eq_of_lt (by omega)]
  have := Nat.two_pow_add_eq_or_of_lt (i := 1) (b := b) (by omega) x
  have e3 : x * 2 ^ 1 = 2 ^ 1 * x := Nat.mul_comm _ _
  rw [e3, ← this]
theorem l_fin {x n : Nat} (hx : x < 2 ^ 56) (hn : n < 16) : (lN x <<< ((4 : Int32).toInt64 &&& 63)) ||| lN n = lN (16 * x + n) := by
  apply l_ext (by omega)
  have e1 : ((4 : Int32).toInt64 &&& 63) = 4 := by decide
  have e2 : (lN x <<< (4 : Int64)).toBitVec = (lN x).toBitVec <<< 4 := rfl
  rw [e1, Int64.toBitVec_or, e2, BitVec.toNat_or, BitVec.toNat_shiftLeft, lbv (by omega), lbv (by omega), Nat.shiftLeft_eq, Nat.mod_eq_of_lt (by omega)]
  have := Nat.two_pow_add_eq_or_of_lt (i := 4) (b := n) (by omega) x
  have e3 : x * 2 ^ 4 = 2 ^ 4 * x := Nat.mul_comm _ _
  rw [e3, ← this]
theorem l_and1 {v : Nat} (hv : v < 2 ^ 60) : lN v &&& (1 : Int64) = lN (v % 2) := by
  apply l_ext (by omega)
  have e : (1 : Int64).toBitVec.toNat = 2 ^ 1 - 1 := by decide
  rw [Int64.toBitVec_and, BitVec.toNat_and, lbv (by omega), e, Nat.and_two_pow_sub_one_eq_mod]
theorem l_and15 {v : Nat} (hv : v < 2 ^ 60) : lN v &&& (15 : Int64) = lN (v % 16) := by
  apply l_ext (by omega)
  have e : (15 : Int64).toBitVec.toNat = 2 ^ 4 - 1 := by decide
  rw [Int64.toBitVec_and, BitVec.toNat_and, lbv (by omega), e, Nat.and_two_pow_sub_one_eq_mod]
theorem l_msb {v : Nat} (hv : v < 2 ^ 62) : (lN v).toBitVec.msb = false := by
  rw [BitVec.msb_eq_decide, lbv hv]
  simp
  omega
theorem l_shr1 {v : Nat} (hv : v < 2 ^ 60) : lN v >>> ((1 : Int32).toInt64 &&& 63) = lN (v / 2) := by
  apply l_ext (by omega)
  have e1 : ((1 : Int32).toInt64 &&& 63) = 1 := by decide
  have e2 : (lN v >>> (1 : Int64)).toBitVec = (lN v).toBitVec.sshiftRight 1 := rfl
  rw [e1, e2, BitVec.sshiftRight_eq_of_msb_false (l_msb (by omega)), BitVec.toNat_ushiftRight, lbv (by omega), Nat.shiftRight_eq_div_pow]
theorem l_shr4 {v : Nat} (hv : v < 2 ^ 60) : lN v >>> ((4 : Int32).toInt64 &&& 63) = lN (v / 16) := by
  apply l_ext (by omega)
  have e1 : ((4 : Int32).toInt64 &&& 63) = 4 := by decide
  have e2 : (lN v >>> (4 : Int64)).toBitVec = (lN v).toBitVec.sshiftRight 4 := rfl
  rw [e1, e2, BitVec.sshiftRight_eq_of_msb_false (l_msb (by omega)), BitVec.toNat_ushiftRight, lbv (by omega), Nat.shiftRight_eq_div_pow]
/-- a round of n, told by who beats whom -/
def Tn (n : Nat) (f : Nat → Int32) : Prop := n ≤ 8 ∧ (∀ a b, a < 8 → bt (f a) b = true → a < n ∧ b < n ∧ a ≠ b) ∧ (∀ a b, a < n → b < n → a ≠ b → bt (f a) b = !(bt (f b) a))
/-- its bits, row by row, as a number -/
def wi (f : Nat → Int32) (i x : Nat) : Nat → Nat
  | 0 => x
  | k + 1 => 2 * wi f i x k + b1 (bt (f i) (i + 1 + k))
def wo (f : Nat → Int32) (n : Nat) : Nat → Nat
  | 0 => 0
  | i + 1 => wi f i (wo f n i) (n - (i + 1))
def pk (n : Nat) (f : Nat → Int32) : Int64 := lN (16 * wo f n n + n)
theorem wi_lt (f : Nat → Int32) (i : Nat) {x X : Nat} (hx : x < X) : ∀ k, wi f i x k < X * 2 ^ k
  | 0 => by rw [Nat.pow_zero, Nat.mul_one]; exact hx
  | k + 1 => by
    have h := wi_lt f i hx k
    have h2 := b1_le (bt (f i) (i + 1 + k))
    have e : X * 2 ^ (k + 1) = 2 * (X * 2 ^ k) := by rw [Nat.pow_succ]; rw [← Nat.mul_assoc, Nat.mul_comm]
    rw [e]
    show 2 * wi f i x k + b1 (bt (f i) (i + 1 + k)) < _
    omega
theorem wo_lt (f : Nat → Int32) {n : Nat} (hn : n ≤ 8) : ∀ i, i ≤ n → wo f n i < 2 ^ (7 * i)
  | 0, _ => by show 0 < _; decide
  | i + 1, hi => by
    have h := wo_lt f hn i (by omega)
    have h2 := wi_lt f i h (n - (i + 1))
    show wi f i (wo f n i) (n - (i + 1)) < _
    have h3 : (2 : Nat) ^ (7 * i) * 2 ^ (n - (i + 1)) ≤ 2 ^ (7 * (i + 1)) := by
      rw [← Nat.pow_add]
      exact Nat.pow_le_pow_right (by decide) (by omega)
    omega
theorem wo_b (f : Nat → Int32) {n : Nat} (hn : n ≤ 8) {i : Nat} (hi : i ≤ n) : wo f n i < 2 ^ 56 := Nat.lt_of_lt_of_le (wo_lt f hn i hi) (Nat.pow_le_pow_right (by decide) (by omega))
theorem wi_b (f : Nat → Int32) {n : Nat} (hn : n ≤ 8) {i k : Nat} (hi : i < n) (hk : k ≤ n - (i + 1)) : wi f i (wo f n i) k < 2 ^ 56 := by
  have h := wi_lt f i (wo_lt f hn i (by omega)) k
  have h3 : (2 : Nat) ^ (7 * i) * 2 ^ k ≤ 2 ^ 56 := by
    rw [← Nat.pow_add]
    exact Nat.pow_le_pow_right (by decide) (by omega)
  omega
theorem bit_l {x : Int32} {j : Nat} (h : j < 32) : (t_D_bitOf x (nI j)).toInt64 = lN (b1 (bt x j)) := by
  rw [bit_bt h]
  cases bt x j <;> decide
theorem packedN_s {N n : Nat} (hN : 8589934592 ≤ N) (hn : n ≤ 8) {σ : Mem} {f : Nat → Int32} (hp : gI σ 3 0 = nI n) (hf : ∀ a, a < 8 → gI σ 13 a = f a) : f_Du_packedN N σ = some (pk n f) := by
  suffices h : tot (f_Du_packedN N σ) (fun r => r = pk n f) by
    obtain ⟨x, e, rfl⟩ := h
    exact e
  unfold f_Du_packedN
  refine t_it2 (fun x i => ∃ k, k ≤ n ∧ i = nI k ∧ x = lN (wo f n k)) (fun _ i => n - i.toNatClampNeg) ?_ N _ _ ⟨0, by omega, rfl, rfl⟩ (by rw [n0]; omega)
  rintro self _ _ ⟨k, hk, rfl, rfl⟩ ih
  unfold Du_packedN_B4
  rw [hp]
  refine t_if (fun h => ?_) (fun h => ?_)
  · have : k = n := by
      rw [nle (by omega) (by omega)] at h
      omega
    subst this
    refine t_some ?_
    rw [nI_l (by omega), l_fin (wo_b f hn (Nat.le_refl _)) (by omega)]
    rfl
  · have hkn : k < n := by
      rw [nle (by omega) (by omega)] at h
      omega
    refine t_bnd ?_
    rw [nadd1]
    refine t_it2 (fun x i => ∃ j, j ≤ n - (k + 1) ∧ i = nI (k + 1 + j) ∧ x = lN (wi f k (wo f n k) j)) (fun _ i => n - i.toNatClampNeg) ?_ N _ _ ⟨0, by omega, rfl, rfl⟩ (by rw [nI_clamp (by omega)]; omega)
    rintro self2 _ _ ⟨j, hj, rfl, rfl⟩ ih2
    unfold Du_packedN_B17
    rw [hp]
    refine t_if (fun h2 => ?_) (fun h2 => ?_)
    · have : j = n - (k + 1) := by
        rw [nle (by omega) (by omega)] at h2
        omega
      subst this
      rw [nadd1]
      refine ih _ _ ⟨k + 1, by omega, rfl, rfl⟩ ?_
      rw [nI_clamp (by omega), nI_clamp (by omega)]
      omega
    · have hjn : j < n - (k + 1) := by
        rw [nle (by omega) (by omega)] at h2
        omega
      refine t_gd (inb_nI (by omega) (by decide)) (t_bnd ?_)
      rw [nI_clamp (by omega), hf k (by omega), bit_l (by omega), l_push (by have := wi_b f hn hkn (k := j) (by omega); omega) (b1_le _), nadd1]
      refine ih2 _ _ ⟨j + 1, by omega, rfl, rfl⟩ ?_
      rw [nI_clamp (by omega), nI_clamp (by omega)]
      omega
theorem packedS_s {N n : Nat} (hN : 8589934592 ≤ N) (hn : n ≤ 8) {σ : Mem} {f : Nat → Int32} (hp : gI σ 4 0 = nI n) (hf : ∀ a, a < 8 → gI σ 14 a = f a) : f_Du_packedS N σ = some (pk n f) := by
  suffices h : tot (f_Du_packedS N σ) (fun r => r = pk n f) by
    obtain ⟨x, e, rfl⟩ := h
    exact e
  unfold f_Du_packedS
  refine t_it2 (fun x i => ∃ k, k ≤ n ∧ i = nI k ∧ x = lN (wo f n k)) (fun _ i => n - i.toNatClampNeg) ?_ N _ _ ⟨0, by omega, rfl, rfl⟩ (by rw [n0]; omega)
  rintro self _ _ ⟨k, hk, rfl, rfl⟩ ih
  unfold Du_packedS_B4
  rw [hp]
  refine t_if (fun h => ?_) (fun h => ?_)
  · have : k = n := by
      rw [nle (by omega) (by omega)] at h
      omega
    subst this
    refine t_some ?_
    rw [nI_l (by omega), l_fin (wo_b f hn (Nat.le_refl _)) (by omega)]
    rfl
  · have hkn : k < n := by
      rw [nle (by omega) (by omega)] at h
      omega
    refine t_bnd ?_
    rw [nadd1]
    refine t_it2 (fun x i => ∃ j, j ≤ n - (k + 1) ∧ i = nI (k + 1 + j) ∧ x = lN (wi f k (wo f n k) j)) (fun _ i => n - i.toNatClampNeg) ?_ N _ _ ⟨0, by omega, rfl, rfl⟩ (by rw [nI_clamp (by omega)]; omega)
    rintro self2 _ _ ⟨j, hj, rfl, rfl⟩ ih2
    unfold Du_packedS_B17
    rw [hp]
    refine t_if (fun h2 => ?_) (fun h2 => ?_)
    · have : j = n - (k + 1) := by
        rw [nle (by omega) (by omega)] at h2
        omega
      subst this
      rw [nadd1]
      refine ih _ _ ⟨k + 1, by omega, rfl, rfl⟩ ?_
      rw [nI_clamp (by omega), nI_clamp (by omega)]
      omega
    · have hjn : j < n - (k + 1) := by
        rw [nle (by omega) (by omega)] at h2
        omega
      refine t_gd (inb_nI (by omega) (by decide)) (t_bnd ?_)
      rw [nI_clamp (by omega), hf k (by omega), bit_l (by omega), l_push (by have := wi_b f hn hkn (k := j) (by omega); omega) (b1_le _), nadd1]
      refine ih2 _ _ ⟨j + 1, by omega, rfl, rfl⟩ ?_
      rw [nI_clamp (by omega), nI_clamp (by omega)]
      omega
/-- the bits of a row after x is let beat y -/
def lb (g : Nat → Int32) (x y : Nat) : Nat → Int32 := fun i => if i = y then g i &&& (((1 : Int32) <<< (nI x &&& 31)) ^^^ (-1 : Int32)) else if i = x then g i ||| ((1 : Int32) <<< (nI y &&& 31)) else g i
theorem letBeatN_s {x y : Nat} (hx : x < 8) (hy : y < 8) (hxy : x ≠ y) (σ : Mem) : tot (f_Du_letBeatN (nI x) (nI y) σ) (fun τ => fr [13] [] σ τ ∧ ∀ i, gI τ 13 i = lb (gI σ 13) x y i) := by
  unfold f_Du_letBeatN
  refine t_gd (inb_nI hx (by decide)) (t_gd (inb_nI hx (by decide)) ?_)
  rw [nI_clamp (by omega)]
  refine t_let (fun s1 e1 => t_gd (inb_nI hy (by decide)) (t_gd (inb_nI hy (by decide)) ?_))
  rw [nI_clamp (by omega)]
  refine t_let (fun s2 e2 => t_some ⟨?_, fun i => ?_⟩)
  · rw [e2, e1]; exact fr_t (fr_sI (by decide)) (fr_sI (by decide))
  · unfold lb
    rw [e2, gI_sI, if_pos rfl, upd_ap]
    by_cases h1 : i = y
    · rw [if_pos h1, if_pos h1, e1, gI_sI, if_pos rfl, upd_ap, if_neg (by omega), h1]
    · rw [if_neg h1, if_neg h1, e1, gI_sI, if_pos rfl, upd_ap]
      by_cases h2 : i = x
      · rw [if_pos h2, if_pos h2, h2]
      · rw [if_neg h2, if_neg h2]
theorem letBeatS_s {x y : Nat} (hx : x < 8) (hy : y < 8) (hxy : x ≠ y) (σ : Mem) : tot (f_Du_letBeatS (nI x) (nI y) σ) (fun τ => fr [14] [] σ τ ∧ ∀ i, gI τ 14 i = lb (gI σ 14) x y i) := by
  unfold f_Du_letBeatS
  refine t_gd (inb_nI hx (by decide)) (t_gd (inb_nI hx (by decide)) ?_)
  rw [nI_clamp (by omega)]
  refine t_let (fun s1 e1 => t_gd (inb_nI hy (by decide)) (t_gd (inb_nI hy (by decide)) ?_))
  rw [nI_clamp (by omega)]
  refine t_let (fun s2 e2 => t_some ⟨?_, fun i => ?_⟩)
  · rw [e2, e1]; exact fr_t (fr_sI (by decide)) (fr_sI (by decide))
  · unfold lb
    rw [e2, gI_sI, if_pos rfl, upd_ap]
    by_cases h1 : i = y
    · rw [if_pos h1, if_pos h1, e1, gI_sI, if_pos rfl, upd_ap, if_neg (by omega), h1]
    · rw [if_neg h1, if_neg h1, e1, gI_sI, if_pos rfl, upd_ap]
      by_cases h2 : i = x
      · rw [if_pos h2, if_pos h2, h2]
      · rw [if_neg h2, if_neg h2]
theorem lb_bt {g : Nat → Int32} {x y i j : Nat} (hx : x < 8) (hy : y < 8) (hj : j < 32) : bt (lb g x y i) j = if i = y ∧ j = x then false else if i = x ∧ i ≠ y ∧ j = y then true else bt (g i) j := by
  unfold lb
  by_cases h1 : i = y
  · rw [if_pos h1, bt_and, bt_not _ hj, bt_one (by omega) hj]
    by_cases h2 : j = x
    · rw [if_pos ⟨h1, h2⟩, decide_eq_true h2]
      simp
    · rw [if_neg (fun h => h2 h.2), if_neg (fun h => h.2.1 h1), decide_eq_false h2]
      simp
  · rw [if_neg h1]
    by_cases h3 : i = x
    · rw [if_pos h3, bt_or, bt_one (by omega) hj, if_neg (show ¬ (i = y ∧ j = x) from fun h => h1 h.1)]
      by_cases h4 : j = y
      · rw [if_pos ⟨h3, h1, h4⟩, decide_eq_true h4]
        simp
      · rw [if_neg (show ¬ (i = x ∧ i ≠ y ∧ j = y) from fun h => h4 h.2.2), decide_eq_false h4]
        simp
    · rw [if_neg h3, if_neg (show ¬ (i = y ∧ j = x) from fun h => h1 h.1), if_neg (show ¬ (i = x ∧ i ≠ y ∧ j = y) from fun h => h3 h.1)]
