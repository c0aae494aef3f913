/-! ranges of ints: what the totality program (wip/gen/auto.py) builds on -/
abbrev rg (lo hi : Int) (x : Int32) : Prop := lo ≤ x.toInt ∧ x.toInt ≤ hi
theorem i_lt {x y : Int32} : x < y ↔ x.toInt < y.toInt := Int32.lt_iff_toInt_lt
theorem i_le {x y : Int32} : x ≤ y ↔ x.toInt ≤ y.toInt := Int32.le_iff_toInt_le
theorem i_nlt {x y : Int32} (h : ¬ x < y) : y ≤ x := by rw [i_lt] at h; rw [i_le]; omega
theorem i_nle {x y : Int32} (h : ¬ x ≤ y) : y < x := by rw [i_le] at h; rw [i_lt]; omega
theorem i_bd (x : Int32) : -2147483648 ≤ x.toInt ∧ x.toInt ≤ 2147483647 := by
  have h1 := x.le_toInt
  have h2 := x.toInt_lt
  omega
theorem rg_f (x : Int32) : rg (-2147483648) 2147483647 x := i_bd x
theorem rg_w {a b lo hi : Int} {x : Int32} (h : rg a b x) (s : lo ≤ a ∧ b ≤ hi) : rg lo hi x := ⟨Int.le_trans s.1 h.1, Int.le_trans h.2 s.2⟩
theorem bm {z : Int} (h1 : -2147483648 ≤ z) (h2 : z ≤ 2147483647) : Int.bmod z (2 ^ 32) = z := by
  rw [Int.bmod_def]
  split <;> omega
theorem i_add {x y : Int32} (h1 : -2147483648 ≤ x.toInt + y.toInt) (h2 : x.toInt + y.toInt ≤ 2147483647) : (x + y).toInt = x.toInt + y.toInt := by
  rw [Int32.toInt_add, bm h1 h2]
theorem i_sub {x y : Int32} (h1 : -2147483648 ≤ x.toInt - y.toInt) (h2 : x.toInt - y.toInt ≤ 2147483647) : (x - y).toInt = x.toInt - y.toInt := by
  rw [Int32.toInt_sub, bm h1 h2]
theorem i_mul {x y : Int32} (h1 : -2147483648 ≤ x.toInt * y.toInt) (h2 : x.toInt * y.toInt ≤ 2147483647) : (x * y).toInt = x.toInt * y.toInt := by
  rw [Int32.toInt_mul, bm h1 h2]
theorem rg_add {a b c d lo hi : Int} {x y : Int32} (hx : rg a b x) (hy : rg c d y) (s : (-2147483648 ≤ a + c ∧ b + d ≤ 2147483647) ∧ lo ≤ a + c ∧ b + d ≤ hi) : rg lo hi (x + y) := by
  obtain ⟨h1, h2⟩ := hx
  obtain ⟨h3, h4⟩ := hy
  obtain ⟨⟨s1, s2⟩, s3, s4⟩ := s
  unfold rg
  rw [i_add (by omega) (by omega)]
  omega
theorem rg_sub {a b c d lo hi : Int} {x y : Int32} (hx : rg a b x) (hy : rg c d y) (s : (-2147483648 ≤ a - d ∧ b - c ≤ 2147483647) ∧ lo ≤ a - d ∧ b - c ≤ hi) : rg lo hi (x - y) := by
  obtain ⟨h1, h2⟩ := hx
  obtain ⟨h3, h4⟩ := hy
  obtain ⟨⟨s1, s2⟩, s3, s4⟩ := s
  unfold rg
  rw [i_sub (by omega) (by omega)]
  omega
theorem rg_mul {a b c d lo hi : Int} {x y : Int32} (hx : rg a b x) (hy : rg c d y) (s : (0 ≤ a ∧ 0 ≤ c ∧ b * d ≤ 2147483647) ∧ lo ≤ 0 ∧ b * d ≤ hi) : rg lo hi (x * y) := by
  obtain ⟨h1, h2⟩ := hx
  obtain ⟨h3, h4⟩ := hy
  obtain ⟨⟨s1, s2, s5⟩, s3, s4⟩ := s
  have p1 : 0 ≤ x.toInt * y.toInt := Int.mul_nonneg (by omega) (by omega)
  have p2 : x.toInt * y.toInt ≤ b * d := Int.mul_le_mul h2 h4 (by omega) (by omega)
  unfold rg
  rw [i_mul (by omega) (by omega)]
  omega
-- bits: an int that is not negative, as a Nat
theorem i_nat {x : Int32} (h : 0 ≤ x.toInt) : x.toInt = (x.toBitVec.toNat : Int) := by
  have h1 : x.toInt = Int.bmod (x.toBitVec.toNat : Int) (2 ^ 32) := BitVec.toInt_eq_toNat_bmod _
  have h2 := x.toBitVec.isLt
  rw [Int.bmod_def] at h1
  split at h1 <;> omega
theorem i_of_nat {x : Int32} (h : x.toBitVec.toNat < 2147483648) : x.toInt = (x.toBitVec.toNat : Int) := by
  have h1 : x.toInt = x.toBitVec.toInt := rfl
  rw [h1, BitVec.toInt_eq_toNat_bmod]
  rw [Int.bmod_def]
  split <;> omega
theorem i_natlt {x : Int32} (h : 0 ≤ x.toInt) : x.toBitVec.toNat < 2147483648 := by
  have h1 := i_nat h
  have h2 := (i_bd x).2
  omega
theorem rg_andl {b lo hi : Int} {x : Int32} (y : Int32) (hx : rg 0 b x) (s : lo ≤ 0 ∧ b ≤ hi) : rg lo hi (x &&& y) := by
  obtain ⟨h1, h2⟩ := hx
  have e : (x &&& y).toBitVec.toNat ≤ x.toBitVec.toNat := by
    rw [Int32.toBitVec_and, BitVec.toNat_and]
    exact Nat.and_le_left
  have h3 := i_natlt h1
  have h4 := i_nat h1
  unfold rg
  rw [i_of_nat (by omega)]
  omega
theorem rg_andr {b lo hi : Int} {y : Int32} (x : Int32) (hy : rg 0 b y) (s : lo ≤ 0 ∧ b ≤ hi) : rg lo hi (x &&& y) := by
  have : x &&& y = y &&& x := Int32.and_comm x y
  rw [this]
  exact rg_andl x hy s
theorem rg_or {b d lo hi : Int} (k : Nat) {x y : Int32} (hx : rg 0 b x) (hy : rg 0 d y) (s : (k ≤ 31 ∧ b < 2 ^ k ∧ d < 2 ^ k) ∧ lo ≤ 0 ∧ 2 ^ k - 1 ≤ hi) : rg lo hi (x ||| y) := by
  obtain ⟨h1, h2⟩ := hx
  obtain ⟨h3, h4⟩ := hy
  obtain ⟨⟨s1, s2, s5⟩, s3, s4⟩ := s
  have e1 := i_nat h1
  have e2 := i_nat h3
  have hk : ((2 ^ k : Nat) : Int) = (2 : Int) ^ k := by norm_cast
  have e : (x ||| y).toBitVec.toNat < 2 ^ k := by
    rw [Int32.toBitVec_or, BitVec.toNat_or]
    exact Nat.or_lt_two_pow (by omega) (by omega)
  have h31 : (2 : Nat) ^ k ≤ 2 ^ 31 := Nat.pow_le_pow_right (by decide) s1
  unfold rg
  rw [i_of_nat (by omega)]
  omega
theorem rg_xor {b d lo hi : Int} (k : Nat) {x y : Int32} (hx : rg 0 b x) (hy : rg 0 d y) (s : (k ≤ 31 ∧ b < 2 ^ k ∧ d < 2 ^ k) ∧ lo ≤ 0 ∧ 2 ^ k - 1 ≤ hi) : rg lo hi (x ^^^ y) := by
  obtain ⟨h1, h2⟩ := hx
  obtain ⟨h3, h4⟩ := hy
  obtain ⟨⟨s1, s2, s5⟩, s3, s4⟩ := s
  have e1 := i_nat h1
  have e2 := i_nat h3
  have hk : ((2 ^ k : Nat) : Int) = (2 : Int) ^ k := by norm_cast
  have e : (x ^^^ y).toBitVec.toNat < 2 ^ k := by
    rw [Int32.toBitVec_xor, BitVec.toNat_xor]
    exact Nat.xor_lt_two_pow (by omega) (by omega)
  have h31 : (2 : Nat) ^ k ≤ 2 ^ 31 := Nat.pow_le_pow_right (by decide) s1
  unfold rg
  rw [i_of_nat (by omega)]
  omega
theorem rg_shl1 {b lo hi : Int} (k : Nat) {x : Int32} (hx : rg 0 b x) (s : (k ≤ 30 ∧ b ≤ k) ∧ lo ≤ 1 ∧ 2 ^ k ≤ hi) : rg lo hi ((1 : Int32) <<< (x &&& 31)) := by
  obtain ⟨h1, h2⟩ := hx
  obtain ⟨⟨s1, s2⟩, s3, s4⟩ := s
  have e1 := i_nat h1
  have e2 : (x &&& 31) = x := by
    apply Int32.toBitVec_inj.mp
    apply BitVec.eq_of_toNat_eq
    rw [Int32.toBitVec_and, BitVec.toNat_and]
    have : (31 : Int32).toBitVec.toNat = 2 ^ 5 - 1 := by decide
    rw [this, Nat.and_two_pow_sub_one_eq_mod]
    omega
  rw [e2]
  have e3 : ((1 : Int32) <<< x).toBitVec.toNat = 2 ^ x.toBitVec.toNat := by
    rw [Int32.toBitVec_shiftLeft]
    have e4 : (x.toBitVec.smod 32).toNat = x.toBitVec.toNat := by
      rw [BitVec.smod_eq]
      have m1 : x.toBitVec.msb = false := by
        rw [BitVec.msb_eq_decide]
        simp
        omega
      have m2 : (32 : BitVec 32).msb = false := by decide
      rw [m1, m2]
      simp
      omega
    rw [BitVec.shiftLeft_eq', BitVec.toNat_shiftLeft, e4]
    have : (1 : Int32).toBitVec.toNat = 1 := by decide
    rw [this, Nat.shiftLeft_eq, Nat.one_mul, Nat.mod_eq_of_lt]
    exact Nat.pow_lt_pow_right (by decide) (by omega)
  have hk : x.toBitVec.toNat ≤ k := by omega
  have h31 : (2 : Nat) ^ x.toBitVec.toNat ≤ 2 ^ k := Nat.pow_le_pow_right (by decide) hk
  have h32 : (2 : Nat) ^ k ≤ 2 ^ 30 := Nat.pow_le_pow_right (by decide) s1
  have h33 : 0 < (2 : Nat) ^ x.toBitVec.toNat := Nat.pow_pos (by decide)
  have hkk : ((2 ^ k : Nat) : Int) = (2 : Int) ^ k := by norm_cast
  unfold rg
  rw [i_of_nat (by rw [e3]; omega), e3]
  omega
theorem i_div {x y : Int32} (h1 : 0 ≤ x.toInt) (h2 : 0 < y.toInt) : (x / y).toInt = x.toInt / y.toInt := by
  have e1 : x.toInt.tdiv y.toInt = x.toInt / y.toInt := Int.tdiv_eq_ediv_of_nonneg h1
  have h3 : 0 ≤ x.toInt / y.toInt := Int.ediv_nonneg h1 (by omega)
  have h4 : x.toInt / y.toInt ≤ x.toInt := Int.ediv_le_self _ h1
  have h5 := (i_bd x).2
  rw [Int32.toInt_div, e1, bm (by omega) (by omega)]
theorem rg_div {a b c lo hi : Int} {x y : Int32} (hx : rg a b x) (hy : rg c c y) (s : (0 ≤ a ∧ 0 < c) ∧ lo ≤ a / c ∧ b / c ≤ hi) : rg lo hi (x / y) := by
  obtain ⟨h1, h2⟩ := hx
  obtain ⟨h3, h4⟩ := hy
  obtain ⟨⟨s1, s2⟩, s3, s4⟩ := s
  have e : y.toInt = c := by omega
  have e1 : a / c ≤ x.toInt / c := Int.ediv_le_ediv s2 h1
  have e2 : x.toInt / c ≤ b / c := Int.ediv_le_ediv s2 h2
  unfold rg
  rw [i_div (by omega) (by omega), e]
  omega
theorem rg_mod {a b c lo hi : Int} {x y : Int32} (hx : rg a b x) (hy : rg c c y) (s : (0 ≤ a ∧ 0 < c) ∧ lo ≤ 0 ∧ c - 1 ≤ hi) : rg lo hi (x - x / y * y) := by
  obtain ⟨h1, h2⟩ := hx
  obtain ⟨h3, h4⟩ := hy
  obtain ⟨⟨s1, s2⟩, s3, s4⟩ := s
  have e : y.toInt = c := by omega
  have e0 : (x / y).toInt = x.toInt / c := by rw [i_div (by omega) (by omega), e]
  have m1 := Int.emod_nonneg x.toInt (show c ≠ 0 by omega)
  have m2 := Int.emod_lt_of_pos x.toInt s2
  have m3 := Int.mul_ediv_add_emod x.toInt c
  have m4 : x.toInt / c * c = c * (x.toInt / c) := Int.mul_comm _ _
  have h5 := (i_bd x).2
  have m5 : 0 ≤ x.toInt / c * c := Int.mul_nonneg (Int.ediv_nonneg (by omega) (by omega)) (by omega)
  have e2 : (x / y * y).toInt = x.toInt / c * c := by
    rw [i_mul, e0, e]
    · rw [e0, e]; omega
    · rw [e0, e]; omega
  unfold rg
  rw [i_sub (by rw [e2]; omega) (by rw [e2]; omega), e2]
  omega
theorem rg_shr {b lo hi : Int} (y : Int32) {x : Int32} (hx : rg 0 b x) (s : lo ≤ 0 ∧ b ≤ hi) : rg lo hi (x >>> y) := by
  obtain ⟨h1, h2⟩ := hx
  have e1 := i_nat h1
  have m1 : x.toBitVec.msb = false := by
    rw [BitVec.msb_eq_decide]
    have := i_natlt h1
    simp
    omega
  have e3 : (x >>> y).toBitVec.toNat ≤ x.toBitVec.toNat := by
    rw [Int32.toBitVec_shiftRight]
    rw [BitVec.sshiftRight_eq', BitVec.sshiftRight_eq_of_msb_false m1, BitVec.toNat_ushiftRight]
    exact Nat.shiftRight_le _ _
  have := i_natlt h1
  unfold rg
  rw [i_of_nat (by omega)]
  omega
theorem rg_neg {a b lo hi : Int} {x : Int32} (hx : rg a b x) (s : (-2147483647 ≤ a) ∧ lo ≤ -b ∧ -a ≤ hi) : rg lo hi (-x) := by
  obtain ⟨h1, h2⟩ := hx
  obtain ⟨s1, s3, s4⟩ := s
  have := i_bd x
  unfold rg
  rw [Int32.toInt_neg, bm (by omega) (by omega)]
  omega
theorem rg_ite {lo hi : Int} {c : Prop} {d : Decidable c} {x y : Int32} (h1 : c → rg lo hi x) (h2 : ¬ c → rg lo hi y) : rg lo hi (@ite _ c d x y) := by
  by_cases h : c
  · rw [if_pos h]; exact h1 h
  · rw [if_neg h]; exact h2 h
-- cuts
theorem rg_ltL {a b c d lo hi : Int} {x y : Int32} (h : x < y) (hx : rg a b x) (hy : rg c d y) (s : lo ≤ a ∧ d - 1 ≤ hi) : rg lo hi x := by
  obtain ⟨h1, h2⟩ := hx
  obtain ⟨h3, h4⟩ := hy
  rw [i_lt] at h
  unfold rg
  omega
theorem rg_ltR {a b c d lo hi : Int} {x y : Int32} (h : x < y) (hx : rg a b x) (hy : rg c d y) (s : lo ≤ a + 1 ∧ d ≤ hi) : rg lo hi y := by
  obtain ⟨h1, h2⟩ := hx
  obtain ⟨h3, h4⟩ := hy
  rw [i_lt] at h
  unfold rg
  omega
theorem rg_leL {a b c d lo hi : Int} {x y : Int32} (h : x ≤ y) (hx : rg a b x) (hy : rg c d y) (s : lo ≤ a ∧ d ≤ hi) : rg lo hi x := by
  obtain ⟨h1, h2⟩ := hx
  obtain ⟨h3, h4⟩ := hy
  rw [i_le] at h
  unfold rg
  omega
theorem rg_leR {a b c d lo hi : Int} {x y : Int32} (h : x ≤ y) (hx : rg a b x) (hy : rg c d y) (s : lo ≤ a ∧ d ≤ hi) : rg lo hi y := by
  obtain ⟨h1, h2⟩ := hx
  obtain ⟨h3, h4⟩ := hy
  rw [i_le] at h
  unfold rg
  omega
theorem rg_eqL {a b lo hi : Int} {x y : Int32} (h : x = y) (hy : rg a b y) (s : lo ≤ a ∧ b ≤ hi) : rg lo hi x := by
  rw [h]
  exact rg_w hy s
theorem rg_eqR {a b lo hi : Int} {x y : Int32} (h : x = y) (hx : rg a b x) (s : lo ≤ a ∧ b ≤ hi) : rg lo hi y := by
  rw [← h]
  exact rg_w hx s
theorem rg_neL {a b c lo hi : Int} {x y : Int32} (h : ¬ x = y) (hx : rg a b x) (hy : rg c c y) (s : (a = c ∧ lo ≤ a + 1 ∧ b ≤ hi) ∨ (b = c ∧ lo ≤ a ∧ b - 1 ≤ hi)) : rg lo hi x := by
  obtain ⟨h1, h2⟩ := hx
  obtain ⟨h3, h4⟩ := hy
  have h5 : x.toInt ≠ y.toInt := fun e => h (Int32.toInt_inj.mp e)
  unfold rg
  omega
theorem inb_rg {a b : Int} {x : Int32} {n : Nat} (h : rg a b x) (s : 0 ≤ a ∧ b < n) : inb x n = true := by
  obtain ⟨h1, h2⟩ := h
  unfold inb
  simp
  omega
theorem isb_rg {x : Int32} (h : rg 0 1 x) : isb x = true := by
  obtain ⟨h1, h2⟩ := h
  have h3 : x.toInt = 0 ∨ x.toInt = 1 := by omega
  have h4 : x = 0 ∨ x = 1 := by
    rcases h3 with e | e
    · exact Or.inl (Int32.toInt_inj.mp (by rw [e]; decide))
    · exact Or.inr (Int32.toInt_inj.mp (by rw [e]; decide))
  rcases h4 with rfl | rfl <;> decide
theorem nz_rg {a b : Int} {x : Int32} (h : rg a b x) (s : 0 < a ∨ b < 0) : nz x = true := by
  obtain ⟨h1, h2⟩ := h
  have h3 : x ≠ 0 := fun e => by
    subst e
    have : (0 : Int32).toInt = 0 := by decide
    omega
  unfold nz
  simp [h3]
-- measures
theorem ms_up {a b c m : Int} {x y : Int32} (hx : rg a b x) (hy : rg c c y) (s : (0 < c ∧ -2147483648 ≤ a + c ∧ b + c ≤ 2147483647) ∧ b < m) : (m - (x + y).toInt).toNat < (m - x.toInt).toNat := by
  obtain ⟨h1, h2⟩ := hx
  obtain ⟨h3, h4⟩ := hy
  rw [i_add (by omega) (by omega)]
  omega
theorem ms_dn {a b c m : Int} {x y : Int32} (hx : rg a b x) (hy : rg c c y) (s : (c < 0 ∧ -2147483648 ≤ a + c ∧ b + c ≤ 2147483647) ∧ m < a) : ((x + y).toInt - m).toNat < (x.toInt - m).toNat := by
  obtain ⟨h1, h2⟩ := hx
  obtain ⟨h3, h4⟩ := hy
  rw [i_add (by omega) (by omega)]
  omega
theorem ms_u0 {N : Nat} (hN : 8589934592 ≤ N) {m : Int} (x : Int32) (s : m ≤ 4294967296) : (m - x.toInt).toNat < N := by
  have := i_bd x
  omega
theorem ms_d0 {N : Nat} (hN : 8589934592 ≤ N) {m : Int} (x : Int32) (s : -4294967296 ≤ m) : (x.toInt - m).toNat < N := by
  have := i_bd x
  omega
theorem ms_dv {a b c m : Int} {x y : Int32} (hx : rg a b x) (hy : rg c c y) (s : (0 < a ∧ 1 < c) ∧ m ≤ 0) : ((x / y).toInt - m).toNat < (x.toInt - m).toNat := by
  obtain ⟨h1, h2⟩ := hx
  obtain ⟨h3, h4⟩ := hy
  obtain ⟨⟨s1, s2⟩, s3⟩ := s
  have e : y.toInt = c := by omega
  have h5 : x.toInt / c < x.toInt := Int.ediv_lt_self_of_pos_of_ne_one (by omega) (by omega)
  have h6 : 0 ≤ x.toInt / c := Int.ediv_nonneg (by omega) (by omega)
  rw [i_div (by omega) (by omega), e]
  omega
-- steps of the logic with ranges
theorem t_lrg {X : Type} {e : Int32} {k : Int32 → Option X} {P : X → Prop} (lo hi : Int) (he : rg lo hi e) (h : ∀ x, rg lo hi x → tot (k x) P) : tot (bnd e k) P := h e he
theorem t_l64 {X : Type} {e : Int64} {k : Int64 → Option X} {P : X → Prop} (h : ∀ x, tot (k x) P) : tot (bnd e k) P := h e
theorem t_sw1 {X : Type} {x v : Int32} {a d : Option X} {t : List (Int32 × Option X)} {P : X → Prop} (h1 : x = v → tot a P) (h2 : ¬ x = v → tot (swc x t d) P) : tot (swc x ((v, a) :: t) d) P := t_if h1 h2
theorem t_sw0 {X : Type} {x : Int32} {d : Option X} {P : X → Prop} (h : tot d P) : tot (swc x [] d) P := h
theorem rg_pt {a : Int} {x y : Int32} (hx : rg a a x) (hy : rg a a y) : x = y := Int32.toInt_inj.mp (by have := hx.1; have := hx.2; have := hy.1; have := hy.2; omega)
theorem rg_noE {a b c d : Int} {x y : Int32} (hx : rg a b x) (hy : rg c d y) (s : b < c ∨ d < a) : ¬ x = y := fun e => by
  subst e
  have := hx.1; have := hx.2; have := hy.1; have := hy.2; omega
theorem rg_noL {a b c d : Int} {x y : Int32} (hx : rg a b x) (hy : rg c d y) (s : d ≤ a) : ¬ x < y := fun e => by
  rw [i_lt] at e
  have := hx.1; have := hx.2; have := hy.1; have := hy.2; omega
theorem rg_noG {a b c d : Int} {x y : Int32} (hx : rg a b x) (hy : rg c d y) (s : d < a) : ¬ x ≤ y := fun e => by
  rw [i_le] at e
  have := hx.1; have := hx.2; have := hy.1; have := hy.2; omega
theorem rg_yeL {a b c d : Int} {x y : Int32} (hx : rg a b x) (hy : rg c d y) (s : b < c) : x < y := by
  rw [i_lt]
  have := hx.1; have := hx.2; have := hy.1; have := hy.2; omega
theorem rg_yeG {a b c d : Int} {x y : Int32} (hx : rg a b x) (hy : rg c d y) (s : b ≤ c) : x ≤ y := by
  rw [i_le]
  have := hx.1; have := hx.2; have := hy.1; have := hy.2; omega
theorem ms_ds {a b c m : Int} {x y : Int32} (hx : rg a b x) (hy : rg c c y) (s : (0 < c ∧ -2147483648 ≤ a - c ∧ b - c ≤ 2147483647) ∧ m < a) : ((x - y).toInt - m).toNat < (x.toInt - m).toNat := by
  obtain ⟨h1, h2⟩ := hx
  obtain ⟨h3, h4⟩ := hy
  rw [i_sub (by omega) (by omega)]
  omega
theorem ms_fu {a b m : Int} {x : Int32} (hx : rg a b x) (s : m - a < 10) : (m - x.toInt).toNat < 10 := by
  have := hx.1; omega
theorem ms_fd {a b m : Int} {x : Int32} (hx : rg a b x) (s : b - m < 10) : (x.toInt - m).toNat < 10 := by
  have := hx.2; omega
