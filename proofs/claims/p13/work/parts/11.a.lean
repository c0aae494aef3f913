/-! plain facts of memory, of the reference's in(), of loops -/
theorem gI_sI (σ : Mem) (k i : Nat) (v : Int32) (k' : Nat) : gI (sI σ k i v) k' = if k' = k then upd (gI σ k) i v else gI σ k' := rfl
theorem gJ_sI (σ : Mem) (k i : Nat) (v : Int32) (k' : Nat) : gJ (sI σ k i v) k' = gJ σ k' := rfl
theorem gI_sJ (σ : Mem) (k i : Nat) (v : Int64) (k' : Nat) : gI (sJ σ k i v) k' = gI σ k' := rfl
theorem gJ_sJ (σ : Mem) (k i : Nat) (v : Int64) (k' : Nat) : gJ (sJ σ k i v) k' = if k' = k then vp_updL (gJ σ k) i v else gJ σ k' := rfl
theorem gI_cJ (σ : Mem) (k a b n k' : Nat) : gI (cJ σ k a b n) k' = gI σ k' := rfl
theorem gJ_cJ (σ : Mem) (k a b n k' : Nat) : gJ (cJ σ k a b n) k' = if k' = k then va_cpy (gJ σ k) (gJ σ k) a b n else gJ σ k' := rfl
theorem upd_ap (f : Nat → Int32) (k : Nat) (x : Int32) (j : Nat) : upd f k x j = if j = k then x else f j := rfl
theorem gd_t {X : Type} {b : Bool} {o : Option X} (h : b = true) : gd b o = o := by rw [gd, if_pos h]
theorem ob_s {T X : Type} (a : T) (k : T → Option X) : ob (some a) k = k a := rfl
theorem ob2_s {T U X : Type} (a : T) (b : U) (k : T → U → Option X) : ob2 (some (a, b)) k = k a b := rfl
theorem bnd_e {T U : Type} (e : T) (k : T → U) : bnd e k = k e := rfl
theorem n0 : (0 : Int32).toNatClampNeg = 0 := by decide
theorem lgl (a b : Int64) : lg_cmp a b < 0 ↔ a.toInt < b.toInt := by
  unfold lg_cmp
  by_cases h1 : a > b
  · rw [if_pos h1]
    have h2 : b.toInt < a.toInt := Int64.lt_iff_toInt_lt.mp h1
    exact ⟨fun h => absurd h (by decide), fun h => by omega⟩
  · rw [if_neg h1]
    have h2 : ¬ b.toInt < a.toInt := fun h => h1 (Int64.lt_iff_toInt_lt.mpr h)
    by_cases h3 : a = b
    · rw [if_pos h3]
      subst h3
      exact ⟨fun h => absurd h (by decide), fun h => by omega⟩
    · rw [if_neg h3]
      have h4 : a.toInt ≠ b.toInt := fun h => h3 (Int64.toInt_inj.mp h)
      exact ⟨fun _ => by omega, fun _ => by decide⟩
theorem lgg (a b : Int64) : 0 < lg_cmp a b ↔ b.toInt < a.toInt := by
  unfold lg_cmp
  by_cases h1 : a > b
  · rw [if_pos h1]
    exact ⟨fun _ => Int64.lt_iff_toInt_lt.mp h1, fun _ => by decide⟩
  · rw [if_neg h1]
    have h2 : ¬ b.toInt < a.toInt := fun h => h1 (Int64.lt_iff_toInt_lt.mpr h)
    by_cases h3 : a = b
    · rw [if_pos h3]
      exact ⟨fun h => absurd h (by decide), fun h => absurd h h2⟩
    · rw [if_neg h3]
      exact ⟨fun h => absurd h (by decide), fun h => absurd h h2⟩
theorem min_iff (a lo hi : Int64) : t_M_in a lo hi = if lo.toInt ≤ a.toInt ∧ a.toInt ≤ hi.toInt then 1 else 0 := by
  unfold t_M_in
  by_cases h1 : lo.toInt ≤ a.toInt ∧ a.toInt ≤ hi.toInt
  · rw [if_pos h1, if_neg (fun h => by rw [lgl] at h; omega), if_neg (fun h => by rw [lgg] at h; omega)]
  · rw [if_neg h1]
    by_cases h2 : a.toInt < lo.toInt
    · rw [if_pos ((lgl _ _).mpr h2)]
    · rw [if_neg (fun h => h2 ((lgl _ _).mp h)), if_pos ((lgg _ _).mpr (by omega))]
theorem i64 (x : Int32) : x.toInt64.toInt = x.toInt := by simp
/-- the fresh objects -/
def σ0 : Mem := (fun _ _ => 0, fun _ _ => 0)
def μ0 : Mem := sI σ0 33 0 (-1)
theorem s0 (k i : Nat) : gI σ0 k i = 0 := rfl
theorem s0J (k i : Nat) : gJ σ0 k i = 0 := rfl
theorem m0 {k i : Nat} (h : k ≠ 33) : gI μ0 k i = 0 := by
  unfold μ0
  rw [gI_sI, if_neg h]
  rfl
theorem pD0 (a : Int32) : t_Du_isPlayerN a σ0 = 0 := by
  unfold t_Du_isPlayerN
  rw [s0]
  by_cases h : a < 0
  · rw [if_pos h]
  · rw [if_neg h, if_pos (by rw [Int32.le_iff_toInt_le]; rw [Int32.lt_iff_toInt_lt] at h; omega)]
theorem aD0 (a : Int32) : t_Du_arePlayersN a σ0 = if a = 0 then 1 else 0 := by
  unfold t_Du_arePlayersN t_Du_everybodyN
  rw [s0]
  have h : (a &&& ((((1 : Int32) <<< ((0 : Int32) &&& 31)) - 1) ^^^ -1)) = a := by
    have : ((((1 : Int32) <<< ((0 : Int32) &&& 31)) - 1) ^^^ -1) = -1 := by decide
    rw [this]
    simp
  rw [h]
/-- a memory of the reference without a ROUND -/
def nr (μ : Mem) : Prop := gI μ 1 0 = 0
theorem pM0 {μ : Mem} (h : nr μ) (a : Int32) : t_M_isPlayer a μ = 0 := by
  unfold t_M_isPlayer
  rw [min_iff, n0, h, i64]
  rw [if_neg]
  have e1 : (0 : Int64).toInt = 0 := by decide
  have e2 : ((0 : Int32).toInt64 - 1).toInt = -1 := by decide
  rw [e1, e2]
  omega
theorem rM0 {μ : Mem} (h : nr μ) : t_M_isRound μ = 0 := by
  unfold t_M_isRound
  rw [n0, h]
  decide
theorem sM0 {μ : Mem} (h : nr μ) (a : Int32) : t_M_isSome a μ = 0 := by
  unfold t_M_isSome
  rw [rM0 h]
  rfl
theorem nr1 : nr (sI μ0 0 0 0) := by
  unfold nr
  rw [gI_sI, if_neg (by decide)]
  exact m0 (by decide)
