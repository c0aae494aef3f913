/-! a row that is nothing against a set: even or odd; one alone but for a factor -/
def kr (A : Nat → Nat → Int) (n : Nat) (S : Nat → Bool) (w : Nat → Int) : Prop := (∀ y, S y = false → w y = 0) ∧ ∀ x, x < n → S x = true → si (fun y => A x y * w y) n = 0
def sgs (A : Nat → Nat → Int) (S : Nat → Bool) : Prop := (∀ x y, A x y = -(A y x)) ∧ ∀ x y, S x = true → S y = true → x ≠ y → A x y = 1 ∨ A x y = -1
theorem sgs_0 {A : Nat → Nat → Int} {S : Nat → Bool} (h : sgs A S) (x : Nat) : A x x = 0 := by
  have := h.1 x x
  omega
theorem kr_p {A : Nat → Nat → Int} {n : Nat} {S : Nat → Bool} {w : Nat → Int} (hA : sgs A S) (hk : kr A n S w) {x : Nat} (hx : x < n) (hS : S x = true) : (w x - si w n) % 2 = 0 := by
  have key : ∀ k, (si (fun y => A x y * w y) k - si w k + (if x < k then w x else 0)) % 2 = 0 := fun k => by
    induction k with
    | zero =>
      show ((0 : Int) - 0 + (if x < 0 then w x else 0)) % 2 = 0
      rw [if_neg (show ¬ x < 0 by omega)]
      rfl
    | succ k ih =>
      show (si (fun y => A x y * w y) k + A x k * w k - (si w k + w k) + (if x < k + 1 then w x else 0)) % 2 = 0
      by_cases c : k = x
      · rw [c] at ih ⊢
        rw [if_neg (show ¬ x < x by omega)] at ih
        rw [if_pos (show x < x + 1 by omega), sgs_0 hA, Int.zero_mul]
        omega
      · have e : (if x < k + 1 then w x else 0) = (if x < k then w x else 0) := by
          by_cases d : x < k
          · rw [if_pos d, if_pos (show x < k + 1 by omega)]
          · rw [if_neg d, if_neg (show ¬ x < k + 1 by omega)]
        rw [e]
        cases d : S k
        · rw [hk.1 k d, Int.mul_zero]
          omega
        · rcases hA.2 x k hS d (fun q => c q.symm) with z | z
          · rw [z, Int.one_mul]
            omega
          · rw [z, Int.neg_mul, Int.one_mul]
            omega
  have k1 := key n
  rw [hk.2 x hx hS, if_pos hx] at k1
  omega
theorem desc {A : Nat → Nat → Int} {n : Nat} {S : Nat → Bool} (Q : (Nat → Int) → Prop) (hev : ∀ w, kr A n S w → Q w → ∀ y, w y % 2 = 0) (hh : ∀ w, Q w → Q (fun y => w y / 2)) : ∀ (B : Nat) (w : Nat → Int), kr A n S w → Q w → (∀ y, -(B : Int) ≤ w y ∧ w y ≤ B) → ∀ y, w y = 0
  | 0, w, _, _, hb, y => by
    have := hb y
    omega
  | B + 1, w, hk, hq, hb, y => by
    have ev := hev w hk hq
    have hk' : kr A n S (fun y => w y / 2) := by
      refine ⟨fun y hy => by show w y / 2 = 0; rw [hk.1 y hy]; rfl, fun x hx hS => ?_⟩
      have e : si (fun y => A x y * w y) n = 2 * si (fun y => A x y * (w y / 2)) n := by
        rw [← si_mul]
        refine si_c n (fun i _ => ?_)
        have z := ev i
        have z2 : w i = 2 * (w i / 2) := by omega
        rw [Int.mul_left_comm, ← z2]
      have := hk.2 x hx hS
      show si (fun y => A x y * (w y / 2)) n = 0
      omega
    have := desc Q hev hh B (fun y => w y / 2) hk' (hh w hq) (fun y => by
      have z := ev y
      have z2 := hb y
      show -(B : Int) ≤ w y / 2 ∧ w y / 2 ≤ B
      omega) y
    have this' : w y / 2 = 0 := this
    have z := ev y
    omega
theorem bdd (n : Nat) (w : Nat → Int) (h0 : ∀ y, n ≤ y → w y = 0) : ∃ B : Nat, ∀ y, -(B : Int) ≤ w y ∧ w y ≤ B := by
  have key : ∀ k, ∃ B : Nat, ∀ y, y < k → -(B : Int) ≤ w y ∧ w y ≤ B := fun k => by
    induction k with
    | zero => exact ⟨0, fun y hy => by omega⟩
    | succ k ih =>
      obtain ⟨B, hB⟩ := ih
      refine ⟨B + (w k).toNat + (-(w k)).toNat, fun y hy => ?_⟩
      by_cases c : y = k
      · rw [c]; omega
      · have := hB y (by omega)
        omega
  obtain ⟨B, hB⟩ := key n
  refine ⟨B, fun y => ?_⟩
  by_cases c : y < n
  · exact hB y c
  · rw [h0 y (by omega)]; omega
theorem kr_odd {A : Nat → Nat → Int} {n : Nat} {S : Nat → Bool} {p : Nat → Int} (hA : sgs A S) (hS : ∀ y, S y = true → y < n) (hk : kr A n S p) {y0 : Nat} (hp : p y0 ≠ 0) : cn S n % 2 = 1 := by
  by_cases c : cn S n % 2 = 1
  · exact c
  · exfalso
    have zero : ∀ w, kr A n S w → ∀ y, n ≤ y → w y = 0 := fun w hw y hy => hw.1 y (by
      cases z : S y
      · rfl
      · have := hS y z
        omega)
    obtain ⟨B, hB⟩ := bdd n p (zero p hk)
    refine hp (desc (fun _ => True) (fun w hw _ y => ?_) (fun _ _ => trivial) B p hk trivial hB y0)
    have wev : si w n % 2 = 0 := by
      by_cases z : si w n % 2 = 0
      · exact z
      · exfalso
        have key : ∀ k, k ≤ n → (si w k - (cn S k : Int)) % 2 = 0 := fun k => by
          induction k with
          | zero => intro _; rfl
          | succ k ih =>
            intro hkn
            have i1 := ih (by omega)
            show (si w k + w k - ((cn S k + if S k = true then 1 else 0 : Nat) : Int)) % 2 = 0
            cases d : S k
            · rw [hw.1 k d, if_neg (by decide)]
              omega
            · have q1 := kr_p hA hw (by omega : k < n) d
              rw [if_pos rfl]
              omega
        have := key n (Nat.le_refl _)
        omega
    cases d : S y
    · rw [hw.1 y d]; rfl
    · have q1 := kr_p hA hw (hS y d) d
      omega
theorem kr_one {A : Nat → Nat → Int} {n : Nat} {S : Nat → Bool} {p v : Nat → Int} (hA : sgs A S) (hS : ∀ y, S y = true → y < n) (hp : kr A n S p) (hv : kr A n S v) {x0 : Nat} (hx : S x0 = true) (y : Nat) : p x0 * v y = v x0 * p y := by
  have hw : kr A n S (fun y => p x0 * v y - v x0 * p y) := by
    refine ⟨fun y hy => ?_, fun x hx' hS' => ?_⟩
    · show p x0 * v y - v x0 * p y = 0
      rw [hv.1 y hy, hp.1 y hy, Int.mul_zero, Int.mul_zero]
      rfl
    · have e : si (fun y => A x y * (p x0 * v y - v x0 * p y)) n = p x0 * si (fun y => A x y * v y) n + (-(v x0)) * si (fun y => A x y * p y) n := by
        rw [← si_mul, ← si_mul, ← si_add]
        refine si_c n (fun i _ => ?_)
        rw [Int.mul_sub, Int.mul_left_comm, Int.mul_left_comm (A x i), Int.neg_mul]
        omega
      show si (fun y => A x y * (p x0 * v y - v x0 * p y)) n = 0
      rw [e, hv.2 x hx' hS', hp.2 x hx' hS', Int.mul_zero, Int.mul_zero]
      rfl
  obtain ⟨B, hB⟩ := bdd n _ (fun y hy => hw.1 y (by
      cases z : S y
      · rfl
      · have := hS y z
        omega))
  have := desc (fun w => w x0 = 0) (fun w hw' hq y => by
    have q0 := kr_p hA hw' (hS x0 hx) hx
    cases d : S y
    · rw [hw'.1 y d]; rfl
    · have q1 := kr_p hA hw' (hS y d) d
      have hq' : w x0 = 0 := hq
      omega) (fun w hq => by
      have hq' : w x0 = 0 := hq
      show w x0 / 2 = 0
      rw [hq']; rfl) B _ hw (by show p x0 * v x0 - v x0 * p x0 = 0; rw [Int.mul_comm]; omega) hB y
  have this' : p x0 * v y - v x0 * p y = 0 := this
  omega
/-- a set whose pfaffians are of one sign, and nobody gains by them -/
theorem exS {A : Nat → Nat → Int} {n : Nat} {a : Nat → Bool} {y0 : Nat} (hy : y0 < n) (hy0 : a y0 = true) (hA : sgs A a) (ha0 : ∀ x y, a x = false → A x y = 0) : ∃ S : Nat → Bool, (∀ y, S y = true → y < n ∧ a y = true) ∧ cn S n % 2 = 1 ∧ ∀ v x0, kr A n S v → S x0 = true → 0 < v x0 → (∀ y, S y = true → 0 < v y) ∧ ∀ x, x < n → si (fun y => A x y * v y) n ≤ 0 := by
  obtain ⟨p, p1, p2, ⟨y1, y2, y3⟩, p4⟩ := opt a hy hy0 hA.1 ha0
  have gz := opt_s hA.1 p1 p4
  obtain ⟨S, eS⟩ : ∃ S : Nat → Bool, S = fun y => decide (y < n) && decide (0 < p y) := ⟨_, rfl⟩
  have St : ∀ y, S y = true ↔ y < n ∧ 0 < p y := fun y => by
    rw [eS]
    show (decide (y < n) && decide (0 < p y)) = true ↔ _
    rw [Bool.and_eq_true, decide_eq_true_eq, decide_eq_true_eq]
  have Sa : ∀ y, S y = true → y < n ∧ a y = true := fun y h => by
    obtain ⟨h1, h2⟩ := (St y).mp h
    refine ⟨h1, ?_⟩
    cases z : a y
    · rw [p2 y z] at h2
      omega
    · rfl
  have hA' : sgs A S := ⟨hA.1, fun x y h1 h2 d => hA.2 x y (Sa x h1).2 (Sa y h2).2 d⟩
  obtain ⟨p', ep⟩ : ∃ p' : Nat → Int, p' = fun y => if S y = true then p y else 0 := ⟨_, rfl⟩
  have pe : ∀ y, y < n → p' y = p y := fun y h => by
    rw [ep]
    show (if S y = true then p y else 0) = p y
    by_cases c : S y = true
    · rw [if_pos c]
    · rw [if_neg c]
      have := p1 y h
      by_cases d : 0 < p y
      · exact absurd ((St y).mpr ⟨h, d⟩) c
      · omega
  have se : ∀ x, si (fun y => A x y * p' y) n = si (fun y => A x y * p y) n := fun x => si_c n (fun i hi => by rw [pe i hi])
  have hp : kr A n S p' := ⟨fun y h => by
    rw [ep]
    show (if S y = true then p y else 0) = 0
    rw [h, if_neg (by decide)], fun x hx h => by
    rw [se]
    exact gz x hx ((St x).mp h).2⟩
  have Sn : ∀ y, S y = true → y < n := fun y h => (Sa y h).1
  refine ⟨S, Sa, kr_odd hA' Sn hp (y0 := y1) (by rw [pe y1 y2]; omega), fun v x0 hv hx0 h0 => ?_⟩
  have one := kr_one hA' Sn hp hv hx0
  have px : 0 < p' x0 := by
    rw [pe x0 (Sn x0 hx0)]
    exact ((St x0).mp hx0).2
  refine ⟨fun y h => ?_, fun x hx => ?_⟩
  · have e := one y
    have py : 0 < p' y := by
      rw [pe y (Sn y h)]
      exact ((St y).mp h).2
    have pos := Int.mul_pos h0 py
    rw [← e] at pos
    by_cases c : 0 < v y
    · exact c
    · have := Int.mul_nonpos_of_nonneg_of_nonpos (Int.le_of_lt px) (by omega : v y ≤ 0)
      omega
  · have e : p' x0 * si (fun y => A x y * v y) n = v x0 * si (fun y => A x y * p' y) n := by
      rw [← si_mul, ← si_mul]
      refine si_c n (fun i _ => ?_)
      rw [Int.mul_left_comm, one i, Int.mul_left_comm]
    have g := p4 x hx
    rw [← se] at g
    have := Int.mul_nonpos_of_nonneg_of_nonpos (Int.le_of_lt h0) g
    by_cases c : si (fun y => A x y * v y) n ≤ 0
    · exact c
    · have := Int.mul_pos px (by omega : 0 < si (fun y => A x y * v y) n)
      omega
/-- pfaffians are odd -/
theorem pf_odd {A : Nat → Nat → Int} {n : Nat} : ∀ (k : Nat) (S : Nat → Bool), sgs A S → (∀ y, S y = true → y < n) → cn S n = 2 * k → pfB A n k S % 2 = 1
  | 0, S, _, _, _ => rfl
  | k + 1, S, hA, hS, hc => by
    obtain ⟨x1, x2, x3⟩ := lwS_f n (by omega : 0 < cn S n)
    obtain ⟨x, ex⟩ : ∃ x, x = lwS S n := ⟨_, rfl⟩
    rw [← ex] at x1 x2 x3
    rw [pf_x ex.symm]
    have m1 := cn_rm x2 n
    rw [if_pos x1] at m1
    have key : ∀ r, r ≤ n → (si (fun j => sg (rm S x) j * A x j * pfB A n k (rm (rm S x) j)) r - (cn (rm S x) r : Int)) % 2 = 0 := fun r => by
      induction r with
      | zero => intro _; rfl
      | succ r ih =>
        intro hr
        have i1 := ih (by omega)
        show (si (fun j => sg (rm S x) j * A x j * pfB A n k (rm (rm S x) j)) r + sg (rm S x) r * A x r * pfB A n k (rm (rm S x) r) - ((cn (rm S x) r + if rm S x r = true then 1 else 0 : Nat) : Int)) % 2 = 0
        by_cases d : rm S x r = true
        · have d' := rm_t.mp d
          have m2 := cn_rm d n
          rw [if_pos (show r < n by omega)] at m2
          have o := pf_odd (A := A) (n := n) k (rm (rm S x) r) ⟨hA.1, fun u v h1 h2 h3 => hA.2 u v (rm_t.mp (rm_t.mp h1).1).1 (rm_t.mp (rm_t.mp h2).1).1 h3⟩ (fun y h => hS y (rm_t.mp (rm_t.mp h).1).1) (by omega)
          rw [if_pos d]
          have s1 : sg (rm S x) r = 1 ∨ sg (rm S x) r = -1 := by
            unfold sg
            rw [if_pos d]
            by_cases z : cn (rm S x) r % 2 = 0
            · exact Or.inl (if_pos z)
            · exact Or.inr (if_neg z)
          have s2 := hA.2 x r x2 d'.1 (fun q => d'.2 q.symm)
          rcases s1 with z1 | z1 <;> rcases s2 with z2 | z2 <;> rw [z1, z2] <;> omega
        · rw [sg_0 d, if_neg d, Int.zero_mul, Int.zero_mul]
          omega
    have := key n (Nat.le_refl _)
    omega
