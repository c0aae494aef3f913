/-! fewest turned arrows of sets: with one first who is covered; by one more turned arrow -/
def be (f : Nat → Int32) (n x : Nat) (R : Nat → Bool) : Nat := cn (fun j => R j && !bt (f x) j) n
def adS (S : Nat → Bool) (x : Nat) : Nat → Bool := fun j => S j || decide (j = x)
def TB (f : Nat → Int32) (n : Nat) (τ : (Nat → Bool) → Nat) : Prop := ∀ S : Nat → Bool, (∀ j, S j = true → j < n) → ((∀ j, S j = false) → τ S = 0) ∧ ((∃ j, S j = true) → (∀ x, S x = true → τ S ≤ be f n x (rm S x) + τ (rm S x)) ∧ ∃ x, S x = true ∧ τ S = be f n x (rm S x) + τ (rm S x))
theorem adS_t {S : Nat → Bool} {x j : Nat} : adS S x j = true ↔ S j = true ∨ j = x := by
  unfold adS
  rw [Bool.or_eq_true, decide_eq_true_eq]
theorem b_ext {S R : Nat → Bool} (h : ∀ j, S j = true ↔ R j = true) : S = R := by
  funext j
  cases c : S j
  · cases d : R j
    · rfl
    · rw [(h j).mpr d] at c
      cases c
  · rw [(h j).mp c]
/-- one more in a set: counted, or not -/
theorem be_1 {f : Nat → Int32} {n x z : Nat} {S : Nat → Bool} (hz : z < n) (hS : S z = true) : be f n x S = be f n x (rm S z) + if bt (f x) z = true then 0 else 1 := by
  by_cases c : bt (f x) z = true
  · rw [if_pos c, Nat.add_zero]
    refine cn_c n (fun j _ => ?_)
    show (S j && !bt (f x) j) = (rm S z j && !bt (f x) j)
    by_cases d : j = z
    · rw [d, c]
      cases S z <;> cases rm S z z <;> rfl
    · have : rm S z j = S j := by
        unfold rm
        rw [decide_eq_false d]
        cases S j <;> rfl
      rw [this]
  · rw [if_neg c]
    have hp : (fun j => S j && !bt (f x) j) z = true := by
      show (S z && !bt (f x) z) = true
      rw [hS]
      cases q : bt (f x) z
      · rfl
      · exact absurd q c
    have e := cn_rm (S := fun j => S j && !bt (f x) j) (v := z) hp n
    rw [if_pos hz] at e
    unfold be
    rw [← e]
    congr 1
    refine cn_c n (fun j _ => ?_)
    show ((S j && !bt (f x) j) && !decide (j = z)) = ((S j && !decide (j = z)) && !bt (f x) j)
    rw [Bool.and_assoc, Bool.and_assoc, Bool.and_comm (!bt (f x) j)]
theorem rm_n {S : Nat → Bool} {n v : Nat} (h : ∀ j, S j = true → j < n) : ∀ j, rm S v j = true → j < n := fun j hj => h j (rm_t.mp hj).1
/-- whoever is covered: another first is better -/
theorem cov_A {f : Nat → Int32} {n x y : Nat} {τ : (Nat → Bool) → Nat} (hT : Tn n f) (hτ : TB f n τ) (hx : x < n) (hy : y < n) (yx : bt (f y) x = true) : ∀ (k : Nat) (S : Nat → Bool), cn S n ≤ k → (∀ j, S j = true → j < n) → S y = true → ¬ S x = true → (∀ z, S z = true → bt (f x) z = true → bt (f y) z = true) → τ (adS (rm S y) x) + be f n y (adS (rm S y) x) + 1 ≤ τ S + be f n x S := by
  have h8 := hT.1
  have xy := Tn_n hT (by omega) yx
  intro k
  induction k with
  | zero =>
    intro S hc hS sy _ _
    have := cn_z n (by omega : cn S n = 0) y hy
    rw [sy] at this
    cases this
  | succ k ih =>
    intro S hc hS sy sx hcov
    obtain ⟨z, hz, ez⟩ := ((hτ S hS).2 ⟨y, sy⟩).2
    have zn := hS z hz
    have ux : rm (adS (rm S y) x) x = rm S y := b_ext (fun j => by
      rw [rm_t, adS_t]
      constructor
      · rintro ⟨a | a, b⟩
        · exact a
        · exact absurd a b
      · intro a
        exact ⟨Or.inl a, fun q => sx (by rw [← q]; exact (rm_t.mp a).1)⟩)
    have uS : ∀ j, adS (rm S y) x j = true → j < n := fun j hj => by
      rcases adS_t.mp hj with a | a
      · exact hS j (rm_t.mp a).1
      · omega
    have uxx : adS (rm S y) x x = true := adS_t.mpr (Or.inr rfl)
    by_cases c : z = y
    · rw [c] at ez
      have t1 := ((hτ _ uS).2 ⟨x, uxx⟩).1 x uxx
      rw [ux] at t1
      have e1 := be_1 (f := f) (x := y) hx uxx
      rw [ux, if_pos yx] at e1
      have e2 := be_1 (f := f) (x := x) hy sy
      rw [xy, if_neg (by decide)] at e2
      omega
    · have zx : z ≠ x := fun q => sx (by rw [← q]; exact hz)
      have m1 := cn_rm hz n
      rw [if_pos zn] at m1
      have i1 := ih (rm S z) (by omega) (rm_n hS) (rm_t.mpr ⟨sy, fun q => c q.symm⟩) (fun q => sx (rm_t.mp q).1) (fun w hw => hcov w (rm_t.mp hw).1)
      have uz : adS (rm S y) x z = true := adS_t.mpr (Or.inl (rm_t.mpr ⟨hz, c⟩))
      have eu : rm (adS (rm S y) x) z = adS (rm (rm S z) y) x := b_ext (fun j => by
        rw [rm_t, adS_t, adS_t, rm_t, rm_t, rm_t]
        constructor
        · rintro ⟨⟨a, b⟩ | a, d⟩
          · exact Or.inl ⟨⟨a, d⟩, b⟩
          · exact Or.inr a
        · rintro (⟨⟨a, b⟩, d⟩ | a)
          · exact ⟨Or.inl ⟨a, d⟩, b⟩
          · exact ⟨Or.inr a, fun q => zx (by rw [← q, a])⟩)
      have t1 := ((hτ _ uS).2 ⟨x, uxx⟩).1 z uz
      rw [eu] at t1
      have ux' : rm (adS (rm (rm S z) y) x) x = rm (rm S z) y := b_ext (fun j => by
        rw [rm_t, adS_t]
        constructor
        · rintro ⟨a | a, b⟩
          · exact a
          · exact absurd a b
        · intro a
          exact ⟨Or.inl a, fun q => sx (by rw [← q]; exact (rm_t.mp (rm_t.mp a).1).1)⟩)
      have e1 := be_1 (f := f) (x := y) zn uz
      rw [eu] at e1
      have e2 := be_1 (f := f) (x := x) zn hz
      have e3 := be_1 (f := f) (x := z) hx (adS_t.mpr (Or.inr rfl) : adS (rm (rm S z) y) x x = true)
      rw [ux'] at e3
      have e4 := be_1 (f := f) (x := z) hy (rm_t.mpr ⟨sy, fun q => c q.symm⟩ : rm S z y = true)
      have a1 : bt (f x) z = true → bt (f y) z = true := hcov z hz
      have a2 : bt (f z) x = !bt (f x) z := hT.2.2 z x zn hx zx
      have a3 : bt (f z) y = !bt (f y) z := hT.2.2 z y zn hy c
      rw [a2] at e3
      rw [a3] at e4
      cases p1 : bt (f x) z <;> cases p2 : bt (f y) z
      · rw [p1] at e2 e3
        rw [p2] at e1 e4
        rw [if_neg (by decide)] at e1 e2
        rw [show (!false) = true from rfl, if_pos rfl] at e3 e4
        omega
      · rw [p1] at e2 e3
        rw [p2] at e1 e4
        rw [if_pos rfl] at e1
        rw [if_neg (by decide)] at e2
        rw [show (!false) = true from rfl, if_pos rfl] at e3
        rw [show (!true) = false from rfl, if_neg (by decide)] at e4
        omega
      · rw [a1 p1] at p2
        cases p2
      · rw [p1] at e2 e3
        rw [p2] at e1 e4
        rw [if_pos rfl] at e1 e2
        rw [show (!true) = false from rfl, if_neg (by decide)] at e3 e4
        omega
theorem cov_L {f : Nat → Int32} {n x y : Nat} {τ : (Nat → Bool) → Nat} {S : Nat → Bool} (hT : Tn n f) (hτ : TB f n τ) (hS : ∀ j, S j = true → j < n) (sx : S x = true) (sy : S y = true) (yx : bt (f y) x = true) (hcov : ∀ z, S z = true → bt (f x) z = true → bt (f y) z = true) : τ S < be f n x (rm S x) + τ (rm S x) := by
  have h8 := hT.1
  have hy := hS y sy
  have ne : y ≠ x := (hT.2.1 y x (by omega) yx).2.2
  have a := cov_A hT hτ (hS x sx) hy yx _ (rm S x) (Nat.le_refl _) (rm_n hS) (rm_t.mpr ⟨sy, ne⟩) (fun q => (rm_t.mp q).2 rfl) (fun z hz => hcov z (rm_t.mp hz).1)
  have e : adS (rm (rm S x) y) x = rm S y := b_ext (fun j => by
    rw [adS_t, rm_t, rm_t, rm_t]
    constructor
    · rintro (⟨⟨p, q⟩, r⟩ | p)
      · exact ⟨p, r⟩
      · rw [p]
        exact ⟨sx, fun q => ne q.symm⟩
    · rintro ⟨p, q⟩
      by_cases c : j = x
      · exact Or.inr c
      · exact Or.inl ⟨⟨p, c⟩, q⟩)
  rw [e] at a
  have b := ((hτ S hS).2 ⟨y, sy⟩).1 y sy
  omega
/-- an arrow turned -/
def flp (f : Nat → Int32) (a b : Nat) : Nat → Int32 := fun i => if i = b then f i ^^^ ((1 : Int32) <<< (nI a &&& 31)) else if i = a then f i ^^^ ((1 : Int32) <<< (nI b &&& 31)) else f i
theorem flp_b {f : Nat → Int32} {a b i j : Nat} (ha : a < 8) (hb : b < 8) (h : ¬ (i = a ∧ j = b)) (h' : ¬ (i = b ∧ j = a)) (hj : j < 32) : bt (flp f a b i) j = bt (f i) j := by
  unfold flp
  by_cases c : i = b
  · rw [if_pos c, bt_xor, bt_one (by omega) hj, decide_eq_false (fun q => h' ⟨c, q⟩), Bool.xor_false]
  · rw [if_neg c]
    by_cases d : i = a
    · rw [if_pos d, bt_xor, bt_one (by omega) hj, decide_eq_false (fun q => h ⟨d, q⟩), Bool.xor_false]
    · rw [if_neg d]
theorem cn_dif {P Q : Nat → Bool} {b : Nat} (h : ∀ j, j ≠ b → P j = Q j) : ∀ n, cn P n ≤ cn Q n + 1 ∧ (n ≤ b → cn P n = cn Q n)
  | 0 => ⟨Nat.zero_le _, fun _ => rfl⟩
  | k + 1 => by
    obtain ⟨i1, i2⟩ := cn_dif h k
    have e1 : cn P (k + 1) = cn P k + if P k = true then 1 else 0 := rfl
    have e2 : cn Q (k + 1) = cn Q k + if Q k = true then 1 else 0 := rfl
    rw [e1, e2]
    by_cases c : k = b
    · have := i2 (by omega)
      refine ⟨?_, fun q => by omega⟩
      cases P k <;> cases Q k <;> simp <;> omega
    · rw [h k c]
      exact ⟨by omega, fun q => by rw [i2 (by omega)]⟩
theorem be_f {f : Nat → Int32} {n a b x : Nat} {R : Nat → Bool} (hn : n ≤ 8) (ha : a < 8) (hb : b < 8) : be (flp f a b) n x R ≤ be f n x R + 1 ∧ be f n x R ≤ be (flp f a b) n x R + 1 ∧ ((¬ x = a ∨ R b = false) → (¬ x = b ∨ R a = false) → be (flp f a b) n x R = be f n x R) := by
  have eqv : ∀ j, j < n → ¬ (x = a ∧ j = b) → ¬ (x = b ∧ j = a) → (R j && !bt (flp f a b x) j) = (R j && !bt (f x) j) := fun j hj h1 h2 => by
    rw [flp_b ha hb h1 h2 (by omega)]
  have cut : ∀ g : Nat → Int32, be g n x R = cn (fun j => decide (j < n) && (R j && !bt (g x) j)) n := fun g => cn_c n (fun j hj => by
    show (R j && !bt (g x) j) = (decide (j < n) && (R j && !bt (g x) j))
    rw [decide_eq_true hj, Bool.true_and])
  have one : ∃ c, ∀ j, j ≠ c → (decide (j < n) && (R j && !bt (flp f a b x) j)) = (decide (j < n) && (R j && !bt (f x) j)) := by
    by_cases xa : x = a
    · refine ⟨b, fun j hj => ?_⟩
      by_cases jn : j < n
      · by_cases xb : x = b
        · by_cases ja : j = a
          · exact absurd (ja.trans (xa.symm.trans xb)) hj
          · rw [eqv j jn (fun q => hj q.2) (fun q => ja q.2)]
        · rw [eqv j jn (fun q => hj q.2) (fun q => xb q.1)]
      · rw [decide_eq_false jn, Bool.false_and, Bool.false_and]
    · refine ⟨a, fun j hj => ?_⟩
      by_cases jn : j < n
      · rw [eqv j jn (fun q => xa q.1) (fun q => hj q.2)]
      · rw [decide_eq_false jn, Bool.false_and, Bool.false_and]
  obtain ⟨c, hc⟩ := one
  rw [cut f, cut (flp f a b)]
  refine ⟨(cn_dif hc n).1, (cn_dif (fun j hj => (hc j hj).symm) n).1, fun h1 h2 => cn_c n (fun j hj => ?_)⟩
  show (decide (j < n) && (R j && !bt (flp f a b x) j)) = (decide (j < n) && (R j && !bt (f x) j))
  congr 1
  by_cases c1' : x = a ∧ j = b
  · rcases h1 with z | z
    · exact absurd c1'.1 z
    · rw [c1'.2, z, Bool.false_and, Bool.false_and]
  · by_cases c2' : x = b ∧ j = a
    · rcases h2 with z | z
      · exact absurd c2'.1 z
      · rw [c2'.2, z, Bool.false_and, Bool.false_and]
    · exact eqv j hj c1' c2'
/-- by one turned arrow no more than one -/
theorem lip {f : Nat → Int32} {n a b : Nat} {τ τ' : (Nat → Bool) → Nat} (hn : n ≤ 8) (ha : a < n) (hb : b < n) (hab : a ≠ b) (hτ : TB f n τ) (hτ' : TB (flp f a b) n τ') : ∀ (k : Nat) (S : Nat → Bool), cn S n ≤ k → (∀ j, S j = true → j < n) → (τ S ≤ τ' S + (if S a = true ∧ S b = true then 1 else 0) ∧ τ' S ≤ τ S + (if S a = true ∧ S b = true then 1 else 0)) ∧ ∀ x, S x = true → be f n x (rm S x) + τ (rm S x) ≤ be (flp f a b) n x (rm S x) + τ' (rm S x) + (if S a = true ∧ S b = true then 1 else 0) ∧ be (flp f a b) n x (rm S x) + τ' (rm S x) ≤ be f n x (rm S x) + τ (rm S x) + (if S a = true ∧ S b = true then 1 else 0) := by
  intro k
  induction k with
  | zero =>
    intro S hc hS
    have z : ∀ j, S j = false := fun j => by
      cases q : S j
      · rfl
      · have := cn_z n (by omega : cn S n = 0) j (hS j q)
        rw [q] at this
        cases this
    rw [(hτ S hS).1 z, (hτ' S hS).1 z]
    refine ⟨⟨Nat.zero_le _, Nat.zero_le _⟩, fun x hx => ?_⟩
    rw [z x] at hx
    cases hx
  | succ k ih =>
    intro S hc hS
    have each : ∀ x, S x = true → be f n x (rm S x) + τ (rm S x) ≤ be (flp f a b) n x (rm S x) + τ' (rm S x) + (if S a = true ∧ S b = true then 1 else 0) ∧ be (flp f a b) n x (rm S x) + τ' (rm S x) ≤ be f n x (rm S x) + τ (rm S x) + (if S a = true ∧ S b = true then 1 else 0) := fun x hx => by
      have xn := hS x hx
      have m1 := cn_rm hx n
      rw [if_pos xn] at m1
      obtain ⟨⟨i1, i2⟩, -⟩ := ih (rm S x) (by omega) (rm_n hS)
      obtain ⟨b1', b2', b3'⟩ := be_f (f := f) (n := n) (x := x) (R := rm S x) hn (by omega : a < 8) (by omega : b < 8)
      by_cases c : S a = true ∧ S b = true
      · rw [if_pos c]
        by_cases d : x = a ∨ x = b
        · have nd : ¬ (rm S x a = true ∧ rm S x b = true) := fun q => by
            rcases d with z | z
            · exact (rm_t.mp q.1).2 z.symm
            · exact (rm_t.mp q.2).2 z.symm
          rw [if_neg nd] at i1 i2
          omega
        · have e := b3' (Or.inl (fun q => d (Or.inl q))) (Or.inl (fun q => d (Or.inr q)))
          rw [e]
          have le : (if rm S x a = true ∧ rm S x b = true then 1 else 0) ≤ 1 := by split <;> omega
          omega
      · have nd : ¬ (rm S x a = true ∧ rm S x b = true) := fun q => c ⟨(rm_t.mp q.1).1, (rm_t.mp q.2).1⟩
        rw [if_neg nd] at i1 i2
        rw [if_neg c]
        have e := b3' (by
          by_cases z : x = a
          · refine Or.inr ?_
            cases q : rm S x b
            · rfl
            · exact absurd ⟨by rw [← z]; exact hx, (rm_t.mp q).1⟩ c
          · exact Or.inl z) (by
          by_cases z : x = b
          · refine Or.inr ?_
            cases q : rm S x a
            · rfl
            · exact absurd ⟨(rm_t.mp q).1, by rw [← z]; exact hx⟩ c
          · exact Or.inl z)
        rw [e]
        omega
    refine ⟨?_, each⟩
    by_cases ne : ∃ j, S j = true
    · obtain ⟨l1, x1, x2, x3⟩ := (hτ S hS).2 ne
      obtain ⟨l2, y1, y2, y3⟩ := (hτ' S hS).2 ne
      have p1 := each y1 y2
      have p2 := each x1 x2
      have p3 := l1 y1 y2
      have p4 := l2 x1 x2
      omega
    · have z : ∀ j, S j = false := fun j => by
        cases q : S j
        · rfl
        · exact absurd ⟨j, q⟩ ne
      rw [(hτ S hS).1 z, (hτ' S hS).1 z]
      exact ⟨Nat.zero_le _, Nat.zero_le _⟩
