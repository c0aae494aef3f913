/-! pfaffians of sets: by any row; a row against the others is nothing -/
def rm (S : Nat → Bool) (v : Nat) : Nat → Bool := fun i => S i && !decide (i = v)
def dl (u v : Nat) : Int := if u = v then 0 else if v < u then -1 else 1
def sg (S : Nat → Bool) (i : Nat) : Int := if S i = true then (if cn S i % 2 = 0 then 1 else -1) else 0
theorem dl_s (u v : Nat) : dl u v = -(dl v u) := by
  unfold dl
  by_cases c : u = v
  · rw [if_pos c, if_pos c.symm]; rfl
  · rw [if_neg c, if_neg (show ¬ v = u from fun q => c q.symm)]
    by_cases d : v < u
    · rw [if_pos d, if_neg (show ¬ u < v by omega)]
    · rw [if_neg d, if_pos (show u < v by omega)]; rfl
theorem dl_0 (u : Nat) : dl u u = 0 := if_pos rfl
theorem dl_m {u v : Nat} (h : v < u) : dl u v = -1 := by
  unfold dl
  rw [if_neg (by omega), if_pos h]
theorem dl_p {u v : Nat} (h : u < v) : dl u v = 1 := by
  unfold dl
  rw [if_neg (by omega), if_neg (by omega)]
theorem rm_t {S : Nat → Bool} {v i : Nat} : rm S v i = true ↔ S i = true ∧ i ≠ v := by
  unfold rm
  rw [Bool.and_eq_true]
  by_cases c : i = v
  · rw [decide_eq_true c]
    exact ⟨fun h => absurd h.2 (by decide), fun h => absurd c h.2⟩
  · rw [decide_eq_false c]
    exact ⟨fun h => ⟨h.1, c⟩, fun h => ⟨h.1, rfl⟩⟩
theorem rm_c (S : Nat → Bool) (u v : Nat) : rm (rm S u) v = rm (rm S v) u := by
  funext i
  unfold rm
  rw [Bool.and_assoc, Bool.and_assoc, Bool.and_comm (!decide (i = u))]
theorem cn_rm {S : Nat → Bool} {v : Nat} (h : S v = true) : ∀ i, cn (rm S v) i + (if v < i then 1 else 0) = cn S i
  | 0 => by
    show 0 + _ = 0
    rw [if_neg (by omega)]
  | k + 1 => by
    have ih := cn_rm h k
    have e1 : cn (rm S v) (k + 1) = cn (rm S v) k + if rm S v k = true then 1 else 0 := rfl
    have e2 : cn S (k + 1) = cn S k + if S k = true then 1 else 0 := rfl
    rw [e1, e2]
    by_cases c : k = v
    · rw [c] at ih ⊢
      rw [if_neg (show ¬ v < v by omega)] at ih
      rw [if_neg (show ¬ rm S v v = true from fun q => (rm_t.mp q).2 rfl), if_pos (show v < v + 1 by omega), if_pos h]
      omega
    · have e3 : (if rm S v k = true then 1 else 0) = (if S k = true then 1 else 0 : Nat) := by
        by_cases d : S k = true
        · rw [if_pos d, if_pos (rm_t.mpr ⟨d, c⟩)]
        · rw [if_neg d, if_neg (fun q => d (rm_t.mp q).1)]
      rw [e3]
      by_cases d : v < k
      · rw [if_pos (show v < k + 1 by omega)]
        rw [if_pos d] at ih
        omega
      · rw [if_neg (show ¬ v < k + 1 by omega)]
        rw [if_neg d] at ih
        omega
theorem cn_z {S : Nat → Bool} : ∀ n, cn S n = 0 → ∀ j, j < n → S j = false
  | 0, _, j, hj => by omega
  | k + 1, h, j, hj => by
    have e2 : cn S (k + 1) = cn S k + if S k = true then 1 else 0 := rfl
    rw [e2] at h
    by_cases c : j = k
    · rw [c]
      cases d : S k
      · rfl
      · rw [d, if_pos rfl] at h
        omega
    · exact cn_z k (by omega) j (by omega)
theorem sg_0 {S : Nat → Bool} {i : Nat} (h : ¬ S i = true) : sg S i = 0 := if_neg h
theorem sg_rm {S : Nat → Bool} {v : Nat} (h : S v = true) (u : Nat) : sg (rm S v) u = dl u v * sg S u := by
  by_cases c : u = v
  · rw [sg_0 (fun q => (rm_t.mp q).2 c), c, dl_0, Int.zero_mul]
  · by_cases d : S u = true
    · have e := cn_rm h u
      unfold sg
      rw [if_pos (rm_t.mpr ⟨d, c⟩), if_pos d]
      by_cases k : v < u
      · rw [if_pos k] at e
        rw [dl_m k]
        by_cases z : cn S u % 2 = 0
        · rw [if_pos z, if_neg (by omega)]; rfl
        · rw [if_neg z, if_pos (by omega)]; rfl
      · rw [if_neg k] at e
        have e' : cn (rm S v) u = cn S u := by omega
        rw [dl_p (by omega), e', Int.one_mul]
    · rw [sg_0 d, sg_0 (fun q => d (rm_t.mp q).1), Int.mul_zero]
def lwS (S : Nat → Bool) : Nat → Nat
  | 0 => 0
  | n + 1 => if cn S n = 0 then n else lwS S n
theorem lwS_f {S : Nat → Bool} : ∀ n, 0 < cn S n → lwS S n < n ∧ S (lwS S n) = true ∧ ∀ j, j < lwS S n → S j = false
  | 0, h => absurd h (Nat.lt_irrefl 0)
  | n + 1, h => by
    have e2 : cn S (n + 1) = cn S n + if S n = true then 1 else 0 := rfl
    unfold lwS
    by_cases c : cn S n = 0
    · rw [if_pos c]
      refine ⟨by omega, ?_, cn_z n c⟩
      cases d : S n
      · rw [e2, d, if_neg (by decide)] at h
        omega
      · rfl
    · rw [if_neg c]
      obtain ⟨a, b, d⟩ := lwS_f (S := S) n (by omega)
      exact ⟨by omega, b, d⟩
theorem lwS_u {S : Nat → Bool} {n x : Nat} (hx : x < n) (h1 : S x = true) (h2 : ∀ j, j < x → S j = false) : lwS S n = x := by
  have pos : 0 < cn S n := by
    by_cases z : cn S n = 0
    · rw [cn_z n z x hx] at h1
      cases h1
    · omega
  obtain ⟨a, b, c⟩ := lwS_f n pos
  by_cases d : lwS S n < x
  · rw [h2 _ d] at b; cases b
  · by_cases e : x < lwS S n
    · rw [c _ e] at h1; cases h1
    · omega
theorem cn_lo {S : Nat → Bool} : ∀ x, (∀ j, j < x → S j = false) → cn S x = 0
  | 0, _ => rfl
  | x + 1, h => by
    show cn S x + (if S x = true then 1 else 0) = 0
    rw [cn_lo x (fun j hj => h j (by omega)), h x (by omega), if_neg (by decide)]
def pfB (A : Nat → Nat → Int) (n : Nat) : Nat → (Nat → Bool) → Int
  | 0, _ => 1
  | k + 1, S => si (fun j => sg (rm S (lwS S n)) j * A (lwS S n) j * pfB A n k (rm (rm S (lwS S n)) j)) n
theorem pf_x {A : Nat → Nat → Int} {n k x : Nat} {S : Nat → Bool} (e : lwS S n = x) : pfB A n (k + 1) S = si (fun j => sg (rm S x) j * A x j * pfB A n k (rm (rm S x) j)) n := by
  subst e
  rfl
/-- by any row -/
theorem pfE {A : Nat → Nat → Int} {n : Nat} (sk : ∀ x y, A x y = -(A y x)) : ∀ (k : Nat) (S : Nat → Bool) (t : Nat), cn S n = 2 * (k + 1) → t < n → S t = true → pfB A n (k + 1) S = sg S t * si (fun j => sg (rm S t) j * A t j * pfB A n k (rm (rm S t) j)) n := by
  intro k
  induction k with
  | zero =>
    intro S t hc ht hS
    obtain ⟨x1, x2, x3⟩ := lwS_f n (by omega : 0 < cn S n)
    obtain ⟨x, ex⟩ : ∃ x, x = lwS S n := ⟨_, rfl⟩
    rw [← ex] at x1 x2 x3
    rw [pf_x ex.symm]
    have sx : sg S x = 1 := by
      unfold sg
      rw [if_pos x2, cn_lo x x3]
      rfl
    by_cases c : t = x
    · rw [c, sx, Int.one_mul]
    · have xt : x < t := by
        by_cases d : t < x
        · rw [x3 t d] at hS; cases hS
        · omega
      have only : ∀ j, j < n → S j = true → j = x ∨ j = t := fun j hj hb => by
        have a1 := cn_rm x2 n
        have a2 := cn_rm (S := rm S x) (v := t) (rm_t.mpr ⟨hS, c⟩) n
        rw [if_pos x1] at a1
        rw [if_pos ht] at a2
        have a3 := cn_z n (by omega : cn (rm (rm S x) t) n = 0) j hj
        by_cases d : j = x
        · exact Or.inl d
        · by_cases e : j = t
          · exact Or.inr e
          · rw [rm_t.mpr ⟨rm_t.mpr ⟨hb, d⟩, e⟩] at a3
            cases a3
      have e1 : si (fun j => sg (rm S x) j * A x j * pfB A n 0 (rm (rm S x) j)) n = sg (rm S x) t * A x t := by
        rw [si_c (h := fun j => if j = t then sg (rm S x) j * A x j else 0) n (fun j hj => by
          show sg (rm S x) j * A x j * 1 = if j = t then sg (rm S x) j * A x j else 0
          by_cases d : j = t
          · rw [if_pos d, Int.mul_one]
          · rw [if_neg d, sg_0 (fun q => by
              rcases only j hj (rm_t.mp q).1 with z | z
              · exact (rm_t.mp q).2 z
              · exact d z), Int.zero_mul, Int.zero_mul]), si_pk n ht]
      have e2 : si (fun j => sg (rm S t) j * A t j * pfB A n 0 (rm (rm S t) j)) n = sg (rm S t) x * A t x := by
        rw [si_c (h := fun j => if j = x then sg (rm S t) j * A t j else 0) n (fun j hj => by
          show sg (rm S t) j * A t j * 1 = if j = x then sg (rm S t) j * A t j else 0
          by_cases d : j = x
          · rw [if_pos d, Int.mul_one]
          · rw [if_neg d, sg_0 (fun q => by
              rcases only j hj (rm_t.mp q).1 with z | z
              · exact d z
              · exact (rm_t.mp q).2 z), Int.zero_mul, Int.zero_mul]), si_pk n x1]
      rw [e1, e2, sg_rm x2, sg_rm hS, sx, dl_m xt, dl_p xt, sk t x, Int.one_mul, Int.one_mul, Int.mul_neg, Int.neg_mul, Int.one_mul, Int.neg_mul]
  | succ k ih =>
    intro S t hc ht hS
    obtain ⟨x1, x2, x3⟩ := lwS_f n (by omega : 0 < cn S n)
    obtain ⟨x, ex⟩ : ∃ x, x = lwS S n := ⟨_, rfl⟩
    rw [← ex] at x1 x2 x3
    rw [pf_x ex.symm]
    have sx : sg S x = 1 := by
      unfold sg
      rw [if_pos x2, cn_lo x x3]
      rfl
    by_cases c : t = x
    · rw [c, sx, Int.one_mul]
    · have above : ∀ j, S j = true → j ≠ x → x < j := fun j hj d => by
        by_cases e : j < x
        · rw [x3 j e] at hj; cases hj
        · omega
      have xt := above t hS c
      -- both sides as one double sum
      obtain ⟨T, eT⟩ : ∃ T, T = sg (rm S x) t * A x t * pfB A n (k + 1) (rm (rm S x) t) := ⟨_, rfl⟩
      obtain ⟨C, eC⟩ : ∃ C : Nat → Nat → Int, C = fun i j => (dl i x * sg S i * A x i) * ((dl t i * (dl t x * sg S t)) * ((dl j t * (dl j i * (dl j x * sg S j))) * A t j * pfB A n k (rm (rm (rm (rm S x) i) t) j))) := ⟨_, rfl⟩
      have L : si (fun i => sg (rm S x) i * A x i * pfB A n (k + 1) (rm (rm S x) i)) n = T + si (fun i => si (fun j => C i j) n) n := by
        rw [← si_pk (g := fun _ => T) n ht, ← si_add]
        refine si_c n (fun i hi => ?_)
        show sg (rm S x) i * A x i * pfB A n (k + 1) (rm (rm S x) i) = (if i = t then T else 0) + si (fun j => C i j) n
        by_cases d : i = t
        · rw [if_pos d, si_z n (fun j _ => by
            rw [eC]
            show (dl i x * sg S i * A x i) * ((dl t i * (dl t x * sg S t)) * _) = 0
            rw [d, dl_0, Int.zero_mul, Int.zero_mul, Int.mul_zero]), d, eT]
          omega
        · rw [if_neg d, Int.zero_add]
          by_cases e : rm S x i = true
          · have e' := rm_t.mp e
            have m1 := cn_rm x2 n
            have m2 := cn_rm e n
            rw [if_pos x1] at m1
            rw [if_pos hi] at m2
            rw [ih (rm (rm S x) i) t (by omega) ht (rm_t.mpr ⟨rm_t.mpr ⟨hS, c⟩, fun q => d q.symm⟩), sg_rm e t, sg_rm x2 t, sg_rm x2 i, ← si_mul, ← si_mul]
            refine si_c n (fun j _ => ?_)
            rw [eC, sg_rm (rm_t.mpr ⟨rm_t.mpr ⟨hS, c⟩, fun q => d q.symm⟩) j, sg_rm e j, sg_rm x2 j]
          · rw [sg_0 e, Int.zero_mul, Int.zero_mul, si_z n (fun j _ => ?_)]
            rw [eC]
            show (dl i x * sg S i * A x i) * _ = 0
            rw [← sg_rm x2 i, sg_0 e, Int.zero_mul, Int.zero_mul]
      have R : sg S t * si (fun j => sg (rm S t) j * A t j * pfB A n (k + 1) (rm (rm S t) j)) n = T + si (fun j => si (fun i => C i j) n) n := by
        rw [← si_pk (g := fun _ => T) n x1, ← si_add, ← si_mul]
        refine si_c n (fun j hj => ?_)
        show sg S t * (sg (rm S t) j * A t j * pfB A n (k + 1) (rm (rm S t) j)) = (if j = x then T else 0) + si (fun i => C i j) n
        by_cases d : j = x
        · rw [if_pos d, si_z n (fun i _ => by
            rw [eC]
            show _ * (_ * ((dl j t * (dl j i * (dl j x * sg S j))) * A t j * _)) = 0
            rw [d, dl_0, Int.zero_mul, Int.mul_zero, Int.mul_zero, Int.zero_mul, Int.zero_mul, Int.mul_zero, Int.mul_zero]), d, eT, sg_rm hS, sg_rm x2, sx, dl_m xt, dl_p xt, sk t x, rm_c S t x, Int.one_mul, Int.one_mul, Int.neg_mul, Int.mul_neg, Int.neg_mul, Int.one_mul, Int.neg_mul, Int.neg_mul, Int.add_zero, Int.mul_assoc]
        · rw [if_neg d, Int.zero_add]
          by_cases e : rm S t j = true
          · have e' := rm_t.mp e
            have xj := above j e'.1 d
            have lx : lwS (rm (rm S t) j) n = x := lwS_u x1 (rm_t.mpr ⟨rm_t.mpr ⟨x2, fun q => c q.symm⟩, fun q => d q.symm⟩) (fun i hi => by
              cases z : rm (rm S t) j i
              · rfl
              · have := (rm_t.mp (rm_t.mp z).1).1
                rw [x3 i hi] at this
                cases this)
            rw [pf_x lx, ← si_mul, ← si_mul]
            refine si_c n (fun i _ => ?_)
            have xi : rm (rm S t) j x = true := rm_t.mpr ⟨rm_t.mpr ⟨x2, fun q => c q.symm⟩, fun q => d q.symm⟩
            have es : rm (rm (rm (rm S x) i) t) j = rm (rm (rm (rm S t) j) x) i := by
              rw [rm_c (rm S x) i t, rm_c (rm (rm S x) t) i j, rm_c S x t, rm_c (rm S t) x j]
            rw [eC, sg_rm xi i, sg_rm e i, sg_rm hS i, sg_rm hS j]
            show sg S t * (dl j t * sg S j * A t j * (dl i x * (dl i j * (dl i t * sg S i)) * A x i * pfB A n k (rm (rm (rm (rm S t) j) x) i))) = (dl i x * sg S i * A x i) * ((dl t i * (dl t x * sg S t)) * ((dl j t * (dl j i * (dl j x * sg S j))) * A t j * pfB A n k (rm (rm (rm (rm S x) i) t) j)))
            rw [es, dl_m xt, dl_m xj, dl_s t i, dl_s j i]
            simp only [Int.mul_neg, Int.neg_mul, Int.neg_neg, Int.one_mul, Int.mul_assoc, Int.mul_comm, Int.mul_left_comm]
          · rw [sg_0 e, Int.zero_mul, Int.zero_mul, Int.mul_zero, si_z n (fun i _ => ?_)]
            rw [eC]
            show _ * (_ * ((dl j t * (dl j i * (dl j x * sg S j))) * A t j * _)) = 0
            have z : dl j t * sg S j = 0 := by rw [← sg_rm hS j, sg_0 e]
            have z2 : dl j t * (dl j i * (dl j x * sg S j)) = 0 := by
              rw [Int.mul_left_comm, Int.mul_left_comm (dl j t), z, Int.mul_zero, Int.mul_zero]
            rw [z2, Int.zero_mul, Int.zero_mul, Int.mul_zero, Int.mul_zero]
      rw [L, R, si_sw]
/-- an odd set: a row of its own against the others is nothing -/
theorem pfK {A : Nat → Nat → Int} {n : Nat} (sk : ∀ x y, A x y = -(A y x)) (k : Nat) (S : Nat → Bool) (t : Nat) (hc : cn S n = 2 * k + 1) (ht : t < n) (hS : S t = true) : si (fun j => sg S j * A t j * pfB A n k (rm S j)) n = 0 := by
  have A0 : A t t = 0 := by
    have := sk t t
    omega
  cases k with
  | zero =>
    refine si_z n (fun j hj => ?_)
    by_cases c : j = t
    · rw [c, A0, Int.mul_zero, Int.zero_mul]
    · rw [sg_0 (fun q => ?_), Int.zero_mul, Int.zero_mul]
      have a1 := cn_rm hS n
      rw [if_pos ht] at a1
      have a3 := cn_z n (by omega : cn (rm S t) n = 0) j hj
      rw [rm_t.mpr ⟨q, c⟩] at a3
      cases a3
  | succ k =>
    obtain ⟨H, eH⟩ : ∃ H : Nat → Nat → Int, H = fun j i => (sg S j * A t j) * ((dl t j * sg S t) * ((dl i t * (dl i j * sg S i)) * A t i * pfB A n k (rm (rm (rm S j) t) i))) := ⟨_, rfl⟩
    have e : si (fun j => sg S j * A t j * pfB A n (k + 1) (rm S j)) n = si (fun j => si (fun i => H j i) n) n := si_c n (fun j hj => by
      by_cases c : j = t
      · rw [si_z n (fun i _ => by
          rw [eH]
          show (sg S j * A t j) * _ = 0
          rw [c, A0, Int.mul_zero, Int.zero_mul]), c, A0, Int.mul_zero, Int.zero_mul]
      · by_cases d : S j = true
        · have m1 := cn_rm d n
          rw [if_pos hj] at m1
          have tj : rm S j t = true := rm_t.mpr ⟨hS, fun q => c q.symm⟩
          rw [pfE sk k (rm S j) t (by omega) ht tj, sg_rm d t, ← si_mul, ← si_mul]
          refine si_c n (fun i _ => ?_)
          rw [eH, sg_rm tj i, sg_rm d i]
        · rw [sg_0 d, Int.zero_mul, Int.zero_mul, si_z n (fun i _ => ?_)]
          rw [eH]
          show (sg S j * A t j) * _ = 0
          rw [sg_0 d, Int.zero_mul, Int.zero_mul])
    rw [e]
    refine si_as (fun j i => ?_)
    rw [eH]
    show (sg S j * A t j) * ((dl t j * sg S t) * ((dl i t * (dl i j * sg S i)) * A t i * pfB A n k (rm (rm (rm S j) t) i))) = -((sg S i * A t i) * ((dl t i * sg S t) * ((dl j t * (dl j i * sg S j)) * A t j * pfB A n k (rm (rm (rm S i) t) j))))
    have es : rm (rm (rm S i) t) j = rm (rm (rm S j) t) i := by
      rw [rm_c S i t, rm_c (rm S t) i j, rm_c S j t]
    rw [es, dl_s t i, dl_s j t, dl_s j i]
    simp only [Int.mul_neg, Int.neg_mul, Int.neg_neg, Int.mul_assoc, Int.mul_comm, Int.mul_left_comm]
