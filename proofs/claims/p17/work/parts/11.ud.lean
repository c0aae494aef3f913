/-! the balanced set is always there -/
theorem bt_nt {u j : Nat} (h : u < 2147483648) : bt (nI u) j = u.testBit j := by
  show (nI u).toBitVec.getLsbD j = _
  rw [← BitVec.testBit_toNat, nbv h]
def mkm (S : Nat → Bool) : Nat → Nat
  | 0 => 0
  | k + 1 => if S k = true then 2 ^ k + mkm S k else mkm S k
theorem mkm_f (S : Nat → Bool) : ∀ k, k ≤ 8 → mkm S k < 2 ^ k ∧ ∀ j, bt (nI (mkm S k)) j = (S j && decide (j < k))
  | 0, _ => ⟨by show 0 < 1; decide, fun j => by
      rw [decide_eq_false (show ¬ j < 0 by omega), Bool.and_false]
      exact bt_0 j⟩
  | k + 1, hk => by
    obtain ⟨a, b⟩ := mkm_f S k (by omega)
    have p8 : 2 ^ k ≤ 2 ^ 7 := Nat.pow_le_pow_right (n := 2) (by decide) (by omega : k ≤ 7)
    have e : 2 ^ (k + 1) = 2 * 2 ^ k := by rw [Nat.pow_succ]; omega
    unfold mkm
    by_cases c : S k = true
    · rw [if_pos c]
      refine ⟨by omega, fun j => ?_⟩
      rw [bt_nt (by omega)]
      by_cases d : j < k
      · rw [Nat.testBit_two_pow_add_gt d, ← bt_nt (by omega), b j, decide_eq_true d, decide_eq_true (show j < k + 1 by omega)]
      · by_cases e' : j = k
        · rw [e', Nat.testBit_two_pow_add_eq, Nat.testBit_lt_two_pow a, c, decide_eq_true (show k < k + 1 by omega)]
          rfl
        · rw [decide_eq_false (show ¬ j < k + 1 by omega), Bool.and_false]
          exact Nat.testBit_lt_two_pow (Nat.lt_of_lt_of_le (show 2 ^ k + mkm S k < 2 ^ (k + 1) by omega) (Nat.pow_le_pow_right (by decide) (by omega)))
    · rw [if_neg c]
      refine ⟨by omega, fun j => ?_⟩
      rw [b j]
      by_cases d : j = k
      · have : S k = false := by
          cases z : S k
          · rfl
          · exact absurd z c
        rw [d, this, Bool.false_and, Bool.false_and]
      · by_cases d2 : j < k
        · rw [decide_eq_true d2, decide_eq_true (show j < k + 1 by omega)]
        · rw [decide_eq_false d2, decide_eq_false (show ¬ j < k + 1 by omega)]
theorem cn_pcb : ∀ n, n < 9 → ∀ m, m < 2 ^ n → cn (bt (nI m)) n = pc (nI m) := by decide +kernel
def AA (f : Nat → Int32) (a : Nat) (x y : Nat) : Int := if bt (nI a) x = true ∧ bt (nI a) y = true ∧ x ≠ y then (if bt (f x) y = true then 1 else -1) else 0
theorem AA_p {f : Nat → Int32} {a x y : Nat} (h1 : bt (nI a) x = true) (h2 : bt (nI a) y = true) (h3 : x ≠ y) : AA f a x y = (ag f x y).toInt := by
  unfold AA ag
  rw [if_pos ⟨h1, h2, h3⟩]
  cases bt (f x) y
  · rw [if_neg (by decide), if_neg (by decide)]
    rfl
  · rw [if_pos rfl, if_pos rfl]
    rfl
theorem ag_pm (f : Nat → Int32) (x y : Nat) : ag f x y = 1 ∨ ag f x y = -1 := by
  unfold ag
  cases bt (f x) y
  · exact Or.inr (if_neg (by decide))
  · exact Or.inl (if_pos rfl)
theorem AA_s {f : Nat → Int32} {n a : Nat} (h8 : n ≤ 8) (hT : Tn n f) (ha : a < 2 ^ n) : sgs (AA f a) (bt (nI a)) := by
  refine ⟨fun x y => ?_, fun x y h1 h2 h3 => ?_⟩
  · by_cases c : bt (nI a) x = true ∧ bt (nI a) y = true ∧ x ≠ y
    · have t := hT.2.2 x y (bt_lo h8 ha c.1) (bt_lo h8 ha c.2.1) c.2.2
      have u1 : AA f a x y = if bt (f x) y = true then 1 else -1 := if_pos c
      have u2 : AA f a y x = if bt (f y) x = true then 1 else -1 := if_pos ⟨c.2.1, c.1, fun q => c.2.2 q.symm⟩
      rw [u1, u2, t]
      cases bt (f y) x
      · rfl
      · rfl
    · have u1 : AA f a x y = 0 := if_neg c
      have u2 : AA f a y x = 0 := if_neg (fun q => c ⟨q.2.1, q.1, fun z => q.2.2 z.symm⟩)
      rw [u1, u2]
      rfl
  · have u1 : AA f a x y = if bt (f x) y = true then 1 else -1 := if_pos ⟨h1, h2, h3⟩
    rw [u1]
    by_cases c : bt (f x) y = true
    · exact Or.inl (if_pos c)
    · exact Or.inr (if_neg c)
theorem tm_i {s g p : Int32} (hs : s = 1 ∨ s = -1) (hg : g = 1 ∨ g = -1) (hp : rg (-1000) 1000 p) : ((s * g) * p).toInt = s.toInt * g.toInt * p.toInt ∧ rg (-1000) 1000 ((s * g) * p) := by
  have o : (1 : Int32).toInt = 1 := by decide
  have o' : (-1 : Int32).toInt = -1 := by decide
  have m1 : (1 : Int32) * 1 = 1 := by decide
  have m2 : (1 : Int32) * (-1) = -1 := by decide
  have m3 : (-1 : Int32) * 1 = -1 := by decide
  have m4 : (-1 : Int32) * (-1) = 1 := by decide
  have a1 := hp.1
  have a2 := hp.2
  have ng : (-p).toInt = -(p.toInt) := by
    rw [Int32.toInt_neg, bm (by omega) (by omega)]
  have nr : rg (-1000) 1000 (-p) := rg_neg hp (by decide)
  rcases hs with rfl | rfl <;> rcases hg with rfl | rfl
  · rw [m1, Int32.one_mul, o]
    exact ⟨by omega, hp⟩
  · rw [m2, ← Int32.neg_eq_neg_one_mul, o, o', ng]
    exact ⟨by omega, nr⟩
  · rw [m3, ← Int32.neg_eq_neg_one_mul, o, o', ng]
    exact ⟨by omega, nr⟩
  · rw [m4, Int32.one_mul, o']
    exact ⟨by omega, hp⟩
theorem pfs_i {f P : Nat → Int32} {n a m x B : Nat} (hB : B ≤ 1000) (h8 : n ≤ 8) (hm : m < 256) (hx : x < 8) (hb : bt (nI m) x = true) (hma : ∀ j, bt (nI m) j = true → bt (nI a) j = true) (h : ∀ t, t < m → pc (nI t) + 2 = pc (nI m) → (∀ j, bt (nI t) j = true → bt (nI m) j = true) → rg (-(B : Int)) B (P t)) : ∀ k, k ≤ n → (pfs f P m x k).1.toInt = si (fun j => sg (rm (bt (nI m)) x) j * AA f a x j * (P (clr (clr (nI m) x) j).toNatClampNeg).toInt) k ∧ (pfs f P m x k).2.toInt = if cn (rm (bt (nI m)) x) k % 2 = 0 then 1 else -1
  | 0, _ => ⟨rfl, rfl⟩
  | k + 1, hk => by
    obtain ⟨i1, i2⟩ := pfs_i (f := f) hB h8 hm hx hb hma h k (by omega)
    obtain ⟨b1', b2'⟩ := pfs_b (f := f) hB hm hx hb h k (by omega)
    have cl := c1_le (clr (nI m) x) k
    have cb : c1 (clr (nI m) x) k * B ≤ 8 * 1000 := Nat.mul_le_mul (by omega) hB
    have er : rm (bt (nI m)) x k = bt (clr (nI m) x) k := (clr_bt hx (by omega)).symm
    have ec : cn (rm (bt (nI m)) x) (k + 1) = cn (rm (bt (nI m)) x) k + if rm (bt (nI m)) x k = true then 1 else 0 := rfl
    show (pfs f P m x (k + 1)).1.toInt = si (fun j => sg (rm (bt (nI m)) x) j * AA f a x j * (P (clr (clr (nI m) x) j).toNatClampNeg).toInt) k + sg (rm (bt (nI m)) x) k * AA f a x k * (P (clr (clr (nI m) x) k).toNatClampNeg).toInt ∧ _
    rw [ec, er]
    unfold pfs
    cases c : bt (clr (nI m) x) k
    · rw [if_neg (show ¬ (false = true) by decide), if_neg (show ¬ (false = true) by decide), sg_0 (by rw [er, c]; decide), Int.zero_mul, Int.zero_mul, Int.add_zero, Nat.add_zero]
      exact ⟨i1, i2⟩
    · have ct := c
      obtain ⟨t, t1, -, t2, t3, t4⟩ := clr2 hm hx (show k < 8 by omega) hb c
      have rt := h t t1 t3 t4
      rw [if_pos rfl, if_pos rfl]
      show ((pfs f P m x k).1 + ((pfs f P m x k).2 * ag f x k) * P (clr (clr (nI m) x) k).toNatClampNeg).toInt = _ ∧ (-(pfs f P m x k).2).toInt = _
      rw [t2]
      obtain ⟨g1, g2⟩ := tm_i b2' (ag_pm f x k) (rg_w rt ⟨by omega, by omega⟩)
      have g3 := g2.1
      have g4 := g2.2
      have g5 := b1'.1
      have g6 := b1'.2
      rw [← er] at ct
      have kx := rm_t.mp ct
      have es : sg (rm (bt (nI m)) x) k = (pfs f P m x k).2.toInt := by
        unfold sg
        rw [if_pos ct, i2]
      refine ⟨?_, ?_⟩
      · rw [i_add (by omega) (by omega), i1, g1, es, AA_p (hma x hb) (hma k kx.1) (fun q => kx.2 q.symm)]
      · by_cases z : cn (rm (bt (nI m)) x) k % 2 = 0
        · rw [if_pos z] at i2
          rw [if_neg (show ¬ (cn (rm (bt (nI m)) x) k + 1) % 2 = 0 by omega), Int32.toInt_neg, i2]
          rfl
        · rw [if_neg z] at i2
          rw [if_pos (show (cn (rm (bt (nI m)) x) k + 1) % 2 = 0 by omega), Int32.toInt_neg, i2]
          rfl
/-- the table holds the pfaffians -/
theorem pf_i {f P : Nat → Int32} {n a : Nat} (h8 : n ≤ 8) (ha : a < 2 ^ n) (h0 : P 0 = 1) (hE : ∀ m, 0 < m → m ≤ a → (nI m &&& (nI a ^^^ (-1 : Int32))) = 0 → pc (nI m) % 2 = 0 → pfe f n P m) : ∀ b m, m ≤ b → m ≤ a → (nI m &&& (nI a ^^^ (-1 : Int32))) = 0 → pc (nI m) % 2 = 0 → (P m).toInt = pfB (AA f a) n (pc (nI m) / 2) (bt (nI m)) := by
  have hp : (2 : Nat) ^ n ≤ 256 := Nat.pow_le_pow_right (n := 2) (by decide) h8
  have dl : ∀ k, k ≤ 8 → dfa k ≤ 1000 := by decide
  have z0 : pc (nI 0) = 0 := by decide
  intro b
  induction b with
  | zero =>
    intro m h1 _ _ _
    have : m = 0 := by omega
    rw [this, h0, z0]
    rfl
  | succ b ih =>
    intro m h1 h2 h3 h4
    by_cases m0 : m = 0
    · rw [m0, h0, z0]
      rfl
    obtain ⟨x, lx, ex⟩ := hE m (by omega) h2 h3 h4
    have hx := lx.1
    have p8 := pc_8 (nI m)
    have xn : x < n := bt_lo h8 (by omega : m < 2 ^ n) lx.2.1
    have lwx : lwS (bt (nI m)) n = x := lwS_u xn lx.2.1 lx.2.2
    have hc := cn_pcb n (by omega) m (by omega)
    have pos : 0 < pc (nI m) := by
      rw [← hc]
      by_cases z : cn (bt (nI m)) n = 0
      · have := cn_z n z x xn
        rw [lx.2.1] at this
        cases this
      · omega
    obtain ⟨k, ek⟩ : ∃ k, pc (nI m) = 2 * (k + 1) := ⟨pc (nI m) / 2 - 1, by omega⟩
    have hma : ∀ j, bt (nI m) j = true → bt (nI a) j = true := fun j hj => by
      have := bt_8 (by omega : m < 256) hj
      exact wi_iff.mp h3 j (by omega) hj
    have sub' : ∀ t, (∀ j, bt (nI t) j = true → bt (nI m) j = true) → (nI t &&& (nI a ^^^ (-1 : Int32))) = 0 := fun t ht => wi_iff.mpr (fun j _ hj => hma j (ht j hj))
    have bnd' : ∀ t, t < m → pc (nI t) + 2 = pc (nI m) → (∀ j, bt (nI t) j = true → bt (nI m) j = true) → rg (-((1000 : Nat) : Int)) ((1000 : Nat) : Int) (P t) := fun t t1 t2 t3 => by
      have r := pf_b h8 ha h0 hE t t (Nat.le_refl _) (by omega) (sub' t t3) (by omega)
      have := dl (pc (nI t)) (by omega)
      exact rg_w r ⟨by omega, by omega⟩
    have e2 : pc (nI m) / 2 = k + 1 := by omega
    rw [ex, (pfs_i (a := a) (by decide) h8 (by omega : m < 256) hx lx.2.1 hma bnd' n (Nat.le_refl _)).1, e2, pf_x lwx]
    refine si_c n (fun j hj => ?_)
    by_cases c : rm (bt (nI m)) x j = true
    · have cj : bt (clr (nI m) x) j = true := by
        rw [clr_bt hx (by omega)]
        exact c
      obtain ⟨t, t1, t0, t2, t3, t4⟩ := clr2 (by omega : m < 256) hx (by omega : j < 8) lx.2.1 cj
      have fe : bt (nI t) = rm (rm (bt (nI m)) x) j := by
        funext i
        by_cases i32 : i < 32
        · rw [← t0, clr2_bt hx (by omega) i32]
          rfl
        · rw [bt_ge (by omega)]
          cases z : rm (rm (bt (nI m)) x) j i
          · rfl
          · have := (rm_t.mp (rm_t.mp z).1).1
            rw [bt_ge (by omega)] at this
            cases this
      have e3 : pc (nI t) / 2 = k := by omega
      rw [t2, ih t (by omega) (by omega) (sub' t t4) (by omega), e3, fe]
    · rw [sg_0 c, Int.zero_mul, Int.zero_mul, Int.zero_mul]
/-- the sign that the first one is given -/
theorem fc_i {P : Nat → Int32} {m x0 : Nat} (h1 : bt (nI m) x0 = true) (h2 : ∀ j, j < x0 → bt (nI m) j = false) : ∃ s : Int32, (s = 1 ∨ s = -1) ∧ s = fx P m x0 0 ∧ ∀ k, (cn (bt (nI m)) k = 0 ∧ k ≤ x0 ∧ fc P m k = 0) ∨ (x0 < k ∧ 0 < cn (bt (nI m)) k ∧ (fc P m k = 1 ∨ fc P m k = -1) ∧ (fc P m k).toInt = s.toInt * (if cn (bt (nI m)) k % 2 = 0 then 1 else -1)) := by
  have o : (1 : Int32).toInt = 1 := by decide
  have o' : (-1 : Int32).toInt = -1 := by decide
  have nn : -(-1 : Int32) = 1 := by decide
  refine ⟨fx P m x0 0, fx_pm (Or.inl rfl), rfl, fun k => ?_⟩
  have spm : fx P m x0 0 = 1 ∨ fx P m x0 0 = -1 := fx_pm (Or.inl rfl)
  induction k with
  | zero => exact Or.inl ⟨rfl, by omega, rfl⟩
  | succ k ih =>
    have ec : cn (bt (nI m)) (k + 1) = cn (bt (nI m)) k + if bt (nI m) k = true then 1 else 0 := rfl
    have ef : fc P m (k + 1) = if bt (nI m) k = true then -(fx P m k (fc P m k)) else fc P m k := rfl
    rw [ec, ef]
    cases c : bt (nI m) k
    · rw [if_neg (by decide), if_neg (by decide)]
      rcases ih with ⟨a1, a2, a3⟩ | ⟨a1, a2, a3, a4⟩
      · refine Or.inl ⟨a1, ?_, a3⟩
        by_cases d : k = x0
        · rw [d, h1] at c
          cases c
        · omega
      · exact Or.inr ⟨by omega, a2, a3, a4⟩
    · rw [if_pos rfl, if_pos rfl]
      rcases ih with ⟨a1, a2, a3⟩ | ⟨a1, a2, a3, a4⟩
      · have d : k = x0 := by
          by_cases d : k < x0
          · rw [h2 k d] at c
            cases c
          · omega
        rw [a1, a3, d]
        refine Or.inr ⟨by omega, by omega, ?_, ?_⟩
        · rcases spm with z | z
          · exact Or.inr (by rw [z])
          · exact Or.inl (by rw [z]; decide)
        · rw [if_neg (show ¬ (0 + 1) % 2 = 0 by decide)]
          rcases spm with z | z
          · rw [z]; decide
          · rw [z]; decide
      · have e : fx P m k (fc P m k) = fc P m k := by
          unfold fx
          rw [if_neg]
          intro z
          rcases a3 with q | q
          · rw [q] at z; exact absurd z (by decide)
          · rw [q] at z; exact absurd z (by decide)
        rw [e]
        refine Or.inr ⟨by omega, by omega, ?_, ?_⟩
        · rcases a3 with q | q
          · exact Or.inr (by rw [q])
          · exact Or.inl (by rw [q]; decide)
        · have ng : (-(fc P m k)).toInt = -((fc P m k).toInt) := by
            rcases a3 with q | q
            · rw [q]; decide
            · rw [q]; decide
          rw [ng, a4]
          by_cases z : cn (bt (nI m)) k % 2 = 0
          · rw [if_pos z, if_neg (show ¬ (cn (bt (nI m)) k + 1) % 2 = 0 by omega)]
            omega
          · rw [if_neg z, if_pos (show (cn (bt (nI m)) k + 1) % 2 = 0 by omega)]
            omega
theorem vv_i {P : Nat → Int32} {m x0 : Nat} (h1 : bt (nI m) x0 = true) (h2 : ∀ j, j < x0 → bt (nI m) j = false) (hb : ∀ k, k < 8 → bt (nI m) k = true → rg (-1000) 1000 (P (clr (nI m) k).toNatClampNeg)) : ∃ s : Int32, (s = 1 ∨ s = -1) ∧ s = fx P m x0 0 ∧ ∀ k, k < 8 → (vv P m k).toInt = s.toInt * (sg (bt (nI m)) k * (P (clr (nI m) k).toNatClampNeg).toInt) := by
  obtain ⟨s, s1, s2, s3⟩ := fc_i (P := P) h1 h2
  refine ⟨s, s1, s2, fun k hk => ?_⟩
  unfold vv
  by_cases c : bt (nI m) k = true
  · rw [if_pos c]
    have r := hb k hk c
    have one : (1 : Int32) = 1 ∨ (1 : Int32) = -1 := Or.inl rfl
    have o : (1 : Int32).toInt = 1 := by decide
    have key : ∃ u : Int32, (u = 1 ∨ u = -1) ∧ fx P m k (fc P m k) = u ∧ u.toInt = s.toInt * sg (bt (nI m)) k := by
      rcases s3 k with ⟨a1, a2, a3⟩ | ⟨a1, a2, a3, a4⟩
      · have d : k = x0 := by
          by_cases d : k < x0
          · rw [h2 k d] at c; cases c
          · omega
        refine ⟨s, s1, by rw [a3, d]; exact s2.symm, ?_⟩
        unfold sg
        rw [if_pos c, a1, if_pos (show 0 % 2 = 0 by decide), Int.mul_one]
      · have e : fx P m k (fc P m k) = fc P m k := by
          unfold fx
          rw [if_neg]
          intro z
          rcases a3 with q | q
          · rw [q] at z; exact absurd z (by decide)
          · rw [q] at z; exact absurd z (by decide)
        refine ⟨fc P m k, a3, e, ?_⟩
        rw [a4]
        unfold sg
        rw [if_pos c]
    obtain ⟨u, u1, u2, u3⟩ := key
    have t := (tm_i one u1 r).1
    rw [Int32.one_mul, o, Int.one_mul] at t
    rw [u2, t, u3, Int.mul_assoc]
  · rw [if_neg c, sg_0 c, Int.zero_mul, Int.mul_zero]
    rfl
theorem gF_i {f v : Nat → Int32} {n a x : Nat} (h8 : n ≤ 8) (hx : bt (nI a) x = true) (hv : ∀ k, k < n → rg (-15) 15 (v k)) (ho : ∀ k, bt (nI a) k = false → v k = 0) : ∀ k, k ≤ n → (gF f v x k).toInt = si (fun j => AA f a x j * (v j).toInt) k ∧ rg (-(15 * (k : Int))) (15 * (k : Int)) (gF f v x k)
  | 0, _ => ⟨rfl, by
      show rg _ _ (0 : Int32)
      have z : (0 : Int32).toInt = 0 := by decide
      unfold rg
      omega⟩
  | k + 1, hk => by
    obtain ⟨i1, i2⟩ := gF_i (f := f) h8 hx hv ho k (by omega)
    have e : ((k + 1 : Nat) : Int) = (k : Int) + 1 := rfl
    have rk := hv k (by omega)
    have r1 := rk.1
    have r2 := rk.2
    have j1 := i2.1
    have j2 := i2.2
    show (gF f v x (k + 1)).toInt = si (fun j => AA f a x j * (v j).toInt) k + AA f a x k * (v k).toInt ∧ _
    have eg : gF f v x (k + 1) = if k = x then gF f v x k else gF f v x k + (if bt (f x) k = true then v k else -(v k)) := rfl
    rw [eg]
    by_cases c : k = x
    · have z : AA f a x k = 0 := if_neg (fun q => q.2.2 c.symm)
      rw [if_pos c, z, Int.zero_mul, Int.add_zero]
      exact ⟨i1, rg_w i2 ⟨by omega, by omega⟩⟩
    · rw [if_neg c]
      have ng : (-(v k)).toInt = -((v k).toInt) := by
        rw [Int32.toInt_neg, bm (by omega) (by omega)]
      have key : ∃ w : Int32, (if bt (f x) k = true then v k else -(v k)) = w ∧ rg (-15) 15 w ∧ w.toInt = AA f a x k * (v k).toInt := by
        cases d : bt (nI a) k
        · have vz := ho k d
          refine ⟨0, ?_, by decide, ?_⟩
          · rw [vz]
            cases bt (f x) k
            · rfl
            · rfl
          · rw [vz]
            show (0 : Int) = AA f a x k * 0
            rw [Int.mul_zero]
        · have u : AA f a x k = if bt (f x) k = true then 1 else -1 := if_pos ⟨hx, d, fun q => c q.symm⟩
          rw [u]
          cases bt (f x) k
          · refine ⟨-(v k), rfl, rg_neg rk (by decide), ?_⟩
            rw [ng, if_neg (by decide)]
            omega
          · refine ⟨v k, rfl, rk, ?_⟩
            rw [if_pos rfl, Int.one_mul]
      obtain ⟨w, w1, w2, w3⟩ := key
      have w4 := w2.1
      have w5 := w2.2
      rw [w1, i_add (by omega) (by omega), i1, w3]
      exact ⟨rfl, rg_add i2 w2 ⟨⟨by omega, by omega⟩, by omega, by omega⟩⟩
theorem okb_ex {f P : Nat → Int32} {n a : Nat} (h8 : n ≤ 8) (hT : Tn n f) (ha1 : 1 ≤ a) (ha : a < 2 ^ n) (p0 : P 0 = 1) (hE : ∀ m, 0 < m → m ≤ a → (nI m &&& (nI a ^^^ (-1 : Int32))) = 0 → pc (nI m) % 2 = 0 → pfe f n P m) : ∃ m, 1 ≤ m ∧ m ≤ a ∧ okb f P n a m := by
  have hp : (2 : Nat) ^ n ≤ 256 := Nat.pow_le_pow_right (n := 2) (by decide) h8
  have hA := AA_s h8 hT ha
  obtain ⟨y0, y1, y2⟩ : ∃ y, y < n ∧ bt (nI a) y = true := by
    obtain ⟨y, ya, yb⟩ := bt_ne0 (x := nI a) (nI_rg (by omega) (by omega)) (fun q => by
      have := nI_inj (by omega) (by decide) (show nI a = nI 0 from q)
      omega)
    exact ⟨y, bt_lo h8 ha yb, yb⟩
  obtain ⟨S, S1, S2, S3⟩ := exS (A := AA f a) y1 y2 hA (fun x y h => if_neg (fun q => by rw [h] at q; exact absurd q.1 (by decide)))
  obtain ⟨m1, m2⟩ := mkm_f S n h8
  obtain ⟨m, em⟩ : ∃ m, m = mkm S n := ⟨_, rfl⟩
  rw [← em] at m1 m2
  have fe : bt (nI m) = S := by
    funext j
    rw [m2 j]
    cases c : S j
    · rfl
    · rw [decide_eq_true (S1 j c).1]
      rfl
  have hma : ∀ j, bt (nI m) j = true → bt (nI a) j = true := fun j hj => by
    rw [fe] at hj
    exact (S1 j hj).2
  have hw : (nI m &&& (nI a ^^^ (-1 : Int32))) = 0 := wi_iff.mpr (fun j _ hj => hma j hj)
  have mle : m ≤ a := wi_le (by omega) (by omega) hw
  have hc := cn_pcb n (by omega) m m1
  rw [fe] at hc
  have ho : pc (nI m) % 2 = 1 := by rw [← hc]; exact S2
  obtain ⟨l1, l2, l3⟩ := lwS_f (S := S) n (by omega)
  obtain ⟨x0, ex0⟩ : ∃ x0, x0 = lwS S n := ⟨_, rfl⟩
  rw [← ex0] at l1 l2 l3
  obtain ⟨K, eK⟩ : ∃ K, pc (nI m) = 2 * K + 1 := ⟨pc (nI m) / 2, by omega⟩
  have m0 : 1 ≤ m := by
    by_cases z : m = 0
    · rw [z] at ho
      exact absurd ho (by decide)
    · omega
  have v15 := vv_15 h8 ha p0 hE m1 hw ho
  have pcl : ∀ k, k < 8 → bt (nI m) k = true → rg (-1000) 1000 (P (clr (nI m) k).toNatClampNeg) ∧ (P (clr (nI m) k).toNatClampNeg).toInt = pfB (AA f a) n K (rm S k) := fun k hk hb => by
    obtain ⟨a1, a2, a3, a4⟩ := clr_ev (by omega : m < 256) hk hw ho hb
    have r := pf_b h8 ha p0 hE _ _ (Nat.le_refl _) (by omega) a2 a3
    have d15 : ∀ k, k ≤ 8 → dfa k ≤ 1000 := by decide
    have p8 := pc_8 (nI (clr (nI m) k).toNatClampNeg)
    have := d15 _ p8
    refine ⟨rg_w r ⟨by omega, by omega⟩, ?_⟩
    have e3 : pc (nI (clr (nI m) k).toNatClampNeg) / 2 = K := by omega
    have fe2 : bt (nI (clr (nI m) k).toNatClampNeg) = rm S k := by
      rw [← (clr_f m (by omega) k hk).2.1, ← fe]
      funext i
      by_cases i32 : i < 32
      · rw [clr_bt hk i32]
        rfl
      · rw [bt_ge (by omega)]
        cases z : rm (bt (nI m)) k i
        · rfl
        · have := (rm_t.mp z).1
          rw [bt_ge (by omega)] at this
          cases this
    rw [pf_i h8 ha p0 hE _ _ (Nat.le_refl _) (by omega) a2 a3, e3, fe2]
  have hb0 : bt (nI m) x0 = true := by rw [fe]; exact l2
  obtain ⟨s, s1, s2, s3⟩ := vv_i (P := P) (m := m) (x0 := x0) hb0 (by rw [fe]; exact l3) (fun k hk hb => (pcl k hk hb).1)
  have off : ∀ y, S y = false → vv P m y = 0 := fun y hy => by
    unfold vv
    rw [fe, hy, if_neg (by decide)]
  have hkr : kr (AA f a) n S (fun y => (vv P m y).toInt) := by
    refine ⟨fun y hy => by show (vv P m y).toInt = 0; rw [off y hy]; rfl, fun x hx hS => ?_⟩
    have e : si (fun y => AA f a x y * (vv P m y).toInt) n = s.toInt * si (fun j => sg S j * AA f a x j * pfB (AA f a) n K (rm S j)) n := by
      rw [← si_mul]
      refine si_c n (fun j hj => ?_)
      rw [s3 j (by omega), fe]
      by_cases c : S j = true
      · rw [(pcl j (by omega) (by rw [fe]; exact c)).2, Int.mul_left_comm]
        congr 1
        rw [← Int.mul_assoc, Int.mul_comm (AA f a x j)]
      · rw [sg_0 c, Int.zero_mul, Int.mul_zero, Int.mul_zero, Int.zero_mul, Int.zero_mul, Int.mul_zero]
    show si (fun y => AA f a x y * (vv P m y).toInt) n = 0
    rw [e, pfK hA.1 K S x (by omega) hx hS, Int.mul_zero]
  have hSS : sgs (AA f a) S := ⟨hA.1, fun x y h1 h2 h3 => hA.2 x y (S1 x h1).2 (S1 y h2).2 h3⟩
  have pos : 0 < (vv P m x0).toInt := by
    have m2' := cn_rm l2 n
    rw [if_pos l1] at m2'
    have od := pf_odd (A := AA f a) (n := n) K (rm S x0) ⟨hSS.1, fun x y h1 h2 h3 => hSS.2 x y (rm_t.mp h1).1 (rm_t.mp h2).1 h3⟩ (fun y h => (S1 y (rm_t.mp h).1).1) (by omega)
    have px := pcl x0 (by omega) hb0
    rw [s3 x0 (by omega), fe]
    have sx : sg S x0 = 1 := by
      unfold sg
      rw [if_pos l2, cn_lo x0 l3]
      rfl
    rw [sx, Int.one_mul, s2]
    unfold fx
    rw [if_pos rfl]
    have z0 : (0 : Int32).toInt = 0 := by decide
    have o : (1 : Int32).toInt = 1 := by decide
    have o' : (-1 : Int32).toInt = -1 := by decide
    rw [← px.2] at od
    by_cases c : P (clr (nI m) x0).toNatClampNeg ≤ 0
    · rw [if_pos c, o']
      rw [i_le, z0] at c
      omega
    · rw [if_neg c, o]
      rw [i_le, z0] at c
      omega
  obtain ⟨r1, r2⟩ := S3 _ x0 hkr l2 pos
  have z0 : (0 : Int32).toInt = 0 := by decide
  refine ⟨m, m0, mle, hw, ho, fun j hj hb => ?_, fun x hx hb => ?_⟩
  · rw [i_lt, z0]
    exact r1 j (by rw [← fe]; exact hb)
  · rw [i_le, z0, (gF_i (a := a) h8 hb (fun k hk => v15 k (by omega)) (fun k hk => off k (by
      cases z : S k
      · rfl
      · rw [(S1 k z).2] at hk
        cases hk)) n (Nat.le_refl _)).1]
    exact r2 x hx
