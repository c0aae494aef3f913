/-! best answers alike -/
theorem wi_iff {x y : Int32} : (x &&& (y ^^^ (-1 : Int32))) = 0 ↔ ∀ j, j < 32 → bt x j = true → bt y j = true := by
  constructor
  · intro h j hj hx
    have e := congrArg (fun z => bt z j) h
    have e2 : bt (x &&& (y ^^^ (-1 : Int32))) j = bt 0 j := e
    rw [bt_and, bt_not _ hj, bt_0, hx] at e2
    cases q : bt y j
    · rw [q] at e2; cases e2
    · rfl
  · intro h
    refine bt_ext (fun j hj => ?_)
    rw [bt_and, bt_not _ hj, bt_0]
    cases q : bt x j
    · rfl
    · rw [h j hj q]; rfl
theorem clr_bt {m x j : Nat} (hx : x < 8) (hj : j < 32) : bt (clr (nI m) x) j = (bt (nI m) j && !decide (j = x)) := by
  unfold clr
  rw [bt_and, bt_not _ hj, bt_one (by omega) hj]
theorem pc_le7 {f : Nat → Int32} {m x : Nat} (hx : x < 8) (hb : bt (nI m) x = true) (y : Int32) : pc (clr (nI m) x &&& y) ≤ 7 := by
  have h1 : pc (clr (nI m) x &&& y) < pc (nI m) := by
    refine pc_lt (fun j hj h => ?_) hx ?_ hb
    · rw [bt_and, clr_bt hx (by omega)] at h
      cases q : bt (nI m) j
      · rw [q] at h; cases h
      · rfl
    · rw [bt_and, clr_bt hx (by omega), decide_eq_true rfl, hb]; rfl
  have := pc_8 (nI m)
  omega
theorem tab_e {f T W T' W' : Nat → Int32} {n a : Nat} (h8 : n ≤ 8) (ha : a < 2 ^ n) (hok : ∀ m, m < 2 ^ n → rg 0 (8 * (pc (nI m) : Int)) (T' m)) (h0 : T 0 = 0 ∧ W 0 = 1) (h0' : T' 0 = 0 ∧ W' 0 = 1) (hE : ∀ m, 0 < m → m ≤ a → (nI m &&& (nI a ^^^ (-1 : Int32))) = 0 → eqn 64 f n T W m) (hE' : ∀ m, 0 < m → m < 2 ^ n → eqn 99 f n T' W' m) : ∀ m, m ≤ a → (nI m &&& (nI a ^^^ (-1 : Int32))) = 0 → T m = T' m ∧ W m = W' m := by
  have hp : (2 : Nat) ^ n ≤ 256 := Nat.pow_le_pow_right (n := 2) (by decide) h8
  have main : ∀ b m, m ≤ b → m ≤ a → (nI m &&& (nI a ^^^ (-1 : Int32))) = 0 → T m = T' m ∧ W m = W' m := by
    intro b
    induction b with
    | zero =>
      intro m h1 _ _
      have : m = 0 := by omega
      rw [this]
      exact ⟨h0.1.trans h0'.1.symm, h0.2.trans h0'.2.symm⟩
    | succ b ih =>
      intro m h1 h2 h3
      by_cases c : m = 0
      · exact ih m (by omega) h2 h3
      · have e1 := hE m (by omega) h2 h3
        have e2 := hE' m (by omega) (by omega)
        have cl : ∀ x, x < 8 → bt (nI m) x = true → T (clr (nI m) x).toNatClampNeg = T' (clr (nI m) x).toNatClampNeg ∧ W (clr (nI m) x).toNatClampNeg = W' (clr (nI m) x).toNatClampNeg := fun x hx hb => by
          obtain ⟨c1, c2, c3⟩ := clr_f m (by omega) x hx
          have c4 := (c3 hb).1
          refine ih _ (by omega) (by omega) ?_
          rw [← c2, wi_iff]
          intro j hj hj2
          rw [clr_bt hx hj] at hj2
          refine wi_iff.mp h3 j hj ?_
          cases q : bt (nI m) j
          · rw [q] at hj2; cases hj2
          · rfl
        have fe : ∀ z k, k ≤ 8 → fo z f T W m k = fo z f T' W' m k := by
          intro z k
          induction k with
          | zero => intro _; rfl
          | succ k ihk =>
            intro hk
            unfold fo
            by_cases hb : bt (nI m) k = true
            · rw [if_pos hb, if_pos hb, ihk (by omega), (cl k (by omega) hb).2]
              unfold vl
              rw [(cl k (by omega) hb).1]
            · rw [if_neg hb, if_neg hb, ihk (by omega)]
        have hv : ∀ x, x < 8 → bt (nI m) x = true → rg 0 63 (vl f T' m x) := fun x hx hb => by
          obtain ⟨c1, c2, c3⟩ := clr_f m (by omega) x hx
          obtain ⟨c4, c5⟩ := c3 hb
          have r := hok (clr (nI m) x).toNatClampNeg (by omega)
          rw [← c2] at r
          have p8 := pc_8 (nI m)
          have p7 := pc_le7 (f := f) hx hb (f x ^^^ (-1 : Int32))
          unfold vl
          exact rg_add (nI_rg (b := 7) (by omega) (by omega)) (rg_w (hi := 56) r ⟨Int.le_refl _, by omega⟩) (by decide)
        have key : fo 64 f T W m n = fo 99 f T' W' m n := by
          rw [fe 64 n h8]
          rcases fo_64 (W := W') hv n h8 with ⟨q, -, -⟩ | q
          · obtain ⟨j, hj, hb⟩ := lowbits n h8 m (by omega) c
            rw [q j hj] at hb
            cases hb
          · exact q
        unfold eqn at e1 e2
        rw [key] at e1
        exact ⟨e1.1.trans e2.1.symm, e1.2.trans e2.2.symm⟩
  exact fun m => main m m (Nat.le_refl _)
/-- the least index below k, k without one -/
def lw (p : Nat → Bool) : Nat → Nat
  | 0 => 0
  | k + 1 => if lw p k < k then lw p k else if p k = true then k else k + 1
theorem lw_le (p : Nat → Bool) : ∀ k, lw p k ≤ k
  | 0 => Nat.le_refl _
  | k + 1 => by
    unfold lw
    split
    · omega
    · split <;> omega
theorem lw_f (p : Nat → Bool) : ∀ k j, j < lw p k → p j = false
  | 0, j, h => by
    have h' : j < 0 := h
    omega
  | k + 1, j, h => by
    have l := lw_le p k
    have ih := lw_f p k j
    unfold lw at h
    by_cases c : lw p k < k
    · rw [if_pos c] at h
      exact ih h
    · rw [if_neg c] at h
      by_cases c2 : p k = true
      · rw [if_pos c2] at h
        exact ih (by omega)
      · rw [if_neg c2] at h
        by_cases c3 : j = k
        · rw [c3]
          cases q : p k
          · rfl
          · exact absurd q c2
        · exact ih (by omega)
theorem lw_t (p : Nat → Bool) : ∀ k, lw p k < k → p (lw p k) = true
  | 0, h => by
    have h' : lw p 0 < 0 := h
    omega
  | k + 1, h => by
    have ih := lw_t p k
    unfold lw at h ⊢
    by_cases c : lw p k < k
    · rw [if_pos c]
      exact ih c
    · rw [if_neg c] at h ⊢
      by_cases c2 : p k = true
      · rw [if_pos c2]
        exact c2
      · rw [if_neg c2] at h
        omega
theorem lw_x {p : Nat → Bool} {k j : Nat} (h : p j = true) : lw p k ≤ j := by
  refine Classical.byContradiction (fun c => ?_)
  rw [lw_f p k j (by omega)] at h
  cases h
theorem lw_c {p p' : Nat → Bool} : ∀ k, (∀ j, j < k → p j = p' j) → lw p k = lw p' k
  | 0, _ => rfl
  | k + 1, h => by
    unfold lw
    rw [lw_c k (fun j hj => h j (by omega)), h k (by omega)]
def pb (f T : Nat → Int32) (m x : Nat) : Bool := bt (nI m) x && decide (vl f T m x = T m)
def sq (f T : Nat → Int32) (n a : Nat) : Nat → Nat
  | 0 => a
  | i + 1 => (clr (nI (sq f T n a i)) (lw (pb f T (sq f T n a i)) n)).toNatClampNeg
theorem ifb_D {σ : Mem} {m x : Nat} (hm : m < 256) (hx : x < 8) : par (f_Or_isFirstOfBest (nI x) (nI m) σ) (fun r => r = if pb (gI σ 13) (gI σ 17) m x = true then 1 else 0) := by
  unfold f_Or_isFirstOfBest pb
  rw [bit_bt (by omega), nI_clamp (by omega)]
  cases hb : bt (nI m) x
  · rw [if_neg (by decide)]
    exact p_some rfl
  · rw [if_pos (by rfl)]
    refine p_ob _ (twf_D hm hx) (fun r hr => ?_)
    rw [hr]
    refine p_gd (fun _ => p_if (fun c => p_some ?_) (fun c => p_some ?_))
    · rw [decide_eq_true c]; rfl
    · rw [decide_eq_false c]; rfl
theorem lf_D {N : Nat} {σ : Mem} {n m : Nat} (h8 : n ≤ 8) (h3 : gI σ 3 0 = nI n) (hm : m < 256) : par (f_Or_leastFirst N (nI m) σ) (fun r => (¬ lw (pb (gI σ 13) (gI σ 17) m) n < n ∧ r = -1) ∨ (lw (pb (gI σ 13) (gI σ 17) m) n < n ∧ r = nI (lw (pb (gI σ 13) (gI σ 17) m) n))) := by
  unfold f_Or_leastFirst
  have ll := lw_le (pb (gI σ 13) (gI σ 17) m) n
  refine p_it1 (fun i => ∃ j, j ≤ lw (pb (gI σ 13) (gI σ 17) m) n ∧ i = nI j) ?_ N _ ⟨0, Nat.zero_le _, rfl⟩
  rintro self _ ⟨j, hj, rfl⟩ ih
  unfold Or_leastFirst_B2
  rw [h3]
  refine p_if (fun h => p_some ?_) (fun h => ?_)
  · rw [nle (by omega) (by omega)] at h
    exact Or.inl ⟨by omega, rfl⟩
  · rw [nle (by omega) (by omega)] at h
    refine p_ob _ (ifb_D hm (by omega)) (fun r hr => ?_)
    rw [hr, nadd1]
    cases hp : pb (gI σ 13) (gI σ 17) m j
    · rw [if_pos (by rfl)]
      refine ih _ ⟨j + 1, ?_, rfl⟩
      by_cases c : j < lw (pb (gI σ 13) (gI σ 17) m) n
      · omega
      · have : j = lw (pb (gI σ 13) (gI σ 17) m) n := by omega
        have t := lw_t (pb (gI σ 13) (gI σ 17) m) n (by omega)
        rw [← this, hp] at t
        cases t
    · rw [if_neg (by decide)]
      have x := lw_x (k := n) hp
      have : j = lw (pb (gI σ 13) (gI σ 17) m) n := by omega
      refine p_some (Or.inr ⟨by omega, by rw [← this]⟩)
theorem sq_lt {f T : Nat → Int32} {n a : Nat} (h8 : n ≤ 8) (ha : a < 2 ^ n) : ∀ i, (∀ j, j < i → lw (pb f T (sq f T n a j)) n < n) → sq f T n a i < 2 ^ n
  | 0, _ => ha
  | i + 1, h => by
    have hp : (2 : Nat) ^ n ≤ 256 := Nat.pow_le_pow_right (n := 2) (by decide) h8
    have ih := sq_lt h8 ha i (fun j hj => h j (by omega))
    have l := h i (by omega)
    have := (clr_f (sq f T n a i) (by omega) (lw (pb f T (sq f T n a i)) n) (by omega)).1
    show (clr (nI (sq f T n a i)) (lw (pb f T (sq f T n a i)) n)).toNatClampNeg < _
    omega
theorem pil_D {N : Nat} {σ : Mem} {n a p : Nat} (h8 : n ≤ 8) (h3 : gI σ 3 0 = nI n) (ha : a < 2 ^ n) (hp : p < 8) : par (f_Or_placeInLeast N (nI p) (nI a) σ) (fun q => ∃ s, fr [17, 18] [] σ s ∧ gI s 17 0 = 0 ∧ gI s 18 0 = 1 ∧ (∀ m, 0 < m → m ≤ a → (nI m &&& (nI a ^^^ (-1 : Int32))) = 0 → eqn 64 (gI σ 13) n (gI s 17) (gI s 18) m) ∧ ((∃ i, i ≤ p ∧ ¬ lw (pb (gI σ 13) (gI s 17) (sq (gI σ 13) (gI s 17) n a i)) n < n) ∨ q.1 = nI (lw (pb (gI σ 13) (gI s 17) (sq (gI σ 13) (gI s 17) n a p)) n))) := by
  have hp2 : (2 : Nat) ^ n ≤ 256 := Nat.pow_le_pow_right (n := 2) (by decide) h8
  unfold f_Or_placeInLeast
  refine p_ob _ (meas_D h8 h3 ha) (fun s hs => ?_)
  obtain ⟨hf, hT, hW, hE⟩ := hs
  suffices h : par (it3 (Or_placeInLeast_B13 N s (nI p)) N (nI a) (-1 : Int32) (0 : Int32)) (fun q => (∃ i, i ≤ p ∧ ¬ lw (pb (gI σ 13) (gI s 17) (sq (gI σ 13) (gI s 17) n a i)) n < n) ∨ q.1 = nI (lw (pb (gI σ 13) (gI s 17) (sq (gI σ 13) (gI s 17) n a p)) n)) from p_mono h (fun q hq => ⟨s, hf, hT, hW, hE, hq⟩)
  have e13 : gI s 13 = gI σ 13 := hf.1 13 (by decide)
  have lf := fun m (hm : m < 256) => lf_D (N := N) h8 (by rw [hf.1 3 (by decide), h3] : gI s 3 0 = nI n) hm
  rw [e13] at lf
  refine p_it3 (fun i2 i3 i4 => ∃ i, i ≤ p + 1 ∧ i4 = nI i ∧ i2 = nI (sq (gI σ 13) (gI s 17) n a i) ∧ (∀ j, j < i → lw (pb (gI σ 13) (gI s 17) (sq (gI σ 13) (gI s 17) n a j)) n < n) ∧ (∀ j, i = j + 1 → i3 = nI (lw (pb (gI σ 13) (gI s 17) (sq (gI σ 13) (gI s 17) n a j)) n))) ?_ N _ _ _ ⟨0, by omega, rfl, rfl, fun j hj => by omega, fun j hj => by omega⟩
  rintro self _ i3 _ ⟨i, hi, rfl, rfl, hl, h3'⟩ ih
  have sl := sq_lt (f := gI σ 13) (T := gI s 17) h8 ha i hl
  unfold Or_placeInLeast_B13
  refine p_if (fun h => p_some ?_) (fun h => ?_)
  · rw [nlt (by omega) (by omega)] at h
    exact Or.inr (h3' p (by omega))
  · rw [nlt (by omega) (by omega)] at h
    refine p_ob _ (lf (sq (gI σ 13) (gI s 17) n a i) (by omega)) (fun r hr => ?_)
    rcases hr with ⟨hn, rfl⟩ | ⟨hn, rfl⟩
    · rw [if_pos rfl]
      exact p_some (Or.inl ⟨i, by omega, hn⟩)
    · rw [if_neg (fun q => rg_noE (nI_rg (b := 7) (by omega) (by omega)) (by decide : rg (-1) (-1) (-1 : Int32)) (by decide) q), nadd1]
      refine p_bnd ?_
      have c2 := (clr_f (sq (gI σ 13) (gI s 17) n a i) (by omega) (lw (pb (gI σ 13) (gI s 17) (sq (gI σ 13) (gI s 17) n a i)) n) (by omega)).2.1
      refine ih _ _ _ ⟨i + 1, by omega, rfl, c2, fun j hj => ?_, fun j hj => ?_⟩
      · by_cases c : j = i
        · rw [c]; exact hn
        · exact hl j (by omega)
      · have : j = i := by omega
        rw [this]
theorem bestAt_M {N : Nat} (hN : 8589934592 ≤ N) {σ : Mem} {f : Nat → Int32} {n p : Nat} (h8 : n ≤ 8) (hI : InvM σ) (h1 : gI σ 1 0 = nI n) (h13 : ∀ a, a < 8 → gI σ 1 (1 + a) = f a) (hok : ∀ m, m < 2 ^ n → okT σ m) (hp : p < n) : par (f_M_bestAt N (nI p) σ) (fun r => (∀ i, i ≤ p → lw (pb f (gI σ 18) (sq f (gI σ 18) n (2 ^ n - 1) i)) n < n) ∧ r = nI (lw (pb f (gI σ 18) (sq f (gI σ 18) n (2 ^ n - 1) p)) n)) := by
  have hp2 : (2 : Nat) ^ n ≤ 256 := Nat.pow_le_pow_right (n := 2) (by decide) h8
  have hp0 : 0 < (2 : Nat) ^ n := Nat.pow_pos (by decide)
  have pcn : pc (nI (2 ^ n - 1)) = n := by
    rcases (show n = 0 ∨ n = 1 ∨ n = 2 ∨ n = 3 ∨ n = 4 ∨ n = 5 ∨ n = 6 ∨ n = 7 ∨ n = 8 by omega) with rfl | rfl | rfl | rfl | rfl | rfl | rfl | rfl | rfl <;> decide
  unfold f_M_bestAt
  rw [bnd_e, all_e h1, mask_e n h8]
  refine p_it3 (fun i2 i3 i4 => ∃ i, i ≤ p + 1 ∧ i4 = nI i ∧ i2 = nI (sq f (gI σ 18) n (2 ^ n - 1) i) ∧ pc (nI (sq f (gI σ 18) n (2 ^ n - 1) i)) + i = n ∧ (∀ j, j < i → lw (pb f (gI σ 18) (sq f (gI σ 18) n (2 ^ n - 1) j)) n < n) ∧ (∀ j, i = j + 1 → i3 = nI (lw (pb f (gI σ 18) (sq f (gI σ 18) n (2 ^ n - 1) j)) n))) ?_ N _ _ _ ⟨0, by omega, rfl, rfl, pcn, fun j hj => by omega, fun j hj => by omega⟩
  rintro self _ i3 _ ⟨i, hi, rfl, rfl, hpc, hl, h3'⟩ ih
  have sl := sq_lt (f := f) (T := gI σ 18) h8 (show 2 ^ n - 1 < 2 ^ n by omega) i hl
  unfold M_bestAt_B10
  refine p_if (fun h => p_some ?_) (fun h => ?_)
  · rw [nlt (by omega) (by omega)] at h
    exact ⟨fun j hj => hl j (by omega), h3' p (by omega)⟩
  · rw [nlt (by omega) (by omega)] at h
    obtain ⟨S, hS⟩ : ∃ S, S = sq f (gI σ 18) n (2 ^ n - 1) i := ⟨_, rfl⟩
    have hL : lw (pb f (gI σ 18) S) n < n ∧ pb f (gI σ 18) S (lw (pb f (gI σ 18) S) n) = true := by
      rcases (hok S (by omega)).2 with e | ⟨x, hx, hb, e⟩
      · rw [← hS, e] at hpc
        have : pc (nI 0) = 0 := by decide
        omega
      · have hxn := bt_lo h8 (by omega : S < 2 ^ n) hb
        have : pb f (gI σ 18) S x = true := by
          unfold pb
          rw [hb, ← tv_vl h8 (by omega) hx h1 (h13 x hx), decide_eq_true e]
          rfl
        have l := lw_x (k := n) this
        exact ⟨by omega, lw_t _ n (by omega)⟩
    rw [← hS]
    refine p_it1 (fun i8 => ∃ j, j ≤ lw (pb f (gI σ 18) S) n ∧ i8 = nI j) ?_ N _ ⟨0, Nat.zero_le _, rfl⟩
    rintro self2 _ ⟨j, hj, rfl⟩ ih2
    unfold M_bestAt_B18
    rw [has_bt (by omega), nadd1]
    have nx : pb f (gI σ 18) S j = false → j + 1 ≤ lw (pb f (gI σ 18) S) n := fun q => by
      refine Classical.byContradiction (fun c => ?_)
      have : j = lw (pb f (gI σ 18) S) n := by omega
      rw [this, hL.2] at q
      cases q
    cases hb : bt (nI S) j
    · rw [if_pos (by decide)]
      exact ih2 _ ⟨j + 1, nx (by unfold pb; rw [hb]; rfl), rfl⟩
    · rw [if_neg (by decide)]
      refine p_ob _ (p_tot (M_turnedBy_s hN (by omega) (nI_rg (b := 255) (by omega) (by omega)) hI)) (fun r hr => ?_)
      rw [tv_vl h8 (by omega) (by omega) h1 (h13 j (by omega))] at hr
      rw [hr, nI_clamp (by omega)]
      refine p_gd (fun _ => p_if (fun c => ?_) (fun c => ?_))
      · have t : pb f (gI σ 18) S j = true := by unfold pb; rw [hb, decide_eq_true c]; rfl
        have x := lw_x (k := n) t
        have ej : j = lw (pb f (gI σ 18) S) n := by omega
        unfold M_bestAt_K47
        refine p_bnd ?_
        obtain ⟨-, c2, c3⟩ := clr_f S (by omega) j (by omega)
        have c5 := (c3 hb).2
        have e1 : sq f (gI σ 18) n (2 ^ n - 1) (i + 1) = (clr (nI S) j).toNatClampNeg := by
          show (clr (nI (sq f (gI σ 18) n (2 ^ n - 1) i)) (lw (pb f (gI σ 18) (sq f (gI σ 18) n (2 ^ n - 1) i)) n)).toNatClampNeg = _
          rw [← hS, ← ej]
        rw [nadd1]
        refine ih _ _ _ ⟨i + 1, by omega, rfl, ?_, ?_, fun q hq => ?_, fun q hq => ?_⟩
        · rw [e1]; exact c2
        · rw [e1, ← c2]
          rw [← hS] at hpc
          omega
        · by_cases c : q = i
          · rw [c, ← hS]; exact hL.1
          · exact hl q (by omega)
        · have : q = i := by omega
          rw [this, ← hS, ← ej]
      · exact ih2 _ ⟨j + 1, nx (by unfold pb; rw [hb, decide_eq_false c]; rfl), rfl⟩
theorem nsubk {a b : Nat} (h : b ≤ a) (ha : a < 1000) : nI a - nI b = nI (a - b) := by
  refine Int32.toInt_inj.mp ?_
  rw [i_sub (by rw [nI_toInt (by omega), nI_toInt (by omega)]; omega) (by rw [nI_toInt (by omega), nI_toInt (by omega)]; omega), nI_toInt (by omega), nI_toInt (by omega), nI_toInt (by omega)]
  omega
theorem sq_c {f T T' : Nat → Int32} {n a : Nat} (h8 : n ≤ 8) (ha : a < 2 ^ n) (h : ∀ m, m < 2 ^ n → T m = T' m) : ∀ i, (∀ j, j < i → lw (pb f T' (sq f T' n a j)) n < n) → sq f T n a i = sq f T' n a i ∧ ∀ j, j ≤ i → lw (pb f T (sq f T n a j)) n = lw (pb f T' (sq f T' n a j)) n := by
  have hp : (2 : Nat) ^ n ≤ 256 := Nat.pow_le_pow_right (n := 2) (by decide) h8
  have st : ∀ m, m < 2 ^ n → lw (pb f T m) n = lw (pb f T' m) n := fun m hm => lw_c n (fun j hj => by
    unfold pb vl
    have := (clr_f m (by omega) j (by omega)).1
    rw [h m hm, h _ (by omega)])
  intro i
  induction i with
  | zero =>
    intro _
    refine ⟨rfl, fun j hj => ?_⟩
    have : j = 0 := by omega
    rw [this]
    exact st a ha
  | succ i ih =>
    intro hl
    obtain ⟨e1, e2⟩ := ih (fun j hj => hl j (by omega))
    have e3 : sq f T n a (i + 1) = sq f T' n a (i + 1) := by
      show (clr (nI (sq f T n a i)) (lw (pb f T (sq f T n a i)) n)).toNatClampNeg = (clr (nI (sq f T' n a i)) (lw (pb f T' (sq f T' n a i)) n)).toNatClampNeg
      rw [e2 i (Nat.le_refl _), e1]
    refine ⟨e3, fun j hj => ?_⟩
    by_cases c : j = i + 1
    · rw [c, e3]
      exact st _ (sq_lt h8 ha (i + 1) hl)
    · exact e2 j (by omega)
theorem wi_all {n m : Nat} (h8 : n ≤ 8) (hm : m < 2 ^ n) : (nI m &&& (nI (2 ^ n - 1) ^^^ (-1 : Int32))) = 0 := by
  rw [wi_iff]
  intro j hj hb
  rw [← mask_e n h8, bt_mask h8 hj]
  exact decide_eq_true (bt_lo h8 hm hb)
theorem st_Rl_best_c {N : Nat} (hN : 8589934592 ≤ N) {σ μ : Mem} (hR : Rl σ μ) (a : Int32) : ∃ (q q2 : Int32 × Mem), f_D_best N a σ = some (q.1, q.2) ∧ f_M_best N a μ = some (q2.1, q2.2) ∧ Rl q.2 q2.2 ∧ q.1 = q2.1 := by
  obtain ⟨q, e1, k1⟩ := D_best_t hN (a1 := a) hR.1
  obtain ⟨q2, e2, k2⟩ := M_best_t hN (a1 := a) hR.2.1
  refine ⟨q, q2, e1, e2, Rl_q hR k1.2 k2 (by decide) (by decide), ?_⟩
  obtain ⟨s1, es1⟩ : ∃ s, s = sI μ 0 0 0 := ⟨_, rfl⟩
  obtain ⟨hR1, k0⟩ := Rl_m0 hR es1
  obtain ⟨n, h8, h3, h1, h13, hT⟩ := Rl_n hR1
  have hp : (2 : Nat) ^ n ≤ 256 := Nat.pow_le_pow_right (n := 2) (by decide) h8
  have hp0 : 0 < (2 : Nat) ^ n := Nat.pow_pos (by decide)
  unfold f_D_best at e1
  unfold f_M_best at e2
  rw [bnd_e, ← es1] at e2
  by_cases hn0 : n = 0
  · rw [if_pos (by rw [h3, hn0]; rfl)] at e1
    rw [if_pos ((ro_M h8 h1).mpr hn0)] at e2
    cases e1
    cases e2
    rfl
  · rw [if_neg (fun q => hn0 ((eq0_iff h8).mp (by rw [← h3]; exact q)))] at e1
    rw [if_neg (fun q => hn0 ((ro_M h8 h1).mp q))] at e2
    have ev : t_Du_everybodyN σ = nI (2 ^ n - 1) := by
      unfold t_Du_everybodyN
      rw [h3, mask_e n h8]
    rw [ev, h3] at e1
    have mJ : par (M_best_J44 N s1 a) (fun q => ∃ s, (KM [18, 19] [] s1 s ∧ ∀ m, m < 2 ^ n → okT s m) ∧ (gI s 18 0 = 0 ∧ gI s 19 0 = 1 ∧ ∀ m, 0 < m → m < 2 ^ n → eqn 99 (gI σ 13) n (gI s 18) (gI s 19) m) ∧ (a = 0 → q.1 = gI s 18 (2 ^ n - 1)) ∧ (a = 1 → q.1 = gI s 19 (2 ^ n - 1)) ∧ ∀ p, p < n → a = nI (10 + p) → (∀ i, i ≤ p → lw (pb (gI σ 13) (gI s 18) (sq (gI σ 13) (gI s 18) n (2 ^ n - 1) i)) n < n) ∧ q.1 = nI (lw (pb (gI σ 13) (gI s 18) (sq (gI σ 13) (gI s 18) n (2 ^ n - 1) p)) n)) := by
      unfold M_best_J44
      refine p_ob _ (p_and (p_tot (M_layOrders_s hN h8 hR1.2.1 h1)) (lay_M hN h8 hR1.2.1 h1 h13)) (fun s hs => ?_)
      obtain ⟨l1, l2⟩ := hs
      have g1 : gI s 1 = gI s1 1 := l1.1.2.1 1 (by decide)
      have ea : t_M_all s = nI (2 ^ n - 1) := by rw [all_e (by rw [g1]; exact h1), mask_e n h8]
      rw [ea, nI_clamp (by omega)]
      refine p_if (fun c => p_gd (fun _ => p_some ?_)) (fun c => p_if (fun c2 => p_gd (fun _ => p_some ?_)) (fun c2 => ?_))
      · refine ⟨s, l1, l2, fun _ => rfl, fun q => ?_, fun p hp q => ?_⟩
        · rw [c] at q; exact absurd q (by decide)
        · rw [c] at q
          have := nI_inj (by omega) (by omega) (show nI 0 = nI (10 + p) from q)
          omega
      · refine ⟨s, l1, l2, fun q => absurd q c, fun _ => rfl, fun p hp q => ?_⟩
        rw [c2] at q
        have := nI_inj (by omega) (by omega) (show nI 1 = nI (10 + p) from q)
        omega
      · by_cases hpp : ∃ p, p < n ∧ a = nI (10 + p)
        · obtain ⟨p, hpn, ep⟩ := hpp
          have e10 : a - 10 = nI p := by
            rw [ep]
            have : (nI (10 + p) - 10) = nI (10 + p) - nI 10 := rfl
            rw [this, nsubk (by omega) (by omega)]
            congr 1
            omega
          rw [e10]
          refine p_ob _ (bestAt_M (f := gI σ 13) hN h8 l1.1.1 (by rw [g1]; exact h1) (fun a ha => by rw [g1]; exact h13 a ha) l1.2 hpn) (fun r hr => p_some ⟨s, l1, l2, fun q => absurd q c, fun q => absurd q c2, fun p' hp' q => ?_⟩)
          have : p' = p := by
            rw [ep] at q
            have := nI_inj (by omega) (by omega) q
            omega
          rw [this]
          exact hr
        · refine p_ob (fun _ => True) (fun _ _ => trivial) (fun r hr => p_some ⟨s, l1, l2, fun q => absurd q c, fun q => absurd q c2, fun p' hp' q => absurd ⟨p', hp', q⟩ hpp⟩)
    have tabs : ∀ {s t : Mem}, gI s 17 0 = 0 → gI s 18 0 = 1 → (∀ m, 0 < m → m ≤ 2 ^ n - 1 → (nI m &&& (nI (2 ^ n - 1) ^^^ (-1 : Int32))) = 0 → eqn 64 (gI σ 13) n (gI s 17) (gI s 18) m) → ((KM [18, 19] [] s1 t ∧ ∀ m, m < 2 ^ n → okT t m) ∧ (gI t 18 0 = 0 ∧ gI t 19 0 = 1 ∧ ∀ m, 0 < m → m < 2 ^ n → eqn 99 (gI σ 13) n (gI t 18) (gI t 19) m)) → ∀ m, m < 2 ^ n → gI s 17 m = gI t 18 m ∧ gI s 18 m = gI t 19 m := fun {s t} a1 a2 a3 ⟨b1, b2, b3, b4⟩ m hm => tab_e h8 (by omega) (fun m hm => (b1.2 m hm).1) ⟨a1, a2⟩ ⟨b2, b3⟩ a3 b4 m (by omega) (wi_all h8 hm)
    have z0 : (0 : Int64).toInt = 0 := by decide
    have z1 : (1 : Int64).toInt = 1 := by decide
    by_cases c0 : a = 0
    · rw [if_pos c0] at e1
      have i1 : ¬ t_M_in a.toInt64 (0 : Int64) (1 : Int64) = 0 := by rw [c0]; decide
      rw [if_neg i1] at e2
      obtain ⟨t, t1, t2, t3, -⟩ := mJ q2 e2
      have d : par (ob2 (f_Or_fewestTurned N (nI (2 ^ n - 1)) σ) fun r6 s5 => some (r6, s5)) (fun q => q.1 = q2.1) := by
        refine p_ob2 (fun r _ => r = q2.1) ?_ (fun r s h => p_some h)
        unfold f_Or_fewestTurned
        refine p_ob _ (meas_D h8 h3 (by omega)) (fun s hs => p_gd (fun _ => p_some ?_))
        obtain ⟨-, s2, s3, s4⟩ := hs
        rw [t3 c0, nI_clamp (by omega)]
        exact (tabs s2 s3 s4 ⟨t1, t2⟩ _ (by omega)).1
      exact d q e1
    · rw [if_neg c0] at e1
      by_cases c1' : a = 1
      · rw [if_pos c1'] at e1
        have i1 : ¬ t_M_in a.toInt64 (0 : Int64) (1 : Int64) = 0 := by rw [c1']; decide
        rw [if_neg i1] at e2
        obtain ⟨t, t1, t2, -, t3, -⟩ := mJ q2 e2
        have d : par (ob2 (f_Or_howMany N (nI (2 ^ n - 1)) σ) fun r6 s5 => some (r6, s5)) (fun q => q.1 = q2.1) := by
          refine p_ob2 (fun r _ => r = q2.1) ?_ (fun r s h => p_some h)
          unfold f_Or_howMany
          refine p_ob _ (meas_D h8 h3 (by omega)) (fun s hs => p_gd (fun _ => p_some ?_))
          obtain ⟨-, s2, s3, s4⟩ := hs
          rw [t3 c1', nI_clamp (by omega)]
          exact (tabs s2 s3 s4 ⟨t1, t2⟩ _ (by omega)).2
        exact d q e1
      · rw [if_neg c1'] at e1
        have i1 : t_M_in a.toInt64 (0 : Int64) (1 : Int64) = 0 := by
          rw [min0, i64, z0, z1]
          intro h
          obtain ⟨p, e, -, hp, -⟩ := rg_ex (a := 0) (b := 1) (x := a) h (by decide)
          rcases (show p = 0 ∨ p = 1 by omega) with rfl | rfl
          · exact c0 e
          · exact c1' e
        rw [if_pos i1, many_e h1] at e2
        have z10 : (10 : Int64).toInt = 10 := by decide
        have z9 : (9 : Int64).toInt = 9 := by decide
        have y10 : (10 : Int32).toInt = 10 := by decide
        have hn' : (nI n).toInt = n := nI_toInt (by omega)
        have zn : ((9 : Int64) + (nI n).toInt64).toInt = 9 + n := by
          have zn : (nI n).toInt64.toInt = n := by rw [i64, hn']
          rw [Int64.toInt_add, z9, zn, Int.bmod_def]
          split <;> omega
        have mi := min0 a.toInt64 (10 : Int64) ((9 : Int64) + (nI n).toInt64)
        rw [i64, z10, zn] at mi
        have add10 : ((10 : Int32) + nI n).toInt = 10 + n := by
          rw [i_add (by rw [y10, hn']; omega) (by rw [y10, hn']; omega), y10, hn']
        by_cases hin : 10 ≤ a.toInt ∧ a.toInt ≤ 9 + n
        · rw [if_neg (fun q => mi.mp q hin)] at e2
          rw [if_neg (by rw [i_lt, y10]; omega), if_pos (by rw [i_lt, add10]; omega)] at e1
          obtain ⟨p10, ep, l10, u10, -⟩ := rg_ex (a := 10) (b := 9 + (n : Int)) (x := a) hin (by decide)
          obtain ⟨p, rfl⟩ : ∃ p, p10 = 10 + p := ⟨p10 - 10, by omega⟩
          have hpn : p < n := by omega
          have e10 : a - 10 = nI p := by
            rw [ep]
            have : (nI (10 + p) - 10) = nI (10 + p) - nI 10 := rfl
            rw [this, nsubk (by omega) (by omega)]
            congr 1
            omega
          rw [e10] at e1
          obtain ⟨t, t1, t2, -, -, t3⟩ := mJ q2 e2
          obtain ⟨t4, t5⟩ := t3 p hpn ep
          have d : par (ob2 (f_Or_placeInLeast N (nI p) (nI (2 ^ n - 1)) σ) fun r6 s5 => some (r6, s5)) (fun q => q.1 = q2.1) := by
            refine p_ob2 (fun r _ => r = q2.1) (p_mono (pil_D h8 h3 (by omega) (by omega)) (fun q hq => ?_)) (fun r s h => p_some h)
            obtain ⟨s, -, s2, s3, s4, s5⟩ := hq
            have tb := tabs s2 s3 s4 ⟨t1, t2⟩
            have sc := sq_c (f := gI σ 13) (a := 2 ^ n - 1) h8 (by omega) (fun m hm => (tb m hm).1) p (fun j hj => t4 j (by omega))
            rcases s5 with ⟨i, hi, hl⟩ | s5
            · rw [sc.2 i hi] at hl
              exact absurd (t4 i hi) hl
            · rw [s5, t5, sc.2 p (Nat.le_refl _)]
          exact d q e1
        · rw [if_pos (mi.mpr hin)] at e2
          cases e2
          by_cases c : a < 10
          · rw [if_pos c] at e1
            cases e1
            rfl
          · rw [if_neg c, if_neg (by rw [i_lt, add10]; rw [i_lt, y10] at c; omega)] at e1
            cases e1
            rfl
