/-! least covering sets, firsts of best orders, in both -/
noncomputable def lcf (f : Nat → Int32) (n : Nat) (S : Int32) : Nat → Int32
  | 0 => S
  | k + 1 => @ite _ ((nI (k + 1) &&& (S ^^^ (-1 : Int32))) = 0 ∧ pc (nI (k + 1)) < pc (lcf f n S k) ∧ cvs f n (nI (k + 1)) S) (Classical.propDecidable _) (nI (k + 1)) (lcf f n S k)
theorem lcf_y {f : Nat → Int32} {n : Nat} {S : Int32} {k : Nat} (h : (nI (k + 1) &&& (S ^^^ (-1 : Int32))) = 0 ∧ pc (nI (k + 1)) < pc (lcf f n S k) ∧ cvs f n (nI (k + 1)) S) : lcf f n S (k + 1) = nI (k + 1) := @if_pos _ (Classical.propDecidable _) h _ _ _
theorem lcf_n {f : Nat → Int32} {n : Nat} {S : Int32} {k : Nat} (h : ¬ ((nI (k + 1) &&& (S ^^^ (-1 : Int32))) = 0 ∧ pc (nI (k + 1)) < pc (lcf f n S k) ∧ cvs f n (nI (k + 1)) S)) : lcf f n S (k + 1) = lcf f n S k := @if_neg _ (Classical.propDecidable _) h _ _ _
theorem lcf_r {f : Nat → Int32} {n m : Nat} (hm : m < 256) : ∀ k, k < 256 → rg 0 255 (lcf f n (nI m) k) ∧ pc (lcf f n (nI m) k) ≤ pc (nI m)
  | 0, _ => ⟨nI_rg (by omega) (by omega), Nat.le_refl _⟩
  | k + 1, hk => by
    have ih := lcf_r (f := f) (n := n) hm k (by omega)
    by_cases c : (nI (k + 1) &&& (nI m ^^^ (-1 : Int32))) = 0 ∧ pc (nI (k + 1)) < pc (lcf f n (nI m) k) ∧ cvs f n (nI (k + 1)) (nI m)
    · rw [lcf_y c]
      exact ⟨nI_rg (by omega) (by omega), by have := c.2.1; omega⟩
    · rw [lcf_n c]
      exact ih
theorem wi_le {k m : Nat} (hk : k < 2147483648) (hm : m < 2147483648) (h : (nI k &&& (nI m ^^^ (-1 : Int32))) = 0) : k ≤ m := by
  have e := and_not h
  have r : rg 0 (m : Int) (nI k) := by
    rw [e]
    exact rg_andr _ (nI_rg (Int.le_refl _) hm) ⟨Int.le_refl _, Int.le_refl _⟩
  have := r.2
  rw [nI_toInt (by omega)] at this
  omega
theorem lcf_e {f : Nat → Int32} {n m : Nat} (hm : m < 256) (hm1 : 1 ≤ m) : ∀ d, m - 1 + d < 256 → lcf f n (nI m) (m - 1 + d) = lcf f n (nI m) (m - 1)
  | 0, _ => rfl
  | d + 1, h => by
    have ih := lcf_e (f := f) (n := n) hm hm1 d (by omega)
    rw [← ih]
    refine lcf_n (k := m - 1 + d) (fun q => ?_)
    obtain ⟨q1, q2, -⟩ := q
    have := wi_le (by omega) (by omega) q1
    have e : m - 1 + d + 1 = m := by omega
    rw [e] at q2
    have := (lcf_r (f := f) (n := n) hm (m - 1 + d) (by omega)).2
    omega
theorem co_D {N : Nat} {σ μ : Mem} {n m : Nat} (h8 : n ≤ 8) (h3 : gI σ 3 0 = nI n) (h1 : gI μ 1 0 = nI n) (h13 : ∀ a, a < 8 → gI μ 1 (1 + a) = gI σ 13 a) (hm : m < 256) (hm1 : 1 ≤ m) : par (f_Se_leastCovering N (nI m) σ) (fun r => r = lcf (gI σ 13) n (nI m) (m - 1)) := by
  unfold f_Se_leastCovering
  refine p_bnd ?_
  rw [cnt_v (nI_rg (by omega) (by omega))]
  refine p_it3 (fun i2 i3 i4 => ∃ k, k ≤ m - 1 ∧ i4 = nI (k + 1) ∧ i2 = lcf (gI σ 13) n (nI m) k ∧ i3 = nI (pc (lcf (gI σ 13) n (nI m) k))) ?_ N _ _ _ ⟨0, by omega, rfl, rfl, rfl⟩
  rintro self _ _ _ ⟨k, hk, rfl, rfl, rfl⟩ ih
  have p8 := pc_8 (lcf (gI σ 13) n (nI m) k)
  have p9 := pc_8 (nI (k + 1))
  unfold Se_leastCovering_B10
  refine p_if (fun c => ?_) (fun c => ?_)
  · rw [nle (by omega) (by omega)] at c
    have : k = m - 1 := by omega
    subst this
    exact p_some rfl
  · rw [nle (by omega) (by omega)] at c
    rw [cnt_v (nI_rg (by omega) (by omega)), nadd1]
    have stay : ¬ ((nI (k + 1) &&& (nI m ^^^ (-1 : Int32))) = 0 ∧ pc (nI (k + 1)) < pc (lcf (gI σ 13) n (nI m) k) ∧ cvs (gI σ 13) n (nI (k + 1)) (nI m)) → par (self (lcf (gI σ 13) n (nI m) k) (nI (pc (lcf (gI σ 13) n (nI m) k))) (nI (k + 1 + 1))) (fun r => r = lcf (gI σ 13) n (nI m) (m - 1)) := fun h =>
      ih _ _ _ ⟨k + 1, by omega, rfl, (lcf_n h).symm, by rw [lcf_n h]⟩
    refine p_if (fun c2 => ?_) (fun c2 => stay (fun h => c2 h.1))
    refine p_if (fun c3 => ?_) (fun c3 => ?_)
    · rw [nle (by omega) (by omega)] at c3
      exact stay (fun h => by have := h.2.1; omega)
    · rw [nle (by omega) (by omega)] at c3
      refine p_ob _ (cvs_D h8 h3 h1 h13 (nI (k + 1)) (nI m)) (fun r hr => ?_)
      rcases hr with ⟨r1, r2⟩ | ⟨r1, r2⟩
      · rw [if_neg (by rw [r1]; decide)]
        have y : (nI (k + 1) &&& (nI m ^^^ (-1 : Int32))) = 0 ∧ pc (nI (k + 1)) < pc (lcf (gI σ 13) n (nI m) k) ∧ cvs (gI σ 13) n (nI (k + 1)) (nI m) := ⟨c2, by omega, r2⟩
        exact p_bnd (ih _ _ _ ⟨k + 1, by omega, rfl, (lcf_y y).symm, by rw [lcf_y y]⟩)
      · rw [if_pos r1]
        exact stay (fun h => r2 h.2.2)
theorem co_M {N : Nat} (hN : 8589934592 ≤ N) {σ μ : Mem} {n m : Nat} (h8 : n ≤ 8) (h3 : gI σ 3 0 = nI n) (h1 : gI μ 1 0 = nI n) (h13 : ∀ a, a < 8 → gI μ 1 (1 + a) = gI σ 13 a) (hm : m < 256) (hm1 : 1 ≤ m) : par (f_M_covering N (nI m) μ) (fun r => r = lcf (gI σ 13) n (nI m) (m - 1)) := by
  unfold f_M_covering
  have l256 : (256 : Int32) = nI 256 := rfl
  refine p_it2 (fun i1 i2 => ∃ k, k ≤ 255 ∧ i2 = nI (k + 1) ∧ i1 = lcf (gI σ 13) n (nI m) k) ?_ N _ _ ⟨0, by omega, rfl, rfl⟩
  rintro self _ _ ⟨k, hk, rfl, rfl⟩ ih
  have p8 := pc_8 (lcf (gI σ 13) n (nI m) k)
  have p9 := pc_8 (nI (k + 1))
  unfold M_covering_B4
  refine p_if (fun c => ?_) (fun c => ?_)
  · rw [l256, nle (by omega) (by omega)] at c
    refine p_some ?_
    have e := lcf_e (f := gI σ 13) (n := n) hm hm1 (k - (m - 1)) (by omega)
    have : m - 1 + (k - (m - 1)) = k := by omega
    rw [this] at e
    exact e
  · rw [l256, nle (by omega) (by omega)] at c
    rw [nadd1]
    have stay : ¬ ((nI (k + 1) &&& (nI m ^^^ (-1 : Int32))) = 0 ∧ pc (nI (k + 1)) < pc (lcf (gI σ 13) n (nI m) k) ∧ cvs (gI σ 13) n (nI (k + 1)) (nI m)) → par (self (lcf (gI σ 13) n (nI m) k) (nI (k + 1 + 1))) (fun r => r = lcf (gI σ 13) n (nI m) (m - 1)) := fun h =>
      ih _ _ ⟨k + 1, by omega, rfl, (lcf_n h).symm⟩
    unfold t_M_isWithin
    by_cases c2 : (nI (k + 1) &&& (nI m ^^^ (-1 : Int32))) = 0
    · rw [if_pos c2, if_neg (by decide)]
      refine p_ob _ (p_tot (M_sizeOf_s hN (nI_rg (b := 255) (by omega) (by omega)))) (fun r4 h4 => ?_)
      refine p_ob _ (p_tot (M_sizeOf_s hN (lcf_r (f := gI σ 13) (n := n) hm k (by omega)).1)) (fun r5 h5 => ?_)
      rw [h4, h5]
      refine p_if (fun c3 => ?_) (fun c3 => ?_)
      · rw [nle (by omega) (by omega)] at c3
        exact stay (fun h => by have := h.2.1; omega)
      · rw [nle (by omega) (by omega)] at c3
        refine p_ob _ (cvs_M h8 h3 h1 h13 (nI (k + 1)) (nI m)) (fun r hr => ?_)
        rcases hr with ⟨r1, r2⟩ | ⟨r1, r2⟩
        · rw [if_neg (by rw [r1]; decide)]
          have y : (nI (k + 1) &&& (nI m ^^^ (-1 : Int32))) = 0 ∧ pc (nI (k + 1)) < pc (lcf (gI σ 13) n (nI m) k) ∧ cvs (gI σ 13) n (nI (k + 1)) (nI m) := ⟨c2, by omega, r2⟩
          exact ih _ _ ⟨k + 1, by omega, rfl, (lcf_y y).symm⟩
        · rw [if_pos r1]
          exact stay (fun h => r2 h.2.2)
    · rw [if_neg c2, if_pos rfl]
      exact stay (fun h => c2 h.1)
/-- firsts of best orders: by a table that keeps the equations -/
theorem sl_D {N : Nat} {σ : Mem} {n m : Nat} (h8 : n ≤ 8) (h3 : gI σ 3 0 = nI n) (hm : m < 2 ^ n) : par (f_Or_firsts N (nI m) σ) (fun q => ∃ T W : Nat → Int32, T 0 = 0 ∧ W 0 = 1 ∧ (∀ j, 0 < j → j ≤ m → (nI j &&& (nI m ^^^ (-1 : Int32))) = 0 → eqn 64 (gI σ 13) n T W j) ∧ q.1 = bsf (pb (gI σ 13) T m) n) := by
  have hp : (2 : Nat) ^ n ≤ 256 := Nat.pow_le_pow_right (n := 2) (by decide) h8
  unfold f_Or_firsts
  refine p_ob _ (meas_D h8 h3 hm) (fun s hs => ?_)
  obtain ⟨hf, t0, w0', hE⟩ := hs
  have g13 : gI s 13 = gI σ 13 := hf.1 13 (by decide)
  refine p_it2 (fun i2 i3 => ∃ k, k ≤ n ∧ i3 = nI k ∧ i2 = bsf (pb (gI σ 13) (gI s 17) m) k) ?_ N _ _ ⟨0, by omega, rfl, rfl⟩
  rintro self _ _ ⟨k, hk, rfl, rfl⟩ ih
  unfold Or_firsts_B9
  rw [hf.1 3 (by decide), h3]
  refine p_if (fun c => ?_) (fun c => ?_)
  · rw [nle (by omega) (by omega)] at c
    have : k = n := by omega
    subst this
    exact p_some ⟨gI s 17, gI s 18, t0, w0', hE, rfl⟩
  · rw [nle (by omega) (by omega)] at c
    rw [nadd1]
    refine p_ob _ (ifb_D (by omega) (by omega)) (fun r hr => ?_)
    rw [g13] at hr
    cases hb : pb (gI σ 13) (gI s 17) m k
    · rw [hb, if_neg (by decide)] at hr
      rw [if_pos hr]
      exact ih _ _ ⟨k + 1, by omega, rfl, (bsf_f hb).symm⟩
    · rw [hb, if_pos rfl] at hr
      rw [if_neg (by rw [hr]; decide)]
      exact p_bnd (ih _ _ ⟨k + 1, by omega, rfl, (bsf_t hb).symm⟩)
theorem sl_M {N : Nat} (hN : 8589934592 ≤ N) {μ : Mem} {f : Nat → Int32} {n m : Nat} (h8 : n ≤ 8) (hM : InvM μ) (h1 : gI μ 1 0 = nI n) (h13 : ∀ a, a < 8 → gI μ 1 (1 + a) = f a) (hm : m < 2 ^ n) : par (f_M_slater N (nI m) μ) (fun q => ∃ T W : Nat → Int32, T 0 = 0 ∧ W 0 = 1 ∧ (∀ j, 0 < j → j < 2 ^ n → eqn 99 f n T W j) ∧ (∀ m, m < 2 ^ n → rg 0 (8 * (pc (nI m) : Int)) (T m)) ∧ q.1 = bsf (pb f T m) n) := by
  have hp : (2 : Nat) ^ n ≤ 256 := Nat.pow_le_pow_right (n := 2) (by decide) h8
  unfold f_M_slater
  refine p_ob _ (p_and (lay_M hN h8 hM h1 h13) (p_tot (M_layOrders_s hN h8 hM h1))) (fun s hs => ?_)
  obtain ⟨⟨t0, w0', hE⟩, ks, hok⟩ := hs
  have g1 : gI s 1 = gI μ 1 := ks.2.1 1 (by decide)
  refine p_it2 (fun i2 i3 => ∃ k, k ≤ n ∧ i3 = nI k ∧ i2 = bsf (pb f (gI s 18) m) k) ?_ N _ _ ⟨0, by omega, rfl, rfl⟩
  rintro self _ _ ⟨k, hk, rfl, rfl⟩ ih
  unfold M_slater_B8
  rw [many_e (by rw [g1]; exact h1)]
  refine p_if (fun c => ?_) (fun c => ?_)
  · rw [nle (by omega) (by omega)] at c
    have : k = n := by omega
    subst this
    exact p_some ⟨gI s 18, gI s 19, t0, w0', hE, fun m hm => (hok m hm).1, rfl⟩
  · rw [nle (by omega) (by omega)] at c
    rw [nadd1, has_bt (by omega)]
    cases hb : bt (nI m) k
    · rw [if_pos (by decide)]
      refine p_bnd ?_
      rw [or0]
      exact ih _ _ ⟨k + 1, by omega, rfl, (bsf_f (by unfold pb; rw [hb]; rfl)).symm⟩
    · rw [if_neg (by decide)]
      refine p_ob _ (p_tot (M_turnedBy_s hN (by omega) (nI_rg (b := 255) (by omega) (by omega)) ks.1)) (fun r hr => ?_)
      rw [tv_vl (f := f) h8 hm (by omega) (by rw [g1]; exact h1) (by rw [g1]; exact h13 k (by omega))] at hr
      rw [nI_clamp (by omega)]
      refine p_gd (fun _ => p_if (fun c2 => p_bnd ?_) (fun c2 => p_bnd ?_))
      · refine ih _ _ ⟨k + 1, by omega, rfl, (bsf_t ?_).symm⟩
        unfold pb
        rw [hb, decide_eq_true (hr.symm.trans c2)]
        rfl
      · rw [or0]
        refine ih _ _ ⟨k + 1, by omega, rfl, (bsf_f ?_).symm⟩
        unfold pb
        rw [hb, decide_eq_false (fun z => c2 (hr.trans z))]
        rfl
theorem sl_b {f T W T' W' : Nat → Int32} {n m : Nat} (h8 : n ≤ 8) (hm : m < 2 ^ n) (h0 : T 0 = 0) (w0' : W 0 = 1) (hE : ∀ j, 0 < j → j ≤ m → (nI j &&& (nI m ^^^ (-1 : Int32))) = 0 → eqn 64 f n T W j) (h0' : T' 0 = 0) (w1' : W' 0 = 1) (hE' : ∀ j, 0 < j → j < 2 ^ n → eqn 99 f n T' W' j) (hok : ∀ m, m < 2 ^ n → rg 0 (8 * (pc (nI m) : Int)) (T' m)) : bsf (pb f T m) n = bsf (pb f T' m) n := by
  have hp : (2 : Nat) ^ n ≤ 256 := Nat.pow_le_pow_right (n := 2) (by decide) h8
  have te := tab_e h8 hm hok ⟨h0, w0'⟩ ⟨h0', w1'⟩ hE hE'
  refine bsf_c n (fun x hx => ?_)
  unfold pb
  cases hb : bt (nI m) x
  · rfl
  · have em := (te m (Nat.le_refl _) (wi_iff.mpr (fun _ _ h => h))).1
    obtain ⟨c1', c2', c3'⟩ := clr_f m (by omega) x (by omega)
    have ec := (te (clr (nI m) x).toNatClampNeg c1' (by
      rw [← c2', wi_iff]
      intro j hj hj2
      rw [clr_bt (by omega) hj] at hj2
      exact (Bool.and_eq_true_iff.mp hj2).1)).1
    unfold vl
    rw [em, ec]
