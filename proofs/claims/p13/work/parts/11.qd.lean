/-! winner answers alike -/
theorem nmul {a b : Nat} (ha : a < 30000) (hb : b < 30000) : nI a * nI b = nI (a * b) := by
  refine Int32.toInt_inj.mp ?_
  have h : a * b ≤ 30000 * 30000 := Nat.mul_le_mul (by omega) (by omega)
  have h2 : (a : Int) * (b : Int) = ((a * b : Nat) : Int) := (Int.natCast_mul a b).symm
  rw [i_mul (by rw [nI_toInt (by omega), nI_toInt (by omega), h2]; omega) (by rw [nI_toInt (by omega), nI_toInt (by omega), h2]; omega), nI_toInt (by omega), nI_toInt (by omega), nI_toInt (by omega), h2]
theorem ndiv2 {a : Nat} (h : a < 1000) : nI a / 2 = nI (a / 2) := by
  refine Int32.toInt_inj.mp ?_
  have e2 : (2 : Int32).toInt = 2 := by decide
  rw [i_div (by rw [nI_toInt (by omega)]; omega) (by rw [e2]; decide), nI_toInt (by omega), nI_toInt (by omega), e2]
  omega
def wn (f : Nat → Int32) (x y : Int32) : Int32 := if ((f x.toNatClampNeg >>> (y &&& 31)) &&& 1) = 1 then x else y
def cw (f : Nat → Int32) : Nat → (Nat → Int32) → Int32
  | 0, r => r 0
  | k + 1, r => cw f k (fun i => wn f (r (2 * i)) (r (2 * i + 1)))
theorem cw_c {f : Nat → Int32} : ∀ k {r r' : Nat → Int32}, (∀ i, i < 2 ^ k → r i = r' i) → cw f k r = cw f k r'
  | 0, r, r', h => h 0 (by decide)
  | k + 1, r, r', h => cw_c k (fun i hi => by
    have e : 2 ^ (k + 1) = 2 * 2 ^ k := by rw [Nat.pow_succ]; omega
    rw [h (2 * i) (by omega), h (2 * i + 1) (by omega)])
theorem wn_D {σ : Mem} (x y : Int32) : par (f_Du_winnerOfN x y σ) (fun r => r = wn (gI σ 13) x y) := by
  unfold f_Du_winnerOfN wn
  refine p_gd (fun _ => ?_)
  refine p_if (fun h => p_some ?_) (fun h => p_some ?_)
  · rw [if_pos h]
  · rw [if_neg h]
theorem cup_D {N : Nat} {σ : Mem} {W : Int32} {k : Nat} {r : Nat → Int32} (hk : k ≤ 3) (hr : ∀ i, i < 2 ^ k → gI σ 21 i = r i) (hW : cw (gI σ 13) k r = W) : par (it2 (Cu_playWithFirst_B34 N) N (nI (2 ^ k / 2)) σ) (fun q => q.1 = W) := by
  refine p_it2 (fun i s => ∃ k r, k ≤ 3 ∧ i = nI (2 ^ k / 2) ∧ gI s 13 = gI σ 13 ∧ (∀ i, i < 2 ^ k → gI s 21 i = r i) ∧ cw (gI σ 13) k r = W) ?_ N _ _ ⟨k, r, hk, rfl, rfl, hr, hW⟩
  rintro self _ s ⟨k, r, hk, rfl, h13, hr, hW⟩ ih
  unfold Cu_playWithFirst_B34
  refine p_if (fun h => ?_) (fun h => ?_)
  · have k0 : k = 0 := by
      rcases (show k = 0 ∨ k = 1 ∨ k = 2 ∨ k = 3 by omega) with rfl | rfl | rfl | rfl
      · rfl
      · exact absurd h (by decide)
      · exact absurd h (by decide)
      · exact absurd h (by decide)
    subst k0
    refine p_some ?_
    rw [← hW]
    exact hr 0 (by decide)
  · obtain ⟨m, rfl⟩ : ∃ m, k = m + 1 := by
      cases k with
      | zero => exact absurd (by decide) h
      | succ m => exact ⟨m, rfl⟩
    have e2 : 2 ^ (m + 1) = 2 * 2 ^ m := by rw [Nat.pow_succ]; omega
    have hm : 2 ^ m ≤ 4 := by
      rcases (show m = 0 ∨ m = 1 ∨ m = 2 by omega) with rfl | rfl | rfl <;> decide
    have e3 : 2 ^ (m + 1) / 2 = 2 ^ m := by omega
    rw [e3]
    refine p_it2 (fun i t => ∃ j, j ≤ 2 ^ m ∧ i = nI j ∧ gI t 13 = gI σ 13 ∧ (∀ i, i < j → gI t 21 i = wn (gI σ 13) (r (2 * i)) (r (2 * i + 1))) ∧ ∀ i, j ≤ i → i < 2 ^ (m + 1) → gI t 21 i = r i) ?_ N _ _ ⟨0, by omega, rfl, h13, fun i hi => by omega, fun i _ hi => hr i hi⟩
    rintro self2 _ t ⟨j, hj, rfl, t13, t1, t2⟩ ih2
    unfold Cu_playWithFirst_B42
    refine p_if (fun h2 => p_bnd ?_) (fun h2 => ?_)
    · rw [nle (by omega) (by omega)] at h2
      have : j = 2 ^ m := by omega
      subst this
      rw [ndiv2 (by omega)]
      exact ih _ _ ⟨m, _, by omega, rfl, t13, t1, hW⟩
    · rw [nle (by omega) (by omega)] at h2
      refine p_gd (fun _ => p_gd (fun _ => ?_))
      rw [l2, nmul (by omega) (by omega), nadd1, nI_clamp (by omega), nI_clamp (by omega), t2 (2 * j) (by omega) (by omega), t2 (2 * j + 1) (by omega) (by omega)]
      refine p_ob _ (wn_D _ _) (fun v hv => ?_)
      refine p_gd (fun _ => p_bnd ?_)
      rw [nadd1, nI_clamp (by omega)]
      refine ih2 _ _ ⟨j + 1, by omega, rfl, t13, fun i hi => ?_, fun i h3 h4 => ?_⟩
      · rw [gI_sI, if_pos rfl, upd_ap]
        by_cases c : i = j
        · rw [if_pos c, c, hv, t13]
        · rw [if_neg c]
          exact t1 i (by omega)
      · rw [gI_sI, if_pos rfl, upd_ap, if_neg (by omega)]
        exact t2 i (by omega) h4
theorem cup_M {N : Nat} {μ : Mem} {f : Nat → Int32} {W : Int32} {k : Nat} {r : Nat → Int32} (hk : k ≤ 3) (hf : ∀ a, a < 8 → gI μ 1 (1 + a) = f a) (hr : ∀ i, i < 2 ^ k → gI μ 27 i = r i) (h8 : ∀ i, i < 2 ^ k → rg 0 7 (r i)) (hW : cw f k r = W) : par (it2 (M_wins_B30 N) N (nI (2 ^ k)) μ) (fun q => q.1 = W) := by
  refine p_it2 (fun i s => ∃ k r, k ≤ 3 ∧ i = nI (2 ^ k) ∧ gI s 1 = gI μ 1 ∧ (∀ i, i < 2 ^ k → gI s 27 i = r i) ∧ (∀ i, i < 2 ^ k → rg 0 7 (r i)) ∧ cw f k r = W) ?_ N _ _ ⟨k, r, hk, rfl, rfl, hr, h8, hW⟩
  rintro self _ s ⟨k, r, hk, rfl, h13, hr, h8, hW⟩ ih
  unfold M_wins_B30
  refine p_if (fun h => ?_) (fun h => p_bnd ?_)
  · have k0 : k = 0 := by
      rcases (show k = 0 ∨ k = 1 ∨ k = 2 ∨ k = 3 by omega) with rfl | rfl | rfl | rfl
      · rfl
      · exact absurd h (by decide)
      · exact absurd h (by decide)
      · exact absurd h (by decide)
    subst k0
    refine p_some ?_
    rw [← hW]
    exact hr 0 (by decide)
  · obtain ⟨m, rfl⟩ : ∃ m, k = m + 1 := by
      cases k with
      | zero => exact absurd (by decide) h
      | succ m => exact ⟨m, rfl⟩
    have e2 : 2 ^ (m + 1) = 2 * 2 ^ m := by rw [Nat.pow_succ]; omega
    have hm : 2 ^ m ≤ 4 := by
      rcases (show m = 0 ∨ m = 1 ∨ m = 2 by omega) with rfl | rfl | rfl <;> decide
    have e3 : 2 ^ (m + 1) / 2 = 2 ^ m := by omega
    rw [ndiv2 (by omega), e3]
    refine p_it2 (fun i t => ∃ j, j ≤ 2 ^ m ∧ i = nI j ∧ gI t 1 = gI μ 1 ∧ (∀ i, i < j → gI t 27 i = wn f (r (2 * i)) (r (2 * i + 1))) ∧ ∀ i, j ≤ i → i < 2 ^ (m + 1) → gI t 27 i = r i) ?_ N _ _ ⟨0, by omega, rfl, h13, fun i hi => by omega, fun i _ hi => hr i hi⟩
    rintro self2 _ t ⟨j, hj, rfl, t13, t1, t2⟩ ih2
    unfold M_wins_B41
    refine p_if (fun h2 => ?_) (fun h2 => ?_)
    · rw [nle (by omega) (by omega)] at h2
      have : j = 2 ^ m := by omega
      subst this
      refine ih _ _ ⟨m, _, by omega, rfl, t13, t1, fun i hi => ?_, hW⟩
      unfold wn
      exact rg_ite (fun _ => h8 _ (by omega)) (fun _ => h8 _ (by omega))
    · rw [nle (by omega) (by omega)] at h2
      refine p_gd (fun _ => p_bnd (p_gd (fun _ => p_bnd ?_)))
      rw [l2, nmul (by omega) (by omega), nadd1, nI_clamp (by omega), nI_clamp (by omega), t2 (2 * j) (by omega) (by omega), t2 (2 * j + 1) (by omega) (by omega)]
      obtain ⟨x, ex, -, x8, -⟩ := rg_ex (h8 (2 * j) (by omega)) (by decide)
      have key : ∀ v, v = wn f (r (2 * j)) (r (2 * j + 1)) → par (M_wins_J91 t (nI j) self2 v) (fun q => q.1 = W) := fun v hv => by
        unfold M_wins_J91
        refine p_gd (fun _ => p_bnd ?_)
        rw [nadd1, nI_clamp (by omega)]
        refine ih2 _ _ ⟨j + 1, by omega, rfl, t13, fun i hi => ?_, fun i h3 h4 => ?_⟩
        · rw [gI_sI, if_pos rfl, upd_ap]
          by_cases c : i = j
          · rw [if_pos c, c, hv]
          · rw [if_neg c]
            exact t1 i (by omega)
        · rw [gI_sI, if_pos rfl, upd_ap, if_neg (by omega)]
          exact t2 i (by omega) h4
      have ew : wn f (r (2 * j)) (r (2 * j + 1)) = if t_M_has (f x) (r (2 * j + 1)) = 0 then r (2 * j + 1) else r (2 * j) := by
        unfold wn t_M_has
        rw [ex, nI_clamp (by omega)]
        by_cases c : f x >>> (r (2 * j + 1) &&& 31) &&& 1 = 1
        · rw [if_pos c, if_pos c, if_neg (by decide)]
        · rw [if_neg c, if_neg c, if_pos rfl]
      have eb : f_M_beats (r (2 * j)) t = some (f x) := by
        rw [ex, beats_e (by omega), t13, hf x (by omega)]
      rw [eb, ob_s]
      refine p_if (fun h5 => key _ ?_) (fun h5 => key _ ?_)
      · rw [ew, if_pos h5]
      · rw [ew, if_neg h5]
/-- those of a set into the row from a place on -/
def pr (b : Nat → Bool) : Nat → Nat × (Nat → Int32) → Nat × (Nat → Int32)
  | 0, q => q
  | m + 1, q => if b m then ((pr b m q).1 + 1, upd (pr b m q).2 (pr b m q).1 (nI m)) else pr b m q
def cn (b : Nat → Bool) : Nat → Nat
  | 0 => 0
  | m + 1 => cn b m + if b m then 1 else 0
theorem pr_t {b : Nat → Bool} {m : Nat} {q : Nat × (Nat → Int32)} (h : b m = true) : pr b (m + 1) q = ((pr b m q).1 + 1, upd (pr b m q).2 (pr b m q).1 (nI m)) := if_pos h
theorem pr_f {b : Nat → Bool} {m : Nat} {q : Nat × (Nat → Int32)} (h : b m = false) : pr b (m + 1) q = pr b m q := if_neg (by rw [h]; decide)
theorem pr_1 (b : Nat → Bool) (q : Nat × (Nat → Int32)) : ∀ m, (pr b m q).1 = q.1 + cn b m
  | 0 => rfl
  | m + 1 => by
    have ih := pr_1 b q m
    unfold cn
    cases h : b m
    · rw [pr_f h, ih]; rfl
    · rw [pr_t h, if_pos rfl]
      show (pr b m q).1 + 1 = _
      omega
theorem pr_c {b b' : Nat → Bool} (q : Nat × (Nat → Int32)) : ∀ m, (∀ i, i < m → b i = b' i) → pr b m q = pr b' m q
  | 0, _ => rfl
  | m + 1, h => by
    have ih := pr_c q m (fun i hi => h i (by omega))
    cases e : b m
    · rw [pr_f e, pr_f (by rw [← h m (by omega)]; exact e), ih]
    · rw [pr_t e, pr_t (by rw [← h m (by omega)]; exact e), ih]
theorem cn_c {b b' : Nat → Bool} : ∀ m, (∀ i, i < m → b i = b' i) → cn b m = cn b' m
  | 0, _ => rfl
  | m + 1, h => by
    unfold cn
    rw [cn_c m (fun i hi => h i (by omega)), h m (by omega)]
theorem cn_le (b : Nat → Bool) : ∀ m, cn b m ≤ m
  | 0 => Nat.le_refl _
  | m + 1 => by
    have := cn_le b m
    unfold cn
    split <;> omega
theorem cn_m (b : Nat → Bool) {k : Nat} : ∀ m, k ≤ m → cn b k ≤ cn b m
  | 0, h => by
    have : k = 0 := by omega
    rw [this]
    exact Nat.le_refl _
  | m + 1, h => by
    by_cases e : k = m + 1
    · rw [e]; exact Nat.le_refl _
    · have := cn_m b (k := k) m (by omega)
      show _ ≤ cn b m + _
      omega
theorem cn_n (b : Nat → Bool) : ∀ m, cn b m + cn (fun i => !b i) m = m
  | 0 => rfl
  | m + 1 => by
    have := cn_n b m
    unfold cn
    cases b m
    · show cn b m + 0 + (cn (fun i => !b i) m + 1) = _
      omega
    · show cn b m + 1 + (cn (fun i => !b i) m + 0) = _
      omega
theorem pr_s {b : Nat → Bool} {p : Nat} {r r' : Nat → Int32} (h : ∀ i, i < p → r i = r' i) : ∀ m i, i < (pr b m (p, r)).1 → (pr b m (p, r)).2 i = (pr b m (p, r')).2 i
  | 0, i, hi => h i hi
  | m + 1, i, hi => by
    have e1 := pr_1 b (p, r) m
    have e2 := pr_1 b (p, r') m
    cases e : b m
    · rw [pr_f e] at hi ⊢
      rw [pr_f e]
      exact pr_s h m i hi
    · rw [pr_t e] at hi ⊢
      rw [pr_t e]
      have hi' : i < (pr b m (p, r)).1 + 1 := hi
      show upd (pr b m (p, r)).2 (pr b m (p, r)).1 (nI m) i = upd (pr b m (p, r')).2 (pr b m (p, r')).1 (nI m) i
      have e3 : (pr b m (p, r)).1 = (pr b m (p, r')).1 := e1.trans e2.symm
      rw [upd_ap, upd_ap, ← e3]
      by_cases c : i = (pr b m (p, r)).1
      · rw [if_pos c, if_pos c]
      · rw [if_neg c, if_neg c]
        exact pr_s h m i (by omega)
theorem pr_rg {b : Nat → Bool} {p : Nat} {r : Nat → Int32} (h : ∀ i, i < p → rg 0 7 (r i)) : ∀ m, m ≤ 8 → ∀ i, i < (pr b m (p, r)).1 → rg 0 7 ((pr b m (p, r)).2 i)
  | 0, _, i, hi => h i hi
  | m + 1, h8, i, hi => by
    cases e : b m
    · rw [pr_f e] at hi ⊢
      exact pr_rg h m (by omega) i hi
    · rw [pr_t e] at hi ⊢
      have hi' : i < (pr b m (p, r)).1 + 1 := hi
      show rg 0 7 (upd (pr b m (p, r)).2 (pr b m (p, r)).1 (nI m) i)
      rw [upd_ap]
      by_cases c : i = (pr b m (p, r)).1
      · rw [if_pos c]
        exact nI_rg (by omega) (by omega)
      · rw [if_neg c]
        exact pr_rg h m (by omega) i (by omega)
theorem put_D {N : Nat} {σ : Mem} {n p : Nat} (h8 : n ≤ 8) (h3 : gI σ 3 0 = nI n) (a : Int32) (hp : p + cn (bt a) n ≤ 8) : par (f_Cu_putIntoRow N a (nI p) σ) (fun q => fr [21] [] σ q.2 ∧ q.1 = nI (pr (bt a) n (p, gI σ 21)).1 ∧ gI q.2 21 = (pr (bt a) n (p, gI σ 21)).2) := by
  unfold f_Cu_putIntoRow
  refine p_it3 (fun i1 i2 s => ∃ m, m ≤ n ∧ i2 = nI m ∧ fr [21] [] σ s ∧ i1 = nI (pr (bt a) m (p, gI σ 21)).1 ∧ gI s 21 = (pr (bt a) m (p, gI σ 21)).2) ?_ N _ _ _ ⟨0, by omega, rfl, fr_r _ _ _, rfl, rfl⟩
  rintro self _ _ s ⟨m, hm, rfl, hf, rfl, hr⟩ ih
  unfold Cu_putIntoRow_B5
  rw [hf.1 3 (by decide), h3]
  have e1 := pr_1 (bt a) (p, gI σ 21) m
  have e4 : (pr (bt a) m (p, gI σ 21)).1 = p + cn (bt a) m := e1
  have e5 := cn_m (bt a) n hm
  refine p_if (fun h => ?_) (fun h => ?_)
  · rw [nle (by omega) (by omega)] at h
    have : m = n := by omega
    subst this
    exact p_some ⟨hf, rfl, hr⟩
  · rw [nle (by omega) (by omega)] at h
    rw [bit_bt (by omega), nadd1]
    cases e : bt a m
    · rw [if_neg (by decide)]
      exact ih _ _ _ ⟨m + 1, by omega, rfl, hf, by rw [pr_f e], by rw [pr_f e]; exact hr⟩
    · rw [if_pos (by rfl)]
      have e6 := cn_m (bt a) (k := m + 1) n (by omega)
      have e7 : cn (bt a) (m + 1) = cn (bt a) m + 1 := by
        show cn (bt a) m + (if bt a m then 1 else 0) = _
        rw [e]; rfl
      rw [l8, if_neg (by rw [nle (by omega) (by omega)]; omega)]
      refine p_gd (fun _ => p_bnd ?_)
      rw [nadd1, nI_clamp (by omega)]
      refine ih _ _ _ ⟨m + 1, by omega, rfl, fr_t hf (fr_sI (by decide)), by rw [pr_t e], ?_⟩
      rw [pr_t e, gI_sI, if_pos rfl, hr]
theorem pw_D {N : Nat} {σ : Mem} {k : Nat} (hk : k ≤ 3) (h3 : gI σ 3 0 = nI (2 ^ k)) (a : Int32) : par (f_Cu_playWithFirst N a σ) (fun q => q.1 = cw (gI σ 13) k (pr (fun i => !bt a i) (2 ^ k) (pr (bt a) (2 ^ k) (0, gI σ 21))).2) := by
  have h8 : 2 ^ k ≤ 8 := by
    rcases (show k = 0 ∨ k = 1 ∨ k = 2 ∨ k = 3 by omega) with rfl | rfl | rfl | rfl <;> decide
  have c1' := cn_le (bt a) (2 ^ k)
  have c2' := cn_n (bt a) (2 ^ k)
  unfold f_Cu_playWithFirst
  refine p_ob2 (fun r s => fr [21] [] σ s ∧ r = nI (pr (bt a) (2 ^ k) (0, gI σ 21)).1 ∧ gI s 21 = (pr (bt a) (2 ^ k) (0, gI σ 21)).2) (put_D (p := 0) h8 h3 a (by omega)) (fun r2 s1 h => ?_)
  obtain ⟨f1, e1, e2⟩ := h
  have g3 : gI s1 3 0 = nI (2 ^ k) := by rw [f1.1 3 (by decide), h3]
  have eb : ∀ i, i < 2 ^ k → bt (t_Du_everybodyN s1 &&& (a ^^^ (-1 : Int32))) i = !bt a i := fun i hi => by
    unfold t_Du_everybodyN
    rw [g3, bt_and, bt_not _ (by omega), bt_mask h8 (by omega), decide_eq_true hi]
    rfl
  have ec := cn_c (2 ^ k) eb
  have e3 := pr_1 (bt a) (0, gI σ 21) (2 ^ k)
  have e3' : (pr (bt a) (2 ^ k) (0, gI σ 21)).1 = 0 + cn (bt a) (2 ^ k) := e3
  rw [e1]
  refine p_ob2 (fun r s => fr [21] [] s1 s ∧ r = nI (pr (bt (t_Du_everybodyN s1 &&& (a ^^^ (-1 : Int32)))) (2 ^ k) ((pr (bt a) (2 ^ k) (0, gI σ 21)).1, gI s1 21)).1 ∧ gI s 21 = (pr (bt (t_Du_everybodyN s1 &&& (a ^^^ (-1 : Int32)))) (2 ^ k) ((pr (bt a) (2 ^ k) (0, gI σ 21)).1, gI s1 21)).2) (put_D h8 g3 _ (by omega)) (fun r4 s3 h => ?_)
  obtain ⟨f2, e4, e5⟩ := h
  refine p_bnd ?_
  rw [f2.1 3 (by decide), g3, ndiv2 (by omega)]
  have e6 : gI s3 13 = gI σ 13 := by rw [f2.1 13 (by decide), f1.1 13 (by decide)]
  rw [← e6]
  refine cup_D hk (fun i _ => ?_) rfl
  rw [e5, pr_c _ _ eb, e2]
theorem wins_M {N : Nat} {μ : Mem} {f : Nat → Int32} {W : Int32} {k : Nat} (hk : k ≤ 3) (h1 : gI μ 1 0 = nI (2 ^ k)) (hf : ∀ a, a < 8 → gI μ 1 (1 + a) = f a) (h8 : ∀ i, i < 2 ^ k → rg 0 7 (gI μ 26 i)) (hW : cw f k (gI μ 26) = W) : par (f_M_wins N μ) (fun q => q.1 = W) := by
  have k8 : 2 ^ k ≤ 8 := by
    rcases (show k = 0 ∨ k = 1 ∨ k = 2 ∨ k = 3 by omega) with rfl | rfl | rfl | rfl <;> decide
  unfold f_M_wins
  rw [bnd_e, many_e h1]
  refine p_it2 (fun i s => ∃ j, j ≤ 2 ^ k ∧ i = nI j ∧ fr [27] [] μ s ∧ ∀ i, i < j → gI s 27 i = gI μ 26 i) ?_ N _ _ ⟨0, Nat.zero_le _, rfl, fr_r _ _ _, fun i hi => by omega⟩
  rintro self _ s ⟨j, hj, rfl, hfr, hc⟩ ih
  unfold M_wins_B7
  refine p_if (fun h => ?_) (fun h => ?_)
  · rw [nle (by omega) (by omega)] at h
    have : j = 2 ^ k := by omega
    subst this
    unfold M_wins_K30
    refine cup_M hk (fun a ha => ?_) hc h8 hW
    rw [hfr.1 1 (by decide), hf a ha]
  · rw [nle (by omega) (by omega)] at h
    refine p_gd (fun _ => p_gd (fun _ => p_bnd ?_))
    rw [nadd1, nI_clamp (by omega)]
    refine ih _ _ ⟨j + 1, by omega, rfl, fr_t hfr (fr_sI (by decide)), fun i hi => ?_⟩
    rw [gI_sI, if_pos rfl, upd_ap]
    by_cases c : i = j
    · rw [if_pos c, c, hfr.1 26 (by decide)]
    · rw [if_neg c]
      exact hc i (by omega)
def prs (a : Int32) (t : Nat) (i : Nat) : Bool := if t = 0 then bt a i else !bt a i
def prq (a : Int32) (n : Nat) (r : Nat → Int32) : Nat → Nat × (Nat → Int32)
  | 0 => (0, r)
  | t + 1 => pr (prs a t) n (prq a n r t)
theorem win_M {N : Nat} {μ : Mem} {f : Nat → Int32} {k : Nat} (hk : k ≤ 3) (h1 : gI μ 1 0 = nI (2 ^ k)) (hf : ∀ a, a < 8 → gI μ 1 (1 + a) = f a) (a : Int32) : par (it3 (M_winner_B32 N a) N (0 : Int32) (0 : Int32) μ) (fun q => q.1 = cw f k (prq a (2 ^ k) (gI μ 26) 2).2) := by
  have k8 : 2 ^ k ≤ 8 := by
    rcases (show k = 0 ∨ k = 1 ∨ k = 2 ∨ k = 3 by omega) with rfl | rfl | rfl | rfl <;> decide
  have le : ∀ t, (prq a (2 ^ k) (gI μ 26) t).1 ≤ 8 * t := by
    intro t
    induction t with
    | zero => exact Nat.le_refl _
    | succ t ih =>
      show (pr (prs a t) (2 ^ k) (prq a (2 ^ k) (gI μ 26) t)).1 ≤ _
      rw [pr_1]
      have := cn_le (prs a t) (2 ^ k)
      omega
  refine p_it3 (fun i5 i6 s => ∃ t, t ≤ 2 ∧ i6 = nI t ∧ fr [26] [] μ s ∧ i5 = nI (prq a (2 ^ k) (gI μ 26) t).1 ∧ gI s 26 = (prq a (2 ^ k) (gI μ 26) t).2) ?_ N _ _ _ ⟨0, by omega, rfl, fr_r _ _ _, rfl, rfl⟩
  rintro self _ _ s ⟨t, ht, rfl, hfr, rfl, hr⟩ ih
  unfold M_winner_B32
  rw [l2]
  refine p_if (fun h => ?_) (fun h => ?_)
  · rw [nle (by omega) (by omega)] at h
    have : t = 2 := by omega
    subst this
    unfold M_winner_K90
    refine p_ob2 (fun r _ => r = cw f k (prq a (2 ^ k) (gI μ 26) 2).2) ?_ (fun r s3 h => p_some h)
    refine wins_M (f := f) hk (by rw [hfr.1 1 (by decide), h1]) (fun a ha => by rw [hfr.1 1 (by decide), hf a ha]) (fun i hi => ?_) (by rw [hr])
    rw [hr]
    have e1 : (prq a (2 ^ k) (gI μ 26) 2).1 = 0 + cn (bt a) (2 ^ k) + cn (fun i => !bt a i) (2 ^ k) := by
      show (pr (prs a 1) (2 ^ k) (pr (prs a 0) (2 ^ k) (0, gI μ 26))).1 = _
      rw [pr_1, pr_1]
      rfl
    have e2 := cn_n (bt a) (2 ^ k)
    have g1 := pr_rg (b := prs a 0) (p := 0) (r := gI μ 26) (fun i hi => by omega) (2 ^ k) k8
    have g2 := pr_rg (b := prs a 1) (p := (pr (prs a 0) (2 ^ k) (0, gI μ 26)).1) (r := (pr (prs a 0) (2 ^ k) (0, gI μ 26)).2) g1 (2 ^ k) k8
    exact g2 i (by show i < (prq a (2 ^ k) (gI μ 26) 2).1; omega)
  · rw [nle (by omega) (by omega)] at h
    have lt := le t
    refine p_it3 (fun i9 i10 s => ∃ m, m ≤ 2 ^ k ∧ i10 = nI m ∧ fr [26] [] μ s ∧ i9 = nI (pr (prs a t) m (prq a (2 ^ k) (gI μ 26) t)).1 ∧ gI s 26 = (pr (prs a t) m (prq a (2 ^ k) (gI μ 26) t)).2) ?_ N _ _ _ ⟨0, Nat.zero_le _, rfl, hfr, rfl, hr⟩
    rintro self2 _ _ s2 ⟨m, hm, rfl, hfr2, rfl, hr2⟩ ih2
    unfold M_winner_B40
    rw [many_e (by rw [hfr2.1 1 (by decide), h1])]
    refine p_if (fun h2 => ?_) (fun h2 => ?_)
    · rw [nle (by omega) (by omega)] at h2
      have : m = 2 ^ k := by omega
      subst this
      rw [nadd1]
      exact ih _ _ _ ⟨t + 1, by omega, rfl, hfr2, rfl, hr2⟩
    · rw [nle (by omega) (by omega)] at h2
      have pl := pr_1 (prs a t) (prq a (2 ^ k) (gI μ 26) t) m
      have pm := cn_le (prs a t) m
      have key : ∀ v : Int32, (t_M_has a (nI m) = v ↔ prs a t m = true) → par (M_winner_J64 s2 a (nI (pr (prs a t) m (prq a (2 ^ k) (gI μ 26) t)).1) (nI m) self2 v) (fun q => q.1 = cw f k (prq a (2 ^ k) (gI μ 26) 2).2) := fun v hv => by
        unfold M_winner_J64
        rw [nadd1, nadd1]
        refine p_if (fun h3 => ?_) (fun h3 => ?_)
        · have e := hv.mp h3
          refine p_gd (fun _ => p_bnd ?_)
          rw [nI_clamp (by omega)]
          refine ih2 _ _ _ ⟨m + 1, by omega, rfl, fr_t hfr2 (fr_sI (by decide)), by rw [pr_t e], ?_⟩
          rw [pr_t e, gI_sI, if_pos rfl, hr2]
        · have e : prs a t m = false := by
            cases e : prs a t m
            · rfl
            · exact absurd (hv.mpr e) h3
          exact ih2 _ _ _ ⟨m + 1, by omega, rfl, hfr2, by rw [pr_f e], by rw [pr_f e]; exact hr2⟩
      refine p_if (fun h3 => key _ ?_) (fun h3 => key _ ?_)
      · have : t = 0 := by
          refine Classical.byContradiction (fun c => ?_)
          have : t = 1 := by omega
          subst this
          exact absurd h3 (by decide)
        subst this
        rw [has_bt (by omega)]
        show _ ↔ bt a m = true
        cases bt a m
        · exact ⟨fun q => absurd q (by decide), fun q => absurd q (by decide)⟩
        · exact ⟨fun q => rfl, fun q => rfl⟩
      · have : t = 1 := by
          refine Classical.byContradiction (fun c => ?_)
          have : t = 0 := by omega
          subst this
          exact absurd rfl h3
        subst this
        rw [has_bt (by omega)]
        show _ ↔ (!bt a m) = true
        cases bt a m
        · exact ⟨fun q => rfl, fun q => rfl⟩
        · exact ⟨fun q => absurd q (by decide), fun q => absurd q (by decide)⟩
theorem st_Rl_winner_c {N : Nat} (hN : 8589934592 ≤ N) {σ μ : Mem} (hR : Rl σ μ) (a : Int32) : ∃ (q q2 : Int32 × Mem), f_D_winner N a σ = some (q.1, q.2) ∧ f_M_winner N a μ = some (q2.1, q2.2) ∧ Rl q.2 q2.2 ∧ q.1 = q2.1 := by
  obtain ⟨q, e1, k1⟩ := D_winner_t hN (a1 := a) hR.1
  obtain ⟨q2, e2, k2⟩ := M_winner_t hN (a1 := a) hR.2.1
  refine ⟨q, q2, e1, e2, Rl_q hR k1.2 k2 (by decide) (by decide), ?_⟩
  obtain ⟨s1, es1⟩ : ∃ s, s = sI μ 0 0 0 := ⟨_, rfl⟩
  obtain ⟨hR1, k0⟩ := Rl_m0 hR es1
  obtain ⟨n, h8, h3, h1, h13, hT⟩ := Rl_n hR1
  unfold f_D_winner at e1
  unfold f_M_winner at e2
  rw [bnd_e, ← es1] at e2
  have pD := ps_D h8 h3 a
  have pM := so_M h8 h1 a
  by_cases hs : 1 ≤ n ∧ sub n a
  · have d1 : ¬ gI σ 3 0 = 0 := fun q => by
      rw [h3] at q
      have := nI_inj (by omega) (by decide) (show nI n = nI 0 from q)
      omega
    have d2 : ¬ t_Du_arePlayersN a σ = 0 := fun q => pD.mp q hs.2
    have m2 : ¬ t_M_isSome a s1 = 0 := fun q => pM.mp q hs
    rw [if_neg d1, if_neg d2, h3] at e1
    rw [if_neg m2, many_e h1] at e2
    have ft : t_M_isCup (nI n) = t_Cu_fits (nI n) := rfl
    rw [ft] at e2
    by_cases hf : t_Cu_fits (nI n) = 0
    · rw [if_pos hf] at e1 e2
      cases e1
      cases e2
      rfl
    · rw [if_neg hf] at e1 e2
      obtain ⟨k, hk, rfl⟩ : ∃ k, k ≤ 3 ∧ n = 2 ^ k := by
        rcases (show n = 1 ∨ n = 2 ∨ n = 4 ∨ n = 8 ∨ n = 3 ∨ n = 5 ∨ n = 6 ∨ n = 7 by omega) with rfl | rfl | rfl | rfl | rfl | rfl | rfl | rfl
        · exact ⟨0, by decide, rfl⟩
        · exact ⟨1, by decide, rfl⟩
        · exact ⟨2, by decide, rfl⟩
        · exact ⟨3, by decide, rfl⟩
        · exact absurd (by decide) hf
        · exact absurd (by decide) hf
        · exact absurd (by decide) hf
        · exact absurd (by decide) hf
      have a1 := p_ob2 (k := fun r s => some (r, s)) (P := fun q => q.1 = cw (gI σ 13) k (pr (fun i => !bt a i) (2 ^ k) (pr (bt a) (2 ^ k) (0, gI σ 21))).2) (fun r _ => r = _) (pw_D (N := N) hk h3 a) (fun r s h => p_some h) q e1
      have a2 := win_M (N := N) hk h1 h13 a q2 e2
      rw [a1, a2]
      refine cw_c k (fun i hi => ?_)
      have e1 : ∀ r, (prq a (2 ^ k) r 2).1 = 2 ^ k := fun r => by
        show (pr (prs a 1) (2 ^ k) (pr (prs a 0) (2 ^ k) (0, r))).1 = _
        rw [pr_1, pr_1]
        have := cn_n (bt a) (2 ^ k)
        show 0 + cn (bt a) (2 ^ k) + cn (fun i => !bt a i) (2 ^ k) = _
        omega
      have p1 : ∀ i, i < (pr (bt a) (2 ^ k) (0, gI σ 21)).1 → (pr (bt a) (2 ^ k) (0, gI σ 21)).2 i = (pr (bt a) (2 ^ k) (0, gI s1 26)).2 i := pr_s (b := bt a) (p := 0) (fun i hi => by omega) (2 ^ k)
      have p2 := pr_s (b := fun i => !bt a i) p1 (2 ^ k) i (by
        have := e1 (gI σ 21)
        show i < (prq a (2 ^ k) (gI σ 21) 2).1
        omega)
      have e5 : (pr (bt a) (2 ^ k) (0, gI σ 21)).1 = (pr (bt a) (2 ^ k) (0, gI s1 26)).1 := by rw [pr_1, pr_1]
      have e6 : ((pr (bt a) (2 ^ k) (0, gI σ 21)).1, (pr (bt a) (2 ^ k) (0, gI s1 26)).2) = pr (bt a) (2 ^ k) (0, gI s1 26) := by rw [e5]
      rw [e6] at p2
      exact p2
  · have m2 : t_M_isSome a s1 = 0 := pM.mpr hs
    rw [if_pos m2] at e2
    cases e2
    by_cases hn : 1 ≤ n
    · have d2 : t_Du_arePlayersN a σ = 0 := pD.mpr (fun q => hs ⟨hn, q⟩)
      by_cases d1 : gI σ 3 0 = 0
      · rw [if_pos d1] at e1
        cases e1
        rfl
      · rw [if_neg d1, if_pos d2] at e1
        cases e1
        rfl
    · have d1 : gI σ 3 0 = 0 := by
        have : n = 0 := by omega
        rw [h3, this]
        rfl
      rw [if_pos d1] at e1
      cases e1
      rfl
