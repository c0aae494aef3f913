/-! shares and weights of a set, gains, in both -/
def fx (P : Nat → Int32) (m k : Nat) (c : Int32) : Int32 := if c = 0 then (if P (clr (nI m) k).toNatClampNeg ≤ 0 then -1 else 1) else c
def fc (P : Nat → Int32) (m : Nat) : Nat → Int32
  | 0 => 0
  | k + 1 => if bt (nI m) k = true then -(fx P m k (fc P m k)) else fc P m k
def vv (P : Nat → Int32) (m k : Nat) : Int32 := if bt (nI m) k = true then fx P m k (fc P m k) * P (clr (nI m) k).toNatClampNeg else 0
theorem fx_pm {P : Nat → Int32} {m k : Nat} {c : Int32} (h : c = 0 ∨ c = 1 ∨ c = -1) : fx P m k c = 1 ∨ fx P m k c = -1 := by
  unfold fx
  rcases h with h | h | h
  · rw [if_pos h]
    by_cases q : P (clr (nI m) k).toNatClampNeg ≤ 0
    · rw [if_pos q]; exact Or.inr rfl
    · rw [if_neg q]; exact Or.inl rfl
  · rw [if_neg (by rw [h]; decide)]; exact Or.inl h
  · rw [if_neg (by rw [h]; decide)]; exact Or.inr h
theorem fc_pm {P : Nat → Int32} {m : Nat} : ∀ k, fc P m k = 0 ∨ fc P m k = 1 ∨ fc P m k = -1
  | 0 => Or.inl rfl
  | k + 1 => by
    have ih := fc_pm (P := P) (m := m) k
    unfold fc
    by_cases c : bt (nI m) k = true
    · rw [if_pos c]
      rcases fx_pm (P := P) (m := m) (k := k) ih with q | q
      · rw [q]; exact Or.inr (Or.inr rfl)
      · rw [q]; exact Or.inr (Or.inl (by decide))
    · rw [if_neg c]; exact ih
theorem fc_c {P P' : Nat → Int32} {m : Nat} (h : ∀ k, k < 8 → bt (nI m) k = true → P (clr (nI m) k).toNatClampNeg = P' (clr (nI m) k).toNatClampNeg) : ∀ k, k ≤ 8 → fc P m k = fc P' m k
  | 0, _ => rfl
  | k + 1, hk => by
    have ih := fc_c h k (by omega)
    unfold fc
    by_cases c : bt (nI m) k = true
    · rw [if_pos c, if_pos c, ih]
      unfold fx
      rw [h k (by omega) c]
    · rw [if_neg c, if_neg c, ih]
theorem vv_c {P P' : Nat → Int32} {m : Nat} (h : ∀ k, k < 8 → bt (nI m) k = true → P (clr (nI m) k).toNatClampNeg = P' (clr (nI m) k).toNatClampNeg) {k : Nat} (hk : k < 8) : vv P m k = vv P' m k := by
  unfold vv
  by_cases c : bt (nI m) k = true
  · rw [if_pos c, if_pos c, fc_c h k (by omega), h k hk c]
    unfold fx
    rw [h k hk c]
  · rw [if_neg c, if_neg c]
theorem vv_b {P : Nat → Int32} {m B : Nat} (hB : B ≤ 1000) (h : ∀ k, k < 8 → bt (nI m) k = true → rg (-(B : Int)) B (P (clr (nI m) k).toNatClampNeg)) {k : Nat} (hk : k < 8) : rg (-(B : Int)) B (vv P m k) := by
  unfold vv
  by_cases c : bt (nI m) k = true
  · rw [if_pos c]
    rcases fx_pm (P := P) (m := m) (k := k) (fc_pm (P := P) (m := m) k) with q | q
    · rw [q, Int32.one_mul]; exact h k hk c
    · rw [q, ← Int32.neg_eq_neg_one_mul]; exact rg_neg (h k hk c) ⟨by omega, by omega, by omega⟩
  · rw [if_neg c]
    have : (0 : Int32).toInt = 0 := by decide
    unfold rg
    omega
theorem sa_D {N : Nat} {σ : Mem} {m : Nat} (hm : m < 256) : par (f_We_shareAmong N (nI m) σ) (fun q => fr [19] [] σ q.2 ∧ ((q.1 = 1 ∧ (∀ j, j < 8 → gI q.2 19 j = vv (gI σ 20) m j) ∧ ∀ j, j < 8 → bt (nI m) j = true → 0 < vv (gI σ 20) m j) ∨ (q.1 = 0 ∧ ∃ j, j < 8 ∧ bt (nI m) j = true ∧ ¬ 0 < vv (gI σ 20) m j))) := by
  unfold f_We_shareAmong
  refine p_it3 (fun i1 i2 s => ∃ k, k ≤ 8 ∧ i2 = nI k ∧ i1 = fc (gI σ 20) m k ∧ fr [19] [] σ s ∧ (∀ j, j < k → gI s 19 j = vv (gI σ 20) m j) ∧ ∀ j, j < k → bt (nI m) j = true → 0 < vv (gI σ 20) m j) ?_ N _ _ _ ⟨0, by omega, rfl, rfl, fr_r _ _ _, fun j hj => by omega, fun j hj => by omega⟩
  rintro self _ _ s ⟨k, hk, rfl, rfl, hf, hv, hp⟩ ih
  unfold We_shareAmong_B4
  refine p_if (fun c => ?_) (fun c => ?_)
  · rw [l8, nle (by omega) (by omega)] at c
    have : k = 8 := by omega
    subst this
    exact p_some ⟨hf, Or.inl ⟨rfl, hv, hp⟩⟩
  · rw [l8, nle (by omega) (by omega)] at c
    refine p_gd (fun _ => p_let (fun s5 e5 => ?_))
    rw [nI_clamp (by omega)] at e5
    have f5 : fr [19] [] σ s5 := by rw [e5]; exact fr_t hf (fr_sI (by decide))
    have hfc : fc (gI σ 20) m (k + 1) = if bt (nI m) k = true then -(fx (gI σ 20) m k (fc (gI σ 20) m k)) else fc (gI σ 20) m k := rfl
    have hvv : vv (gI σ 20) m k = if bt (nI m) k = true then fx (gI σ 20) m k (fc (gI σ 20) m k) * gI σ 20 (clr (nI m) k).toNatClampNeg else 0 := rfl
    rw [bit_bt (by omega), nadd1]
    cases hb : bt (nI m) k
    · rw [if_neg (by decide)]
      rw [hb, if_neg (by decide)] at hfc hvv
      refine ih _ _ _ ⟨k + 1, by omega, rfl, hfc.symm, f5, fun j hj => ?_, fun j hj h => ?_⟩
      · rw [e5, gI_sI, if_pos rfl, upd_ap]
        by_cases cj : j = k
        · rw [if_pos cj, cj, hvv]
        · rw [if_neg cj]; exact hv j (by omega)
      · by_cases cj : j = k
        · rw [cj, hb] at h; cases h
        · exact hp j (by omega) h
    · rw [if_pos (by rfl)]
      rw [hb, if_pos rfl] at hfc hvv
      refine p_gd (fun _ => p_bnd ?_)
      have e20 : gI s5 20 (nI m &&& (((1 : Int32) <<< (nI k &&& 31)) ^^^ (-1 : Int32))).toNatClampNeg = gI σ 20 (clr (nI m) k).toNatClampNeg := by
        rw [f5.1 20 (by decide)]
        rfl
      rw [e20]
      have key : par (We_shareAmong_J55 s5 (nI k) (gI σ 20 (clr (nI m) k).toNatClampNeg) self (fx (gI σ 20) m k (fc (gI σ 20) m k))) (fun q => fr [19] [] σ q.2 ∧ ((q.1 = 1 ∧ (∀ j, j < 8 → gI q.2 19 j = vv (gI σ 20) m j) ∧ ∀ j, j < 8 → bt (nI m) j = true → 0 < vv (gI σ 20) m j) ∨ (q.1 = 0 ∧ ∃ j, j < 8 ∧ bt (nI m) j = true ∧ ¬ 0 < vv (gI σ 20) m j))) := by
        unfold We_shareAmong_J55
        refine p_gd (fun _ => p_let (fun s8 e8 => p_gd (fun _ => ?_)))
        rw [nI_clamp (by omega), ← hvv] at e8
        have v8 : gI s8 19 k = vv (gI σ 20) m k := by rw [e8, gI_sI, if_pos rfl, upd_ap, if_pos rfl]
        have f8 : fr [19] [] σ s8 := by rw [e8]; exact fr_t f5 (fr_sI (by decide))
        rw [nI_clamp (by omega), v8, nadd1]
        refine p_if (fun c2 => p_bnd ?_) (fun c2 => p_some ⟨f8, Or.inr ⟨rfl, k, by omega, hb, c2⟩⟩)
        refine ih _ _ _ ⟨k + 1, by omega, rfl, hfc.symm, f8, fun j hj => ?_, fun j hj h => ?_⟩
        · by_cases cj : j = k
          · rw [cj]; exact v8
          · rw [e8, gI_sI, if_pos rfl, upd_ap, if_neg cj, e5, gI_sI, if_pos rfl, upd_ap, if_neg cj]
            exact hv j (by omega)
        · by_cases cj : j = k
          · rw [cj]; exact c2
          · exact hp j (by omega) h
      have efx : fx (gI σ 20) m k (fc (gI σ 20) m k) = if fc (gI σ 20) m k = 0 then (if gI σ 20 (clr (nI m) k).toNatClampNeg ≤ 0 then -1 else 1) else fc (gI σ 20) m k := rfl
      refine p_if (fun c3 => ?_) (fun c3 => ?_)
      · rw [if_pos c3] at efx
        refine p_if (fun c4 => ?_) (fun c4 => ?_)
        · rw [if_pos c4] at efx
          rw [efx] at key
          exact key
        · rw [if_neg c4] at efx
          rw [efx] at key
          exact key
      · rw [if_neg c3] at efx
        rw [efx] at key
        exact key
-- common divisors
theorem ndiv {x y : Nat} (hx : x < 2147483648) (hy : y < 2147483648) (hy0 : 0 < y) : nI x / nI y = nI (x / y) := by
  refine Int32.toInt_inj.mp ?_
  have h := Nat.div_le_self x y
  rw [i_div (by rw [nI_toInt (by omega)]; omega) (by rw [nI_toInt (by omega)]; omega), nI_toInt (by omega), nI_toInt (by omega), nI_toInt (by omega), Int.natCast_ediv]
theorem nmod {x y : Nat} (hx : x < 30000) (hy : y < 30000) (hy0 : 0 < y) : nI x - nI x / nI y * nI y = nI (x % y) := by
  have h := Nat.div_le_self x y
  have e := Nat.div_add_mod' x y
  rw [ndiv (by omega) (by omega) hy0, nmul (by omega) hy, pk_sub (by omega)]
  congr 1
  omega
theorem gcd_st {x y : Nat} : Nat.gcd y (x % y) = Nat.gcd x y := by
  rw [Nat.gcd_comm x y, Nat.gcd_rec y x, Nat.gcd_comm]
theorem cof_M {N a b : Nat} (ha : a < 30000) (hb : b < 30000) : par (f_M_commonOf N (nI a) (nI b)) (fun r => r = nI (Nat.gcd a b)) := by
  unfold f_M_commonOf
  refine p_it2 (fun i1 i2 => ∃ x y, x < 30000 ∧ y < 30000 ∧ i1 = nI x ∧ i2 = nI y ∧ Nat.gcd x y = Nat.gcd a b) ?_ N _ _ ⟨a, b, ha, hb, rfl, rfl, rfl⟩
  rintro self _ _ ⟨x, y, hx, hy, rfl, rfl, hg⟩ ih
  unfold M_commonOf_B4
  refine p_if (fun c => p_some ?_) (fun c => p_gd (fun _ => p_bnd ?_))
  · have : y = 0 := nI_inj (by omega) (by decide) (show nI y = nI 0 from c)
    rw [← hg, this, Nat.gcd_zero_right]
  · have y0 : 0 < y := by
      by_cases q : y = 0
      · rw [q] at c; exact absurd rfl c
      · omega
    have := Nat.mod_lt x y0
    rw [nmod hx hy y0]
    exact ih _ _ ⟨y, x % y, hy, by omega, rfl, rfl, gcd_st.trans hg⟩
theorem cod_D {N a b : Nat} (ha : a < 30000) (hb : b ≤ 60) : par (f_We_commonDivisor N (nI a) (nI b)) (fun r => r = nI (Nat.gcd a b)) := by
  unfold f_We_commonDivisor
  have l100 : (100 : Int32) = nI 100 := rfl
  refine p_it3 (fun i1 i2 i3 => ∃ x y c, x < 30000 ∧ y + c ≤ 60 ∧ i1 = nI x ∧ i2 = nI y ∧ i3 = nI c ∧ Nat.gcd x y = Nat.gcd a b) ?_ N _ _ _ ⟨a, b, 0, ha, by omega, rfl, rfl, rfl, rfl⟩
  rintro self _ _ _ ⟨x, y, c, hx, hy, rfl, rfl, rfl, hg⟩ ih
  unfold We_commonDivisor_B7
  rw [if_neg (by rw [l100, nle (by decide) (by omega)]; omega)]
  refine p_if (fun c => p_some ?_) (fun c => p_gd (fun _ => p_bnd ?_))
  · rw [l0, nle (by omega) (by decide)] at c
    have : y = 0 := by omega
    rw [← hg, this, Nat.gcd_zero_right]
  · rw [l0, nle (by omega) (by decide)] at c
    have := Nat.mod_lt x (show 0 < y by omega)
    rw [nmod hx (by omega) (by omega), nadd1]
    exact ih _ _ _ ⟨y, x % y, _, by omega, by omega, rfl, rfl, rfl, gcd_st.trans hg⟩
def gk (A : Nat → Nat) : Nat → Nat
  | 0 => 0
  | k + 1 => Nat.gcd (A k) (gk A k)
theorem gk_d (A : Nat → Nat) : ∀ k j, j < k → gk A k ∣ A j
  | 0, j, h => absurd h (Nat.not_lt_zero _)
  | k + 1, j, h => by
    by_cases c : j = k
    · rw [c]; exact Nat.gcd_dvd_left _ _
    · exact Nat.dvd_trans (Nat.gcd_dvd_right _ _) (gk_d A k j (by omega))
theorem gk_p (A : Nat → Nat) {j : Nat} (hj : 0 < A j) : ∀ k, j < k → 0 < gk A k
  | 0, h => absurd h (Nat.not_lt_zero _)
  | k + 1, h => by
    by_cases c : j = k
    · rw [← c]; exact Nat.gcd_pos_of_pos_left _ hj
    · exact Nat.gcd_pos_of_pos_right _ (gk_p A hj k (by omega))
theorem gk_b (A : Nat → Nat) {B : Nat} (h : ∀ j, A j ≤ B) : ∀ k, gk A k ≤ B
  | 0 => Nat.zero_le _
  | k + 1 => by
    have ih := gk_b A h k
    have hk := h k
    by_cases c : A k = 0
    · show Nat.gcd (A k) (gk A k) ≤ B
      rw [c, Nat.gcd_zero_left]
      exact ih
    · exact Nat.le_trans (Nat.gcd_le_left _ (by omega)) hk
-- gains
def gF (f w : Nat → Int32) (x : Nat) : Nat → Int32
  | 0 => 0
  | k + 1 => if k = x then gF f w x k else gF f w x k + (if bt (f x) k = true then w k else -(w k))
theorem gn_D {N : Nat} {σ : Mem} {n x : Nat} (h8 : n ≤ 8) (h3 : gI σ 3 0 = nI n) (hx : x < 8) : par (f_We_gainOfS N (nI x) σ) (fun r => r = gF (gI σ 13) (gI σ 19) x n) := by
  unfold f_We_gainOfS
  refine p_it2 (fun i1 i2 => ∃ k, k ≤ n ∧ i2 = nI k ∧ i1 = gF (gI σ 13) (gI σ 19) x k) ?_ N _ _ ⟨0, by omega, rfl, rfl⟩
  rintro self _ _ ⟨k, hk, rfl, rfl⟩ ih
  unfold We_gainOfS_B5
  rw [h3]
  refine p_if (fun c => ?_) (fun c => ?_)
  · rw [nle (by omega) (by omega)] at c
    have : k = n := by omega
    subst this
    exact p_some rfl
  · rw [nle (by omega) (by omega)] at c
    have hs : gF (gI σ 13) (gI σ 19) x (k + 1) = if k = x then gF (gI σ 13) (gI σ 19) x k else gF (gI σ 13) (gI σ 19) x k + (if bt (gI σ 13 x) k = true then gI σ 19 k else -(gI σ 19 k)) := rfl
    rw [nadd1]
    refine p_if (fun c2 => ?_) (fun c2 => ?_)
    · have : k = x := nI_inj (by omega) (by omega) c2
      rw [if_pos this] at hs
      exact ih _ _ ⟨k + 1, by omega, rfl, hs.symm⟩
    · have : ¬ k = x := fun q => c2 (by rw [q])
      rw [if_neg this] at hs
      rw [isb_e hx (by omega), ob_s, nI_clamp (by omega)]
      cases hb : bt (gI σ 13 x) k
      · rw [if_pos (by rfl)]
        rw [hb, if_neg (by decide)] at hs
        exact p_gd (fun _ => p_bnd (ih _ _ ⟨k + 1, by omega, rfl, hs.symm⟩))
      · rw [if_neg (by decide)]
        rw [hb, if_pos rfl] at hs
        exact p_gd (fun _ => p_bnd (ih _ _ ⟨k + 1, by omega, rfl, hs.symm⟩))
theorem gn_M {N : Nat} {μ : Mem} {f : Nat → Int32} {n x : Nat} (h8 : n ≤ 8) (h1 : gI μ 1 0 = nI n) (h13 : ∀ a, a < 8 → gI μ 1 (1 + a) = f a) (hx : x < 8) : par (f_M_gains N (nI x) μ) (fun r => r = gF f (gI μ 21) x n) := by
  unfold f_M_gains
  refine p_it2 (fun i1 i2 => ∃ k, k ≤ n ∧ i2 = nI k ∧ i1 = gF f (gI μ 21) x k) ?_ N _ _ ⟨0, by omega, rfl, rfl⟩
  rintro self _ _ ⟨k, hk, rfl, rfl⟩ ih
  unfold M_gains_B4
  rw [many_e h1]
  refine p_if (fun c => ?_) (fun c => ?_)
  · rw [nle (by omega) (by omega)] at c
    have : k = n := by omega
    subst this
    exact p_some rfl
  · rw [nle (by omega) (by omega)] at c
    have hs : gF f (gI μ 21) x (k + 1) = if k = x then gF f (gI μ 21) x k else gF f (gI μ 21) x k + (if bt (f x) k = true then gI μ 21 k else -(gI μ 21 k)) := rfl
    rw [nadd1]
    refine p_if (fun c2 => ?_) (fun c2 => ?_)
    · have : k = x := nI_inj (by omega) (by omega) c2
      rw [if_pos this] at hs
      refine p_bnd (ih _ _ ⟨k + 1, by omega, rfl, ?_⟩)
      rw [hs, Int32.add_zero]
    · have : ¬ k = x := fun q => c2 (by rw [q])
      rw [if_neg this] at hs
      rw [ag_M h13 hx (by omega), ob_s, nI_clamp (by omega)]
      refine p_gd (fun _ => p_bnd (ih _ _ ⟨k + 1, by omega, rfl, ?_⟩))
      rw [hs]
      unfold ag
      cases bt (f x) k
      · rw [if_neg (by decide), if_neg (by decide), ← Int32.neg_eq_neg_one_mul]
      · rw [if_pos rfl, if_pos rfl, Int32.one_mul]
theorem ng_D {N : Nat} {σ : Mem} {n : Nat} (h8 : n ≤ 8) (h3 : gI σ 3 0 = nI n) (S : Int32) : par (f_We_nobodyGainsS N S σ) (fun r => (r = 1 ∧ ∀ x, x < n → bt S x = true → gF (gI σ 13) (gI σ 19) x n ≤ 0) ∨ (r = 0 ∧ ¬ ∀ x, x < n → bt S x = true → gF (gI σ 13) (gI σ 19) x n ≤ 0)) := by
  unfold f_We_nobodyGainsS
  refine p_it1 (fun i => ∃ k, k ≤ n ∧ i = nI k ∧ ∀ x, x < k → bt S x = true → gF (gI σ 13) (gI σ 19) x n ≤ 0) ?_ N _ ⟨0, by omega, rfl, fun x hx => by omega⟩
  rintro self _ ⟨k, hk, rfl, h⟩ ih
  unfold We_nobodyGainsS_B2
  rw [h3]
  refine p_if (fun c => ?_) (fun c => ?_)
  · rw [nle (by omega) (by omega)] at c
    exact p_some (Or.inl ⟨rfl, fun x hx => h x (by omega)⟩)
  · rw [nle (by omega) (by omega)] at c
    rw [bit_bt (by omega), nadd1]
    cases hb : bt S k
    · rw [if_neg (by decide)]
      refine ih _ ⟨k + 1, by omega, rfl, fun x hx h2 => ?_⟩
      by_cases cx : x = k
      · rw [cx, hb] at h2; cases h2
      · exact h x (by omega) h2
    · rw [if_pos (by rfl)]
      refine p_ob _ (gn_D h8 h3 (by omega)) (fun r hr => ?_)
      rw [hr]
      refine p_if (fun c2 => ?_) (fun c2 => p_some (Or.inr ⟨rfl, fun q => c2 (q k (by omega) hb)⟩))
      refine ih _ ⟨k + 1, by omega, rfl, fun x hx h2 => ?_⟩
      by_cases cx : x = k
      · rw [cx]; exact c2
      · exact h x (by omega) h2
theorem ng_M {N : Nat} {μ : Mem} {f : Nat → Int32} {n : Nat} (h8 : n ≤ 8) (h1 : gI μ 1 0 = nI n) (h13 : ∀ a, a < 8 → gI μ 1 (1 + a) = f a) (S : Int32) : par (f_M_nobodyGains N S μ) (fun r => (r = 1 ∧ ∀ x, x < n → bt S x = true → gF f (gI μ 21) x n ≤ 0) ∨ (r = 0 ∧ ¬ ∀ x, x < n → bt S x = true → gF f (gI μ 21) x n ≤ 0)) := by
  unfold f_M_nobodyGains
  refine p_it2 (fun i1 i2 => ∃ k, k ≤ n ∧ i2 = nI k ∧ ((i1 = 1 ∧ ∀ x, x < k → bt S x = true → gF f (gI μ 21) x n ≤ 0) ∨ (i1 = 0 ∧ ¬ ∀ x, x < n → bt S x = true → gF f (gI μ 21) x n ≤ 0))) ?_ N _ _ ⟨0, by omega, rfl, Or.inl ⟨rfl, fun x hx => by omega⟩⟩
  rintro self i1 _ ⟨k, hk, rfl, h⟩ ih
  unfold M_nobodyGains_B4
  rw [many_e h1]
  refine p_if (fun c => ?_) (fun c => ?_)
  · rw [nle (by omega) (by omega)] at c
    refine p_gd (fun _ => p_some ?_)
    rcases h with ⟨e, h⟩ | ⟨e, h⟩
    · exact Or.inl ⟨e, fun x hx => h x (by omega)⟩
    · exact Or.inr ⟨e, h⟩
  · rw [nle (by omega) (by omega)] at c
    rw [nadd1]
    rcases h with ⟨e, h⟩ | ⟨e, h⟩
    · rw [e, if_neg n10, has_bt (by omega)]
      cases hb : bt S k
      · rw [if_pos (by decide)]
        refine ih _ _ ⟨k + 1, by omega, rfl, Or.inl ⟨rfl, fun x hx h2 => ?_⟩⟩
        by_cases cx : x = k
        · rw [cx, hb] at h2; cases h2
        · exact h x (by omega) h2
      · rw [if_neg (by decide)]
        refine p_ob _ (gn_M h8 h1 h13 (by omega)) (fun r hr => ?_)
        rw [hr]
        refine p_if (fun c2 => ?_) (fun c2 => ?_)
        · refine ih _ _ ⟨k + 1, by omega, rfl, Or.inr ⟨rfl, fun q => ?_⟩⟩
          have := q k (by omega) hb
          rw [i_le] at this
          rw [i_lt] at c2
          omega
        · refine ih _ _ ⟨k + 1, by omega, rfl, Or.inl ⟨rfl, fun x hx h2 => ?_⟩⟩
          by_cases cx : x = k
          · rw [cx]; exact i_nlt c2
          · exact h x (by omega) h2
    · rw [if_pos e]
      exact ih _ _ ⟨k + 1, by omega, rfl, Or.inr ⟨rfl, h⟩⟩
/-- gains by weights times G are gains times G -/
theorem gF_s {f v w : Nat → Int32} {x n G : Nat} (hG : 1 ≤ G) (hv : ∀ k, k < n → rg (-1000) 1000 (v k)) (h : ∀ k, k < n → (v k).toInt = (G : Int) * (w k).toInt) : ∀ k, k ≤ n → k ≤ 8 → (gF f v x k).toInt = (G : Int) * (gF f w x k).toInt ∧ rg (-(1000 * (k : Int))) (1000 * (k : Int)) (gF f v x k) ∧ rg (-(1000 * (k : Int))) (1000 * (k : Int)) (gF f w x k)
  | 0, _, _ => by
    have z : (0 : Int32).toInt = 0 := by decide
    show (0 : Int32).toInt = (G : Int) * (0 : Int32).toInt ∧ rg _ _ (0 : Int32) ∧ rg _ _ (0 : Int32)
    unfold rg
    rw [z, Int.mul_zero]
    omega
  | k + 1, h1, h8 => by
    obtain ⟨i1, i2, i3⟩ := gF_s (f := f) (x := x) hG hv h k (by omega) (by omega)
    have e : ((k + 1 : Nat) : Int) = (k : Int) + 1 := rfl
    unfold gF
    by_cases c : k = x
    · rw [if_pos c, if_pos c]
      exact ⟨i1, rg_w i2 ⟨by omega, by omega⟩, rg_w i3 ⟨by omega, by omega⟩⟩
    · rw [if_neg c, if_neg c]
      have hk := hv k (by omega)
      have hh := h k (by omega)
      have wb : rg (-1000) 1000 (w k) := by
        unfold rg at hk ⊢
        rw [hh] at hk
        constructor
        · by_cases q : (w k).toInt < 0
          · have : (G : Int) * (w k).toInt ≤ 1 * (w k).toInt := Int.mul_le_mul_of_nonpos_right (by omega) (by omega)
            omega
          · omega
        · by_cases q : 0 < (w k).toInt
          · have : 1 * (w k).toInt ≤ (G : Int) * (w k).toInt := Int.mul_le_mul_of_nonneg_right (by omega) (by omega)
            omega
          · omega
      have add : ∀ a b : Int32, rg (-1000) 1000 a → rg (-1000) 1000 b → a.toInt = (G : Int) * b.toInt → (gF f v x k + a).toInt = (G : Int) * (gF f w x k + b).toInt ∧ rg (-(1000 * ((k + 1 : Nat) : Int))) (1000 * ((k + 1 : Nat) : Int)) (gF f v x k + a) ∧ rg (-(1000 * ((k + 1 : Nat) : Int))) (1000 * ((k + 1 : Nat) : Int)) (gF f w x k + b) := fun a b ha hb hab => by
        refine ⟨?_, rg_add i2 ha ⟨⟨by omega, by omega⟩, by omega, by omega⟩, rg_add i3 hb ⟨⟨by omega, by omega⟩, by omega, by omega⟩⟩
        have a1 := ha.1; have a2 := ha.2; have b1' := hb.1; have b2' := hb.2
        have c1' := i2.1; have c2' := i2.2; have d1 := i3.1; have d2 := i3.2
        rw [i_add (by omega) (by omega), i_add (by omega) (by omega), Int.mul_add, i1, hab]
      cases bt (f x) k
      · rw [if_neg (by decide), if_neg (by decide)]
        refine add _ _ (rg_neg hk (by decide)) (rg_neg wb (by decide)) ?_
        have a1 := hk.1; have a2 := hk.2; have b1' := wb.1; have b2' := wb.2
        rw [Int32.toInt_neg, Int32.toInt_neg, bm (by omega) (by omega), bm (by omega) (by omega), hh, Int.mul_neg]
      · rw [if_pos rfl, if_pos rfl]
        exact add _ _ hk wb hh
theorem gF_c {f v w : Nat → Int32} {x : Nat} : ∀ k, (∀ j, j < k → v j = w j) → gF f v x k = gF f w x k
  | 0, _ => rfl
  | k + 1, h => by
    unfold gF
    rw [gF_c k (fun j hj => h j (by omega)), h k (by omega)]
