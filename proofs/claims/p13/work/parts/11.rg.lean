/-! pairings (pfaffians) of even sets, in both -/
def ag (f : Nat → Int32) (x y : Nat) : Int32 := if bt (f x) y = true then 1 else -1
def pfs (f P : Nat → Int32) (m x : Nat) : Nat → Int32 × Int32
  | 0 => (0, 1)
  | k + 1 => if bt (clr (nI m) x) k = true then ((pfs f P m x k).1 + ((pfs f P m x k).2 * ag f x k) * P (clr (clr (nI m) x) k).toNatClampNeg, -(pfs f P m x k).2) else pfs f P m x k
def lowb (m x : Nat) : Prop := x < 8 ∧ bt (nI m) x = true ∧ ∀ j, j < x → bt (nI m) j = false
def pfe (f : Nat → Int32) (n : Nat) (P : Nat → Int32) (m : Nat) : Prop := ∃ x, lowb m x ∧ P m = (pfs f P m x n).1
theorem lowb_u {m x y : Nat} (h : lowb m x) (h' : lowb m y) : x = y := by
  obtain ⟨a1, a2, a3⟩ := h
  obtain ⟨b1', b2', b3'⟩ := h'
  by_cases c : x < y
  · rw [b3' x c] at a2; cases a2
  · by_cases d : y < x
    · rw [a3 y d] at b2'; cases b2'
    · omega
theorem low_D {N : Nat} (a : Int32) : par (f_D_lowestOf N a) (fun r => (r = -1 ∧ ∀ j, j < 8 → bt a j = false) ∨ ∃ k, k < 8 ∧ r = nI k ∧ bt a k = true ∧ ∀ j, j < k → bt a j = false) := by
  unfold f_D_lowestOf
  refine p_it1 (fun i => ∃ k, k ≤ 8 ∧ i = nI k ∧ ∀ j, j < k → bt a j = false) ?_ _ _ ⟨0, by decide, rfl, fun j hj => by omega⟩
  rintro self _ ⟨k, hk, rfl, hz⟩ ih
  unfold D_lowestOf_B2
  refine p_if (fun h => ?_) (fun h => ?_)
  · have : k = 8 := by
      rw [l8, nle (by decide) (by omega)] at h
      omega
    subst this
    exact p_some (Or.inl ⟨rfl, hz⟩)
  · have hk8 : k < 8 := by
      rw [l8, nle (by decide) (by omega)] at h
      omega
    rw [bit_bt (by omega)]
    cases e : bt a k
    · rw [if_neg (by decide), nadd1]
      refine ih _ ⟨k + 1, by omega, rfl, fun j hj => ?_⟩
      by_cases c : j = k
      · rw [c]; exact e
      · exact hz j (by omega)
    · rw [if_pos (by decide)]
      exact p_some (Or.inr ⟨k, hk8, rfl, e, hz⟩)
theorem nm1 {k : Nat} (h : k < 2147483648) : ¬ nI k = -1 := fun e => by
  have := congrArg Int32.toInt e
  rw [nI_toInt (by omega)] at this
  have z : (-1 : Int32).toInt = -1 := by decide
  omega
theorem par2 : ∀ c, c < 9 → (nI c - nI c / (2 : Int32) * (2 : Int32)) = nI (c % 2) := by decide
theorem clr2_bt {m x k j : Nat} (hx : x < 8) (hk : k < 8) (hj : j < 32) : bt (clr (clr (nI m) x) k) j = (bt (nI m) j && !decide (j = x) && !decide (j = k)) := by
  show bt (clr (nI m) x &&& (((1 : Int32) <<< (nI k &&& 31)) ^^^ (-1 : Int32))) j = _
  rw [bt_and, bt_not _ hj, bt_one (by omega) hj, clr_bt hx hj]
/-- a set without two of its own -/
theorem clr2 {m x k : Nat} (hm : m < 256) (hx : x < 8) (hk : k < 8) (hb : bt (nI m) x = true) (hb2 : bt (clr (nI m) x) k = true) : ∃ t, t < m ∧ clr (clr (nI m) x) k = nI t ∧ (clr (clr (nI m) x) k).toNatClampNeg = t ∧ pc (nI t) + 2 = pc (nI m) ∧ ∀ j, bt (nI t) j = true → bt (nI m) j = true := by
  obtain ⟨c1', c2', c3'⟩ := clr_f m hm x hx
  obtain ⟨c4, c5⟩ := c3' hb
  rw [c2'] at hb2
  obtain ⟨d1, d2, d3⟩ := clr_f (clr (nI m) x).toNatClampNeg (by omega) k hk
  obtain ⟨d4, d5⟩ := d3 hb2
  rw [← c2'] at d1 d2 d4 d5
  refine ⟨(clr (clr (nI m) x) k).toNatClampNeg, by omega, d2, rfl, by rw [← d2]; omega, fun j hj => ?_⟩
  by_cases hj32 : j < 32
  · rw [← d2, clr2_bt hx hk hj32] at hj
    exact (Bool.and_eq_true_iff.mp (Bool.and_eq_true_iff.mp hj).1).1
  · rw [bt_ge (by omega)] at hj
    cases hj
theorem pfs_c {f P P' : Nat → Int32} {m x : Nat} (hm : m < 256) (hx : x < 8) (hb : bt (nI m) x = true) (h : ∀ t, t < m → pc (nI t) + 2 = pc (nI m) → (∀ j, bt (nI t) j = true → bt (nI m) j = true) → P t = P' t) : ∀ k, k ≤ 8 → pfs f P m x k = pfs f P' m x k
  | 0, _ => rfl
  | k + 1, hk => by
    have ih := pfs_c (f := f) hm hx hb h k (by omega)
    unfold pfs
    by_cases c : bt (clr (nI m) x) k = true
    · obtain ⟨t, t1, -, t2, t3, t4⟩ := clr2 hm hx (show k < 8 by omega) hb c
      rw [if_pos c, if_pos c, ih, t2, h t t1 t3 t4]
    · rw [if_neg c, if_neg c, ih]
theorem pfs_lo {f P : Nat → Int32} {m x : Nat} (h : lowb m x) : ∀ k, k ≤ x + 1 → pfs f P m x k = (0, 1)
  | 0, _ => rfl
  | k + 1, hk => by
    have ih := pfs_lo (f := f) (P := P) h k (by omega)
    have hx := h.1
    unfold pfs
    rw [if_neg, ih]
    rw [clr_bt hx (by omega)]
    by_cases c : k = x
    · rw [c]; simp
    · rw [h.2.2 k (by omega)]; simp
theorem pf_D {N : Nat} {σ : Mem} {f : Nat → Int32} {n m : Nat} (h8 : n ≤ 8) (h3 : gI σ 3 0 = nI n) (h13 : gI σ 13 = f) (hm : m < 2 ^ n) (hm1 : 1 ≤ m) : par (f_We_pfaffianOf N (nI m) σ) (fun r => ∃ x, lowb m x ∧ r = (pfs f (gI σ 20) m x n).1) := by
  have hp : (2 : Nat) ^ n ≤ 256 := Nat.pow_le_pow_right (n := 2) (by decide) h8
  unfold f_We_pfaffianOf
  refine p_ob _ (low_D (nI m)) (fun r hr => ?_)
  rcases hr with ⟨-, r2⟩ | ⟨x, x8, r1, r2, r3⟩
  · obtain ⟨j, hj, hb⟩ := lowbits n h8 m hm (by omega)
    rw [r2 j (by omega)] at hb
    cases hb
  · have hl : lowb m x := ⟨x8, r2, r3⟩
    have xn : x < n := bt_lo h8 hm r2
    rw [r1, if_neg (nm1 (by omega))]
    refine p_bnd (p_bnd ?_)
    rw [nadd1]
    refine p_it3 (fun i4 i5 i6 => ∃ k, k ≤ n ∧ i6 = nI k ∧ i4 = (pfs f (gI σ 20) m x k).1 ∧ i5 = (pfs f (gI σ 20) m x k).2) ?_ N _ _ _ ⟨x + 1, by omega, rfl, by rw [pfs_lo hl (x + 1) (by omega)], by rw [pfs_lo hl (x + 1) (by omega)]⟩
    rintro self _ _ _ ⟨k, hk, rfl, rfl, rfl⟩ ih
    unfold We_pfaffianOf_B31
    rw [h3]
    refine p_if (fun c => ?_) (fun c => ?_)
    · rw [nle (by omega) (by omega)] at c
      have : k = n := by omega
      subst this
      exact p_some ⟨x, hl, rfl⟩
    · rw [nle (by omega) (by omega)] at c
      have e : (nI m &&& (((1 : Int32) <<< (nI x &&& 31)) ^^^ (-1 : Int32))) = clr (nI m) x := rfl
      have hs : pfs f (gI σ 20) m x (k + 1) = if bt (clr (nI m) x) k = true then ((pfs f (gI σ 20) m x k).1 + ((pfs f (gI σ 20) m x k).2 * ag f x k) * gI σ 20 (clr (clr (nI m) x) k).toNatClampNeg, -(pfs f (gI σ 20) m x k).2) else pfs f (gI σ 20) m x k := rfl
      rw [e, bit_bt (by omega), nadd1]
      cases hb : bt (clr (nI m) x) k
      · rw [if_neg (by decide)]
        rw [hb, if_neg (by decide)] at hs
        exact ih _ _ _ ⟨k + 1, by omega, rfl, by rw [hs], by rw [hs]⟩
      · rw [if_pos (by rfl)]
        rw [hb, if_pos rfl] at hs
        refine p_gd (fun _ => p_bnd ?_)
        rw [isb_e x8 (by omega), ob_s, h13]
        unfold ag at hs
        cases hb2 : bt (f x) k
        · rw [if_pos (by rfl)]
          rw [hb2, if_neg (by decide)] at hs
          unfold We_pfaffianOf_J94
          refine p_bnd (p_bnd ?_)
          rw [nadd1]
          refine ih _ _ _ ⟨k + 1, by omega, rfl, ?_, by rw [hs]⟩
          rw [hs, Int32.mul_neg, Int32.mul_one, Int32.neg_mul]
          rfl
        · rw [if_neg (by decide)]
          rw [hb2, if_pos rfl] at hs
          unfold We_pfaffianOf_J94
          refine p_bnd (p_bnd ?_)
          rw [nadd1]
          refine ih _ _ _ ⟨k + 1, by omega, rfl, ?_, by rw [hs]⟩
          rw [hs, Int32.mul_one]
          rfl
theorem fp_D {N : Nat} {σ : Mem} {n a : Nat} (h8 : n ≤ 8) (h3 : gI σ 3 0 = nI n) (ha : a < 2 ^ n) : par (f_We_findPfaffians N (nI a) σ) (fun s => fr [20] [] σ s ∧ gI s 20 0 = 1 ∧ ∀ m, 0 < m → m ≤ a → (nI m &&& (nI a ^^^ (-1 : Int32))) = 0 → pc (nI m) % 2 = 0 → pfe (gI σ 13) n (gI s 20) m) := by
  have hp : (2 : Nat) ^ n ≤ 256 := Nat.pow_le_pow_right (n := 2) (by decide) h8
  unfold f_We_findPfaffians
  refine p_let (fun s1 e1 => ?_)
  rw [n0] at e1
  refine p_it2 (fun i s => ∃ m, 1 ≤ m ∧ m ≤ a + 1 ∧ i = nI m ∧ fr [20] [] σ s ∧ gI s 20 0 = 1 ∧ ∀ j, 0 < j → j < m → (nI j &&& (nI a ^^^ (-1 : Int32))) = 0 → pc (nI j) % 2 = 0 → pfe (gI σ 13) n (gI s 20) j) ?_ N _ _ ⟨1, by omega, by omega, rfl, by rw [e1]; exact fr_sI (by decide), by rw [e1, gI_sI, if_pos rfl, upd_ap, if_pos rfl], fun j h1 h2 => by omega⟩
  rintro self _ s ⟨m, hm1, hma, rfl, hf, hP0, hE⟩ ih
  unfold We_findPfaffians_B9
  refine p_if (fun c => ?_) (fun c => ?_)
  · rw [nlt (by omega) (by omega)] at c
    exact p_some ⟨hf, hP0, fun j h1 h2 => hE j h1 (by omega)⟩
  · rw [nlt (by omega) (by omega)] at c
    rw [nadd1, cnt_v (nI_rg (by omega) (by omega)), par2 _ (by have := pc_8 (nI m); omega)]
    refine p_if (fun c2 => ?_) (fun c2 => ?_)
    · refine p_if (fun c3 => ?_) (fun c3 => ?_)
      · have ev : pc (nI m) % 2 = 0 := nI_inj (by omega) (by decide) (show nI (pc (nI m) % 2) = nI 0 from c3)
        refine p_ob _ (pf_D (f := gI σ 13) h8 (by rw [hf.1 3 (by decide)]; exact h3) (hf.1 13 (by decide)) (by omega : m < 2 ^ n) hm1) (fun r hr => ?_)
        obtain ⟨x, hl, hr⟩ := hr
        refine p_gd (fun _ => p_bnd ?_)
        rw [nI_clamp (by omega)]
        have keep : ∀ i, i ≠ m → gI (sI s 20 m r) 20 i = gI s 20 i := fun i hi => by rw [gI_sI, if_pos rfl, upd_ap, if_neg hi]
        refine ih _ _ ⟨m + 1, by omega, by omega, rfl, fr_t hf (fr_sI (by decide)), by rw [keep 0 (by omega)]; exact hP0, fun j j1 j2 j3 j4 => ?_⟩
        by_cases cj : j = m
        · subst cj
          refine ⟨x, hl, ?_⟩
          rw [gI_sI, if_pos rfl, upd_ap, if_pos rfl, hr]
          exact congrArg Prod.fst (pfs_c (by omega) hl.1 hl.2.1 (fun t t1 _ _ => by rw [upd_ap, if_neg (by omega)]) n h8)
        · obtain ⟨y, hy, he⟩ := hE j j1 (by omega) j3 j4
          refine ⟨y, hy, ?_⟩
          rw [keep j cj, he]
          exact congrArg Prod.fst (pfs_c (by omega) hy.1 hy.2.1 (fun t t1 _ _ => (keep t (by omega)).symm) n h8)
      · refine ih _ _ ⟨m + 1, by omega, by omega, rfl, hf, hP0, fun j j1 j2 j3 j4 => ?_⟩
        by_cases cj : j = m
        · rw [cj] at j4
          exact absurd (by rw [j4]; rfl) c3
        · exact hE j j1 (by omega) j3 j4
    · refine ih _ _ ⟨m + 1, by omega, by omega, rfl, hf, hP0, fun j j1 j2 j3 j4 => ?_⟩
      by_cases cj : j = m
      · rw [cj] at j3
        exact absurd j3 c2
      · exact hE j j1 (by omega) j3 j4
theorem ag_M {μ : Mem} {f : Nat → Int32} {x y : Nat} (h13 : ∀ a, a < 8 → gI μ 1 (1 + a) = f a) (hx : x < 8) (hy : y < 32) : f_M_against (nI x) (nI y) μ = some (ag f x y) := by
  unfold f_M_against ag
  rw [beats_e hx, ob_s, has_bt hy, h13 x hx]
  cases bt (f x) y
  · rfl
  · rfl
theorem lp_M {N : Nat} (hN : 8589934592 ≤ N) {μ : Mem} {f : Nat → Int32} {n : Nat} (h8 : n ≤ 8) (h1 : gI μ 1 0 = nI n) (h13 : ∀ a, a < 8 → gI μ 1 (1 + a) = f a) : par (f_M_layPairings N μ) (fun s => fr [20] [] μ s ∧ gI s 20 0 = 1 ∧ ∀ m, 0 < m → m < 2 ^ n → pc (nI m) % 2 = 0 → pfe f n (gI s 20) m) := by
  have hp : (2 : Nat) ^ n ≤ 256 := Nat.pow_le_pow_right (n := 2) (by decide) h8
  have hp0 : 0 < (2 : Nat) ^ n := Nat.pow_pos (by decide)
  unfold f_M_layPairings
  refine p_let (fun s1 e1 => ?_)
  rw [n0] at e1
  refine p_it2 (fun i s => ∃ m, 1 ≤ m ∧ m ≤ 2 ^ n ∧ i = nI m ∧ fr [20] [] μ s ∧ gI s 20 0 = 1 ∧ ∀ j, 0 < j → j < m → pc (nI j) % 2 = 0 → pfe f n (gI s 20) j) ?_ N _ _ ⟨1, by omega, by omega, rfl, by rw [e1]; exact fr_sI (by decide), by rw [e1, gI_sI, if_pos rfl, upd_ap, if_pos rfl], fun j h1 h2 => by omega⟩
  rintro self _ s ⟨m, hm1, hma, rfl, hf, hP0, hE⟩ ih
  unfold M_layPairings_B9
  rw [all_e (by rw [hf.1 1 (by decide)]; exact h1), mask_e n h8]
  refine p_if (fun c => ?_) (fun c => ?_)
  · rw [nlt (by omega) (by omega)] at c
    exact p_some ⟨hf, hP0, fun j h1 h2 => hE j h1 (by omega)⟩
  · rw [nlt (by omega) (by omega)] at c
    refine p_gd (fun _ => p_let (fun s5 e5 => p_ob _ (fst_M (nI m)) (fun r hr => ?_)))
    rw [nI_clamp (by omega)] at e5
    rcases hr with ⟨-, r2⟩ | ⟨x, x8, r1, r2, r3⟩
    · obtain ⟨j, hj, hb⟩ := lowbits n h8 m (by omega) (by omega)
      rw [r2 j (by omega)] at hb
      cases hb
    · have hl : lowb m x := ⟨x8, r2, r3⟩
      rw [r1]
      refine p_bnd ?_
      have keep5 : ∀ i, i ≠ m → gI s5 20 i = gI s 20 i := fun i hi => by rw [e5, gI_sI, if_pos rfl, upd_ap, if_neg hi]
      have f5 : fr [20] [] μ s5 := by rw [e5]; exact fr_t hf (fr_sI (by decide))
      refine p_it3 (fun i8 i9 s10 => ∃ k, k ≤ n ∧ i9 = nI k ∧ fr [20] [] μ s10 ∧ (∀ i, i ≠ m → gI s10 20 i = gI s 20 i) ∧ gI s10 20 m = (pfs f (gI s 20) m x k).1 ∧ i8 = (pfs f (gI s 20) m x k).2) ?_ N _ _ _ ⟨0, by omega, rfl, f5, keep5, by rw [e5, gI_sI, if_pos rfl, upd_ap, if_pos rfl]; rfl, rfl⟩
      rintro self11 _ _ s10 ⟨k, hk, rfl, hf2, ho, hv, rfl⟩ ih11
      unfold M_layPairings_B43
      rw [many_e (by rw [hf2.1 1 (by decide)]; exact h1), nadd1, nadd1]
      have old : ∀ j, 0 < j → j < m → pc (nI j) % 2 = 0 → pfe f n (gI s10 20) j := fun j j1 j2 j4 => by
        obtain ⟨y, hy, he⟩ := hE j j1 j2 j4
        refine ⟨y, hy, ?_⟩
        rw [ho j (by omega), he]
        exact congrArg Prod.fst (pfs_c (by omega) hy.1 hy.2.1 (fun t t1 _ _ => (ho t (by omega)).symm) n h8)
      refine p_if (fun c2 => ?_) (fun c2 => ?_)
      · rw [nle (by omega) (by omega)] at c2
        have : k = n := by omega
        subst this
        refine ih _ _ ⟨m + 1, by omega, by omega, rfl, hf2, by rw [ho 0 (by omega)]; exact hP0, fun j j1 j2 j4 => ?_⟩
        by_cases cj : j = m
        · rw [cj]
          refine ⟨x, hl, ?_⟩
          rw [hv]
          exact congrArg Prod.fst (pfs_c (by omega) hl.1 hl.2.1 (fun t t1 _ _ => (ho t (by omega)).symm) k h8)
        · exact old j j1 (by omega) j4
      · rw [nle (by omega) (by omega)] at c2
        refine p_ob _ (p_tot (M_sizeOf_s hN (nI_rg (b := 255) (by omega) (by omega)))) (fun r12 h12 => ?_)
        rw [h12, par2 _ (by have := pc_8 (nI m); omega)]
        refine p_if (fun c3 => ?_) (fun c3 => ?_)
        · have e : (nI m &&& (((1 : Int32) <<< (nI x &&& 31)) ^^^ (-1 : Int32))) = clr (nI m) x := rfl
          have e' : ∀ k, (clr (nI m) x &&& (((1 : Int32) <<< (nI k &&& 31)) ^^^ (-1 : Int32))) = clr (clr (nI m) x) k := fun k => rfl
          have hs : pfs f (gI s 20) m x (k + 1) = if bt (clr (nI m) x) k = true then ((pfs f (gI s 20) m x k).1 + ((pfs f (gI s 20) m x k).2 * ag f x k) * gI s 20 (clr (clr (nI m) x) k).toNatClampNeg, -(pfs f (gI s 20) m x k).2) else pfs f (gI s 20) m x k := rfl
          rw [e, e', has_bt (by omega)]
          cases hb : bt (clr (nI m) x) k
          · rw [if_pos (by decide)]
            rw [hb, if_neg (by decide)] at hs
            exact ih11 _ _ _ ⟨k + 1, by omega, rfl, hf2, ho, by rw [hs]; exact hv, by rw [hs]⟩
          · rw [if_neg (by decide)]
            rw [hb, if_pos rfl] at hs
            obtain ⟨t, t1, -, t2, t3, t4⟩ := clr2 (by omega : m < 256) x8 (show k < 8 by omega) r2 hb
            rw [ag_M (f := f) (fun a ha => by rw [hf2.1 1 (by decide)]; exact h13 a ha) x8 (by omega), t2, nI_clamp (by omega)]
            rw [t2] at hs
            refine p_gd (fun _ => ?_)
            rw [ob_s]
            refine p_gd (fun _ => p_gd (fun _ => p_bnd (p_bnd ?_)))
            refine ih11 _ _ _ ⟨k + 1, by omega, rfl, fr_t hf2 (fr_sI (by decide)), fun i hi => ?_, ?_, by rw [hs]⟩
            · rw [gI_sI, if_pos rfl, upd_ap, if_neg hi]
              exact ho i hi
            · rw [gI_sI, if_pos rfl, upd_ap, if_pos rfl, hs, hv, ho t (by omega)]
        · refine ih _ _ ⟨m + 1, by omega, by omega, rfl, hf2, by rw [ho 0 (by omega)]; exact hP0, fun j j1 j2 j4 => ?_⟩
          by_cases cj : j = m
          · rw [cj] at j4
            exact absurd (by rw [j4]; rfl) c3
          · exact old j j1 (by omega) j4
/-- the two tables agree on even sets -/
theorem pf_e {f P P' : Nat → Int32} {n a : Nat} (h8 : n ≤ 8) (ha : a < 2 ^ n) (h0 : P 0 = 1) (h0' : P' 0 = 1) (hE : ∀ m, 0 < m → m ≤ a → (nI m &&& (nI a ^^^ (-1 : Int32))) = 0 → pc (nI m) % 2 = 0 → pfe f n P m) (hE' : ∀ m, 0 < m → m < 2 ^ n → pc (nI m) % 2 = 0 → pfe f n P' m) : ∀ b m, m ≤ b → m ≤ a → (nI m &&& (nI a ^^^ (-1 : Int32))) = 0 → pc (nI m) % 2 = 0 → P m = P' m := by
  have hp : (2 : Nat) ^ n ≤ 256 := Nat.pow_le_pow_right (n := 2) (by decide) h8
  intro b
  induction b with
  | zero =>
    intro m h1 _ _ _
    have : m = 0 := by omega
    rw [this, h0, h0']
  | succ b ih =>
    intro m h1 h2 h3 h4
    by_cases c : m = 0
    · rw [c, h0, h0']
    · obtain ⟨x, hx, e1⟩ := hE m (by omega) h2 h3 h4
      obtain ⟨y, hy, e2⟩ := hE' m (by omega) (by omega) h4
      have := lowb_u hx hy
      subst this
      rw [e1, e2]
      refine congrArg Prod.fst (pfs_c (by omega) hx.1 hx.2.1 (fun t t1 t2 t3 => ?_) n h8)
      refine ih t (by omega) (by omega) ?_ (by omega)
      rw [wi_iff] at h3 ⊢
      exact fun j hj hb => h3 j hj (t3 j hb)
/-- how large they can be -/
def dfa : Nat → Nat
  | 0 => 1
  | 1 => 1
  | k + 2 => (k + 1) * dfa k
theorem c1_pc (x : Int32) : c1 x 8 = pc x := by
  simp only [c1, pc, Nat.zero_add]
theorem pfs_b {f P : Nat → Int32} {m x B : Nat} (hB : B ≤ 1000) (hm : m < 256) (hx : x < 8) (hb : bt (nI m) x = true) (h : ∀ t, t < m → pc (nI t) + 2 = pc (nI m) → (∀ j, bt (nI t) j = true → bt (nI m) j = true) → rg (-(B : Int)) B (P t)) : ∀ k, k ≤ 8 → rg (-((c1 (clr (nI m) x) k * B : Nat) : Int)) ((c1 (clr (nI m) x) k * B : Nat) : Int) (pfs f P m x k).1 ∧ ((pfs f P m x k).2 = 1 ∨ (pfs f P m x k).2 = -1)
  | 0, _ => by
    have z : (pfs f P m x 0).1 = 0 := rfl
    refine ⟨?_, Or.inl rfl⟩
    rw [z]
    have : (0 : Int32).toInt = 0 := by decide
    unfold rg
    omega
  | k + 1, hk => by
    obtain ⟨ih1, ih2⟩ := pfs_b (f := f) hB hm hx hb h k (by omega)
    have cs : c1 (clr (nI m) x) (k + 1) = c1 (clr (nI m) x) k + b1 (bt (clr (nI m) x) k) := rfl
    have cl := c1_le (clr (nI m) x) k
    unfold pfs
    cases c : bt (clr (nI m) x) k
    · rw [if_neg (by decide), cs, c]
      exact ⟨ih1, ih2⟩
    · obtain ⟨t, t1, -, t2, t3, t4⟩ := clr2 hm hx (show k < 8 by omega) hb c
      have rt := h t t1 t3 t4
      rw [if_pos rfl, t2, cs, c]
      have b1t : b1 true = 1 := rfl
      rw [b1t]
      have cb : c1 (clr (nI m) x) k * B ≤ 8 * 1000 := Nat.mul_le_mul (by omega) hB
      have e : (c1 (clr (nI m) x) k + 1) * B = c1 (clr (nI m) x) k * B + B := by rw [Nat.add_mul, Nat.one_mul]
      have nrt : rg (-(B : Int)) B (-(P t)) := rg_neg rt ⟨by omega, by omega, by omega⟩
      have term : rg (-(B : Int)) B (((pfs f P m x k).2 * ag f x k) * P t) := by
        have pm : (pfs f P m x k).2 * ag f x k = 1 ∨ (pfs f P m x k).2 * ag f x k = -1 := by
          unfold ag
          rcases ih2 with q | q <;> rw [q] <;> cases bt (f x) k
          · exact Or.inr (by decide)
          · exact Or.inl (by decide)
          · exact Or.inl (by decide)
          · exact Or.inr (by decide)
        rcases pm with q | q
        · rw [q, Int32.one_mul]; exact rt
        · rw [q, ← Int32.neg_eq_neg_one_mul]; exact nrt
      refine ⟨rg_add ih1 term ⟨⟨by omega, by omega⟩, by omega, by omega⟩, ?_⟩
      rcases ih2 with q | q
      · exact Or.inr (by show -(pfs f P m x k).2 = -1; rw [q])
      · exact Or.inl (by show -(pfs f P m x k).2 = 1; rw [q]; decide)
theorem pf_b {f P : Nat → Int32} {n a : Nat} (h8 : n ≤ 8) (ha : a < 2 ^ n) (h0 : P 0 = 1) (hE : ∀ m, 0 < m → m ≤ a → (nI m &&& (nI a ^^^ (-1 : Int32))) = 0 → pc (nI m) % 2 = 0 → pfe f n P m) : ∀ b m, m ≤ b → m ≤ a → (nI m &&& (nI a ^^^ (-1 : Int32))) = 0 → pc (nI m) % 2 = 0 → rg (-(dfa (pc (nI m)) : Int)) (dfa (pc (nI m))) (P m) := by
  have hp : (2 : Nat) ^ n ≤ 256 := Nat.pow_le_pow_right (n := 2) (by decide) h8
  have z0 : rg (-(dfa (pc (nI 0)) : Int)) (dfa (pc (nI 0))) (1 : Int32) := by decide
  have dl : ∀ k, k ≤ 8 → dfa k ≤ 1000 := by decide
  intro b
  induction b with
  | zero =>
    intro m h1 _ _ _
    have : m = 0 := by omega
    rw [this, h0]
    exact z0
  | succ b ih =>
    intro m h1 h2 h3 h4
    by_cases c : m = 0
    · rw [c, h0]
      exact z0
    · obtain ⟨x, hx, e1⟩ := hE m (by omega) h2 h3 h4
      have p8 := pc_8 (nI m)
      obtain ⟨c1', c2', c3'⟩ := clr_f m (by omega) x hx.1
      obtain ⟨c4, c5⟩ := c3' hx.2.1
      obtain ⟨q, hq⟩ : ∃ q, pc (nI m) = q + 2 := ⟨pc (nI m) - 2, by omega⟩
      have hb := (pfs_b (f := f) (P := P) (B := dfa q) (dl q (by omega)) (by omega) hx.1 hx.2.1 (fun t t1 t2 t3 => ?_) n h8).1
      · rw [e1, hq]
        have e : dfa (q + 2) = (q + 1) * dfa q := rfl
        rw [e]
        have cl : c1 (clr (nI m) x) n ≤ q + 1 := by
          have mo := c1_mo (clr (nI m) x) n (8 - n)
          have e8 : n + (8 - n) = 8 := by omega
          rw [e8, c1_pc] at mo
          omega
        have := Nat.mul_le_mul cl (Nat.le_refl (dfa q))
        exact rg_w hb ⟨by omega, by omega⟩
      · have := ih t (by omega) (by omega) (by
          rw [wi_iff] at h3 ⊢
          exact fun j hj hb => h3 j hj (t3 j hb)) (by omega)
        have e : pc (nI t) = q := by omega
        rw [e] at this
        exact this
