/-! cups of the component: who can win; both answer alike -/
theorem pr_at {b : Nat → Bool} {q : Nat × (Nat → Int32)} : ∀ k x, x < k → b x = true → (pr b k q).2 (q.1 + cn b x) = nI x
  | 0, x, hx, _ => absurd hx (Nat.not_lt_zero _)
  | k + 1, x, hx, hb => by
    cases e : b k
    · have ne : x ≠ k := fun w => by rw [w, e] at hb; cases hb
      rw [pr_f e]
      exact pr_at k x (by omega) hb
    · rw [pr_t e]
      show upd (pr b k q).2 (pr b k q).1 (nI k) (q.1 + cn b x) = nI x
      rw [upd_ap, pr_1 b q k]
      by_cases c : x = k
      · rw [c, if_pos rfl]
      · have s1 : cn b (x + 1) = cn b x + 1 := by
          show cn b x + (if b x = true then 1 else 0) = _
          rw [if_pos hb]
        have s2 := cn_m b (k := x + 1) k (by omega)
        rw [if_neg (by omega)]
        exact pr_at k x (by omega) hb
theorem wn_N {f : Nat → Int32} {x y : Nat} (hx : x < 8) (hy : y < 32) : wn f (nI x) (nI y) = nI (wN f x y) := by
  unfold wn wN
  rw [nI_clamp (by omega), shr1 hy]
  cases bt (f x) y
  · rw [if_neg (by decide), if_neg (by decide)]
  · rw [if_pos (by decide), if_pos rfl]
theorem wN_o {f : Nat → Int32} {x y : Nat} : wN f x y = x ∨ wN f x y = y := by
  unfold wN
  cases bt (f x) y
  · exact Or.inr rfl
  · exact Or.inl rfl
theorem wN_8 {f : Nat → Int32} {x y : Nat} (hx : x < 8) (hy : y < 8) : wN f x y < 8 := by
  rcases wN_o (f := f) (x := x) (y := y) with e | e <;> omega
theorem wof {σ : Mem} {x y : Nat} (hx : x < 8) (hy : y < 8) : par (f_Du_winnerOfN (nI x) (nI y) σ) (fun r => r = nI (wN (gI σ 13) x y)) := p_mono (wn_D _ _) (fun r hr => by rw [hr, wn_N hx (by omega)])
theorem bw_D {σ : Mem} {a b c d w : Nat} (ha : a < 8) (hb : b < 8) (hc : c < 8) (hd : d < 8) (h0 : gI σ 21 0 = nI a) (h1 : gI σ 21 1 = nI b) (h2 : gI σ 21 2 = nI c) (h3 : gI σ 21 3 = nI d) (hw : w < 3) : par (f_Cu_winnerByWay (nI w) σ) (fun r => r = nI (wy (gI σ 13) a b c d w)) := by
  have t1 : (1 : Int32).toNatClampNeg = 1 := by decide
  have t2 : (2 : Int32).toNatClampNeg = 2 := by decide
  have t3 : (3 : Int32).toNatClampNeg = 3 := by decide
  have u1 : (nI 0 + (1 : Int32)).toNatClampNeg = 1 := by decide
  have u2 : (nI 1 + (1 : Int32)).toNatClampNeg = 2 := by decide
  have u3 : (nI 2 + (1 : Int32)).toNatClampNeg = 3 := by decide
  unfold f_Cu_winnerByWay
  rcases (show w = 0 ∨ w = 1 ∨ w = 2 by omega) with rfl | rfl | rfl
  · rw [if_pos (show nI 0 = (0 : Int32) by decide)]
    unfold Cu_winnerByWay_J9
    rw [if_neg (show ¬ nI 0 = (2 : Int32) by decide)]
    unfold Cu_winnerByWay_J20
    rw [n0, u1, t2, t3, h0, h1, h2, h3]
    refine p_gd (fun _ => p_ob _ (wof ha hb) (fun r3 e3 => p_gd (fun _ => p_gd (fun _ => p_ob _ (wof hc hd) (fun r4 e4 => ?_)))))
    rw [e3, e4]
    exact p_ob _ (wof (wN_8 ha hb) (wN_8 hc hd)) (fun r5 e5 => p_some e5)
  · rw [if_neg (show ¬ nI 1 = (0 : Int32) by decide)]
    unfold Cu_winnerByWay_J9
    rw [if_neg (show ¬ nI 1 = (2 : Int32) by decide)]
    unfold Cu_winnerByWay_J20
    rw [n0, u2, t1, t3, h0, h1, h2, h3]
    refine p_gd (fun _ => p_ob _ (wof ha hc) (fun r3 e3 => p_gd (fun _ => p_gd (fun _ => p_ob _ (wof hb hd) (fun r4 e4 => ?_)))))
    rw [e3, e4]
    exact p_ob _ (wof (wN_8 ha hc) (wN_8 hb hd)) (fun r5 e5 => p_some e5)
  · rw [if_neg (show ¬ nI 2 = (0 : Int32) by decide)]
    unfold Cu_winnerByWay_J9
    rw [if_pos (show nI 2 = (2 : Int32) by decide)]
    unfold Cu_winnerByWay_J20
    rw [n0, u3, t1, t2, h0, h1, h2, h3]
    refine p_gd (fun _ => p_ob _ (wof ha hd) (fun r3 e3 => p_gd (fun _ => p_gd (fun _ => p_ob _ (wof hb hc) (fun r4 e4 => ?_)))))
    rw [e3, e4]
    exact p_ob _ (wof (wN_8 ha hd) (wN_8 hb hc)) (fun r5 e5 => p_some e5)
/-- the way of a set of four -/
def wm (f : Nat → Int32) (m w : Nat) : Nat := wy f (el m 0) (el m 1) (el m 2) (el m 3) w
theorem wm_in {f : Nat → Int32} {m w : Nat} (hm : m < 256) (h4 : pc (nI m) = 4) : bt (nI m) (wm f m w) = true ∧ wm f m w < 8 := by
  obtain ⟨f1, f2, f3, f4, f5, -⟩ := four_f m hm h4
  have key : wm f m w = el m 0 ∨ wm f m w = el m 1 ∨ wm f m w = el m 2 ∨ wm f m w = el m 3 := by
    unfold wm wy
    split
    · rcases wN_o (f := f) (x := wN f (el m 0) (el m 1)) (y := wN f (el m 2) (el m 3)) with e | e <;> rw [e]
      · rcases wN_o (f := f) (x := el m 0) (y := el m 1) with e | e <;> rw [e]
        · exact Or.inl rfl
        · exact Or.inr (Or.inl rfl)
      · rcases wN_o (f := f) (x := el m 2) (y := el m 3) with e | e <;> rw [e]
        · exact Or.inr (Or.inr (Or.inl rfl))
        · exact Or.inr (Or.inr (Or.inr rfl))
    · rcases wN_o (f := f) (x := wN f (el m 0) (el m 2)) (y := wN f (el m 1) (el m 3)) with e | e <;> rw [e]
      · rcases wN_o (f := f) (x := el m 0) (y := el m 2) with e | e <;> rw [e]
        · exact Or.inl rfl
        · exact Or.inr (Or.inr (Or.inl rfl))
      · rcases wN_o (f := f) (x := el m 1) (y := el m 3) with e | e <;> rw [e]
        · exact Or.inr (Or.inl rfl)
        · exact Or.inr (Or.inr (Or.inr rfl))
    · rcases wN_o (f := f) (x := wN f (el m 0) (el m 3)) (y := wN f (el m 1) (el m 2)) with e | e <;> rw [e]
      · rcases wN_o (f := f) (x := el m 0) (y := el m 3) with e | e <;> rw [e]
        · exact Or.inl rfl
        · exact Or.inr (Or.inr (Or.inr rfl))
      · rcases wN_o (f := f) (x := el m 1) (y := el m 2) with e | e <;> rw [e]
        · exact Or.inr (Or.inl rfl)
        · exact Or.inr (Or.inr (Or.inl rfl))
  have l8 : wm f m w < 8 := by omega
  exact ⟨(f5 _ l8).mpr key, l8⟩
theorem cn_8 : ∀ m, m < 256 → ∀ k, k < 9 → cn (bt (nI m)) k ≤ pc (nI m) := by decide +kernel
theorem put4 {N : Nat} {σ : Mem} {n m : Nat} (h8 : n ≤ 8) (h3 : gI σ 3 0 = nI n) (hm : m < 2 ^ n) (h4 : pc (nI m) = 4) : par (f_Cu_putIntoRow N (nI m) (0 : Int32) σ) (fun q => fr [21] [] σ q.2 ∧ gI q.2 21 0 = nI (el m 0) ∧ gI q.2 21 1 = nI (el m 1) ∧ gI q.2 21 2 = nI (el m 2) ∧ gI q.2 21 3 = nI (el m 3)) := by
  have hp : (2 : Nat) ^ n ≤ 256 := Nat.pow_le_pow_right (n := 2) (by decide) h8
  obtain ⟨f1, f2, f3, f4, f5, g0, g1, g2, g3, -⟩ := four_f m (by omega) h4
  have c8 := cn_8 m (by omega) n (by omega)
  refine p_mono (put_D (p := 0) h8 h3 (nI m) (by omega)) (fun q hq => ?_)
  obtain ⟨q1, -, q3⟩ := hq
  have at' : ∀ x, x < n → bt (nI m) x = true → gI q.2 21 (cn (bt (nI m)) x) = nI x := fun x hx hb => by
    have := pr_at (b := bt (nI m)) (q := (0, gI σ 21)) n x hx hb
    rw [q3]
    have e : (0, gI σ 21).1 + cn (bt (nI m)) x = cn (bt (nI m)) x := Nat.zero_add _
    rw [e] at this
    exact this
  have in' : ∀ x, x < 8 → bt (nI m) x = true → x < n := fun x _ hb => bt_lo h8 hm hb
  have b0 := (f5 (el m 0) (by omega)).mpr (Or.inl rfl)
  have b1' := (f5 (el m 1) (by omega)).mpr (Or.inr (Or.inl rfl))
  have b2' := (f5 (el m 2) (by omega)).mpr (Or.inr (Or.inr (Or.inl rfl)))
  have b3' := (f5 (el m 3) (by omega)).mpr (Or.inr (Or.inr (Or.inr rfl)))
  have r0 := at' _ (in' _ (by omega) b0) b0
  have r1 := at' _ (in' _ (by omega) b1') b1'
  have r2 := at' _ (in' _ (by omega) b2') b2'
  have r3 := at' _ (in' _ (by omega) b3') b3'
  rw [g0] at r0
  rw [g1] at r1
  rw [g2] at r2
  rw [g3] at r3
  exact ⟨q1, r0, r1, r2, r3⟩
theorem w4_D {N : Nat} {σ : Mem} {n m : Nat} (h8 : n ≤ 8) (h3 : gI σ 3 0 = nI n) (hm : m < 2 ^ n) (h4 : pc (nI m) = 4) : par (f_Cu_winnersOfFour N (nI m) σ) (fun q => fr [21] [] σ q.2 ∧ ∀ j, bt q.1 j = true ↔ ∃ w, w < 3 ∧ wm (gI σ 13) m w = j) := by
  have hp : (2 : Nat) ^ n ≤ 256 := Nat.pow_le_pow_right (n := 2) (by decide) h8
  obtain ⟨f1, f2, f3, f4, -⟩ := four_f m (by omega) h4
  have l3 : (3 : Int32) = nI 3 := rfl
  unfold f_Cu_winnersOfFour
  refine p_obq _ (put4 h8 h3 hm h4) (fun r2 s1 hs => ?_)
  obtain ⟨s0, r0, r1, r2', r3⟩ := hs
  refine p_it2 (fun i3 i4 => ∃ w, w ≤ 3 ∧ i4 = nI w ∧ ∀ j, bt i3 j = true ↔ ∃ v, v < w ∧ wm (gI σ 13) m v = j) ?_ N _ _ ⟨0, by omega, rfl, fun j => ⟨fun h => (by rw [bt_0] at h; cases h), fun ⟨v, hv, _⟩ => by omega⟩⟩
  rintro self i3 _ ⟨w, hw, rfl, hj⟩ ih
  unfold Cu_winnersOfFour_B11
  refine p_if (fun c => ?_) (fun c => ?_)
  · rw [l3, nle (by omega) (by omega)] at c
    have : w = 3 := by omega
    subst this
    exact p_some ⟨s0, hj⟩
  · rw [l3, nle (by omega) (by omega)] at c
    rw [nadd1]
    have g13 : gI s1 13 = gI σ 13 := s0.1 13 (by decide)
    refine p_ob _ (bw_D (by omega) (by omega) (by omega) f4 r0 r1 r2' r3 (by omega : w < 3)) (fun r6 h6 => p_bnd ?_)
    rw [g13] at h6
    have e6 : r6 = nI (wm (gI σ 13) m w) := h6
    have l8' := (wm_in (f := gI σ 13) (w := w) (by omega : m < 256) h4).2
    refine ih _ _ ⟨w + 1, by omega, rfl, fun j => ?_⟩
    rw [bt_or, Bool.or_eq_true, hj j, e6, one_bt l8']
    constructor
    · rintro (⟨v, hv, e⟩ | e)
      · exact ⟨v, by omega, e⟩
      · exact ⟨w, by omega, e.symm⟩
    · rintro ⟨v, hv, e⟩
      by_cases cv : v = w
      · exact Or.inr (by rw [← e, cv])
      · exact Or.inl ⟨v, by omega, e⟩
theorem wo_D {N : Nat} {σ : Mem} {n : Nat} (h8 : n ≤ 8) (h3 : gI σ 3 0 = nI n) (A B : Int32) : par (f_Cu_winnersOver N A B σ) (fun r => ∀ j, bt r j = true ↔ (j < n ∧ bt A j = true ∧ ¬ (gI σ 13 j &&& B) = 0)) := by
  unfold f_Cu_winnersOver
  refine p_it2 (fun i1 i2 => ∃ k, k ≤ n ∧ i2 = nI k ∧ ∀ j, bt i1 j = true ↔ (j < k ∧ bt A j = true ∧ ¬ (gI σ 13 j &&& B) = 0)) ?_ N _ _ ⟨0, by omega, rfl, fun j => ⟨fun h => (by rw [bt_0] at h; cases h), fun h => by have := h.1; omega⟩⟩
  rintro self i1 _ ⟨k, hk, rfl, hj⟩ ih
  unfold Cu_winnersOver_B5
  rw [h3]
  refine p_if (fun c => ?_) (fun c => ?_)
  · rw [nle (by omega) (by omega)] at c
    have : k = n := by omega
    subst this
    exact p_some hj
  · rw [nle (by omega) (by omega)] at c
    rw [bit_bt (by omega), nadd1, nI_clamp (by omega)]
    have stay : ¬ (bt A k = true ∧ ¬ (gI σ 13 k &&& B) = 0) → par (self i1 (nI (k + 1))) (fun r => ∀ j, bt r j = true ↔ (j < n ∧ bt A j = true ∧ ¬ (gI σ 13 j &&& B) = 0)) := fun hno => by
      refine ih _ _ ⟨k + 1, by omega, rfl, fun j => ?_⟩
      rw [hj j]
      constructor
      · rintro ⟨a1, a2, a3⟩
        exact ⟨by omega, a2, a3⟩
      · rintro ⟨a1, a2, a3⟩
        by_cases cj : j = k
        · rw [cj] at a2 a3
          exact absurd ⟨a2, a3⟩ hno
        · exact ⟨by omega, a2, a3⟩
    cases hb : bt A k
    · rw [if_neg (by decide)]
      exact stay (fun w => by rw [hb] at w; exact absurd w.1 (by decide))
    · rw [if_pos (by rfl)]
      refine p_gd (fun _ => p_if (fun c2 => stay (fun w => w.2 c2)) (fun c2 => p_bnd ?_))
      refine ih _ _ ⟨k + 1, by omega, rfl, fun j => ?_⟩
      rw [bt_or, Bool.or_eq_true, hj j, one_bt (by omega)]
      constructor
      · rintro (⟨a1, a2, a3⟩ | e)
        · exact ⟨by omega, a2, a3⟩
        · rw [e]
          exact ⟨by omega, hb, c2⟩
      · rintro ⟨a1, a2, a3⟩
        by_cases cj : j = k
        · exact Or.inr cj
        · exact Or.inl ⟨by omega, a2, a3⟩
/-- who can win among eight -/
def w8p (f : Nat → Int32) (h j : Nat) : Prop := (∃ w, w < 3 ∧ wm f h w = j) ∧ ∃ v, v < 3 ∧ bt (f j) (wm f (dfs 255 h) v) = true
theorem d255 : ∀ h, h < 256 → pc (nI h) = 4 → dfs 255 h < 256 ∧ pc (nI (dfs 255 h)) = 4 ∧ dfs 255 (dfs 255 h) = h ∧ (nI 255 &&& (nI h ^^^ (-1 : Int32))) = nI (dfs 255 h) ∧ (h % 2 = 1 ∨ dfs 255 h % 2 = 1) ∧ h < 255 ∧ 1 ≤ h := by decide +kernel
theorem w8_D {N : Nat} {σ : Mem} (h3 : gI σ 3 0 = nI 8) : par (f_Cu_winnersOfEight N (nI 255) σ) (fun q => ∀ j, bt q.1 j = true ↔ ∃ h, h < 256 ∧ pc (nI h) = 4 ∧ w8p (gI σ 13) h j) := by
  unfold f_Cu_winnersOfEight
  refine p_it3 (fun i1 i2 s => ∃ k, k ≤ 127 ∧ i2 = nI (2 * k + 1) ∧ fr [21] [] σ s ∧ ∀ j, bt i1 j = true ↔ ∃ h, h < 256 ∧ pc (nI h) = 4 ∧ ((h % 2 = 1 ∧ h < 2 * k + 1) ∨ (dfs 255 h % 2 = 1 ∧ dfs 255 h < 2 * k + 1)) ∧ w8p (gI σ 13) h j) ?_ N _ _ _ ⟨0, by omega, rfl, fr_r _ _ _, fun j => ⟨fun h => (by rw [bt_0] at h; cases h), fun ⟨h, h1, h2, h4, _⟩ => by omega⟩⟩
  rintro self i1 _ s ⟨k, hk, rfl, hf, hj⟩ ih
  unfold Cu_winnersOfEight_B4
  refine p_if (fun c => ?_) (fun c => ?_)
  · rw [nle (by omega) (by omega)] at c
    refine p_some (fun j => ?_)
    show bt i1 j = true ↔ _
    rw [hj j]
    constructor
    · rintro ⟨h, h1, h2, -, h4⟩
      exact ⟨h, h1, h2, h4⟩
    · rintro ⟨h, h1, h2, h4⟩
      obtain ⟨d1, d2, d3, d4, d5, d6, d7⟩ := d255 h h1 h2
      obtain ⟨-, -, -, -, -, e6, -⟩ := d255 _ d1 d2
      refine ⟨h, h1, h2, ?_, h4⟩
      rcases d5 with d5 | d5
      · exact Or.inl ⟨d5, by omega⟩
      · exact Or.inr ⟨d5, by omega⟩
  · rw [nle (by omega) (by omega)] at c
    have ek : nI (2 * k + 1) + (2 : Int32) = nI (2 * (k + 1) + 1) := by
      rw [l2, nI_add]
      exact congrArg nI (by omega)
    rw [cnt_v (nI_rg (by omega) (by omega)), ek]
    have p8 := pc_8 (nI (2 * k + 1))
    refine p_if (fun c2 => ?_) (fun c2 => ?_)
    · have h4 : pc (nI (2 * k + 1)) = 4 := nI_inj (by omega) (by decide) (show nI (pc (nI (2 * k + 1))) = nI 4 from c2)
      obtain ⟨d1, d2, d3, d4, d5, d6, d7⟩ := d255 (2 * k + 1) (by omega) h4
      rw [d4]
      refine p_obq _ (w4_D (n := 8) (Nat.le_refl _) (by rw [hf.1 3 (by decide)]; exact h3) (by omega : 2 * k + 1 < 2 ^ 8) h4) (fun r6 s5 h5 => ?_)
      obtain ⟨f5, h5⟩ := h5
      have f5' : fr [21] [] σ s5 := fr_t hf f5
      refine p_obq _ (w4_D (n := 8) (Nat.le_refl _) (by rw [f5'.1 3 (by decide)]; exact h3) (by omega : dfs 255 (2 * k + 1) < 2 ^ 8) d2) (fun r8 s7 h7 => ?_)
      obtain ⟨f7, h7⟩ := h7
      have f7' : fr [21] [] σ s7 := fr_t f5' f7
      have h5' : ∀ j, bt r6 j = true ↔ ∃ w, w < 3 ∧ wm (gI σ 13) (2 * k + 1) w = j := fun j => by rw [← hf.1 13 (by decide)]; exact h5 j
      have h7' : ∀ j, bt r8 j = true ↔ ∃ w, w < 3 ∧ wm (gI σ 13) (dfs 255 (2 * k + 1)) w = j := fun j => by rw [← f5'.1 13 (by decide)]; exact h7 j
      refine p_ob _ (wo_D (n := 8) (Nat.le_refl _) (by rw [f7'.1 3 (by decide)]; exact h3) r6 r8) (fun r9 h9 => p_ob _ (wo_D (n := 8) (Nat.le_refl _) (by rw [f7'.1 3 (by decide)]; exact h3) r8 r6) (fun r10 h10 => p_bnd ?_))
      rw [f7'.1 13 (by decide)] at h9 h10
      have ov8 : ∀ (A B : Int32) (hA hB : Nat), hA < 256 → pc (nI hA) = 4 → hB < 256 → pc (nI hB) = 4 → hB = dfs 255 hA → (∀ j, bt A j = true ↔ ∃ w, w < 3 ∧ wm (gI σ 13) hA w = j) → (∀ j, bt B j = true ↔ ∃ w, w < 3 ∧ wm (gI σ 13) hB w = j) → ∀ j, (j < 8 ∧ bt A j = true ∧ ¬ (gI σ 13 j &&& B) = 0) ↔ w8p (gI σ 13) hA j := fun A B hA hB a1 a2 b1' b2' eB eA eB2 j => by
        unfold w8p
        rw [eA j, ← eB]
        constructor
        · rintro ⟨-, x1, x2⟩
          refine ⟨x1, ?_⟩
          refine Classical.byContradiction (fun hc => x2 (bt_ext (fun i hi => ?_)))
          rw [bt_and, bt_0]
          cases e1 : bt (gI σ 13 j) i
          · rfl
          · cases e2 : bt B i
            · rfl
            · obtain ⟨v, v1, v2⟩ := (eB2 i).mp e2
              exact absurd ⟨v, v1, by rw [v2]; exact e1⟩ hc
        · rintro ⟨x1, v, v1, v2⟩
          obtain ⟨w, w1, w2⟩ := x1
          refine ⟨by rw [← w2]; exact (wm_in a1 a2).2, ⟨w, w1, w2⟩, fun hz => ?_⟩
          have z := congrArg (fun u => bt u (wm (gI σ 13) hB v)) hz
          have z2 : bt (gI σ 13 j &&& B) (wm (gI σ 13) hB v) = bt 0 (wm (gI σ 13) hB v) := z
          rw [bt_and, v2, bt_0, (eB2 _).mpr ⟨v, v1, rfl⟩] at z2
          cases z2
      have k9 := ov8 r6 r8 (2 * k + 1) (dfs 255 (2 * k + 1)) (by omega) h4 d1 d2 rfl h5' h7'
      have k10 := ov8 r8 r6 (dfs 255 (2 * k + 1)) (2 * k + 1) d1 d2 (by omega) h4 d3.symm h7' h5'
      refine ih _ _ _ ⟨k + 1, by omega, rfl, f7', fun j => ?_⟩
      rw [bt_or, Bool.or_eq_true, bt_or, Bool.or_eq_true, hj j, h9 j, h10 j, k9 j, k10 j]
      constructor
      · rintro (⟨h, h1, h2, h5, h6⟩ | h | h)
        · refine ⟨h, h1, h2, ?_, h6⟩
          rcases h5 with ⟨a1, a2⟩ | ⟨a1, a2⟩
          · exact Or.inl ⟨a1, by omega⟩
          · exact Or.inr ⟨a1, by omega⟩
        · exact ⟨2 * k + 1, by omega, h4, Or.inl ⟨by omega, by omega⟩, h⟩
        · exact ⟨dfs 255 (2 * k + 1), d1, d2, Or.inr ⟨by rw [d3]; omega, by rw [d3]; omega⟩, h⟩
      · rintro ⟨h, h1, h2, h5, h6⟩
        rcases h5 with ⟨a1, a2⟩ | ⟨a1, a2⟩
        · by_cases ch : h = 2 * k + 1
          · rw [ch] at h6
            exact Or.inr (Or.inl h6)
          · exact Or.inl ⟨h, h1, h2, Or.inl ⟨a1, by omega⟩, h6⟩
        · by_cases ch : dfs 255 h = 2 * k + 1
          · have e3 := (d255 h h1 h2).2.2.1
            rw [ch] at e3
            rw [e3]
            exact Or.inr (Or.inr h6)
          · exact Or.inl ⟨h, h1, h2, Or.inr ⟨a1, by omega⟩, h6⟩
    · refine ih _ _ _ ⟨k + 1, by omega, rfl, hf, fun j => ?_⟩
      rw [hj j]
      constructor
      · rintro ⟨h, h1, h2, h5, h6⟩
        refine ⟨h, h1, h2, ?_, h6⟩
        rcases h5 with ⟨a1, a2⟩ | ⟨a1, a2⟩
        · exact Or.inl ⟨a1, by omega⟩
        · exact Or.inr ⟨a1, by omega⟩
      · rintro ⟨h, h1, h2, h5, h6⟩
        refine ⟨h, h1, h2, ?_, h6⟩
        rcases h5 with ⟨a1, a2⟩ | ⟨a1, a2⟩
        · by_cases ch : h = 2 * k + 1
          · rw [ch] at h2
            exact absurd (by rw [h2]; rfl) c2
          · exact Or.inl ⟨a1, by omega⟩
        · by_cases ch : dfs 255 h = 2 * k + 1
          · have e4 := (d255 h h1 h2).2.1
            rw [ch] at e4
            exact absurd (by rw [e4]; rfl) c2
          · exact Or.inr ⟨a1, by omega⟩
