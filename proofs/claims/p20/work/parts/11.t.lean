/-! cups: by how many rows one wins, counted by ways; both counts alike -/
theorem r4_D {N : Nat} {σ : Mem} {n m : Nat} (h8 : n ≤ 8) (h3 : gI σ 3 0 = nI n) (hm : m < 2 ^ n) (h4 : pc (nI m) = 4) (B : Int32) : par (f_Cu_rowsOfFour N (nI m) B σ) (fun q => fr [21] [] σ q.2 ∧ q.1 = nI (8 * sm (fun w => b1 (bt B (wm (gI σ 13) m w))) 3)) := by
  have hp : (2 : Nat) ^ n ≤ 256 := Nat.pow_le_pow_right (n := 2) (by decide) h8
  obtain ⟨f1, f2, f3, f4, -⟩ := four_f m (by omega) h4
  have l3 : (3 : Int32) = nI 3 := rfl
  unfold f_Cu_rowsOfFour
  refine p_obq _ (put4 h8 h3 hm h4) (fun r2 s1 hs => ?_)
  obtain ⟨s0, r0, r1, r2', r3⟩ := hs
  have s0' : fr [21] [] σ s1 := s0
  refine p_it2 (fun i3 i4 => ∃ w, w ≤ 3 ∧ i4 = nI w ∧ i3 = nI (sm (fun w => b1 (bt B (wm (gI σ 13) m w))) w)) ?_ N _ _ ⟨0, by omega, rfl, rfl⟩
  rintro self _ _ ⟨w, hw, rfl, rfl⟩ ih
  unfold Cu_rowsOfFour_B12
  refine p_if (fun c => ?_) (fun c => ?_)
  · rw [l3, nle (by omega) (by omega)] at c
    have : w = 3 := by omega
    subst this
    refine p_some ⟨s0', ?_⟩
    show (8 : Int32) * nI _ = _
    rw [l8, nmulA]
  · rw [l3, nle (by omega) (by omega)] at c
    rw [nadd1]
    have g13 : gI s1 13 = gI σ 13 := s0'.1 13 (by decide)
    refine p_ob _ (bw_D (by omega) (by omega) (by omega) f4 r0 r1 r2' r3 (by omega : w < 3)) (fun r6 h6 => p_bnd ?_)
    rw [g13] at h6
    have e6 : r6 = nI (wm (gI σ 13) m w) := h6
    have l8' := (wm_in (f := gI σ 13) (w := w) (by omega : m < 256) h4).2
    refine ih _ _ ⟨w + 1, by omega, rfl, ?_⟩
    have eb : (if bt B (wm (gI σ 13) m w) = true then (1 : Int32) else 0) = nI (b1 (bt B (wm (gI σ 13) m w))) := by
      cases bt B (wm (gI σ 13) m w) <;> rfl
    rw [e6, bit_bt (by omega), eb, nI_add]
    rfl
/-- the ways counted by the table -/
theorem r4_s {f : Nat → Int32} {n m : Nat} (h8 : n ≤ 8) (hT : Tn n f) (hm : m < 2 ^ n) (h4 : pc (nI m) = 4) (B : Int32) : sm (fun y => if bt B y = true then cC f n m y else 0) n = 8 * sm (fun w => b1 (bt B (wm f m w))) 3 := by
  have hp : (2 : Nat) ^ n ≤ 256 := Nat.pow_le_pow_right (n := 2) (by decide) h8
  have one : ∀ w, sm (fun y => if bt B y = true then (if wm f m w = y then 1 else 0) else 0) n = b1 (bt B (wm f m w)) := fun w => by
    have hb := bt_lo h8 hm (wm_in (f := f) (w := w) (by omega : m < 256) h4).1
    have := sum1 (f := fun _ => B) (x := 0) (b := wm f m w) (g := fun y => if wm f m w = y then 1 else 0) hb (fun y hy => by
      show (if wm f m w = y then 1 else 0) = 0
      rw [if_neg (fun z => hy z.symm)])
    have e : (if wm f m w = wm f m w then 1 else 0) = 1 := if_pos rfl
    have t : b1 (bt B (wm f m w)) * (if wm f m w = wm f m w then 1 else 0) = b1 (bt B (wm f m w)) := by rw [e, Nat.mul_one]
    exact this.trans t
  have e1 : sm (fun y => if bt B y = true then cC f n m y else 0) n = sm (fun y => 8 * (((if bt B y = true then (if wm f m 0 = y then 1 else 0) else 0) + (if bt B y = true then (if wm f m 1 = y then 1 else 0) else 0)) + (if bt B y = true then (if wm f m 2 = y then 1 else 0) else 0))) n := sm_c n (fun y _ => by
    rw [cC_e h8 hT hm h4]
    show (if bt B y = true then 8 * ((if wm f m 0 = y then 1 else 0) + (if wm f m 1 = y then 1 else 0) + (if wm f m 2 = y then 1 else 0)) else 0) = _
    cases bt B y
    · rw [if_neg (by decide), if_neg (by decide), if_neg (by decide), if_neg (by decide)]
    · rw [if_pos rfl, if_pos rfl, if_pos rfl, if_pos rfl])
  have m8 : ∀ (g : Nat → Nat) k, sm (fun y => 8 * g y) k = 8 * sm g k := fun g k => by
    induction k with
    | zero => rfl
    | succ k ih =>
      show sm (fun y => 8 * g y) k + 8 * g k = 8 * (sm g k + g k)
      rw [ih]
      omega
  rw [e1, m8, sm_add, sm_add, one 0, one 1, one 2]
  show 8 * _ = 8 * (0 + b1 (bt B (wm f m 0)) + b1 (bt B (wm f m 1)) + b1 (bt B (wm f m 2)))
  omega
theorem r4_1 {f : Nat → Int32} {n m x : Nat} (h8 : n ≤ 8) (hT : Tn n f) (hm : m < 2 ^ n) (h4 : pc (nI m) = 4) (hx : x < n) : cC f n m x = 8 * sm (fun w => b1 (bt ((1 : Int32) <<< (nI x &&& 31)) (wm f m w))) 3 := by
  rw [← r4_s h8 hT hm h4]
  have ob' : ∀ y, y < 32 → bt ((1 : Int32) <<< (nI x &&& 31)) y = decide (y = x) := fun y hy => bt_one (by omega) hy
  rw [sm_pick n hx, sm_z n (fun y hy => ?_), Nat.add_zero, ob' x (by omega), decide_eq_true rfl, if_pos rfl]
  show (if y = x then 0 else _) = 0
  by_cases c : y = x
  · rw [if_pos c]
  · rw [if_neg c, ob' y (by omega), decide_eq_false c, if_neg (by decide)]
theorem r8_D {N : Nat} {σ : Mem} {x : Nat} (h3 : gI σ 3 0 = nI 8) (hT : Tn 8 (gI σ 13)) (hx : x < 8) : par (f_Cu_rowsOfEight N (nI 255) (nI x) σ) (fun q => q.1 = nI (cD (gI σ 13) 8 255 x)) := by
  unfold f_Cu_rowsOfEight
  have z0 : cps (gI σ 13) 8 (cC (gI σ 13) 8) 255 0 x = 0 := by
    unfold cps
    rw [if_neg]
    rintro ⟨-, w⟩
    rw [p255] at w
    have z : pc (nI 0) = 0 := by decide
    omega
  refine p_it3 (fun i1 i2 s => ∃ h, 1 ≤ h ∧ h ≤ 255 ∧ i2 = nI h ∧ fr [21] [] σ s ∧ i1 = nI (sm (fun h => cps (gI σ 13) 8 (cC (gI σ 13) 8) 255 h x) h)) ?_ N _ _ _ ⟨1, by omega, by omega, rfl, fr_r _ _ _, by show (0 : Int32) = nI (0 + cps (gI σ 13) 8 (cC (gI σ 13) 8) 255 0 x); rw [z0]; rfl⟩
  rintro self _ _ s ⟨h, hh1, hh, rfl, hf, rfl⟩ ih
  unfold Cu_rowsOfEight_B5
  refine p_if (fun c => ?_) (fun c => ?_)
  · rw [nle (by omega) (by omega)] at c
    have : h = 255 := by omega
    subst this
    exact p_some rfl
  · rw [nle (by omega) (by omega)] at c
    rw [cnt_v (nI_rg (by omega) (by omega)), nadd1, bit_bt (by omega)]
    have p8 := pc_8 (nI h)
    have stay : cps (gI σ 13) 8 (cC (gI σ 13) 8) 255 h x = 0 → par (self (nI (sm (fun h => cps (gI σ 13) 8 (cC (gI σ 13) 8) 255 h x) h)) (nI (h + 1)) s) (fun q => q.1 = nI (cD (gI σ 13) 8 255 x)) := fun z => by
      refine ih _ _ _ ⟨h + 1, by omega, by omega, rfl, hf, ?_⟩
      show nI (sm (fun h => cps (gI σ 13) 8 (cC (gI σ 13) 8) 255 h x) h) = nI (sm (fun h => cps (gI σ 13) 8 (cC (gI σ 13) 8) 255 h x) h + cps (gI σ 13) 8 (cC (gI σ 13) 8) 255 h x)
      rw [z, Nat.add_zero]
    refine p_if (fun c2 => ?_) (fun c2 => stay ?_)
    · have h4 : pc (nI h) = 4 := nI_inj (by omega) (by decide) (show nI (pc (nI h)) = nI 4 from c2)
      obtain ⟨d1, d2, d3, d4, d5, d6, d7⟩ := d255 h (by omega) h4
      have ecp := cps_y (f := gI σ 13) (n := 8) (c := cC (gI σ 13) 8) (x := x) (w255 h (by omega)) (by rw [h4, p255])
      cases hb : bt (nI h) x
      · rw [if_neg (by decide)]
        refine stay ?_
        rw [ecp, hb, if_neg (by decide)]
      · rw [if_pos (by rfl)]
        rw [hb, if_pos rfl] at ecp
        refine p_obq _ (r4_D (n := 8) (Nat.le_refl _) (by rw [hf.1 3 (by decide)]; exact h3) (by omega : h < 2 ^ 8) h4 _) (fun r6 s5 h5 => p_gd (fun _ => ?_))
        obtain ⟨f5, h5⟩ := h5
        have f5' : fr [21] [] σ s5 := fr_t hf f5
        rw [d4, nI_clamp (by omega), f5'.1 13 (by decide)]
        refine p_obq _ (r4_D (n := 8) (Nat.le_refl _) (by rw [f5'.1 3 (by decide)]; exact h3) (by omega : dfs 255 h < 2 ^ 8) d2 _) (fun r8 s7 h7 => p_bnd ?_)
        obtain ⟨f7, h7⟩ := h7
        have h5' : r6 = nI (cC (gI σ 13) 8 h x) := by
          rw [r4_1 (Nat.le_refl 8) hT (by omega : h < 2 ^ 8) h4 hx]
          rw [hf.1 13 (by decide)] at h5
          exact h5
        have h7' : r8 = nI (sm (fun y => if bt (gI σ 13 x) y = true then cC (gI σ 13) 8 (dfs 255 h) y else 0) 8) := by
          rw [r4_s (Nat.le_refl 8) hT (by omega : dfs 255 h < 2 ^ 8) d2]
          rw [f5'.1 13 (by decide)] at h7
          exact h7
        refine ih _ _ _ ⟨h + 1, by omega, by omega, rfl, fr_t f5' f7, ?_⟩
        show nI (sm (fun h => cps (gI σ 13) 8 (cC (gI σ 13) 8) 255 h x) h) + (2 * r6) * r8 = nI (sm (fun h => cps (gI σ 13) 8 (cC (gI σ 13) 8) 255 h x) h + cps (gI σ 13) 8 (cC (gI σ 13) 8) 255 h x)
        rw [ecp, h5', h7', l2, nmulA, nmulA, nI_add]
    · unfold cps
      rw [if_neg]
      rintro ⟨-, w⟩
      rw [p255] at w
      have : pc (nI h) = 4 := by omega
      exact c2 (by rw [this]; rfl)
theorem rw_D {N : Nat} {σ : Mem} {n x : Nat} (h3 : gI σ 3 0 = nI n) (hT : Tn n (gI σ 13)) (hx : x < n) (hc : cup4 n) (hr : rg 0 255 (gI σ 13 x)) : par (f_Cu_rowsWonBy N (nI x) σ) (fun q => q.1 = nI (cc (gI σ 13) n (2 ^ n - 1) x)) := by
  unfold f_Cu_rowsWonBy
  refine p_bnd ?_
  have h8 := hT.1
  have ev : t_Du_everybodyN σ = nI (2 ^ n - 1) := by
    unfold t_Du_everybodyN
    rw [h3, mask_e n h8]
  rw [ev, h3]
  rcases hc with rfl | rfl | rfl | rfl
  · show par (some ((1 : Int32), σ)) _
    refine p_some ?_
    have : x = 0 := by omega
    subst this
    have e : cc (gI σ 13) 1 (2 ^ 1 - 1) 0 = 1 := by
      unfold cc
      rw [if_pos (by decide)]
      decide
    show (1 : Int32) = _
    rw [e]
    rfl
  · show par (gd (inb (nI x) 8) (if (gI σ 13 (nI x).toNatClampNeg) = (0 : Int32) then (some ((0 : Int32), σ)) else (some ((2 : Int32), σ)))) _
    rw [nI_clamp (by omega)]
    have e : cc (gI σ 13) 2 (2 ^ 2 - 1) x = p2 (gI σ 13) 0 1 x := by
      have p : pc (nI (2 ^ 2 - 1)) = 2 := by decide
      unfold cc
      rw [if_neg (by omega), if_pos p]
      exact cB_e (f := gI σ 13) (n := 2) (a := 0) (b := 1) (x := x) (by decide) (by decide) (by decide)
    have t1 : b1 true = 1 := rfl
    have t0 : b1 false = 0 := rfl
    rw [e]
    have oth : ∃ y, y < 2 ∧ y ≠ x ∧ p2 (gI σ 13) 0 1 x = 2 * b1 (bt (gI σ 13 x) y) := by
      rcases (show x = 0 ∨ x = 1 by omega) with rfl | rfl
      · exact ⟨1, by decide, by decide, by unfold p2; rw [if_pos rfl]⟩
      · exact ⟨0, by decide, by decide, by unfold p2; rw [if_neg (by decide), if_pos rfl]⟩
    obtain ⟨y, y1, y2, y3⟩ := oth
    rw [y3]
    refine p_gd (fun _ => p_if (fun c => p_some ?_) (fun c => p_some ?_))
    · have : bt (gI σ 13 x) y = false := by rw [c]; exact bt_0 y
      show (0 : Int32) = _
      rw [this, t0]
      rfl
    · have : bt (gI σ 13 x) y = true := by
        obtain ⟨j, j1, j2⟩ := bt_ne0 hr c
        obtain ⟨a1, a2, a3⟩ := hT.2.1 x j (by omega) j2
        have : j = y := by omega
        rw [← this]
        exact j2
      show (2 : Int32) = _
      rw [this, t1]
      rfl
  · show par (ob2 (f_Cu_rowsOfFour N (nI (2 ^ 4 - 1)) ((1 : Int32) <<< (nI x &&& 31)) σ) fun r3 s2 => some (r3, s2)) _
    have p : pc (nI (2 ^ 4 - 1)) = 4 := by decide
    refine p_obq _ (r4_D (n := 4) (by decide) h3 (by decide : 2 ^ 4 - 1 < 2 ^ 4) p _) (fun r s h => p_some ?_)
    show r = _
    have h' := h.2
    rw [← r4_1 (n := 4) (by decide) hT (by decide : 2 ^ 4 - 1 < 2 ^ 4) p hx] at h'
    have e : cc (gI σ 13) 4 (2 ^ 4 - 1) x = cC (gI σ 13) 4 (2 ^ 4 - 1) x := by
      unfold cc
      rw [if_neg (by omega), if_neg (by omega), if_pos p]
    rw [e]
    exact h'
  · show par (ob2 (f_Cu_rowsOfEight N (nI (2 ^ 8 - 1)) (nI x) σ) fun r5 s4 => some (r5, s4)) _
    refine p_obq _ (r8_D h3 hT hx) (fun r s h => p_some ?_)
    have p : pc (nI (2 ^ 8 - 1)) = 8 := by decide
    have e : cc (gI σ 13) 8 (2 ^ 8 - 1) x = cD (gI σ 13) 8 (2 ^ 8 - 1) x := by
      unfold cc
      rw [if_neg (by omega), if_neg (by omega), if_neg (by omega), if_pos p]
    show r = _
    rw [e]
    exact h
