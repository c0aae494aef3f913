/-! who wins a cup, in both; each kind of set answers alike -/
theorem sm_pos {g : Nat → Nat} : ∀ K, 0 < sm g K ↔ ∃ h, h < K ∧ 0 < g h
  | 0 => ⟨fun h => absurd h (Nat.lt_irrefl _), fun ⟨h, hh, _⟩ => (by omega)⟩
  | K + 1 => by
    have ih := sm_pos (g := g) K
    show 0 < sm g K + g K ↔ _
    constructor
    · intro h
      by_cases c : 0 < sm g K
      · obtain ⟨i, i1, i2⟩ := ih.mp c
        exact ⟨i, by omega, i2⟩
      · exact ⟨K, by omega, by omega⟩
    · rintro ⟨i, i1, i2⟩
      by_cases c : i = K
      · rw [c] at i2; omega
      · have := ih.mpr ⟨i, by omega, i2⟩
        omega
theorem sm_leK {g : Nat → Nat} {c : Nat} : ∀ K, (∀ i, i < K → g i ≤ c) → sm g K ≤ c * K
  | 0, _ => by show 0 ≤ _; exact Nat.zero_le _
  | K + 1, h => by
    have ih := sm_leK (g := g) (c := c) K (fun i hi => h i (by omega))
    have hk := h K (by omega)
    show sm g K + g K ≤ c * (K + 1)
    rw [Nat.mul_succ]
    omega
theorem if1_pos {p : Prop} {d : Decidable p} : 0 < (@ite _ p d 1 0 : Nat) ↔ p := by
  by_cases h : p
  · rw [if_pos h]; exact ⟨fun _ => h, fun _ => by decide⟩
  · rw [if_neg h]; exact ⟨fun q => absurd q (by decide), fun q => absurd q h⟩
theorem if1_le {p : Prop} {d : Decidable p} : (@ite _ p d 1 0 : Nat) ≤ 1 := by
  by_cases h : p
  · rw [if_pos h]; exact Nat.le_refl _
  · rw [if_neg h]; exact Nat.zero_le _
theorem cC_p {f : Nat → Int32} {n m x : Nat} (h8 : n ≤ 8) (hT : Tn n f) (hm : m < 2 ^ n) (h4 : pc (nI m) = 4) : (0 < cC f n m x ↔ ∃ w, w < 3 ∧ wm f m w = x) ∧ cC f n m x ≤ 24 := by
  have e := cC_e (x := x) h8 hT hm h4
  have i0 := if1_pos (p := wy f (el m 0) (el m 1) (el m 2) (el m 3) 0 = x) (d := inferInstance)
  have i1 := if1_pos (p := wy f (el m 0) (el m 1) (el m 2) (el m 3) 1 = x) (d := inferInstance)
  have i2 := if1_pos (p := wy f (el m 0) (el m 1) (el m 2) (el m 3) 2 = x) (d := inferInstance)
  have l0' := if1_le (p := wy f (el m 0) (el m 1) (el m 2) (el m 3) 0 = x) (d := inferInstance)
  have l1' := if1_le (p := wy f (el m 0) (el m 1) (el m 2) (el m 3) 1 = x) (d := inferInstance)
  have l2' := if1_le (p := wy f (el m 0) (el m 1) (el m 2) (el m 3) 2 = x) (d := inferInstance)
  rw [e]
  refine ⟨?_, by omega⟩
  constructor
  · intro h
    by_cases c0 : wy f (el m 0) (el m 1) (el m 2) (el m 3) 0 = x
    · exact ⟨0, by decide, c0⟩
    · by_cases c1' : wy f (el m 0) (el m 1) (el m 2) (el m 3) 1 = x
      · exact ⟨1, by decide, c1'⟩
      · by_cases c2' : wy f (el m 0) (el m 1) (el m 2) (el m 3) 2 = x
        · exact ⟨2, by decide, c2'⟩
        · rw [if_neg c0, if_neg c1', if_neg c2'] at h
          exact absurd h (by decide)
  · rintro ⟨w, hw, hx⟩
    rcases (show w = 0 ∨ w = 1 ∨ w = 2 by omega) with rfl | rfl | rfl
    · have := i0.mpr hx; omega
    · have := i1.mpr hx; omega
    · have := i2.mpr hx; omega
theorem w255 : ∀ h, h < 256 → (nI h &&& (nI 255 ^^^ (-1 : Int32))) = 0 := by decide +kernel
theorem p255 : pc (nI 255) = 8 := by decide
theorem m255 : ∀ m, m < 256 → pc (nI m) = 8 → m = 255 := by decide +kernel
theorem cD_p {f : Nat → Int32} {x : Nat} (hT : Tn 8 f) : (0 < cD f 8 255 x ↔ ∃ h, h < 256 ∧ pc (nI h) = 4 ∧ w8p f h x) ∧ cD f 8 255 x ≤ 9216 * 255 := by
  have cps_le : ∀ h, h < 255 → cps f 8 (cC f 8) 255 h x ≤ 9216 := fun h hh => by
    unfold cps
    by_cases c : (nI h &&& (nI 255 ^^^ (-1 : Int32))) = 0 ∧ 2 * pc (nI h) = pc (nI 255)
    · rw [if_pos c]
      have h4 : pc (nI h) = 4 := by have := c.2; rw [p255] at this; omega
      obtain ⟨d1, d2, -⟩ := d255 h (by omega) h4
      by_cases b : bt (nI h) x = true
      · rw [if_pos b]
        have a1 := (cC_p (x := x) (Nat.le_refl 8) hT (by omega : h < 2 ^ 8) h4).2
        have a2 : sm (fun y => if bt (f x) y = true then cC f 8 (dfs 255 h) y else 0) 8 ≤ 24 * 8 := sm_leK 8 (fun i _ => by
          show (if bt (f x) i = true then cC f 8 (dfs 255 h) i else 0) ≤ 24
          split
          · exact (cC_p (Nat.le_refl 8) hT (by omega : dfs 255 h < 2 ^ 8) d2).2
          · exact Nat.zero_le _)
        have := Nat.mul_le_mul (show 2 * cC f 8 h x ≤ 48 by omega) a2
        omega
      · rw [if_neg b]; exact Nat.zero_le _
    · rw [if_neg c]; exact Nat.zero_le _
  refine ⟨?_, sm_leK 255 cps_le⟩
  show 0 < sm (fun h => cps f 8 (cC f 8) 255 h x) 255 ↔ _
  rw [sm_pos 255]
  constructor
  · rintro ⟨h, h1, h2⟩
    have h2' : 0 < cps f 8 (cC f 8) 255 h x := h2
    unfold cps at h2'
    by_cases c : (nI h &&& (nI 255 ^^^ (-1 : Int32))) = 0 ∧ 2 * pc (nI h) = pc (nI 255)
    · rw [if_pos c] at h2'
      have h4 : pc (nI h) = 4 := by have := c.2; rw [p255] at this; omega
      obtain ⟨d1, d2, -⟩ := d255 h (by omega) h4
      by_cases b : bt (nI h) x = true
      · rw [if_pos b] at h2'
        have p1 : 0 < cC f 8 h x := by
          by_cases z : cC f 8 h x = 0
          · rw [z, Nat.mul_zero, Nat.zero_mul] at h2'; exact absurd h2' (by decide)
          · omega
        have p2' : 0 < sm (fun y => if bt (f x) y = true then cC f 8 (dfs 255 h) y else 0) 8 := by
          by_cases z : sm (fun y => if bt (f x) y = true then cC f 8 (dfs 255 h) y else 0) 8 = 0
          · rw [z, Nat.mul_zero] at h2'; exact absurd h2' (by decide)
          · omega
        obtain ⟨y, y1, y2⟩ := (sm_pos 8).mp p2'
        have y2' : 0 < (if bt (f x) y = true then cC f 8 (dfs 255 h) y else 0) := y2
        by_cases by' : bt (f x) y = true
        · rw [if_pos by'] at y2'
          obtain ⟨v, v1, v2⟩ := (cC_p (Nat.le_refl 8) hT (by omega : dfs 255 h < 2 ^ 8) d2).1.mp y2'
          exact ⟨h, by omega, h4, (cC_p (Nat.le_refl 8) hT (by omega : h < 2 ^ 8) h4).1.mp p1, v, v1, by rw [v2]; exact by'⟩
        · rw [if_neg by'] at y2'; exact absurd y2' (by decide)
      · rw [if_neg b] at h2'; exact absurd h2' (by decide)
    · rw [if_neg c] at h2'; exact absurd h2' (by decide)
  · rintro ⟨h, h1, h4, ⟨w, w1, w2⟩, v, v1, v2⟩
    obtain ⟨d1, d2, -, -, -, d6, d7⟩ := d255 h h1 h4
    refine ⟨h, d6, ?_⟩
    show 0 < cps f 8 (cC f 8) 255 h x
    rw [cps_y (w255 h h1) (by rw [h4, p255]), if_pos (by rw [← w2]; exact (wm_in h1 h4).1)]
    have p1 := (cC_p (x := x) (Nat.le_refl 8) hT (by omega : h < 2 ^ 8) h4).1.mpr ⟨w, w1, w2⟩
    have p2' : 0 < sm (fun y => if bt (f x) y = true then cC f 8 (dfs 255 h) y else 0) 8 := (sm_pos 8).mpr ⟨wm f (dfs 255 h) v, (wm_in d1 d2).2, by
      show 0 < (if bt (f x) (wm f (dfs 255 h) v) = true then cC f 8 (dfs 255 h) (wm f (dfs 255 h) v) else 0)
      rw [if_pos v2]
      exact (cC_p (Nat.le_refl 8) hT (by omega : dfs 255 h < 2 ^ 8) d2).1.mpr ⟨v, v1, rfl⟩⟩
    exact Nat.mul_pos (by omega) p2'
def cup4 (k : Nat) : Prop := k = 1 ∨ k = 2 ∨ k = 4 ∨ k = 8
theorem n8 {n m : Nat} (h8 : n ≤ 8) (hm : m < 2 ^ n) (h : m = 255) : n = 8 := by
  by_cases c : n = 8
  · exact c
  · have := Nat.pow_le_pow_right (n := 2) (by decide) (show n ≤ 7 by omega)
    omega
theorem p2_p {f : Nat → Int32} {n a b x : Nat} (hT : Tn n f) (ha : a < n) (hb : b < n) (hab : a < b) : (0 < p2 f a b x ↔ wN f a b = x) ∧ p2 f a b x ≤ 2 := by
  have anti := hT.2.2 b a hb ha (by omega)
  have t1 : b1 true = 1 := rfl
  have t0 : b1 false = 0 := rfl
  unfold p2 wN
  rw [anti]
  by_cases xa : x = a
  · rw [if_pos xa]
    cases bt (f a) b
    · rw [if_neg (by decide), t0]
      exact ⟨⟨fun h => absurd h (by decide), fun h => by omega⟩, by decide⟩
    · rw [if_pos rfl, t1]
      exact ⟨⟨fun _ => xa.symm, fun _ => by decide⟩, by decide⟩
  · rw [if_neg xa]
    by_cases xb : x = b
    · rw [if_pos xb]
      cases bt (f a) b
      · rw [if_neg (by decide)]
        exact ⟨⟨fun _ => xb.symm, fun _ => by decide⟩, by decide⟩
      · rw [if_pos rfl]
        exact ⟨⟨fun h => absurd h (by decide), fun h => absurd h.symm xa⟩, by decide⟩
    · rw [if_neg xb]
      refine ⟨⟨fun h => absurd h (by decide), fun h => ?_⟩, by decide⟩
      cases e : bt (f a) b
      · rw [e, if_neg (by decide)] at h
        exact absurd h.symm xb
      · rw [e, if_pos rfl] at h
        exact absurd h.symm xa
theorem cc_b {f : Nat → Int32} {n m x : Nat} (h8 : n ≤ 8) (hT : Tn n f) (hm : m < 2 ^ n) : cc f n m x ≤ 3000000 ∧ (0 < cc f n m x → x < n) := by
  have hp : (2 : Nat) ^ n ≤ 256 := Nat.pow_le_pow_right (n := 2) (by decide) h8
  unfold cc
  by_cases e1 : pc (nI m) = 1
  · rw [if_pos e1]
    unfold cA
    by_cases b : bt (nI m) x = true
    · rw [if_pos b]
      exact ⟨by decide, fun _ => bt_lo h8 hm b⟩
    · rw [if_neg b]
      exact ⟨by decide, fun h => absurd h (by decide)⟩
  · rw [if_neg e1]
    by_cases e2 : pc (nI m) = 2
    · rw [if_pos e2]
      obtain ⟨t1, t2, t3⟩ := two_f m (by omega) e2
      have bn : el m 1 < n := by
        obtain ⟨-, -, q3, -⟩ := pair_f (el m 1) t2 (el m 0) t1
        rw [← t3] at q3
        exact bt_lo h8 hm ((q3 (el m 1) t2).mpr (Or.inr rfl))
      have e : cB f n m x = p2 f (el m 0) (el m 1) x := by
        have := cB_e (f := f) (x := x) h8 t1 bn
        rw [← t3] at this
        exact this
      obtain ⟨p1, p3⟩ := p2_p (x := x) hT (by omega) bn t1
      rw [e]
      refine ⟨by omega, fun h => ?_⟩
      have := p1.mp h
      rcases wN_o (f := f) (x := el m 0) (y := el m 1) with q | q <;> omega
    · rw [if_neg e2]
      by_cases e4 : pc (nI m) = 4
      · rw [if_pos e4]
        obtain ⟨p1, p3⟩ := cC_p (x := x) h8 hT hm e4
        refine ⟨by omega, fun h => ?_⟩
        obtain ⟨w, w1, w2⟩ := p1.mp h
        have := (wm_in (f := f) (w := w) (by omega : m < 256) e4).1
        rw [w2] at this
        exact bt_lo h8 hm this
      · rw [if_neg e4]
        by_cases e8 : pc (nI m) = 8
        · rw [if_pos e8]
          have m5 := m255 m (by omega) e8
          have n8' := n8 h8 hm m5
          subst n8'
          subst m5
          obtain ⟨p1, p3⟩ := cD_p (x := x) hT
          refine ⟨by omega, fun h => ?_⟩
          obtain ⟨h, h1, h4, ⟨w, w1, w2⟩, -⟩ := p1.mp h
          rw [← w2]
          exact (wm_in h1 h4).2
        · rw [if_neg e8]
          exact ⟨by decide, fun h => absurd h (by decide)⟩
theorem cu_D {N : Nat} {σ : Mem} {n m : Nat} (h8 : n ≤ 8) (h3 : gI σ 3 0 = nI n) (hT : Tn n (gI σ 13)) (hm : m < 2 ^ n) (hm1 : 1 ≤ m) : par (f_Cu_winners N (nI m) σ) (fun q => ∀ j, bt q.1 j = true ↔ 0 < cc (gI σ 13) n m j) := by
  have hp : (2 : Nat) ^ n ≤ 256 := Nat.pow_le_pow_right (n := 2) (by decide) h8
  have p8 := pc_8 (nI m)
  have none' : cup4 (pc (nI m)) ∨ ∀ j, bt (0 : Int32) j = true ↔ 0 < cc (gI σ 13) n m j := by
    by_cases c : cup4 (pc (nI m))
    · exact Or.inl c
    · refine Or.inr (fun j => ?_)
      unfold cc
      rw [if_neg (fun q => c (Or.inl q)), if_neg (fun q => c (Or.inr (Or.inl q))), if_neg (fun q => c (Or.inr (Or.inr (Or.inl q)))), if_neg (fun q => c (Or.inr (Or.inr (Or.inr q)))), bt_0]
      exact ⟨fun h => (by cases h), fun h => absurd h (by decide)⟩
  have p0 : 1 ≤ pc (nI m) := by
    obtain ⟨j, j1, j2⟩ := lowbits n h8 m hm (by omega)
    have := pc_lt (x := 0) (y := nI m) (fun i _ hb => by rw [bt_0] at hb; cases hb) (show j < 8 by omega) (bt_0 j) j2
    omega
  unfold f_Cu_winners
  rw [cnt_v (nI_rg (by omega) (by omega))]
  rcases (show pc (nI m) = 1 ∨ pc (nI m) = 2 ∨ pc (nI m) = 3 ∨ pc (nI m) = 4 ∨ pc (nI m) = 5 ∨ pc (nI m) = 6 ∨ pc (nI m) = 7 ∨ pc (nI m) = 8 by omega) with e | e | e | e | e | e | e | e
  · rw [e]
    show par (some (nI m, σ)) _
    refine p_some (fun j => ?_)
    show bt (nI m) j = true ↔ _
    unfold cc cA
    rw [if_pos e, if1_pos]
  · have ecc : ∀ j, cc (gI σ 13) n m j = cB (gI σ 13) n m j := fun j => by unfold cc; rw [if_neg (by omega), if_pos e]
    rw [e]
    show par (ob2 (f_Cu_putIntoRow N (nI m) (0 : Int32) σ) fun r2 s1 => ob (f_Du_winnerOfN (gI s1 21 (0 : Int32).toNatClampNeg) (gI s1 21 (1 : Int32).toNatClampNeg) s1) fun r3 => some (((1 : Int32) <<< (r3 &&& 31)), s1)) _
    obtain ⟨t1, t2, t3⟩ := two_f m (by omega) e
    obtain ⟨-, -, q3, -, -, -, -, g0, g1⟩ := pair_f (el m 1) t2 (el m 0) t1
    rw [← t3] at q3 g0 g1
    have b0 := (q3 (el m 0) (by omega)).mpr (Or.inl rfl)
    have b1' := (q3 (el m 1) t2).mpr (Or.inr rfl)
    have an := bt_lo h8 hm b0
    have bn := bt_lo h8 hm b1'
    have c8 := cn_8 m (by omega) n (by omega)
    have k1 : (1 : Int32).toNatClampNeg = 1 := by decide
    refine p_obq _ (put_D (p := 0) h8 h3 (nI m) (by omega)) (fun r2 s1 hs => ?_)
    obtain ⟨s0, -, s2⟩ := hs
    have r0 : gI s1 21 0 = nI (el m 0) := by
      have := pr_at (b := bt (nI m)) (q := (0, gI σ 21)) n (el m 0) an b0
      have s2' : gI s1 21 = (pr (bt (nI m)) n (0, gI σ 21)).2 := s2
      rw [s2']
      have z : (0, gI σ 21).1 + cn (bt (nI m)) (el m 0) = 0 := by rw [g0]
      rw [z] at this
      exact this
    have r1 : gI s1 21 1 = nI (el m 1) := by
      have := pr_at (b := bt (nI m)) (q := (0, gI σ 21)) n (el m 1) bn b1'
      have s2' : gI s1 21 = (pr (bt (nI m)) n (0, gI σ 21)).2 := s2
      rw [s2']
      have z : (0, gI σ 21).1 + cn (bt (nI m)) (el m 1) = 1 := by rw [g1]
      rw [z] at this
      exact this
    rw [n0, k1, r0, r1]
    refine p_ob _ (wof (by omega) t2) (fun r3 h3' => p_some (fun j => ?_))
    rw [s0.1 13 (by decide)] at h3'
    show bt ((1 : Int32) <<< (r3 &&& 31)) j = true ↔ _
    have ee : cB (gI σ 13) n m j = p2 (gI σ 13) (el m 0) (el m 1) j := by
      have := cB_e (f := gI σ 13) (x := j) h8 t1 bn
      rw [← t3] at this
      exact this
    rw [h3', one_bt (wN_8 (by omega) t2), ecc j, ee, (p2_p (x := j) hT an bn t1).1]
    exact ⟨fun h => h.symm, fun h => h.symm⟩
  · rcases none' with q | q
    · unfold cup4 at q; omega
    · rw [e]
      exact p_some q
  · have ecc : ∀ j, cc (gI σ 13) n m j = cC (gI σ 13) n m j := fun j => by unfold cc; rw [if_neg (by omega), if_neg (by omega), if_pos e]
    have hw := w4_D (N := N) h8 h3 hm e
    rw [e]
    show par (ob2 (f_Cu_winnersOfFour N (nI m) σ) fun r5 s4 => some (r5, s4)) _
    refine p_obq _ hw (fun r s h => p_some (fun j => ?_))
    show bt r j = true ↔ _
    rw [ecc j, (cC_p (x := j) h8 hT hm e).1]
    exact h.2 j
  · rcases none' with q | q
    · unfold cup4 at q; omega
    · rw [e]
      exact p_some q
  · rcases none' with q | q
    · unfold cup4 at q; omega
    · rw [e]
      exact p_some q
  · rcases none' with q | q
    · unfold cup4 at q; omega
    · rw [e]
      exact p_some q
  · have ecc : ∀ j, cc (gI σ 13) n m j = cD (gI σ 13) n m j := fun j => by unfold cc; rw [if_neg (by omega), if_neg (by omega), if_neg (by omega), if_pos e]
    have m5 := m255 m (by omega) e
    have n8' := n8 h8 hm m5
    subst n8'
    subst m5
    rw [e]
    show par (ob2 (f_Cu_winnersOfEight N (nI 255) σ) fun r7 s6 => some (r7, s6)) _
    refine p_obq _ (w8_D h3) (fun r s h => p_some (fun j => ?_))
    show bt r j = true ↔ _
    rw [ecc j, (cD_p (x := j) hT).1]
    exact h j
theorem isC_e {k : Nat} (hk : k ≤ 8) : t_M_isCup (nI k) = 0 ↔ ¬ cup4 k := by
  have : ∀ k, k < 9 → (t_M_isCup (nI k) = 0 ↔ ¬ (k = 1 ∨ k = 2 ∨ k = 4 ∨ k = 8)) := by decide
  exact this k (by omega)
theorem cu_M {N : Nat} (hN : 8589934592 ≤ N) {μ : Mem} {f : Nat → Int32} {n m : Nat} (h8 : n ≤ 8) (h1 : gI μ 1 0 = nI n) (h13 : ∀ a, a < 8 → gI μ 1 (1 + a) = f a) (hT : Tn n f) (hm : m < 2 ^ n) (hm1 : 1 ≤ m) : par (f_M_cupOf N (nI m) μ) (fun q => ∀ j, bt q.1 j = true ↔ 0 < cc f n m j) := by
  have hp : (2 : Nat) ^ n ≤ 256 := Nat.pow_le_pow_right (n := 2) (by decide) h8
  have p8 := pc_8 (nI m)
  unfold f_M_cupOf
  refine p_ob _ (p_tot (M_sizeOf_s hN (nI_rg (b := 255) (by omega) (by omega)))) (fun r1 hr1 => ?_)
  rw [hr1]
  refine p_if (fun c => p_some (fun j => ?_)) (fun c => ?_)
  · have c := (isC_e p8).mp c
    show bt (0 : Int32) j = true ↔ _
    unfold cc
    rw [if_neg (fun q => c (Or.inl q)), if_neg (fun q => c (Or.inr (Or.inl q))), if_neg (fun q => c (Or.inr (Or.inr (Or.inl q)))), if_neg (fun q => c (Or.inr (Or.inr (Or.inr q)))), bt_0]
    exact ⟨fun h => (by cases h), fun h => absurd h (by decide)⟩
  · refine p_ob _ (lcu_M hN h8 h1 h13) (fun s hs => ?_)
    obtain ⟨hf, hs⟩ := hs
    refine p_it2 (fun i3 i4 => ∃ k, k ≤ n ∧ i4 = nI k ∧ ∀ j, bt i3 j = true ↔ (j < k ∧ 0 < cc f n m j)) ?_ N _ _ ⟨0, by omega, rfl, fun j => ⟨fun h => (by rw [bt_0] at h; cases h), fun h => by have := h.1; omega⟩⟩
    rintro self i3 _ ⟨k, hk, rfl, hj⟩ ih
    unfold M_cupOf_B20
    rw [many_e (by rw [hf.1 1 (by decide)]; exact h1)]
    refine p_if (fun c2 => ?_) (fun c2 => ?_)
    · rw [nle (by omega) (by omega)] at c2
      have : k = n := by omega
      subst this
      refine p_some (fun j => ?_)
      show bt i3 j = true ↔ _
      rw [hj j]
      exact ⟨fun h => h.2, fun h => ⟨(cc_b h8 hT hm).2 h, h⟩⟩
    · rw [nle (by omega) (by omega)] at c2
      have cb := (cc_b (x := k) h8 hT hm).1
      rw [cix (by omega) (by omega), nI_clamp (by omega), hs m k hm1 hm (by omega), nadd1]
      refine p_gd (fun _ => p_if (fun c3 => p_bnd ?_) (fun c3 => p_bnd ?_))
      · rw [l0, nle (by omega) (by decide)] at c3
        rw [or0]
        refine ih _ _ ⟨k + 1, by omega, rfl, fun j => ?_⟩
        rw [hj j]
        constructor
        · rintro ⟨a1, a2⟩
          exact ⟨by omega, a2⟩
        · rintro ⟨a1, a2⟩
          by_cases cj : j = k
          · rw [cj] at a2; omega
          · exact ⟨by omega, a2⟩
      · rw [l0, nle (by omega) (by decide)] at c3
        refine ih _ _ ⟨k + 1, by omega, rfl, fun j => ?_⟩
        rw [bt_or, Bool.or_eq_true, hj j, one_bt (by omega)]
        constructor
        · rintro (⟨a1, a2⟩ | e)
          · exact ⟨by omega, a2⟩
          · rw [e]; exact ⟨by omega, by omega⟩
        · rintro ⟨a1, a2⟩
          by_cases cj : j = k
          · exact Or.inr cj
          · exact Or.inl ⟨by omega, a2⟩
/-- each kind of set, in both -/
theorem kind_b {N : Nat} (hN : 8589934592 ≤ N) {σ μ : Mem} {n m k : Nat} (hD : InvD σ) (hM : InvM μ) (h8 : n ≤ 8) (h3 : gI σ 3 0 = nI n) (h1 : gI μ 1 0 = nI n) (h13 : ∀ a, a < 8 → gI μ 1 (1 + a) = gI σ 13 a) (hT : Tn n (gI σ 13)) (hm : m < 2 ^ n) (hk : k < 10) {q q2 : Int32 × Mem} (e1 : f_Se_ofKind N (nI k) (nI m) σ = some q) (e2 : f_M_setOf N (nI k) (nI m) μ = some q2) : q.1 = q2.1 := by
  have hp : (2 : Nat) ^ n ≤ 256 := Nat.pow_le_pow_right (n := 2) (by decide) h8
  unfold f_Se_ofKind at e1
  unfold f_M_setOf at e2
  by_cases z : nI m = 0
  · rw [if_pos z] at e1 e2
    cases e1
    cases e2
    rfl
  · rw [if_neg z] at e1 e2
    have m1 : 1 ≤ m := by
      by_cases c : m = 0
      · rw [c] at z; exact absurd rfl z
      · omega
    have hS : ∀ j, bt (nI m) j = true → j < n := fun j h => bt_lo h8 hm h
    rcases (show k = 0 ∨ k = 1 ∨ k = 2 ∨ k = 3 ∨ k = 4 ∨ k = 5 ∨ k = 6 ∨ k = 7 ∨ k = 8 ∨ k = 9 by omega) with rfl | rfl | rfl | rfl | rfl | rfl | rfl | rfl | rfl | rfl
    · have a : par (ob2 (f_Se_top N (nI m) σ) fun r2 s1 => some (r2, s1)) (fun q => ∀ j, bt q.1 j = true ↔ tpc (gI σ 13) (nI m) j) := p_obq _ (to_D h8 h3 hm) (fun r s h => p_some h)
      have b : par (ob (f_M_top N (nI m) μ) fun r1 => some (r1, μ)) (fun q => q.1 = tof (gI σ 13) n (nI m) 255) := p_ob _ (to_M hN h8 h1 h13 hm m1) (fun r h => p_some h)
      have a' := a q e1
      have b' := b q2 e2
      rw [b']
      exact bt_eq (fun j => by rw [a' j, to_b h8 hT hm m1 j])
    · have a : par (ob (f_Se_most N (nI m) σ) fun r3 => some (r3, σ)) (fun q => q.1 = (mof (gI σ 13) (nI m) n).2) := p_ob _ (mo_D h8 hD h3) (fun r h => p_some h)
      have b : par (ob (f_M_most N (nI m) μ) fun r2 => some (r2, μ)) (fun q => q.1 = (mof (gI σ 13) (nI m) n).2) := p_ob _ (mo_M hN h8 hM h1 h13) (fun r h => p_some h)
      exact (a q e1).trans (b q2 e2).symm
    · have a : par (ob (f_Se_uncovered N (nI m) σ) fun r4 => some (r4, σ)) (fun q => q.1 = ucs (gI σ 13) n (nI m)) := p_ob _ (uc_D h8 h3 h1 h13 _) (fun r h => p_some h)
      have b : par (ob (f_M_uncovered N (nI m) μ) fun r3 => some (r3, μ)) (fun q => q.1 = ucs (gI σ 13) n (nI m)) := p_ob _ (uc_M h8 h3 h1 h13 hT hS) (fun r h => p_some h)
      exact (a q e1).trans (b q2 e2).symm
    · have a : par (ob (f_Se_uncoveredAgain N (nI m) σ) fun r5 => some (r5, σ)) (fun q => q.1 = uit (gI σ 13) n (nI m) 8) := p_ob _ (ua_D h8 h3 h1 h13 _) (fun r h => p_some h)
      have b : par (ob (f_M_againUncovered N (nI m) μ) fun r4 => some (r4, μ)) (fun q => q.1 = uit (gI σ 13) n (nI m) 8) := p_ob _ (ua_M h8 h3 h1 h13 hT hS) (fun r h => p_some h)
      exact (a q e1).trans (b q2 e2).symm
    · have a : par (ob2 (f_Se_banks N (nI m) σ) fun r7 s6 => some (r7, s6)) (fun q => q.1 = bsf (bkp (gI σ 13) n (nI m)) n) := p_obq _ (bk_D h8 h3) (fun r s h => p_some h)
      have b : par (ob2 (f_M_banks N (nI m) μ) fun r6 s5 => some (r6, s5)) (fun q => q.1 = bsf (bkp (gI σ 13) n (nI m)) n) := p_obq _ (bk_M h8 hT hS h1 h13) (fun r s h => p_some h)
      exact (a q e1).trans (b q2 e2).symm
    · have a := p_obq (k := fun (r9 : Int32) (s8 : Mem) => some (r9, s8)) (P := fun q => ∃ T W : Nat → Int32, T 0 = 0 ∧ W 0 = 1 ∧ (∀ j, 0 < j → j ≤ m → (nI j &&& (nI m ^^^ (-1 : Int32))) = 0 → eqn 64 (gI σ 13) n T W j) ∧ q.1 = bsf (pb (gI σ 13) T m) n) _ (sl_D (N := N) h8 h3 hm) (fun r s h => p_some h)
      have b := p_obq (k := fun (r8 : Int32) (s7 : Mem) => some (r8, s7)) (P := fun q => ∃ T W : Nat → Int32, T 0 = 0 ∧ W 0 = 1 ∧ (∀ j, 0 < j → j < 2 ^ n → eqn 99 (gI σ 13) n T W j) ∧ (∀ m, m < 2 ^ n → rg 0 (8 * (pc (nI m) : Int)) (T m)) ∧ q.1 = bsf (pb (gI σ 13) T m) n) _ (sl_M (N := N) hN h8 hM h1 h13 hm) (fun r s h => p_some h)
      obtain ⟨T, W, t0, w0', hE, a'⟩ := a q e1
      obtain ⟨T', W', t1, w1', hE', hok, b'⟩ := b q2 e2
      have a'' : q.1 = bsf (pb (gI σ 13) T m) n := a'
      have b'' : q2.1 = bsf (pb (gI σ 13) T' m) n := b'
      rw [a'', b'']
      exact sl_b h8 hm t0 w0' hE t1 w1' hE' hok
    · have a : par (ob (f_Se_leastCovering N (nI m) σ) fun r10 => some (r10, σ)) (fun q => q.1 = lcf (gI σ 13) n (nI m) (m - 1)) := p_ob _ (co_D h8 h3 h1 h13 (by omega) m1) (fun r h => p_some h)
      have b : par (ob (f_M_covering N (nI m) μ) fun r9 => some (r9, μ)) (fun q => q.1 = lcf (gI σ 13) n (nI m) (m - 1)) := p_ob _ (co_M hN h8 h3 h1 h13 (by omega) m1) (fun r h => p_some h)
      exact (a q e1).trans (b q2 e2).symm
    · have a := p_obq (k := fun (r12 : Int32) (s11 : Mem) => some (r12, s11)) (P := fun q => ∃ P : Nat → Int32, P 0 = 1 ∧ (∀ t, 0 < t → t ≤ m → (nI t &&& (nI m ^^^ (-1 : Int32))) = 0 → pc (nI t) % 2 = 0 → pfe (gI σ 13) n P t) ∧ bal (gI σ 13) P n m m q.1 (fun _ => True)) _ (ba_D (N := N) h8 h3 hm) (fun r s h => p_some (by
        obtain ⟨-, P, p0, hE, hb⟩ := h
        refine ⟨P, p0, hE, ?_⟩
        rcases hb with ⟨t, t1, t2, t3, t4, t5, -⟩ | hb
        · exact Or.inl ⟨t, t1, t2, t3, t4, t5, trivial⟩
        · exact Or.inr hb))
      have b := p_obq (k := fun (r11 : Int32) (s10 : Mem) => some (r11, s10)) (P := fun q => ∃ P : Nat → Int32, P 0 = 1 ∧ (∀ t, 0 < t → t < 2 ^ n → pc (nI t) % 2 = 0 → pfe (gI σ 13) n P t) ∧ bal (gI σ 13) P n m (2 ^ n - 1) q.1 (fun _ => True)) _ (ba_M (N := N) (f := gI σ 13) hN h8 h1 h13 hm) (fun r s h => p_some (by
        obtain ⟨-, P, p0, hE, hb⟩ := h
        refine ⟨P, p0, hE, ?_⟩
        rcases hb with ⟨t, t1, t2, t3, t4, t5, -⟩ | hb
        · exact Or.inl ⟨t, t1, t2, t3, t4, t5, trivial⟩
        · exact Or.inr hb))
      obtain ⟨P, p0, hE, ha⟩ := a q e1
      obtain ⟨P', p0', hE', hb⟩ := b q2 e2
      exact (ba_b h8 hm p0 hE p0' hE' ha hb).1
    · have b := p_ob (k := fun (s12 : Mem) => gd (inb (nI m) 256) (some ((gI s12 22 (nI m).toNatClampNeg), s12))) (P := fun q => ∃ T, T 0 = 0 ∧ (∀ m, 0 < m → m < 2 ^ n → kpq (gI σ 13) T (nI m)) ∧ q.1 = T m) _ (lk_M (N := N) (f := gI σ 13) h8 h1 h13) (fun s h => p_gd (fun _ => p_some ⟨gI s 22, h.2.1, h.2.2, by
        show gI s 22 (nI m).toNatClampNeg = _
        rw [nI_clamp (by omega)]⟩))
      obtain ⟨T, t1, t2, t3⟩ := b q2 e2
      have a : par (ob2 (f_Se_keeping N 10 (nI m) (0 : Int32) σ) fun r14 s13 => some (r14, s13)) (fun q => q.1 = T m) := p_ob2 (fun r _ => r = T m) (p_mono (keep_D (k := 0) h8 hT t1 t2 hm (by have := pc_8 (nI m); omega) h3 rfl) (fun q hq => hq.1)) (fun r s h => p_some h)
      exact (a q e1).trans t3.symm
    · have a : par (ob2 (f_Cu_winners N (nI m) σ) fun r16 s15 => some (r16, s15)) (fun q => ∀ j, bt q.1 j = true ↔ 0 < cc (gI σ 13) n m j) := p_obq _ (cu_D h8 h3 hT hm m1) (fun r s h => p_some h)
      have b : par (ob2 (f_M_cupOf N (nI m) μ) fun r14 s13 => some (r14, s13)) (fun q => ∀ j, bt q.1 j = true ↔ 0 < cc (gI σ 13) n m j) := p_obq _ (cu_M hN h8 h1 h13 hT hm m1) (fun r s h => p_some h)
      exact bt_eq (fun j => by rw [a q e1 j, b q2 e2 j])
