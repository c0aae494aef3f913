/-! within answers alike -/
theorem cw_D {N : Nat} {s : Mem} {V : Nat → Int32} (hv : ∀ j, j < 9 → gI s 11 j = V j) : par (f_D_countWithin N s) (fun r => r = nI (cn (pwi V) 81)) := by
  have l9' : (9 : Int32) = nI 9 := rfl
  unfold f_D_countWithin
  refine p_it2 (fun i1 i2 => ∃ i, i ≤ 9 ∧ i2 = nI i ∧ i1 = nI (cn (pwi V) (9 * i))) ?_ N _ _ ⟨0, by omega, rfl, rfl⟩
  rintro self _ _ ⟨i, hi, rfl, rfl⟩ ih
  unfold D_countWithin_B4
  refine p_if (fun c => ?_) (fun c => ?_)
  · rw [l9', nle (by omega) (by omega)] at c
    have : i = 9 := by omega
    subst this
    exact p_some rfl
  · rw [l9', nle (by omega) (by omega)] at c
    refine p_it2 (fun i4 i5 => ∃ k, k ≤ 9 ∧ i5 = nI k ∧ i4 = nI (cn (pwi V) (9 * i + k))) ?_ N _ _ ⟨0, by omega, rfl, rfl⟩
    rintro self6 _ _ ⟨k, hk, rfl, rfl⟩ ih6
    unfold D_countWithin_B12
    refine p_if (fun c2 => ?_) (fun c2 => ?_)
    · rw [l9', nle (by omega) (by omega)] at c2
      have : k = 9 := by omega
      subst this
      rw [nadd1]
      exact ih _ _ ⟨i + 1, by omega, rfl, rfl⟩
    · rw [l9', nle (by omega) (by omega)] at c2
      obtain ⟨x1, x2⟩ := ix9 (i := i) (k := k) (by omega)
      have hs : cn (pwi V) (9 * i + k + 1) = cn (pwi V) (9 * i + k) + if pwi V (9 * i + k) = true then 1 else 0 := rfl
      have hw : pwi V (9 * i + k) = (decide (¬ i = k) && decide ((V i &&& (V k ^^^ (-1 : Int32))) = 0)) := by unfold pwi; rw [x1, x2]
      rw [nadd1 k]
      refine p_if (fun c3 => ?_) (fun c3 => ?_)
      · have : i = k := nI_inj (by omega) (by omega) c3
        rw [decide_eq_false (fun w => w this), Bool.false_and] at hw
        rw [hw, if_neg (by decide)] at hs
        exact ih6 _ _ ⟨k + 1, by omega, rfl, congrArg nI hs.symm⟩
      · have : ¬ i = k := fun w => c3 (by rw [w])
        rw [nI_clamp (by omega), nI_clamp (by omega), hv i (by omega), hv k (by omega)]
        rw [decide_eq_true this, Bool.true_and] at hw
        refine p_gd (fun _ => p_gd (fun _ => p_if (fun c4 => ?_) (fun c4 => ?_)))
        · rw [decide_eq_true c4] at hw
          rw [hw, if_pos rfl] at hs
          rw [nadd1]
          exact ih6 _ _ ⟨k + 1, by omega, rfl, congrArg nI hs.symm⟩
        · rw [decide_eq_false c4] at hw
          rw [hw, if_neg (by decide)] at hs
          exact ih6 _ _ ⟨k + 1, by omega, rfl, congrArg nI hs.symm⟩
theorem fl_D {N : Nat} {s : Mem} {V : Nat → Int32} (hv : ∀ j, j < 9 → gI s 11 j = V j) : par (f_D_firstLessWithin N s) (fun r => fsp (pls V) 81 r) := by
  have l9' : (9 : Int32) = nI 9 := rfl
  have l10' : (10 : Int32) = nI 10 := rfl
  unfold f_D_firstLessWithin
  refine p_it1 (fun i1 => ∃ i, i ≤ 9 ∧ i1 = nI i ∧ ∀ t, t < 9 * i → pls V t = false) ?_ N _ ⟨0, by omega, rfl, fun t ht => by omega⟩
  rintro self _ ⟨i, hi, rfl, hz⟩ ih
  unfold D_firstLessWithin_B2
  refine p_if (fun c => ?_) (fun c => ?_)
  · rw [l9', nle (by omega) (by omega)] at c
    exact p_some (Or.inl ⟨rfl, fun t ht => hz t (by omega)⟩)
  · rw [l9', nle (by omega) (by omega)] at c
    refine p_it1 (fun i3 => ∃ k, k ≤ 9 ∧ i3 = nI k ∧ ∀ t, t < 9 * i + k → pls V t = false) ?_ N _ ⟨0, by omega, rfl, hz⟩
    rintro self4 _ ⟨k, hk, rfl, hz4⟩ ih4
    unfold D_firstLessWithin_B10
    refine p_if (fun c2 => ?_) (fun c2 => ?_)
    · rw [l9', nle (by omega) (by omega)] at c2
      rw [nadd1]
      exact ih _ ⟨i + 1, by omega, rfl, fun t ht => hz4 t (by omega)⟩
    · rw [l9', nle (by omega) (by omega)] at c2
      obtain ⟨x1, x2⟩ := ix9 (i := i) (k := k) (by omega)
      have hw : pls V (9 * i + k) = (decide (¬ V i = V k) && decide ((V i &&& (V k ^^^ (-1 : Int32))) = 0)) := by unfold pls; rw [x1, x2]
      have next : pls V (9 * i + k) = false → par (self4 (nI (k + 1))) (fun r => fsp (pls V) 81 r) := fun h => by
        refine ih4 _ ⟨k + 1, by omega, rfl, fun t ht => ?_⟩
        by_cases ct : t = 9 * i + k
        · rw [ct]; exact h
        · exact hz4 t (by omega)
      rw [nadd1, nI_clamp (by omega), nI_clamp (by omega), hv i (by omega), hv k (by omega)]
      refine p_gd (fun _ => p_gd (fun _ => p_if (fun c3 => next ?_) (fun c3 => p_gd (fun _ => p_gd (fun _ => p_if (fun c4 => ?_) (fun c4 => next ?_))))))
      · rw [hw, decide_eq_false (fun w => w c3), Bool.false_and]
      · refine p_some (Or.inr ⟨9 * i + k, by omega, by rw [hw, decide_eq_true c3, decide_eq_true c4]; rfl, hz4, ?_⟩)
        rw [x1, x2, l10', nmulA, nI_add]
      · rw [hw, decide_eq_false c4, Bool.and_false]
theorem wth_M {N : Nat} {s : Mem} {V : Nat → Int32} {a : Int32} (hv : ∀ j, j < 9 → gI s 25 j = V j) : par (M_within_K53 N a s) (fun q => (a = 0 → q.1 = nI (cn (pwi V) 81)) ∧ (¬ a = 0 → fsp (pls V) 81 q.1)) := by
  have l9' : (9 : Int32) = nI 9 := rfl
  have l10' : (10 : Int32) = nI 10 := rfl
  unfold M_within_K53
  refine p_it3 (fun i5 i6 i7 => ∃ i, i ≤ 9 ∧ i7 = nI i ∧ i5 = nI (cn (pwi V) (9 * i)) ∧ fsp (pls V) (9 * i) i6) ?_ N _ _ _ ⟨0, by omega, rfl, rfl, Or.inl ⟨rfl, fun t ht => by omega⟩⟩
  rintro self _ i6 _ ⟨i, hi, rfl, rfl, hF⟩ ih
  unfold M_within_B60
  refine p_if (fun c => ?_) (fun c => ?_)
  · rw [l9', nle (by omega) (by omega)] at c
    have : i = 9 := by omega
    subst this
    unfold M_within_K176
    refine p_if (fun c2 => p_some ⟨fun _ => rfl, fun w => absurd c2 w⟩) (fun c2 => p_some ⟨fun w => absurd w c2, fun _ => hF⟩)
  · rw [l9', nle (by omega) (by omega)] at c
    refine p_it3 (fun i9 i10 i11 => ∃ k, k ≤ 9 ∧ i11 = nI k ∧ i9 = nI (cn (pwi V) (9 * i + k)) ∧ fsp (pls V) (9 * i + k) i10) ?_ N _ _ _ ⟨0, by omega, rfl, rfl, hF⟩
    rintro self12 _ i10 _ ⟨k, hk, rfl, rfl, hF2⟩ ih12
    unfold M_within_B70
    refine p_if (fun c2 => ?_) (fun c2 => ?_)
    · rw [l9', nle (by omega) (by omega)] at c2
      have : k = 9 := by omega
      subst this
      rw [nadd1]
      exact ih _ _ _ ⟨i + 1, by omega, rfl, rfl, hF2⟩
    · rw [l9', nle (by omega) (by omega)] at c2
      obtain ⟨x1, x2⟩ := ix9 (i := i) (k := k) (by omega)
      have hs : cn (pwi V) (9 * i + k + 1) = cn (pwi V) (9 * i + k) + if pwi V (9 * i + k) = true then 1 else 0 := rfl
      have hw : pwi V (9 * i + k) = (decide (¬ i = k) && decide ((V i &&& (V k ^^^ (-1 : Int32))) = 0)) := by unfold pwi; rw [x1, x2]
      have hl : pls V (9 * i + k) = (decide (¬ V i = V k) && decide ((V i &&& (V k ^^^ (-1 : Int32))) = 0)) := by unfold pls; rw [x1, x2]
      have j0 : pwi V (9 * i + k) = false → pls V (9 * i + k) = false → par (M_within_J108 s (nI i) (nI (cn (pwi V) (9 * i + k))) i10 (nI k) self12) (fun q => (a = 0 → q.1 = nI (cn (pwi V) 81)) ∧ (¬ a = 0 → fsp (pls V) 81 q.1)) := fun h h' => by
        rw [h, if_neg (by decide)] at hs
        unfold M_within_J108 M_within_J109
        rw [if_pos rfl]
        unfold M_within_J122
        rw [nadd1 k]
        refine p_bnd ?_
        rw [if_pos rfl, Int32.add_zero]
        exact ih12 _ _ _ ⟨k + 1, by omega, rfl, congrArg nI hs.symm, fsp_s hF2 (Or.inl h')⟩
      refine p_if (fun c3 => ?_) (fun c3 => ?_)
      · have : i = k := nI_inj (by omega) (by omega) c3
        refine j0 ?_ ?_
        · rw [hw, decide_eq_false (fun w => w this), Bool.false_and]
        · rw [hl, decide_eq_false (fun w => w (by rw [this])), Bool.false_and]
      · have ik : ¬ i = k := fun w => c3 (by rw [w])
        rw [nI_clamp (by omega), nI_clamp (by omega), hv i (by omega), hv k (by omega)]
        refine p_gd (fun _ => p_gd (fun _ => ?_))
        have ew : t_M_isWithin (V i) (V k) = if (V i &&& (V k ^^^ (-1 : Int32))) = 0 then 1 else 0 := rfl
        rw [ew]
        by_cases c4 : (V i &&& (V k ^^^ (-1 : Int32))) = 0
        · rw [if_pos c4, if_neg n10]
          rw [decide_eq_true ik, decide_eq_true c4] at hw
          rw [decide_eq_true c4, Bool.and_true] at hl
          rw [hw] at hs
          have hs' : cn (pwi V) (9 * i + k + 1) = cn (pwi V) (9 * i + k) + 1 := hs
          unfold M_within_J109
          rw [if_neg n10]
          unfold M_within_J122
          rw [nadd1 k, nadd1]
          refine p_bnd ?_
          rw [if_neg n10]
          refine p_if (fun c5 => ?_) (fun c5 => ?_)
          · rw [nI_clamp (by omega), nI_clamp (by omega), hv i (by omega), hv k (by omega)]
            refine p_gd (fun _ => p_gd (fun _ => p_if (fun c6 => ?_) (fun c6 => p_bnd ?_)))
            · have pz : pls V (9 * i + k) = false := by rw [hl, decide_eq_false (fun w => w c6)]
              exact ih12 _ _ _ ⟨k + 1, by omega, rfl, congrArg nI hs'.symm, fsp_s hF2 (Or.inl pz)⟩
            · refine ih12 _ _ _ ⟨k + 1, by omega, rfl, congrArg nI hs'.symm, Or.inr ⟨9 * i + k, by omega, by rw [hl, decide_eq_true c6], ?_, ?_⟩⟩
              · rcases hF2 with ⟨-, w⟩ | ⟨t, t1, t2, t3, t4⟩
                · exact w
                · rw [c5] at t4
                  exact absurd t4.symm (nm1 (by omega))
              · rw [x1, x2, l10', nmulA, nI_add]
          · exact ih12 _ _ _ ⟨k + 1, by omega, rfl, congrArg nI hs'.symm, fsp_s hF2 (Or.inr c5)⟩
        · rw [if_neg c4, if_pos rfl]
          refine j0 ?_ ?_
          · rw [hw, decide_eq_false c4, Bool.and_false]
          · rw [hl, decide_eq_false c4, Bool.and_false]
theorem st_Rl_within_c {N : Nat} (hN : 8589934592 ≤ N) {σ μ : Mem} (hR : Rl σ μ) (a : Int32) : ∃ (q q2 : Int32 × Mem), f_D_within N a σ = some (q.1, q.2) ∧ f_M_within N a μ = some (q2.1, q2.2) ∧ Rl q.2 q2.2 ∧ q.1 = q2.1 := by
  obtain ⟨q, e1, k1⟩ := D_within_t hN (a1 := a) hR.1
  obtain ⟨q2, e2, k2⟩ := M_within_t hN (a1 := a) hR.2.1
  refine ⟨q, q2, e1, e2, Rl_q hR k1.2 k2.2 (by decide) (by decide), ?_⟩
  obtain ⟨s1, es1⟩ : ∃ s, s = sI μ 0 0 0 := ⟨_, rfl⟩
  obtain ⟨hR1, k0⟩ := Rl_m0 hR es1
  obtain ⟨n, h8, h3, h1, h13, hT⟩ := Rl_n hR1
  have l9' : (9 : Int32) = nI 9 := rfl
  unfold f_D_within at e1
  unfold f_M_within at e2
  rw [bnd_e, ← es1] at e2
  have no : q.1 = -1 → q2.1 = -1 → q.1 = q2.1 := fun x y => by rw [x, y]
  have y1 : (1 : Int32).toInt = 1 := by decide
  have y2 : (2 : Int32).toInt = 2 := by decide
  by_cases n0' : n = 0
  · have d1 : gI σ 3 0 = 0 := by rw [h3, n0']; rfl
    have m1 : t_M_isRound s1 = 0 := rM0 (by unfold nr; rw [h1, n0']; rfl)
    rw [if_pos d1] at e1
    rw [if_pos m1] at e2
    exact no (by cases e1; rfl) (by cases e2; rfl)
  · have d1 : ¬ gI σ 3 0 = 0 := fun w => n0' ((eq0_iff h8).mp (by rw [← h3]; exact w))
    have m1 : ¬ t_M_isRound s1 = 0 := by
      unfold t_M_isRound
      rw [n0, h1]
      rcases (show n = 1 ∨ n = 2 ∨ n = 3 ∨ n = 4 ∨ n = 5 ∨ n = 6 ∨ n = 7 ∨ n = 8 by omega) with r | r | r | r | r | r | r | r <;> rw [r] <;> decide
    rw [if_neg d1] at e1
    rw [if_neg m1] at e2
    rcases in01 a with ⟨i1, i2⟩ | ⟨i1, i2, i3, p, hp2, rfl⟩
    · rw [if_pos i1] at e2
      refine no ?_ (by cases e2; rfl)
      by_cases c : a < 0
      · rw [if_pos c] at e1
        cases e1
        rfl
      · rw [if_neg c, if_neg (by rcases i2 with i2 | i2; exact absurd i2 c; rw [i_le, y1]; rw [i_lt, y2] at i2; omega)] at e1
        cases e1
        rfl
    · rw [if_neg i1] at e2
      rw [if_neg i2, if_pos (by rw [i_le, y1]; rw [i_lt, y2] at i3; omega)] at e1
      have hp : (2 : Nat) ^ n ≤ 256 := Nat.pow_le_pow_right (n := 2) (by decide) h8
      have hp0 : 0 < (2 : Nat) ^ n := Nat.pow_pos (by decide)
      obtain ⟨V, vD, vM⟩ := kval hN hR.1 hR1.2.1 h8 h3 h1 h13 hT (show 2 ^ n - 1 < 2 ^ n by omega)
      have eD : ∀ s, gI s 3 = gI σ 3 → t_Du_everybodyN s = nI (2 ^ n - 1) := fun s h => by
        unfold t_Du_everybodyN
        rw [h, h3, mask_e n h8]
      have eM : ∀ s, gI s 1 = gI s1 1 → t_M_all s = nI (2 ^ n - 1) := fun s h => by
        rw [all_e (by rw [h]; exact h1), mask_e n h8]
      have a' : par (it2 (D_within_B23 N (nI p)) N (0 : Int32) σ) (fun q => (nI p = 0 → q.1 = nI (cn (pwi V) 81)) ∧ (¬ nI p = 0 → fsp (pls V) 81 q.1)) := by
        refine p_it2 (fun i s => ∃ k, k ≤ 9 ∧ i = nI k ∧ KD [11, 17, 18, 19, 20, 21, 22, 23] [] σ s ∧ ∀ j, j < k → gI s 11 j = V j) ?_ N _ _ ⟨0, by omega, rfl, kd_r hR.1, fun j hj => by omega⟩
        rintro self _ s ⟨k, hk, rfl, ks, hv⟩ ih
        have g3 : gI s 3 = gI σ 3 := ks.2.1 3 (by decide)
        have g13 : gI s 13 = gI σ 13 := ks.2.1 13 (by decide)
        unfold D_within_B23
        refine p_if (fun c => ?_) (fun c => ?_)
        · rw [l9', nle (by omega) (by omega)] at c
          have : k = 9 := by omega
          subst this
          unfold D_within_K56
          refine p_if (fun c2 => ?_) (fun c2 => ?_)
          · exact p_ob _ (cw_D hv) (fun r h => p_some ⟨fun _ => h, fun w => absurd c2 w⟩)
          · exact p_ob _ (fl_D hv) (fun r h => p_some ⟨fun w => absurd w c2, fun _ => h⟩)
        · rw [l9', nle (by omega) (by omega)] at c
          rw [eD s g3, nadd1]
          refine p_obq _ (p_and (vD k s (by omega) g3 g13 ks.1) (p_tot (Se_ofKind_t hN (a1 := nI k) (nI_rg (by omega) (by omega)) (a2 := nI (2 ^ n - 1)) (nI_rg (by omega) (by omega)) ks.1))) (fun r s5 h5 => p_gd (fun _ => p_bnd ?_))
          obtain ⟨v1, -, v2⟩ := h5
          have v1' : r = V k := v1
          have v2' : KD [17, 18, 19, 20, 21, 22, 23] [] s s5 := v2
          have k5 : KD [11, 17, 18, 19, 20, 21, 22, 23] [] σ s5 := kd_t ks v2' (by decide) (by decide)
          rw [nI_clamp (by omega)]
          refine ih _ _ ⟨k + 1, by omega, rfl, kd_s k5 (by decide) (dS11 k5.1), fun j hj => ?_⟩
          rw [gI_sI, if_pos rfl, upd_ap]
          by_cases cj : j = k
          · rw [if_pos cj, cj, v1']
          · rw [if_neg cj, v2'.2.1 11 (by decide)]
            exact hv j (by omega)
      have b' : par (it2 (M_within_B26 N (nI p)) N (0 : Int32) s1) (fun q => (nI p = 0 → q.1 = nI (cn (pwi V) 81)) ∧ (¬ nI p = 0 → fsp (pls V) 81 q.1)) := by
        refine p_it2 (fun i s => ∃ k, k ≤ 9 ∧ i = nI k ∧ KM [13, 14, 15, 16, 17, 18, 19, 20, 21, 22, 23, 24, 25] [] s1 s ∧ ∀ j, j < k → gI s 25 j = V j) ?_ N _ _ ⟨0, by omega, rfl, km_r hR1.2.1, fun j hj => by omega⟩
        rintro self _ s ⟨k, hk, rfl, ks, hv⟩ ih
        have g1 : gI s 1 = gI s1 1 := ks.2.1 1 (by decide)
        unfold M_within_B26
        refine p_if (fun c => ?_) (fun c => ?_)
        · rw [l9', nle (by omega) (by omega)] at c
          have : k = 9 := by omega
          subst this
          exact wth_M hv
        · rw [l9', nle (by omega) (by omega)] at c
          rw [eM s g1, nadd1]
          refine p_obq _ (p_and (vM k s (by omega) g1 ks.1) (p_tot (M_setOf_t hN (a1 := nI k) (nI_rg (by omega) (by omega)) (a2 := nI (2 ^ n - 1)) (nI_rg (by omega) (by omega)) ks.1))) (fun r s5 h5 => p_gd (fun _ => p_bnd ?_))
          obtain ⟨v1, -, v2⟩ := h5
          have v1' : r = V k := v1
          have v2' : KM [13, 14, 15, 16, 17, 18, 19, 20, 21, 22, 23, 24] [] s s5 := v2
          have k5 : KM [13, 14, 15, 16, 17, 18, 19, 20, 21, 22, 23, 24, 25] [] s1 s5 := km_t ks v2' (by decide) (by decide)
          rw [nI_clamp (by omega)]
          refine ih _ _ ⟨k + 1, by omega, rfl, km_s k5 (by decide) (mS25 k5.1), fun j hj => ?_⟩
          rw [gI_sI, if_pos rfl, upd_ap]
          by_cases cj : j = k
          · rw [if_pos cj, cj, v1']
          · rw [if_neg cj, v2'.2.1 25 (by decide)]
            exact hv j (by omega)
      obtain ⟨a1, a2⟩ := a' q e1
      obtain ⟨b1', b2'⟩ := b' q2 e2
      by_cases c : nI p = 0
      · rw [a1 c, b1' c]
      · exact fsp_u (a2 c) (b2' c)
