/-! byWins answers alike -/
def ahd (w : Nat → Nat) (i j : Nat) : Bool := decide (w j < w i) || (decide (w i = w j) && decide (i < j))
def bwg (f : Nat → Int32) (i j : Nat) : Nat := if (ahd (fun x => pc (f x)) i j && bt (f j) i) = true then 1 else 0
theorem bwg_0 (f : Nat → Int32) (i : Nat) : bwg f i i = 0 := by
  unfold bwg ahd
  rw [if_neg]
  simp
theorem tbw_D {N : Nat} {σ : Mem} {n : Nat} (hD : InvD σ) (h8 : n ≤ 8) (h3 : gI σ 3 0 = nI n) (hT : Tn n (gI σ 13)) : par (f_Or_turnedByWins N σ) (fun r => r = nI (sm (fun i => su (fun j => bwg (gI σ 13) i j + bwg (gI σ 13) j i) (i + 1) (n - (i + 1))) n)) := by
  unfold f_Or_turnedByWins
  refine p_it2 (fun x i => ∃ k, k ≤ n ∧ i = nI k ∧ x = nI (sm (fun i => su (fun j => bwg (gI σ 13) i j + bwg (gI σ 13) j i) (i + 1) (n - (i + 1))) k)) ?_ N _ _ ⟨0, by omega, rfl, rfl⟩
  rintro self _ _ ⟨k, hk, rfl, rfl⟩ ih
  unfold Or_turnedByWins_B4
  rw [h3]
  refine p_if (fun h => p_some ?_) (fun h => p_bnd ?_)
  · rw [nle (by omega) (by omega)] at h
    have : k = n := by omega
    rw [this]
  · rw [nle (by omega) (by omega)] at h
    rw [nadd1]
    refine p_it2 (fun x i => ∃ j, j ≤ n - (k + 1) ∧ i = nI (k + 1 + j) ∧ x = nI (sm (fun i => su (fun j => bwg (gI σ 13) i j + bwg (gI σ 13) j i) (i + 1) (n - (i + 1))) k + su (fun j => bwg (gI σ 13) k j + bwg (gI σ 13) j k) (k + 1) j)) ?_ N _ _ ⟨0, by omega, rfl, rfl⟩
    rintro self2 _ _ ⟨j, hj, rfl, rfl⟩ ih2
    unfold Or_turnedByWins_B19
    rw [h3]
    refine p_if (fun h2 => ?_) (fun h2 => ?_)
    · rw [nle (by omega) (by omega)] at h2
      have : j = n - (k + 1) := by omega
      subst this
      rw [nadd1]
      exact ih _ _ ⟨k + 1, by omega, rfl, rfl⟩
    · rw [nle (by omega) (by omega)] at h2
      refine p_gd (fun _ => p_gd (fun _ => p_bnd ?_))
      rw [nI_clamp (by omega), nI_clamp (by omega), cnt_v (hD.r13 _), cnt_v (hD.r13 _)]
      have anti := hT.2.2 k (k + 1 + j) (by omega) (by omega) (by omega)
      have b1' := pc_8 (gI σ 13 k)
      have b2' := pc_8 (gI σ 13 (k + 1 + j))
      have more : (nI (pc (gI σ 13 (k + 1 + j))) - nI (pc (gI σ 13 k)) ≤ 0) ↔ pc (gI σ 13 (k + 1 + j)) ≤ pc (gI σ 13 k) := by
        have z : (0 : Int32).toInt = 0 := by decide
        rw [i_le, i_sub (by rw [nI_toInt (by omega), nI_toInt (by omega)]; omega) (by rw [nI_toInt (by omega), nI_toInt (by omega)]; omega), nI_toInt (by omega), nI_toInt (by omega), z]
        omega
      have key : ∀ v (d : Bool), v = (if d then nI (k + 1 + j) else nI k) → bwg (gI σ 13) k (k + 1 + j) + bwg (gI σ 13) (k + 1 + j) k = (if bt (gI σ 13 k) (k + 1 + j) = d then 1 else 0) → par (Or_turnedByWins_J67 σ (nI k) (nI (sm (fun i => su (fun j => bwg (gI σ 13) i j + bwg (gI σ 13) j i) (i + 1) (n - (i + 1))) k + su (fun j => bwg (gI σ 13) k j + bwg (gI σ 13) j k) (k + 1) j)) (nI (k + 1 + j)) self2 v) (fun r => r = nI (sm (fun i => su (fun j => bwg (gI σ 13) i j + bwg (gI σ 13) j i) (i + 1) (n - (i + 1))) n)) := fun v d hv hg => by
        unfold Or_turnedByWins_J67
        refine p_ob _ (wn_D _ _) (fun r hr => ?_)
        unfold wn at hr
        rw [nI_clamp (by omega), shr1 (by omega)] at hr
        have sx : su (fun j => bwg (gI σ 13) k j + bwg (gI σ 13) j k) (k + 1) (j + 1) = su (fun j => bwg (gI σ 13) k j + bwg (gI σ 13) j k) (k + 1) j + (bwg (gI σ 13) k (k + 1 + j) + bwg (gI σ 13) (k + 1 + j) k) := rfl
        have ne : ¬ nI (k + 1 + j) = nI k := fun q => by
          have := nI_inj (by omega) (by omega) q
          omega
        rw [nadd1]
        refine p_if (fun c => ?_) (fun c => ?_)
        · refine ih2 _ _ ⟨j + 1, by omega, rfl, ?_⟩
          congr 1
          rw [sx, hg]
          rw [hr, hv] at c
          cases q : bt (gI σ 13 k) (k + 1 + j) <;> cases d <;> rw [q] at c
          · exact absurd c ne
          · rfl
          · rfl
          · exact absurd c.symm ne
        · rw [nadd1]
          refine ih2 _ _ ⟨j + 1, by omega, rfl, ?_⟩
          congr 1
          rw [sx, hg]
          rw [hr, hv] at c
          cases q : bt (gI σ 13 k) (k + 1 + j) <;> cases d <;> rw [q] at c
          · rfl
          · exact absurd rfl c
          · exact absurd rfl c
          · rfl
      refine p_if (fun c => key _ false rfl ?_) (fun c => key _ true rfl ?_)
      · rw [more] at c
        unfold bwg ahd
        cases q1 : bt (gI σ 13 k) (k + 1 + j) <;> cases q2 : bt (gI σ 13 (k + 1 + j)) k <;> rw [q1, q2] at anti
        · cases anti
        · by_cases e : pc (gI σ 13 k) = pc (gI σ 13 (k + 1 + j))
          · simp [e]; omega
          · simp [e]; omega
        · by_cases e : pc (gI σ 13 k) = pc (gI σ 13 (k + 1 + j))
          · simp [e]; omega
          · simp [e]; omega
        · cases anti
      · rw [more] at c
        unfold bwg ahd
        cases q1 : bt (gI σ 13 k) (k + 1 + j) <;> cases q2 : bt (gI σ 13 (k + 1 + j)) k <;> rw [q1, q2] at anti
        · cases anti
        · simp; omega
        · simp; omega
        · cases anti
theorem wins_e {N : Nat} (hN : 8589934592 ≤ N) {μ : Mem} {f : Nat → Int32} {n x : Nat} (hM : InvM μ) (h8 : n ≤ 8) (h1 : gI μ 1 0 = nI n) (h13 : ∀ a, a < 8 → gI μ 1 (1 + a) = f a) (hT : Tn n f) (hx : x < 8) : par (f_M_winsOf N (nI x) (t_M_all μ) μ) (fun r => r = nI (pc (f x))) := by
  unfold f_M_winsOf
  rw [beats_e hx, ob_s, h13 x hx]
  have e : f x &&& t_M_all μ = f x := by
    refine bt_ext (fun j hj => ?_)
    rw [bt_and, all_e h1, bt_mask h8 hj]
    cases q : bt (f x) j
    · rfl
    · rw [decide_eq_true (hT.2.1 x j hx q).2.1]; rfl
  rw [e]
  refine p_ob _ (p_tot (M_sizeOf_s hN (by rw [← h13 x hx]; exact hM.r1 _))) (fun r hr => p_some hr)
theorem bw_M {N : Nat} (hN : 8589934592 ≤ N) {μ : Mem} {f : Nat → Int32} {n : Nat} (hM : InvM μ) (h8 : n ≤ 8) (h1 : gI μ 1 0 = nI n) (h13 : ∀ a, a < 8 → gI μ 1 (1 + a) = f a) (hT : Tn n f) (a : Int32) {P : Int32 × Mem → Prop} (hK : par (M_byWins_K131 N μ a (nI (sm (fun i => sm (fun j => bwg f i j) n) n))) P) : par (it2 (M_byWins_B28 N μ a) N (0 : Int32) (0 : Int32)) P := by
  refine p_it2 (fun x i => ∃ k, k ≤ n ∧ i = nI k ∧ x = nI (sm (fun i => sm (fun j => bwg f i j) n) k)) ?_ N _ _ ⟨0, by omega, rfl, rfl⟩
  rintro self _ _ ⟨k, hk, rfl, rfl⟩ ih
  unfold M_byWins_B28
  rw [many_e h1]
  refine p_if (fun h => ?_) (fun h => ?_)
  · rw [nle (by omega) (by omega)] at h
    have : k = n := by omega
    subst this
    exact hK
  · rw [nle (by omega) (by omega)] at h
    refine p_it2 (fun x i => ∃ j, j ≤ n ∧ i = nI j ∧ x = nI (sm (fun i => sm (fun j => bwg f i j) n) k + sm (fun j => bwg f k j) j)) ?_ N _ _ ⟨0, by omega, rfl, rfl⟩
    rintro self2 _ _ ⟨j, hj, rfl, rfl⟩ ih2
    unfold M_byWins_B39
    rw [many_e h1]
    refine p_if (fun h2 => ?_) (fun h2 => ?_)
    · rw [nle (by omega) (by omega)] at h2
      have : j = n := by omega
      subst this
      rw [nadd1]
      exact ih _ _ ⟨k + 1, by omega, rfl, rfl⟩
    · rw [nle (by omega) (by omega)] at h2
      refine p_ob _ (wins_e hN hM h8 h1 h13 hT (by omega)) (fun r10 e10 => p_ob _ (wins_e hN hM h8 h1 h13 hT (by omega)) (fun r11 e11 => p_bnd ?_))
      rw [e10, e11]
      have b1' := pc_8 (f k)
      have b2' := pc_8 (f j)
      have z : (0 : Int32).toInt = 0 := by decide
      have sb : (nI (pc (f k)) - nI (pc (f j))).toInt = (pc (f k) : Int) - pc (f j) := by
        rw [i_sub (by rw [nI_toInt (by omega), nI_toInt (by omega)]; omega) (by rw [nI_toInt (by omega), nI_toInt (by omega)]; omega), nI_toInt (by omega), nI_toInt (by omega)]
      have m1 : ((0 : Int32) < nI (pc (f k)) - nI (pc (f j))) ↔ pc (f j) < pc (f k) := by
        rw [i_lt, sb, z]
        omega
      have m2 : (nI (pc (f k)) - nI (pc (f j)) = 0) ↔ pc (f k) = pc (f j) := by
        rw [← Int32.toInt_inj, sb, z]
        omega
      have sx : sm (fun j => bwg f k j) (j + 1) = sm (fun j => bwg f k j) j + bwg f k j := rfl
      have key : ∀ v (d : Bool), v = (if d then 1 else 0 : Int32) → ahd (fun x => pc (f x)) k j = d → par (M_byWins_J91 μ (nI k) (nI (sm (fun i => sm (fun j => bwg f i j) n) k + sm (fun j => bwg f k j) j)) (nI j) self2 v) P := fun v d hv hd => by
        unfold M_byWins_J91
        rw [nadd1]
        cases d
        · rw [if_pos (show v = 0 from hv)]
          refine p_bnd ?_
          rw [Int32.add_zero]
          refine ih2 _ _ ⟨j + 1, by omega, rfl, ?_⟩
          congr 1
          rw [sx]
          unfold bwg
          rw [hd, if_neg (by simp)]
          omega
        · rw [if_neg (by rw [hv]; decide), beats_e (by omega), ob_s, h13 j (by omega), has_bt (by omega)]
          cases q : bt (f j) k
          · rw [if_pos (by decide)]
            refine p_bnd ?_
            rw [Int32.add_zero]
            refine ih2 _ _ ⟨j + 1, by omega, rfl, ?_⟩
            congr 1
            rw [sx]
            unfold bwg
            rw [hd, q, if_neg (by decide)]
            omega
          · rw [if_neg (by decide)]
            refine p_bnd ?_
            rw [nadd1]
            refine ih2 _ _ ⟨j + 1, by omega, rfl, ?_⟩
            congr 1
            rw [sx]
            unfold bwg
            rw [hd, q, if_pos (by decide)]
            omega
      refine p_if (fun c => ?_) (fun c => p_if (fun c2 => ?_) (fun c2 => ?_))
      · rw [m1] at c
        unfold M_byWins_J86
        refine key _ true rfl ?_
        unfold ahd
        rw [decide_eq_true c]
        rfl
      · rw [m2] at c2
        refine p_if (fun c3 => key _ false rfl ?_) (fun c3 => ?_) <;> rw [nle (by omega) (by omega)] at c3
        · unfold ahd
          simp [c2]
          omega
        · unfold M_byWins_J86
          refine key _ true rfl ?_
          unfold ahd
          simp [c2]
          omega
      · rw [m1] at c
        rw [m2] at c2
        refine key _ false rfl ?_
        unfold ahd
        simp [c2]
        omega
theorem st_Rl_byWins_c {N : Nat} (hN : 8589934592 ≤ N) {σ μ : Mem} (hR : Rl σ μ) (a : Int32) : ∃ (q q2 : Int32 × Mem), f_D_byWins N a σ = some (q.1, q.2) ∧ f_M_byWins N a μ = some (q2.1, q2.2) ∧ Rl q.2 q2.2 ∧ q.1 = q2.1 := by
  obtain ⟨q, e1, k1⟩ := D_byWins_t hN (a1 := a) hR.1
  obtain ⟨q2, e2, k2⟩ := M_byWins_t hN (a1 := a) hR.2.1
  refine ⟨q, q2, e1, e2, Rl_q hR k1.2 k2.2 (by decide) (by decide), ?_⟩
  obtain ⟨s1, es1⟩ : ∃ s, s = sI μ 0 0 0 := ⟨_, rfl⟩
  obtain ⟨hR1, k0⟩ := Rl_m0 hR es1
  obtain ⟨n, h8, h3, h1, h13, hT⟩ := Rl_n hR1
  have hp : (2 : Nat) ^ n ≤ 256 := Nat.pow_le_pow_right (n := 2) (by decide) h8
  have hp0 : 0 < (2 : Nat) ^ n := Nat.pow_pos (by decide)
  unfold f_D_byWins at e1
  unfold f_M_byWins at e2
  rw [bnd_e, ← es1] at e2
  by_cases hn0 : n = 0
  · rw [if_pos (by rw [h3, hn0]; rfl)] at e1
    rw [if_pos ((ro_M h8 h1).mpr hn0)] at e2
    cases e1
    cases e2
    rfl
  · rw [if_neg (fun q => hn0 ((eq0_iff h8).mp (by rw [← h3]; exact q)))] at e1
    rw [if_neg (fun q => hn0 ((ro_M h8 h1).mp q))] at e2
    have ev : t_Du_everybodyN σ = nI (2 ^ n - 1) := by
      unfold t_Du_everybodyN
      rw [h3, mask_e n h8]
    have y1 : (1 : Int32).toInt = 1 := by decide
    have y2 : (2 : Int32).toInt = 2 := by decide
    rcases in01 a with ⟨i1, i2⟩ | ⟨i1, i2, i3, p, hp, rfl⟩
    · rw [if_pos i1] at e2
      cases e2
      by_cases c : a < 0
      · rw [if_pos c] at e1
        cases e1
        rfl
      · rw [if_neg c, if_neg (by rcases i2 with i2 | i2; exact absurd i2 c; rw [i_le, y1]; rw [i_lt, y2] at i2; omega)] at e1
        cases e1
        rfl
    · rw [if_neg i1] at e2
      rw [if_neg i2, if_pos (by rw [i_le, y1]; rw [i_lt, y2] at i3; omega), ev] at e1
      have pz := pairs (bwg (gI σ 13)) (bwg_0 _) n
      obtain ⟨B, hB⟩ : ∃ B, B = nI (sm (fun i => sm (fun j => bwg (gI σ 13) i j) n) n) := ⟨_, rfl⟩
      have m := bw_M (N := N) hN hR1.2.1 h8 h1 h13 hT (nI p) (P := fun q => ∃ s, (KM [18, 19] [] s1 s ∧ ∀ m, m < 2 ^ n → okT s m) ∧ (gI s 18 0 = 0 ∧ gI s 19 0 = 1 ∧ ∀ m, 0 < m → m < 2 ^ n → eqn 99 (gI σ 13) n (gI s 18) (gI s 19) m) ∧ q.1 = if nI p = 0 then B else B - gI s 18 (2 ^ n - 1)) (by
        rw [← hB]
        unfold M_byWins_K131
        refine p_ob _ (p_and (p_tot (M_layOrders_s hN h8 hR1.2.1 h1)) (lay_M hN h8 hR1.2.1 h1 h13)) (fun s hs => ?_)
        obtain ⟨l1, l2⟩ := hs
        have g1 : gI s 1 = gI s1 1 := l1.1.2.1 1 (by decide)
        have ea : t_M_all s = nI (2 ^ n - 1) := by rw [all_e (by rw [g1]; exact h1), mask_e n h8]
        rw [ea, nI_clamp (by omega)]
        refine p_if (fun c => p_some ⟨s, l1, l2, ?_⟩) (fun c => p_gd (fun _ => p_some ⟨s, l1, l2, ?_⟩))
        · rw [if_pos c]
        · rw [if_neg c]) q2 e2
      obtain ⟨t, b1, ⟨b2, b3, b4⟩, t3⟩ := m
      have d : par (ob (f_Or_turnedByWins N σ) fun r1 => if nI p = (0 : Int32) then (some (r1, σ)) else (ob2 (f_Or_fewestTurned N (nI (2 ^ n - 1)) σ) fun r3 s2 => some ((r1 - r3), s2))) (fun q => q.1 = q2.1) := by
        refine p_ob _ (tbw_D hR1.1 h8 h3 hT) (fun r hr => ?_)
        rw [← pz, ← hB] at hr
        rw [t3, hr]
        refine p_if (fun c => p_some ?_) (fun c => ?_)
        · rw [if_pos c]
        · rw [if_neg c]
          refine p_ob2 (fun r _ => r = gI t 18 (2 ^ n - 1)) ?_ (fun r s h => p_some (by rw [h]))
          unfold f_Or_fewestTurned
          refine p_ob _ (meas_D h8 h3 (by omega)) (fun s hs => p_gd (fun _ => p_some ?_))
          obtain ⟨-, s2, s3, s4⟩ := hs
          rw [nI_clamp (by omega)]
          exact (tab_e h8 (by omega) (fun m hm => (b1.2 m hm).1) ⟨s2, s3⟩ ⟨b2, b3⟩ s4 b4 (2 ^ n - 1) (by omega) (wi_all h8 (by omega))).1
      exact d q e1
