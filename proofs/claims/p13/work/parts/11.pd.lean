/-! calls that change the round keep the relation: predicates, turn -/
theorem pl_D {σ : Mem} {n : Nat} (hn : n ≤ 8) (h : gI σ 3 0 = nI n) (a : Int32) : t_Du_isPlayerN a σ = if 0 ≤ a.toInt ∧ a.toInt < n then 1 else 0 := by
  have z : (0 : Int32).toInt = 0 := by decide
  unfold t_Du_isPlayerN
  rw [h]
  by_cases h1 : a < 0
  · rw [if_pos h1, if_neg (by rw [i_lt] at h1; omega)]
  · rw [if_neg h1]
    rw [i_lt] at h1
    by_cases h2 : nI n ≤ a
    · rw [if_pos h2, if_neg (by rw [i_le, nI_toInt (by omega)] at h2; omega)]
    · rw [if_neg h2, if_pos (by rw [i_le, nI_toInt (by omega)] at h2; omega)]
theorem pl_M {μ : Mem} {n : Nat} (hn : n ≤ 8) (h : gI μ 1 0 = nI n) (a : Int32) : t_M_isPlayer a μ = if 0 ≤ a.toInt ∧ a.toInt < n then 1 else 0 := by
  unfold t_M_isPlayer
  have z : (0 : Int64).toInt = 0 := by decide
  have z1 : (1 : Int64).toInt = 1 := by decide
  rw [n0, h, min_iff, i64, z]
  have e : ((nI n).toInt64 - 1).toInt = (n : Int) - 1 := by
    rw [Int64.toInt_sub, i64, nI_toInt (by omega), z1, Int.bmod_def]
    split <;> omega
  rw [e]
  by_cases h1 : 0 ≤ a.toInt ∧ a.toInt < n
  · rw [if_pos h1, if_pos (by omega)]
  · rw [if_neg h1, if_neg (by omega)]
/-- some of n PLAYERS -/
def sub (n : Nat) (a : Int32) : Prop := ∀ j, j < 32 → bt a j = true → j < n
theorem sub_iff {n : Nat} (hn : n ≤ 8) (a : Int32) : a &&& (((((1 : Int32) <<< (nI n &&& 31)) - 1)) ^^^ (-1 : Int32)) = 0 ↔ sub n a := by
  constructor
  · intro h j hj hb
    have := and_not h
    rw [this, bt_and, bt_mask hn hj] at hb
    have := (Bool.and_eq_true_iff.mp hb).2
    simpa using this
  · intro h
    apply bt_ext
    intro j hj
    rw [bt_and, bt_not _ hj, bt_mask hn hj, bt_0]
    cases e : bt a j
    · rfl
    · simp [h j hj e]
theorem sub_nn {n : Nat} (hn : n ≤ 8) {a : Int32} (h : sub n a) : rg 0 255 a := by
  refine rg_bt 8 (by decide) (fun j h1 h2 => ?_)
  cases e : bt a j
  · rfl
  · have := h j h2 e
    omega
theorem ps_D {σ : Mem} {n : Nat} (hn : n ≤ 8) (h : gI σ 3 0 = nI n) (a : Int32) : (t_Du_arePlayersN a σ = 0) ↔ ¬ sub n a := by
  unfold t_Du_arePlayersN t_Du_everybodyN
  rw [h]
  by_cases h1 : a &&& (((((1 : Int32) <<< (nI n &&& 31)) - 1)) ^^^ (-1 : Int32)) = 0
  · rw [if_pos h1]
    exact ⟨fun q => absurd q (by decide), fun q => absurd ((sub_iff hn a).mp h1) q⟩
  · rw [if_neg h1]
    exact ⟨fun _ q => h1 ((sub_iff hn a).mpr q), fun _ => rfl⟩
theorem wi_M {μ : Mem} {n : Nat} (hn : n ≤ 8) (h : gI μ 1 0 = nI n) (a : Int32) : (t_M_isWithin a (t_M_all μ) = 0) ↔ ¬ sub n a := by
  unfold t_M_isWithin
  rw [all_e h]
  by_cases h1 : a &&& (((((1 : Int32) <<< (nI n &&& 31)) - 1)) ^^^ (-1 : Int32)) = 0
  · rw [if_pos h1]
    exact ⟨fun q => absurd q (by decide), fun q => absurd ((sub_iff hn a).mp h1) q⟩
  · rw [if_neg h1]
    exact ⟨fun _ q => h1 ((sub_iff hn a).mpr q), fun _ => rfl⟩
theorem ro_M {μ : Mem} {n : Nat} (hn : n ≤ 8) (h : gI μ 1 0 = nI n) : (t_M_isRound μ = 0) ↔ n = 0 := by
  unfold t_M_isRound
  rw [n0, h, l0]
  by_cases h1 : n = 0
  · subst h1
    rw [if_pos (by decide)]
    exact ⟨fun _ => rfl, fun _ => rfl⟩
  · rw [if_neg (fun q => h1 (by rw [nle (by omega) (by decide)] at q; omega))]
    exact ⟨fun q => absurd q (by decide), fun q => absurd q h1⟩
theorem so_M {μ : Mem} {n : Nat} (hn : n ≤ 8) (h : gI μ 1 0 = nI n) (a : Int32) : (t_M_isSome a μ = 0) ↔ ¬ (1 ≤ n ∧ sub n a) := by
  unfold t_M_isSome
  by_cases h1 : t_M_isRound μ = 0
  · rw [if_pos h1]
    have := (ro_M hn h).mp h1
    exact ⟨fun _ q => by omega, fun _ => rfl⟩
  · rw [if_neg h1]
    have hn1 : ¬ n = 0 := fun q => h1 ((ro_M hn h).mpr q)
    by_cases h2 : a < 0
    · rw [if_pos h2]
      refine ⟨fun _ q => ?_, fun _ => rfl⟩
      have := (sub_nn hn q.2).1
      rw [i_lt] at h2
      have z : (0 : Int32).toInt = 0 := by decide
      omega
    · rw [if_neg h2]
      by_cases h3 : t_M_isWithin a (t_M_all μ) = 0
      · rw [if_pos h3]
        exact ⟨fun _ q => (wi_M hn h a).mp h3 q.2, fun _ => rfl⟩
      · rw [if_neg h3]
        refine ⟨fun q => absurd q (by decide), fun q => absurd ⟨by omega, ?_⟩ q⟩
        exact Classical.byContradiction (fun hc => h3 ((wi_M hn h a).mpr hc))
theorem eq0_iff {n : Nat} (hn : n ≤ 8) : (nI n = 0) ↔ n = 0 := by
  constructor
  · intro h
    exact nI_inj (by omega) (by omega) (h.trans (by rfl : (0 : Int32) = nI 0))
  · intro h
    rw [h]; rfl
theorem Rl_m0 {σ μ s : Mem} (h : Rl σ μ) (e : s = sI μ 0 0 0) : Rl σ s ∧ KM [0] [] μ s := by
  have k : KM [0] [] μ s := by rw [e]; exact km_s (km_r h.2.1) (by decide) (mS0 h.2.1)
  exact ⟨Rl_q h (kd_r (S := []) (J := []) h.1) k (by decide) (by decide), k⟩
theorem rem_both {N : Nat} (hN : 8589934592 ≤ N) {σ μ : Mem} (hR : Rl σ μ) {n : Nat} (hn8 : n ≤ 8) (hn : gI σ 3 0 = nI n) : ∃ v s t, f_Du_packedN N σ = some v ∧ f_Pa_remember v σ = some s ∧ f_M_remember N μ = some t ∧ KD [5] [15] σ s ∧ KM [2, 3] [] μ t ∧ RlU s t := by
  obtain ⟨hD, hM, hT, ⟨n1, n2, n', hn', hTn⟩, ⟨u, hu, u1, u2, u3⟩, hK⟩ := hR
  have hnn : n' = n := by
    have h8 := hTn.1
    exact nI_inj (by omega) (by omega) (by rw [← hn', hn])
  subst hnn
  have hv := packedN_s hN hTn.1 hn' (fun a _ => rfl)
  have jv := pk_jok hTn.1 (gI σ 13)
  obtain ⟨s, es, ks, h1, h2, h3, h4⟩ := t_and (Pa_remember_t jv hD) (Pa_remember_v hu u1)
  obtain ⟨t, et, kt, g1, g2, g3⟩ := t_and (M_remember_t hN hM) (M_remember_v hN hM hu u2)
  refine ⟨_, s, t, hv, es, et, ks, kt, (if u = 10 then 9 else u) + 1, by split <;> omega, h2, g1, fun r hr => ?_⟩
  by_cases e : r = (if u = 10 then 9 else u)
  · rw [e, h4]
    refine ⟨n', ?_, ?_, ?_⟩
    · have := g3 0 (by decide)
      rw [Nat.add_zero] at this
      rw [this, ← n1, hn']
    · refine Tn_c (fun a ha => ?_) hTn
      have := g3 (1 + a) (by omega)
      rw [← Nat.add_assoc] at this
      rw [this, n2 a ha]
    · refine pk_c hTn.1 (fun a ha => ?_)
      have := g3 (1 + a) (by omega)
      rw [← Nat.add_assoc] at this
      rw [this, n2 a ha]
  · have hr' : r < (if u = 10 then 9 else u) := by omega
    rw [h3 r hr']
    refine rw9_c (fun c hc => g2 r c hr' hc) (u3 _ ?_)
    split at hr' <;> rename_i q
    · rw [if_pos q]; omega
    · rw [if_neg q]; omega
theorem Rl_n {σ μ : Mem} (hR : Rl σ μ) : ∃ n, n ≤ 8 ∧ gI σ 3 0 = nI n ∧ gI μ 1 0 = nI n ∧ (∀ a, a < 8 → gI μ 1 (1 + a) = gI σ 13 a) ∧ Tn n (gI σ 13) := by
  obtain ⟨-, -, -, ⟨n1, n2, n, hn, hT⟩, -, -⟩ := hR
  exact ⟨n, hT.1, hn, by rw [← n1]; exact hn, n2, hT⟩
/-- both turned the same arrow -/
theorem flip_T {n a b : Nat} {f g : Nat → Int32} (hT : Tn n f) (ha : a < n) (hb : b < n) (hab : a ≠ b) (h : ∀ i, g i = if i = b then f i ^^^ ((1 : Int32) <<< (nI a &&& 31)) else if i = a then f i ^^^ ((1 : Int32) <<< (nI b &&& 31)) else f i) : Tn n g := by
  have h8 := hT.1
  have gb : ∀ i j, i < 8 → j < 32 → bt (g i) j = (bt (f i) j ^^ (decide (i = b ∧ j = a) || decide (i = a ∧ j = b))) := by
    intro i j hi hj
    rw [h]
    by_cases e1 : i = b
    · rw [if_pos e1, bt_xor, bt_one (by omega) hj]
      have e2 : ¬ (i = a ∧ j = b) := fun q => hab (by omega)
      rw [decide_eq_false e2, Bool.or_false]
      congr 1
      by_cases e3 : j = a
      · rw [decide_eq_true e3, decide_eq_true (And.intro e1 e3)]
      · rw [decide_eq_false e3, decide_eq_false (fun q => e3 q.2)]
    · rw [if_neg e1]
      have e2 : ¬ (i = b ∧ j = a) := fun q => e1 q.1
      rw [decide_eq_false e2, Bool.false_or]
      by_cases e3 : i = a
      · rw [if_pos e3, bt_xor, bt_one (by omega) hj]
        congr 1
        by_cases e4 : j = b
        · rw [decide_eq_true e4, decide_eq_true (And.intro e3 e4)]
        · rw [decide_eq_false e4, decide_eq_false (fun q => e4 q.2)]
      · rw [if_neg e3, decide_eq_false (fun q => e3 q.1), Bool.xor_false]
  refine ⟨h8, fun i j hi hb' => ?_, fun i j hi hj hij => ?_⟩
  · by_cases hj : j < 32
    · rw [gb i j hi hj] at hb'
      by_cases c1 : i = b ∧ j = a
      · omega
      · by_cases c2 : i = a ∧ j = b
        · omega
        · rw [decide_eq_false c1, decide_eq_false c2, Bool.or_false, Bool.xor_false] at hb'
          exact hT.2.1 i j hi hb'
    · rw [bt_ge (by omega)] at hb'
      cases hb'
  · rw [gb i j (by omega) (by omega), gb j i (by omega) (by omega), hT.2.2 i j hi hj hij]
    have e1 : decide (j = b ∧ i = a) = decide (i = a ∧ j = b) := by
      congr 1
      exact propext ⟨fun q => ⟨q.2, q.1⟩, fun q => ⟨q.2, q.1⟩⟩
    have e2 : decide (j = a ∧ i = b) = decide (i = b ∧ j = a) := by
      congr 1
      exact propext ⟨fun q => ⟨q.2, q.1⟩, fun q => ⟨q.2, q.1⟩⟩
    rw [e1, e2]
    cases bt (gI σ0 0 0) 0 <;> cases bt (f j) i <;> cases decide (i = a ∧ j = b) <;> cases decide (i = b ∧ j = a) <;> rfl
theorem some2 {X Y : Type} {o : Option (X × Y)} {q : X × Y} (h : o = some q) : o = some (q.1, q.2) := h
theorem n10 : ¬ (1 : Int32) = 0 := by decide
theorem z00 : (0 : Int32) = 0 := rfl
theorem pl_b {σ μ : Mem} {n : Nat} (hn : n ≤ 8) (h3 : gI σ 3 0 = nI n) (h1 : gI μ 1 0 = nI n) (a : Int32) : (t_Du_isPlayerN a σ = 0 ∧ t_M_isPlayer a μ = 0) ∨ (t_Du_isPlayerN a σ = 1 ∧ t_M_isPlayer a μ = 1 ∧ ∃ x, x < n ∧ a = nI x) := by
  rw [pl_D hn h3, pl_M hn h1]
  by_cases h : 0 ≤ a.toInt ∧ a.toInt < n
  · rw [if_pos h]
    obtain ⟨x, e, -, hx, -⟩ := rg_ex (a := 0) (b := (n : Int) - 1) (x := a) ⟨h.1, by omega⟩ (by decide)
    exact Or.inr ⟨rfl, rfl, x, by omega, e⟩
  · rw [if_neg h]
    exact Or.inl ⟨rfl, rfl⟩
theorem st_Rl_turn_c {N : Nat} (hN : 8589934592 ≤ N) {σ μ : Mem} (hR : Rl σ μ) (a b : Int32) : ∃ q q2 : Int32 × Mem, f_D_turn N a b σ = some (q.1, q.2) ∧ f_M_turn N a b μ = some (q2.1, q2.2) ∧ Rl q.2 q2.2 ∧ q.1 = q2.1 := by
  unfold f_D_turn f_M_turn
  obtain ⟨s1, es1⟩ : ∃ s, s = sI μ 0 0 0 := ⟨_, rfl⟩
  obtain ⟨hR1, k0⟩ := Rl_m0 hR es1
  rw [bnd_e, ← es1]
  obtain ⟨n, h8, h3, h1, h13, hT⟩ := Rl_n hR1
  by_cases hab : a = b
  · rw [if_pos hab, if_pos hab]
    exact ⟨(-1, σ), (-1, s1), rfl, rfl, hR1, rfl⟩
  · rw [if_neg hab, if_neg hab]
    rcases pl_b h8 h3 h1 a with ⟨p1, p2⟩ | ⟨p1, p2, x, hx, rfl⟩
    · rw [p1, p2, if_pos z00, if_pos z00]
      exact ⟨(-2, σ), (-2, s1), rfl, rfl, hR1, rfl⟩
    · rw [p1, p2, if_neg n10, if_neg n10]
      rcases pl_b h8 h3 h1 b with ⟨p3, p4⟩ | ⟨p3, p4, y, hy, rfl⟩
      · rw [p3, p4, if_pos z00, if_pos z00]
        exact ⟨(-2, σ), (-2, s1), rfl, rfl, hR1, rfl⟩
      · rw [p3, p4, if_neg n10, if_neg n10]
        have hxy : x ≠ y := fun e => hab (by rw [e])
        obtain ⟨v, s2, t2, e1, e2, e3, k2, m2, hU⟩ := rem_both hN hR1 h8 h3
        rw [e1, ob_s, e2, ob_s, e3, ob_s]
        obtain ⟨s3, e4, k3, q3⟩ := Du_flipN_s (by omega) (by omega) hxy k2.1
        obtain ⟨t3, e5, m3, w3⟩ := M_turnNow_s (by omega) (by omega) hxy m2.1
        rw [e4, ob_s, e5, ob_s, beats_e (by omega), ob_s]
        have z13 : gI s2 13 = gI σ 13 := k2.2.1 13 (by decide)
        have z1 : gI t2 1 = gI s1 1 := m2.2.1 1 (by decide)
        rw [z13] at q3
        rw [z1] at w3
        have row : ∀ i, i < 8 → gI t3 1 (1 + i) = gI s3 13 i := by
          intro i hi
          rw [w3, q3, h13 i hi]
          by_cases c1 : i = y
          · rw [if_pos (by omega), if_pos c1]
          · rw [if_neg (by omega), if_neg c1]
            by_cases c2 : i = x
            · rw [if_pos (by omega), if_pos c2]
            · rw [if_neg (by omega), if_neg c2]
        have hR3 : Rl s3 t3 := by
          refine ⟨k3.1, m3.1, RlT_f hR1.2.2.1 ?_ ?_ ?_ ?_, ⟨?_, row, n, ?_, flip_T hT (by omega) (by omega) hxy q3⟩, RlU_f hU (k3.2.1 5 (by decide)) (k3.2.2 15 (by decide)) (m3.2.1 3 (by decide)) (m3.2.1 2 (by decide)), RlK_f hR1.2.2.2.2.2 ?_ ?_ ?_⟩
          · rw [k3.2.1 1 (by decide), k2.2.1 1 (by decide)]
          · rw [k3.2.1 12 (by decide), k2.2.1 12 (by decide)]
          · rw [m3.2.1 7 (by decide), m2.2.1 7 (by decide)]
          · rw [m3.2.1 6 (by decide), m2.2.1 6 (by decide)]
          · rw [k3.2.1 3 (by decide), k2.2.1 3 (by decide), h3, w3, if_neg (by omega), if_neg (by omega), h1]
          · rw [k3.2.1 3 (by decide), k2.2.1 3 (by decide), h3]
          · rw [k3.2.2 16 (by decide), k2.2.2 16 (by decide)]
          · rw [m3.2.1 5 (by decide), m2.2.1 5 (by decide)]
          · rw [m3.2.1 4 (by decide), m2.2.1 4 (by decide)]
        unfold f_Du_winnerOfN
        rw [gd_t (inb_nI (by omega) (by decide)), nI_clamp (by omega), shr1 (by omega), row x (by omega), has_bt (by omega)]
        cases bt (gI s3 13 x) y
        · rw [if_neg (by decide), ob_s, if_pos (by decide)]
          exact ⟨(nI y, s3), (nI y, t3), rfl, rfl, hR3, rfl⟩
        · rw [if_pos (by decide), ob_s, if_neg (by decide)]
          exact ⟨(nI x, s3), (nI x, t3), rfl, rfl, hR3, rfl⟩
