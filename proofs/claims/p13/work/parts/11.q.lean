/-! beaten, duel, count answer alike -/
theorem st_Rl_beaten_c {N : Nat} (hN : 8589934592 ≤ N) {σ μ : Mem} (hR : Rl σ μ) (a b : Int32) : ∃ (q : Int32) (q2 : Int32 × Mem), f_D_beaten a b σ = some q ∧ f_M_beaten a b μ = some (q2.1, q2.2) ∧ Rl σ q2.2 ∧ q = q2.1 := by
  obtain ⟨s1, es1⟩ : ∃ s, s = sI μ 0 0 0 := ⟨_, rfl⟩
  obtain ⟨hR1, k0⟩ := Rl_m0 hR es1
  obtain ⟨n, h8, h3, h1, h13, hT⟩ := Rl_n hR1
  rcases pl_b h8 h3 h1 a with ⟨p1, p2⟩ | ⟨p1, p2, x, hx, rfl⟩
  · refine ⟨-1, (-1, s1), ?_, ?_, hR1, rfl⟩
    · unfold f_D_beaten; rw [if_pos p1]
    · unfold f_M_beaten; rw [bnd_e, ← es1, if_pos p2]
  · have d1 : ¬ t_Du_isPlayerN (nI x) σ = 0 := by rw [p1]; decide
    have m1 : ¬ t_M_isPlayer (nI x) s1 = 0 := by rw [p2]; decide
    have pD := ps_D h8 h3 b
    have pM := so_M h8 h1 b
    by_cases hs : sub n b
    · have d2 : ¬ t_Du_arePlayersN b σ = 0 := fun q => pD.mp q hs
      have m2 : ¬ t_M_isSome b s1 = 0 := fun q => pM.mp q ⟨by omega, hs⟩
      refine ⟨gI σ 13 x &&& b, (gI σ 13 x &&& b, s1), ?_, ?_, hR1, rfl⟩
      · unfold f_D_beaten; rw [if_neg d1, if_neg d2, gd_t (inb_nI (by omega) (by decide)), nI_clamp (by omega)]
      · unfold f_M_beaten; rw [bnd_e, ← es1, if_neg m1, if_neg m2, beats_e (by omega), ob_s, h13 x (by omega)]
    · have d2 : t_Du_arePlayersN b σ = 0 := pD.mpr hs
      have m2 : t_M_isSome b s1 = 0 := pM.mpr (fun q => hs q.2)
      refine ⟨-1, (-1, s1), ?_, ?_, hR1, rfl⟩
      · unfold f_D_beaten; rw [if_neg d1, if_pos d2]
      · unfold f_M_beaten; rw [bnd_e, ← es1, if_neg m1, if_pos m2]
theorem beaters_e {σ : Mem} {x : Nat} (hx : x < 8) (a : Int32) : f_Du_beatersOfN (nI x) a σ = some ((a &&& (gI σ 13 x ^^^ (-1 : Int32))) &&& (((1 : Int32) <<< (nI x &&& 31)) ^^^ (-1 : Int32))) := by
  unfold f_Du_beatersOfN
  rw [gd_t (inb_nI hx (by decide)), nI_clamp (by omega)]
theorem ev_all {σ μ : Mem} {n : Nat} (h3 : gI σ 3 0 = nI n) (h1 : gI μ 1 0 = nI n) : t_Du_everybodyN σ = t_M_all μ := by
  unfold t_Du_everybodyN
  rw [h3, all_e h1]
theorem ov_e {σ μ : Mem} {n : Nat} (h3 : gI σ 3 0 = nI n) (h1 : gI μ 1 0 = nI n) (h13 : ∀ a, a < 8 → gI μ 1 (1 + a) = gI σ 13 a) {x : Nat} (hx : x < 8) : f_Du_beatersOfN (nI x) (t_Du_everybodyN σ) σ = some (ov μ x) := by
  rw [beaters_e hx, ev_all h3 h1]
  unfold ov
  rw [h13 x hx]
theorem isb_e {σ : Mem} {x y : Nat} (hx : x < 8) (hy : y < 32) : f_Du_isBeatingN (nI x) (nI y) σ = some (if bt (gI σ 13 x) y = true then 1 else 0) := by
  unfold f_Du_isBeatingN
  rw [gd_t (inb_nI hx (by decide)), nI_clamp (by omega), shr1 hy]
  cases bt (gI σ 13 x) y
  · rw [if_neg (by decide)]; rfl
  · rw [if_pos (by decide)]; rfl
theorem lowest_first {N : Nat} (hN : 8589934592 ≤ N) (a : Int32) : ∃ r, f_D_lowestOf N a = some r ∧ f_M_first N a = some r := by
  have hD : tot (f_D_lowestOf N a) (fun r => (r = -1 ∧ ∀ j, j < 8 → bt a j = false) ∨ ∃ k, k < 8 ∧ r = nI k ∧ bt a k = true ∧ ∀ j, j < k → bt a j = false) := by
    unfold f_D_lowestOf
    refine t_it1 (fun i => ∃ k, k ≤ 8 ∧ i = nI k ∧ ∀ j, j < k → bt a j = false) (fun i => 8 - i.toNatClampNeg) ?_ _ _ ⟨0, by decide, rfl, fun j hj => by omega⟩ (by rw [n0]; omega)
    rintro self _ ⟨k, hk, rfl, hz⟩ ih
    unfold D_lowestOf_B2
    refine t_if (fun h => ?_) (fun h => ?_)
    · have : k = 8 := by
        rw [l8, nle (by decide) (by omega)] at h
        omega
      subst this
      exact t_some (Or.inl ⟨rfl, hz⟩)
    · have hk8 : k < 8 := by
        rw [l8, nle (by decide) (by omega)] at h
        omega
      rw [bit_bt (by omega)]
      cases e : bt a k
      · rw [if_neg (by decide), nadd1]
        refine ih _ ⟨k + 1, by omega, rfl, fun j hj => ?_⟩ ?_
        · by_cases c : j = k
          · rw [c]; exact e
          · exact hz j (by omega)
        · rw [nI_clamp (by omega), nI_clamp (by omega)]
          omega
      · rw [if_pos (by decide)]
        exact t_some (Or.inr ⟨k, hk8, rfl, e, hz⟩)
  have hM : tot (f_M_first N a) (fun r => (r = -1 ∧ ∀ j, j < 8 → bt a j = false) ∨ ∃ k, k < 8 ∧ r = nI k ∧ bt a k = true ∧ ∀ j, j < k → bt a j = false) := by
    unfold f_M_first
    refine t_it1 (fun i => ∃ k, k ≤ 8 ∧ i = nI k ∧ ∀ j, j < k → bt a j = false) (fun i => 8 - i.toNatClampNeg) ?_ _ _ ⟨0, by decide, rfl, fun j hj => by omega⟩ (by rw [n0]; omega)
    rintro self _ ⟨k, hk, rfl, hz⟩ ih
    unfold M_first_B2
    refine t_if (fun h => ?_) (fun h => ?_)
    · have : k = 8 := by
        rw [l8, nle (by decide) (by omega)] at h
        omega
      subst this
      unfold M_first_K22
      rw [if_pos h]
      exact t_some (Or.inl ⟨rfl, hz⟩)
    · have hk8 : k < 8 := by
        rw [l8, nle (by decide) (by omega)] at h
        omega
      rw [has_bt (by omega)]
      cases e : bt a k
      · rw [if_pos (by decide), nadd1]
        refine ih _ ⟨k + 1, by omega, rfl, fun j hj => ?_⟩ ?_
        · by_cases c : j = k
          · rw [c]; exact e
          · exact hz j (by omega)
        · rw [nI_clamp (by omega), nI_clamp (by omega)]
          omega
      · rw [if_neg (by decide)]
        unfold M_first_K22
        rw [if_neg h]
        exact t_some (Or.inr ⟨k, hk8, rfl, e, hz⟩)
  obtain ⟨r, e1, h1⟩ := hD
  obtain ⟨r2, e2, h2⟩ := hM
  refine ⟨r, e1, ?_⟩
  rw [e2]
  congr 1
  rcases h1 with ⟨a1, a2⟩ | ⟨k, k1, k2, k3, k4⟩
  · rcases h2 with ⟨c1', c2'⟩ | ⟨m, m1, m2, m3, m4⟩
    · rw [a1, c1']
    · rw [a2 m m1] at m3; cases m3
  · rcases h2 with ⟨c1', c2'⟩ | ⟨m, m1, m2, m3, m4⟩
    · rw [c2' k k1] at k3; cases k3
    · have : k = m := by
        by_cases c : k < m
        · rw [m4 k c] at k3; cases k3
        · by_cases d : m < k
          · rw [k4 m d] at m3; cases m3
          · omega
      rw [k2, m2, this]
/-- covering, in both -/
theorem cov_e {σ μ : Mem} {n : Nat} (h3 : gI σ 3 0 = nI n) (h1 : gI μ 1 0 = nI n) (h13 : ∀ a, a < 8 → gI μ 1 (1 + a) = gI σ 13 a) {x y : Nat} (hx : x < 8) (hy : y < 8) (a : Int32) : ∃ r, f_Se_isCovering (nI x) (nI y) a σ = some r ∧ f_M_covers (nI x) (nI y) a μ = some r ∧ (r = 0 ∨ r = 1) ∧ (r = 1 ↔ (bt (gI σ 13 x) y = true ∧ ∀ j, j < 32 → bt (gI σ 13 y) j = true → bt a j = true → bt (gI σ 13 x) j = true)) := by
  have subs : ∀ u v : Int32, (u &&& (v ^^^ (-1 : Int32)) = 0) ↔ ∀ j, j < 32 → bt u j = true → bt v j = true := by
    intro u v
    constructor
    · intro e j hj hb
      have := and_not e
      rw [this, bt_and] at hb
      exact (Bool.and_eq_true_iff.mp hb).2
    · intro h
      apply bt_ext
      intro j hj
      rw [bt_and, bt_not _ hj, bt_0]
      cases e : bt u j
      · rfl
      · rw [h j hj e]; rfl
  by_cases P : bt (gI σ 13 x) y = true ∧ ∀ j, j < 32 → bt (gI σ 13 y) j = true → bt a j = true → bt (gI σ 13 x) j = true
  · refine ⟨1, ?_, ?_, Or.inr rfl, ⟨fun _ => P, fun _ => rfl⟩⟩
    · unfold f_Se_isCovering
      rw [gd_t (inb_nI hy (by decide)), nI_clamp (by omega), bnd_e, gd_t (inb_nI hx (by decide)), nI_clamp (by omega)]
      rw [if_pos ((subs _ _).mpr (fun j hj hb => ?_))]
      rw [bt_or, bt_and, bt_one (by omega) hj] at hb
      rcases Bool.or_eq_true_iff.mp hb with q | q
      · have := Bool.and_eq_true_iff.mp q
        exact P.2 j hj this.1 this.2
      · rw [of_decide_eq_true q]; exact P.1
    · unfold f_M_covers
      rw [beats_e hx, ob_s, has_bt (by omega), h13 x hx, P.1, if_neg (by decide), beats_e hy, ob_s, ob_s, h13 y hy]
      unfold t_M_isWithin
      rw [if_pos ((subs _ _).mpr (fun j hj hb => ?_)), if_neg n10]
      rw [bt_and] at hb
      have := Bool.and_eq_true_iff.mp hb
      exact P.2 j hj this.1 this.2
  · refine ⟨0, ?_, ?_, Or.inl rfl, ⟨fun q => absurd q (by decide), fun q => absurd q P⟩⟩
    · unfold f_Se_isCovering
      rw [gd_t (inb_nI hy (by decide)), nI_clamp (by omega), bnd_e, gd_t (inb_nI hx (by decide)), nI_clamp (by omega)]
      rw [if_neg (fun q => P ?_)]
      have q := (subs _ _).mp q
      refine ⟨q y (by omega) ?_, fun j hj b1' b2' => q j hj ?_⟩
      · rw [bt_or, bt_one (by omega) (by omega), decide_eq_true rfl, Bool.or_true]
      · rw [bt_or, bt_and, b1', b2']; rfl
    · unfold f_M_covers
      rw [beats_e hx, ob_s, has_bt (by omega), h13 x hx]
      cases e : bt (gI σ 13 x) y
      · rw [if_pos (by decide)]
      · rw [if_neg (by decide), beats_e hy, ob_s, ob_s, h13 y hy]
        unfold t_M_isWithin
        rw [if_neg (fun q => P ⟨e, fun j hj b1' b2' => (subs _ _).mp q j hj (by rw [bt_and, b1', b2']; rfl)⟩), if_pos z00]
theorem duel_b {N : Nat} (hN : 8589934592 ≤ N) {σ μ : Mem} (hR : Rl σ μ) (a b c : Int32) : ∃ (x : Option Int32) (q2 : Int32 × Mem), f_D_duel N a b c σ = some x ∧ f_M_duel N a b c μ = some (q2.1, q2.2) ∧ Rl (dM σ x) q2.2 ∧ gI q2.2 0 0 = dK x ∧ (∀ v, x = some v → v = q2.1) := by
  obtain ⟨n, h8, h3, h1, h13, hT⟩ := Rl_n hR
  have thrown : f_D_duel N a b c σ = some none → f_M_duel N a b c μ = M_duel_J26 N μ a b c → ∃ (x : Option Int32) (q2 : Int32 × Mem), f_D_duel N a b c σ = some x ∧ f_M_duel N a b c μ = some (q2.1, q2.2) ∧ Rl (dM σ x) q2.2 ∧ gI q2.2 0 0 = dK x ∧ (∀ v, x = some v → v = q2.1) := by
    intro e1 e2
    obtain ⟨s2, es2⟩ : ∃ s, s = sI μ 0 0 1 := ⟨_, rfl⟩
    have k2 : KM [0] [] μ s2 := by rw [es2]; exact km_s (km_r hR.2.1) (by decide) (mS0 hR.2.1)
    have q0 : gI s2 0 0 = 1 := by rw [es2, gI_sI, if_pos rfl, upd_ap, if_pos rfl]
    refine ⟨none, (0, s2), e1, ?_, Rl_q hR (kd_r (S := []) (J := []) hR.1) k2 (by decide) (by decide), q0, fun v hv => by cases hv⟩
    rw [e2]
    unfold M_duel_J26 M_duel_J27
    rw [bnd_e, ← es2, if_pos q0]
  rcases pl_b h8 h3 h1 a with ⟨p1, p2⟩ | ⟨p1, p2, x, hx, rfl⟩
  · refine thrown ?_ ?_
    · unfold f_D_duel; rw [if_pos p1]
    · unfold f_M_duel; rw [if_pos p2]
  · have d1 : ¬ t_Du_isPlayerN (nI x) σ = 0 := by rw [p1]; decide
    have m1 : ¬ t_M_isPlayer (nI x) μ = 0 := by rw [p2]; decide
    rcases pl_b h8 h3 h1 b with ⟨p3, p4⟩ | ⟨p3, p4, y, hy, rfl⟩
    · refine thrown ?_ ?_
      · unfold f_D_duel; rw [if_neg d1, if_pos p3]
      · unfold f_M_duel; rw [if_neg m1, if_pos p4]
    · have d2 : ¬ t_Du_isPlayerN (nI y) σ = 0 := by rw [p3]; decide
      have m2 : ¬ t_M_isPlayer (nI y) μ = 0 := by rw [p4]; decide
      by_cases hxy : x = y
      · subst hxy
        refine thrown ?_ ?_
        · unfold f_D_duel; rw [if_neg d1, if_neg d2, if_pos rfl]
        · unfold f_M_duel; rw [if_neg m1, if_neg m2, if_pos rfl]
      · have nxy : ¬ nI x = nI y := fun q => hxy (nI_inj (by omega) (by omega) q)
        obtain ⟨s2, es2⟩ : ∃ s, s = sI μ 0 0 0 := ⟨_, rfl⟩
        obtain ⟨hR2, k2⟩ := Rl_m0 hR es2
        have q0 : gI s2 0 0 = 0 := by rw [es2, gI_sI, if_pos rfl, upd_ap, if_pos rfl]
        obtain ⟨-, -, -, h1', h13', -⟩ := Rl_n hR2
        have h1' : gI s2 1 0 = nI n := by rw [k2.2.1 1 (by decide)]; exact h1
        have eM : f_M_duel N (nI x) (nI y) c μ = (swc c [((0 : Int32), ob (f_M_beats (nI x) s2) fun r3 => if (t_M_has r3 (nI y)) = (0 : Int32) then (some ((0 : Int32), s2)) else (some ((1 : Int32), s2))), ((1 : Int32), ob (f_M_covers (nI x) (nI y) (t_M_all s2) s2) fun r4 => if r4 = (0 : Int32) then (some ((0 : Int32), s2)) else (some ((1 : Int32), s2))), ((2 : Int32), ob (f_M_beats (nI x) s2) fun r5 => ob (f_M_over (nI y) s2) fun r6 => ob (f_M_first N (r5 &&& r6)) fun r7 => some (r7, s2))] (some ((-1 : Int32), s2))) := by
          unfold f_M_duel
          rw [if_neg m1, if_neg m2, if_neg nxy]
          unfold M_duel_J27
          rw [bnd_e, ← es2, if_neg (show ¬ gI s2 0 0 = 1 by rw [q0]; decide)]
        have fin : ∀ v : Int32, f_D_duel N (nI x) (nI y) c σ = some (some v) → f_M_duel N (nI x) (nI y) c μ = some (v, s2) → ∃ (x_1 : Option Int32) (q2 : Int32 × Mem), f_D_duel N (nI x) (nI y) c σ = some x_1 ∧ f_M_duel N (nI x) (nI y) c μ = some (q2.1, q2.2) ∧ Rl (dM σ x_1) q2.2 ∧ gI q2.2 0 0 = dK x_1 ∧ (∀ v, x_1 = some v → v = q2.1) := by
          intro v e1 e2
          refine ⟨some v, (v, s2), e1, e2, Rl_q hR (dM_k hR.1 _) k2 (by decide) (by decide), q0, fun w hw => ?_⟩
          cases hw
          rfl
        by_cases c0 : c = 0
        · subst c0
          have e1 : f_D_duel N (nI x) (nI y) 0 σ = some (some (if bt (gI σ 13 x) y = true then 1 else 0)) := by
            unfold f_D_duel
            rw [if_neg d1, if_neg d2, if_neg nxy]
            show (if (0 : Int32) = 0 then _ else _) = _
            rw [if_pos rfl, isb_e (by omega) (by omega), ob_s]
            cases bt (gI σ 13 x) y <;> rfl
          refine fin _ e1 ?_
          rw [eM]
          show (if (0 : Int32) = 0 then _ else _) = _
          rw [if_pos rfl, beats_e (by omega), ob_s, has_bt (by omega), h13' x (by omega)]
          cases bt (gI σ 13 x) y <;> rfl
        · by_cases c1' : c = 1
          · subst c1'
            obtain ⟨r, r1, r2, r3, -⟩ := cov_e h3 h1' h13' (x := x) (y := y) (by omega) (by omega) (t_Du_everybodyN σ)
            refine fin r ?_ ?_
            · unfold f_D_duel
              rw [if_neg d1, if_neg d2, if_neg nxy]
              show (if (1 : Int32) = 0 then _ else if (1 : Int32) = 1 then _ else _) = _
              rw [if_neg n10, if_pos rfl, r1, ob_s]
              rcases r3 with e | e <;> rw [e] <;> rfl
            · rw [eM]
              show (if (1 : Int32) = 0 then _ else if (1 : Int32) = 1 then _ else _) = _
              rw [if_neg n10, if_pos rfl, ← ev_all h3 h1', r2, ob_s]
              rcases r3 with e | e <;> rw [e] <;> rfl
          · by_cases c2' : c = 2
            · subst c2'
              obtain ⟨r, r1, r2⟩ := lowest_first hN (gI σ 13 x &&& ov s2 y)
              refine fin r ?_ ?_
              · unfold f_D_duel
                rw [if_neg d1, if_neg d2, if_neg nxy]
                show (if (2 : Int32) = 0 then _ else if (2 : Int32) = 1 then _ else if (2 : Int32) = 2 then _ else _) = _
                rw [if_neg (by decide), if_neg (by decide), if_pos rfl, gd_t (inb_nI (by omega) (by decide)), ov_e h3 h1' h13' (by omega), ob_s, nI_clamp (by omega), r1, ob_s]
              · rw [eM]
                show (if (2 : Int32) = 0 then _ else if (2 : Int32) = 1 then _ else if (2 : Int32) = 2 then _ else _) = _
                rw [if_neg (by decide), if_neg (by decide), if_pos rfl, beats_e (by omega), ob_s, over_e (by omega), ob_s, h13' x (by omega), r2, ob_s]
            · refine fin (-1) ?_ ?_
              · unfold f_D_duel
                rw [if_neg d1, if_neg d2, if_neg nxy]
                show (if c = 0 then _ else if c = 1 then _ else if c = 2 then _ else _) = _
                rw [if_neg c0, if_neg c1', if_neg c2']
                rfl
              · rw [eM]
                show (if c = 0 then _ else if c = 1 then _ else if c = 2 then _ else _) = _
                rw [if_neg c0, if_neg c1', if_neg c2']
                rfl
