/-! weight answers alike -/
theorem gk_c {A B : Nat → Nat} : ∀ k, (∀ j, j < k → A j = B j) → gk A k = gk B k
  | 0, _ => rfl
  | k + 1, h => by
    show Nat.gcd (A k) (gk A k) = Nat.gcd (B k) (gk B k)
    rw [gk_c k (fun j hj => h j (by omega)), h k (by omega)]
theorem st_Rl_weight_c {N : Nat} (hN : 8589934592 ≤ N) {σ μ : Mem} (hR : Rl σ μ) (a b : Int32) : ∃ (q q2 : Int32 × Mem), f_D_weight N a b σ = some (q.1, q.2) ∧ f_M_weight N a b μ = some (q2.1, q2.2) ∧ Rl q.2 q2.2 ∧ q.1 = q2.1 := by
  obtain ⟨q, e1, k1⟩ := D_weight_t hN (a1 := a) (a2 := b) hR.1
  obtain ⟨q2, e2, k2⟩ := M_weight_t hN (a1 := a) (a2 := b) hR.2.1
  refine ⟨q, q2, e1, e2, Rl_q hR k1.2 k2.2 (by decide) (by decide), ?_⟩
  obtain ⟨s1, es1⟩ : ∃ s, s = sI μ 0 0 0 := ⟨_, rfl⟩
  obtain ⟨hR1, k0⟩ := Rl_m0 hR es1
  obtain ⟨n, h8, h3, h1, h13, hT⟩ := Rl_n hR1
  unfold f_D_weight at e1
  unfold f_M_weight at e2
  rw [bnd_e, ← es1] at e2
  have no : ∀ v, q.1 = v → q2.1 = v → q.1 = q2.1 := fun v x y => by rw [x, y]
  rcases pl_b h8 h3 h1 a with ⟨p1, p2⟩ | ⟨p1, p2, x, hx, rfl⟩
  · rw [if_pos p1] at e1
    rw [if_pos p2] at e2
    exact no (-2147483648) (by cases e1; rfl) (by cases e2; rfl)
  · rw [if_neg (by rw [p1]; decide)] at e1
    rw [if_neg (by rw [p2]; decide)] at e2
    have y1 : (1 : Int32).toInt = 1 := by decide
    have y2 : (2 : Int32).toInt = 2 := by decide
    rcases in01 b with ⟨i1, i2⟩ | ⟨i1, i2, i3, p, hp, rfl⟩
    · rw [if_pos i1] at e2
      refine no (-2147483648) ?_ (by cases e2; rfl)
      by_cases c : b < 0
      · rw [if_pos c] at e1
        cases e1
        rfl
      · have c2 : ¬ b ≤ 1 := fun w => by
          rcases i2 with z | z
          · exact c z
          · rw [i_lt, y2] at z
            rw [i_le, y1] at w
            omega
        rw [if_neg c, if_neg c2] at e1
        cases e1
        rfl
    · have c2 : nI p ≤ 1 := by
        rcases (show p = 0 ∨ p = 1 by omega) with rfl | rfl <;> decide
      rw [if_neg i1] at e2
      rw [if_neg i2, if_pos c2] at e1
      have hp2 : (2 : Nat) ^ n ≤ 256 := Nat.pow_le_pow_right (n := 2) (by decide) h8
      have two : 2 ≤ (2 : Nat) ^ n := by
        have : (2 : Nat) ^ 1 ≤ 2 ^ n := Nat.pow_le_pow_right (n := 2) (by decide) (by omega)
        omega
      have evD : t_Du_everybodyN σ = nI (2 ^ n - 1) := by
        unfold t_Du_everybodyN
        rw [h3, mask_e n h8]
      have evM : t_M_all s1 = nI (2 ^ n - 1) := by
        unfold t_M_all
        rw [n0, h1, mask_e n h8]
      rw [evD] at e1
      rw [evM] at e2
      have ha : 2 ^ n - 1 < 2 ^ n := by omega
      -- what both find
      obtain ⟨bD, eD⟩ : ∃ o, o = f_We_balance N (nI (2 ^ n - 1)) σ := ⟨_, rfl⟩
      obtain ⟨bM, eM⟩ : ∃ o, o = f_M_balanced N (nI (2 ^ n - 1)) s1 := ⟨_, rfl⟩
      have hD := ba_D (N := N) h8 h3 ha
      have hM := ba_M hN h8 h1 h13 ha
      rw [← eD] at e1 hD
      rw [← eM] at e2 hM
      cases bD with
      | none => cases e1
      | some d =>
        cases bM with
        | none => cases e2
        | some m0 =>
          obtain ⟨r2, sD⟩ := d
          obtain ⟨r3, sM⟩ := m0
          obtain ⟨fD, P, p0, hE, hb⟩ := hD _ rfl
          obtain ⟨fM, P', p0', hE', hb'⟩ := hM _ rfl
          obtain ⟨er, hbb⟩ := ba_b h8 ha p0 hE p0' hE' hb hb'
          rcases hbb with ⟨m, m1, m2, m3, m4, m5, m6, m7⟩ | ⟨m4, m5⟩
          · have er' : r2 = r3 := er
            have m4' : r2 = nI m := m4
            have fD' : fr [19, 20] [] σ sD := fD
            have fM' : fr [20, 21] [] s1 sM := fM
            have vn : ∀ j, j < 8 → vN P m j = vN P' m j := fun j hj => by
              unfold vN
              rw [m7 j hj]
            have sh : ∀ j, j < 8 → gI sD 19 j = gI sM 21 j := fun j hj => by
              have a1 : gI sD 19 j = nI (vN P m j / gk (vN P m) 8) := m5 j hj
              have a2 : gI sM 21 j = nI (vN P' m j / gk (vN P' m) 8) := m6 j hj
              rw [a1, a2, vn j hj, gk_c 8 vn]
            have o1 : ∀ (k : Int32 → Mem → Option (Int32 × Mem)), ob2 (some (r2, sD)) k = k r2 sD := fun k => rfl
            have o2 : ∀ (k : Int32 → Mem → Option (Int32 × Mem)), ob2 (some (r3, sM)) k = k r3 sM := fun k => rfl
            rw [o1] at e1
            rw [o2] at e2
            rcases (show p = 0 ∨ p = 1 by omega) with rfl | rfl
            · rw [if_pos (show nI 0 = 0 from rfl), nI_clamp (by omega)] at e1
              rw [if_pos (show nI 0 = 0 from rfl), ← er', m4', has_bt (by omega), nI_clamp (by omega)] at e2
              have a1 : q.1 = gI sD 19 x := by
                have : par (gd (inb (nI x) 8) (some ((gI sD 19 x), sD))) (fun q => q.1 = gI sD 19 x) := p_gd (fun _ => p_some rfl)
                exact this q e1
              rw [a1]
              cases c : bt (nI m) x
              · rw [c, if_pos (show (if false = true then (1 : Int32) else 0) = 0 from rfl)] at e2
                have a2 : q2.1 = 0 := by
                  cases e2
                  rfl
                have a3 : gI sD 19 x = nI (vN P m x / gk (vN P m) 8) := m5 x (by omega)
                have z : vN P m x = 0 := by
                  unfold vN vv
                  rw [if_neg (by rw [c]; decide)]
                  rfl
                rw [a2, a3, z, Nat.zero_div]
                rfl
              · rw [c, if_neg (show ¬ (if true = true then (1 : Int32) else 0) = 0 by decide)] at e2
                have a2 : q2.1 = gI sM 21 x := by
                  have : par (gd (inb (nI x) 8) (some ((gI sM 21 x), sM))) (fun q => q.1 = gI sM 21 x) := p_gd (fun _ => p_some rfl)
                  exact this q2 e2
                rw [a2]
                exact sh x (by omega)
            · rw [if_neg (show ¬ nI 1 = 0 by decide)] at e1 e2
              have a1 : q.1 = gF (gI σ 13) (gI sD 19) x n := by
                have : par (ob (f_We_gainOfS N (nI x) sD) fun r3 => some (r3, sD)) (fun q => q.1 = gF (gI σ 13) (gI sD 19) x n) := by
                  refine p_ob _ (gn_D h8 (by rw [fD'.1 3 (by decide)]; exact h3) (by omega)) (fun r h => p_some ?_)
                  have h' : r = gF (gI sD 13) (gI sD 19) x n := h
                  show r = _
                  rw [h', fD'.1 13 (by decide)]
                exact this q e1
              have a2 : q2.1 = gF (gI σ 13) (gI sM 21) x n := by
                have : par (ob (f_M_gains N (nI x) sM) fun r4 => some (r4, sM)) (fun q => q.1 = gF (gI σ 13) (gI sM 21) x n) := by
                  refine p_ob _ (gn_M (f := gI σ 13) h8 (by rw [fM'.1 1 (by decide)]; exact h1) (fun a ha => by rw [fM'.1 1 (by decide)]; exact h13 a ha) (by omega)) (fun r h => p_some h)
                exact this q2 e2
              rw [a1, a2]
              exact gF_c n (fun j hj => sh j (by omega))
          · exfalso
            obtain ⟨m, m1, m2, m3⟩ := okb_ex h8 hT (by omega) ha p0 hE
            exact m4 m m1 m2 m3
