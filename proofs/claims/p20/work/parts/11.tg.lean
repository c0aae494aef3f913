/-! cup answers alike -/
theorem shr7 {u c d : Nat} (hu : u < 2147483648) (hc : c ≤ 24) (hd : 2 ^ c = d) : (nI u >>> (nI c &&& 31)) &&& (7 : Int32) = nI (u / d % 8) := by
  apply Int32.toBitVec_inj.mp
  apply BitVec.eq_of_toNat_eq
  rw [nbv (by omega)]
  have key : ((nI u >>> (nI c &&& 31)) &&& (7 : Int32)).toBitVec.toNat = ((nI u).toBitVec.toNat >>> c) % 8 := by
    apply Nat.eq_of_testBit_eq
    intro j
    have e : (8 : Nat) = 2 ^ 3 := rfl
    rw [BitVec.testBit_toNat, e, Nat.testBit_mod_two_pow, Nat.testBit_shiftRight, BitVec.testBit_toNat]
    show bt _ j = _
    by_cases hj : j < 3
    · rw [bt_and, bt_shr (by omega) (by omega), decide_eq_true hj, Bool.true_and]
      have h7 : ∀ j, j < 3 → bt (7 : Int32) j = true := by decide
      rw [h7 j hj, Bool.and_true]
      show bt (nI u) (j + c) = bt (nI u) (c + j)
      rw [Nat.add_comm]
    · rw [decide_eq_false hj, Bool.false_and]
      exact bt_hi (rg_andr (lo := 0) (hi := 7) _ (by decide : rg 0 7 (7 : Int32)) (by decide)) 3 (by decide) (by omega)
  rw [key, nbv hu, Nat.shiftRight_eq_div_pow, hd]
theorem pin {k i : Nat} {g : Nat → Nat} (hk : k ≤ 3) (hi : i < 2 ^ k) (hg : ∀ j, j < 2 ^ k → g j < 8) : t_Cu_placeIn (nI (cdk k g)) (nI i) (nI (2 ^ k)) = nI (g i) := by
  unfold t_Cu_placeIn
  rcases (show k = 0 ∨ k = 1 ∨ k = 2 ∨ k = 3 by omega) with rfl | rfl | rfl | rfl
  · have b0' := hg 0 (by decide)
    have ec : cdk 0 g = g 0 := rfl
    rw [ec]
    have hi' : i < 1 := hi
    rcases (show i = 0 by omega) with rfl
    · rw [show (3 : Int32) * ((nI (2 ^ 0) - (1 : Int32)) - nI 0) = nI 0 by decide, shr7 (c := 0) (d := 1) (by omega) (by decide) (by decide)]
      congr 1
      omega
  · have b0' := hg 0 (by decide)
    have b1' := hg 1 (by decide)
    have ec : cdk 1 g = 8 * g 0 + g 1 := rfl
    rw [ec]
    have hi' : i < 2 := hi
    rcases (show i = 0 ∨ i = 1 by omega) with rfl | rfl
    · rw [show (3 : Int32) * ((nI (2 ^ 1) - (1 : Int32)) - nI 0) = nI 3 by decide, shr7 (c := 3) (d := 8) (by omega) (by decide) (by decide)]
      congr 1
      omega
    · rw [show (3 : Int32) * ((nI (2 ^ 1) - (1 : Int32)) - nI 1) = nI 0 by decide, shr7 (c := 0) (d := 1) (by omega) (by decide) (by decide)]
      congr 1
      omega
  · have b0' := hg 0 (by decide)
    have b1' := hg 1 (by decide)
    have b2' := hg 2 (by decide)
    have b3' := hg 3 (by decide)
    have ec : cdk 2 g = 8 * (8 * (8 * g 0 + g 1) + g 2) + g 3 := rfl
    rw [ec]
    have hi' : i < 4 := hi
    rcases (show i = 0 ∨ i = 1 ∨ i = 2 ∨ i = 3 by omega) with rfl | rfl | rfl | rfl
    · rw [show (3 : Int32) * ((nI (2 ^ 2) - (1 : Int32)) - nI 0) = nI 9 by decide, shr7 (c := 9) (d := 512) (by omega) (by decide) (by decide)]
      congr 1
      omega
    · rw [show (3 : Int32) * ((nI (2 ^ 2) - (1 : Int32)) - nI 1) = nI 6 by decide, shr7 (c := 6) (d := 64) (by omega) (by decide) (by decide)]
      congr 1
      omega
    · rw [show (3 : Int32) * ((nI (2 ^ 2) - (1 : Int32)) - nI 2) = nI 3 by decide, shr7 (c := 3) (d := 8) (by omega) (by decide) (by decide)]
      congr 1
      omega
    · rw [show (3 : Int32) * ((nI (2 ^ 2) - (1 : Int32)) - nI 3) = nI 0 by decide, shr7 (c := 0) (d := 1) (by omega) (by decide) (by decide)]
      congr 1
      omega
  · have b0' := hg 0 (by decide)
    have b1' := hg 1 (by decide)
    have b2' := hg 2 (by decide)
    have b3' := hg 3 (by decide)
    have b4' := hg 4 (by decide)
    have b5' := hg 5 (by decide)
    have b6' := hg 6 (by decide)
    have b7' := hg 7 (by decide)
    have ec : cdk 3 g = 4096 * (8 * (8 * (8 * g 0 + g 1) + g 2) + g 3) + (8 * (8 * (8 * g 4 + g 5) + g 6) + g 7) := rfl
    rw [ec]
    have hi' : i < 8 := hi
    rcases (show i = 0 ∨ i = 1 ∨ i = 2 ∨ i = 3 ∨ i = 4 ∨ i = 5 ∨ i = 6 ∨ i = 7 by omega) with rfl | rfl | rfl | rfl | rfl | rfl | rfl | rfl
    · rw [show (3 : Int32) * ((nI (2 ^ 3) - (1 : Int32)) - nI 0) = nI 21 by decide, shr7 (c := 21) (d := 2097152) (by omega) (by decide) (by decide)]
      congr 1
      omega
    · rw [show (3 : Int32) * ((nI (2 ^ 3) - (1 : Int32)) - nI 1) = nI 18 by decide, shr7 (c := 18) (d := 262144) (by omega) (by decide) (by decide)]
      congr 1
      omega
    · rw [show (3 : Int32) * ((nI (2 ^ 3) - (1 : Int32)) - nI 2) = nI 15 by decide, shr7 (c := 15) (d := 32768) (by omega) (by decide) (by decide)]
      congr 1
      omega
    · rw [show (3 : Int32) * ((nI (2 ^ 3) - (1 : Int32)) - nI 3) = nI 12 by decide, shr7 (c := 12) (d := 4096) (by omega) (by decide) (by decide)]
      congr 1
      omega
    · rw [show (3 : Int32) * ((nI (2 ^ 3) - (1 : Int32)) - nI 4) = nI 9 by decide, shr7 (c := 9) (d := 512) (by omega) (by decide) (by decide)]
      congr 1
      omega
    · rw [show (3 : Int32) * ((nI (2 ^ 3) - (1 : Int32)) - nI 5) = nI 6 by decide, shr7 (c := 6) (d := 64) (by omega) (by decide) (by decide)]
      congr 1
      omega
    · rw [show (3 : Int32) * ((nI (2 ^ 3) - (1 : Int32)) - nI 6) = nI 3 by decide, shr7 (c := 3) (d := 8) (by omega) (by decide) (by decide)]
      congr 1
      omega
    · rw [show (3 : Int32) * ((nI (2 ^ 3) - (1 : Int32)) - nI 7) = nI 0 by decide, shr7 (c := 0) (d := 1) (by omega) (by decide) (by decide)]
      congr 1
      omega
theorem lst_i {f : Nat → Int32} {k x i : Nat} {r : Int32} (hk : k ≤ 3) (hi : i < 2 ^ k) (h : lsr f k x r) : lst f k x i (if r = -1 then -3 else t_Cu_placeIn r (nI i) (nI (2 ^ k))) := by
  have k8 : 2 ^ k ≤ 8 := by
    rcases (show k = 0 ∨ k = 1 ∨ k = 2 ∨ k = 3 by omega) with rfl | rfl | rfl | rfl <;> decide
  rcases h with ⟨e, a⟩ | ⟨g, hp, hg, a, e⟩
  · rw [if_pos e]
    exact Or.inl ⟨rfl, a⟩
  · have b : ∀ j, j < 2 ^ k → g j < 8 := fun j hj => by have := hp.1 j hj; omega
    have lt : cdk k g < 2147483648 := by
      rcases (show k = 0 ∨ k = 1 ∨ k = 2 ∨ k = 3 by omega) with rfl | rfl | rfl | rfl
      · have := b 0 (by decide)
        show g 0 < _
        omega
      · have := b 0 (by decide)
        have := b 1 (by decide)
        show 8 * g 0 + g 1 < _
        omega
      · have := co4_b (b 0 (by decide)) (b 1 (by decide)) (b 2 (by decide)) (b 3 (by decide))
        show co4 (g 0) (g 1) (g 2) (g 3) < _
        omega
      · have := co4_b (b 0 (by decide)) (b 1 (by decide)) (b 2 (by decide)) (b 3 (by decide))
        have := co4_b (b 4 (by decide)) (b 5 (by decide)) (b 6 (by decide)) (b 7 (by decide))
        show 4096 * co4 (g 0) (g 1) (g 2) (g 3) + co4 (g 4) (g 5) (g 6) (g 7) < _
        omega
    rw [e, if_neg (r4n lt), pin hk hi b]
    exact Or.inr ⟨g, hp, hg, a, rfl⟩
theorem lrw_D {N : Nat} {σ : Mem} {k x : Nat} (hk : k ≤ 3) (h3 : gI σ 3 0 = nI (2 ^ k)) (hT : Tn (2 ^ k) (gI σ 13)) (hx : x < 2 ^ k) (hr : rg 0 255 (gI σ 13 x)) : par (f_Cu_leastRowWonBy N (nI x) σ) (fun q => gI q.2 3 0 = nI (2 ^ k) ∧ lsr (gI σ 13) k x q.1) := by
  unfold f_Cu_leastRowWonBy
  refine p_bnd ?_
  have h8 := hT.1
  have ev : t_Du_everybodyN σ = nI (2 ^ (2 ^ k) - 1) := by
    unfold t_Du_everybodyN
    rw [h3, mask_e (2 ^ k) h8]
  rw [ev]
  rcases (show k = 0 ∨ k = 1 ∨ k = 2 ∨ k = 3 by omega) with rfl | rfl | rfl | rfl
  · rw [h3]
    show par (some ((0 : Int32), σ)) _
    refine p_some ⟨h3, Or.inr ⟨fun j => j, id_p _, ?_, fun h hh hl => absurd hl (lxt_first hh), rfl⟩⟩
    have : x = 0 := by
      have : x < 1 := hx
      omega
    rw [this]
    rfl
  · rw [h3]
    have hx2 : x < 2 := hx
    show par (gd (inb (nI x) 8) (if (gI σ 13 (nI x).toNatClampNeg) = (0 : Int32) then (some ((-1 : Int32), σ)) else (some ((1 : Int32), σ)))) _
    rw [nI_clamp (by omega)]
    have hT2 : Tn 2 (gI σ 13) := hT
    refine p_gd (fun _ => p_if (fun c => p_some ⟨h3, Or.inl ⟨rfl, fun h hp hg => ?_⟩⟩) (fun c => p_some ⟨h3, Or.inr ⟨fun j => j, id_p _, ?_, fun h hh hl => absurd hl (lxt_first hh), rfl⟩⟩))
    · have hp2 : pmn 2 h := hp
      have b0 := hp2.1 0 (by decide)
      have b1' := hp2.1 1 (by decide)
      have ne : h 0 ≠ h 1 := fun z => by
        have := hp2.2 0 1 (by decide) (by decide) z
        omega
      rw [wng1 (fun j hj => by have := hp2.1 j hj; omega)] at hg
      have w8 := wN_8 (f := gI σ 13) (by omega : h 0 < 8) (by omega : h 1 < 8)
      have hg' := nI_inj (by omega) (by omega) hg
      by_cases d : bt (gI σ 13 (h 0)) (h 1) = true
      · rw [wN_t d] at hg'
        rw [hg', c, bt_0] at d
        exact absurd d (by decide)
      · have z : wN (gI σ 13) (h 0) (h 1) = h 1 := if_neg d
        rw [z] at hg'
        have t := hT2.2.2 (h 1) (h 0) b1' b0 (fun y => ne y.symm)
        rw [hg', c, bt_0] at t
        rw [hg'] at d
        cases y : bt (gI σ 13 (h 0)) x
        · rw [y] at t
          exact absurd t (by decide)
        · exact d y
    · rw [wng1 (fun j hj => by show j < 8; omega)]
      show nI (wN (gI σ 13) 0 1) = nI x
      obtain ⟨j, j1, j2⟩ := bt_ne0 hr c
      obtain ⟨a1, a2, a3⟩ := hT2.2.1 x j (by omega) j2
      rcases (show x = 0 ∨ x = 1 by omega) with rfl | rfl
      · have : j = 1 := by omega
        rw [this] at j2
        rw [wN_t j2]
      · have : j = 0 := by omega
        rw [this] at j2
        rw [wN_s hT2 (by decide) (by decide) (by decide), wN_t j2]
  · have h3' : gI σ 3 0 = nI 4 := h3
    rw [h3]
    show par (ob2 (f_Cu_leastRowOfFour N (nI 15) ((1 : Int32) <<< (nI x &&& 31)) σ) fun r3 s2 => some (r3, s2)) _
    refine p_obq _ (lsr4_D h3' hT hx) (fun r s h => p_some ⟨?_, h.2⟩)
    have f1 : fr [21] [] σ s := h.1
    show gI s 3 0 = _
    rw [f1.1 3 (by decide)]
    exact h3
  · have h3' : gI σ 3 0 = nI 8 := h3
    rw [h3]
    show par (ob2 (f_Cu_leastRowOfEight N (nI 255) (nI x) σ) fun r5 s4 => some (r5, s4)) _
    refine p_obq _ (lsr8_D h3' hT hx) (fun r s h => p_some ⟨?_, h.2⟩)
    have f1 : fr [21] [] σ s := h.1
    show gI s 3 0 = _
    rw [f1.1 3 (by decide)]
    exact h3
theorem inmn {n : Nat} (hn : n ≤ 8) (a : Int32) : (t_M_in a.toInt64 (-1 : Int64) ((nI n).toInt64 - (1 : Int64)) = 0 ∧ (a < -1 ∨ ¬ a < nI n)) ∨ (¬ t_M_in a.toInt64 (-1 : Int64) ((nI n).toInt64 - (1 : Int64)) = 0 ∧ ¬ a < -1 ∧ a < nI n ∧ (a = -1 ∨ (¬ a = -1 ∧ ∃ p, p < n ∧ a = nI p))) := by
  have y1 : (-1 : Int32).toInt = -1 := by decide
  have z1 : (-1 : Int64).toInt = -1 := by decide
  have o1 : (1 : Int64).toInt = 1 := by decide
  have t : (nI n).toInt = (n : Int) := nI_toInt (by omega)
  have z8 : ((nI n).toInt64 - (1 : Int64)).toInt = (n : Int) - 1 := by
    rw [Int64.toInt_sub, i64, Int.bmod_def, t, o1]
    split <;> omega
  rw [min_iff, i64, z1, z8]
  by_cases h : -1 ≤ a.toInt ∧ a.toInt ≤ (n : Int) - 1
  · rw [if_pos h]
    refine Or.inr ⟨by decide, by rw [i_lt, y1]; omega, by rw [i_lt, t]; omega, ?_⟩
    by_cases c : a.toInt = -1
    · exact Or.inl (Int32.toInt_inj.mp (by rw [c, y1]))
    · obtain ⟨p, e, p1, p2, p3⟩ := rg_ex (a := 0) (b := (n : Int) - 1) (x := a) ⟨by omega, by omega⟩ (by decide)
      exact Or.inr ⟨fun z => c (by rw [z, y1]), p, by omega, e⟩
  · rw [if_neg h]
    refine Or.inl ⟨rfl, ?_⟩
    by_cases c : a.toInt < -1
    · exact Or.inl (by rw [i_lt, y1]; exact c)
    · exact Or.inr (by rw [i_lt, t]; omega)
theorem st_Rl_cup_c {N : Nat} (hN : 8589934592 ≤ N) {σ μ : Mem} (hR : Rl σ μ) (a b : Int32) : ∃ (q q2 : Int32 × Mem), f_D_cup N a b σ = some (q.1, q.2) ∧ f_M_cup N a b μ = some (q2.1, q2.2) ∧ Rl q.2 q2.2 ∧ q.1 = q2.1 := by
  obtain ⟨q, e1, k1⟩ := D_cup_t hN (a1 := a) (a2 := b) hR.1
  obtain ⟨q2, e2, k2⟩ := M_cup_t hN (a1 := a) (a2 := b) hR.2.1
  refine ⟨q, q2, e1, e2, Rl_q hR k1.2 k2 (by decide) (by decide), ?_⟩
  obtain ⟨s1, es1⟩ : ∃ s, s = sI μ 0 0 0 := ⟨_, rfl⟩
  obtain ⟨hR1, k0⟩ := Rl_m0 hR es1
  obtain ⟨n, h8, h3, h1, h13, hT⟩ := Rl_n hR1
  unfold f_D_cup at e1
  unfold f_M_cup at e2
  rw [bnd_e, ← es1] at e2
  have no : ∀ v, q.1 = v → q2.1 = v → q.1 = q2.1 := fun v x y => by rw [x, y]
  rcases pl_b h8 h3 h1 a with ⟨p1, p2⟩ | ⟨p1, p2, x, hx, rfl⟩
  · rw [if_pos p1] at e1
    rw [if_pos p2] at e2
    exact no (-1) (by cases e1; rfl) (by cases e2; rfl)
  · rw [if_neg (by rw [p1]; decide)] at e1
    rw [if_neg (by rw [p2]; decide)] at e2
    rw [many_e h1] at e2
    rw [h3] at e1
    rcases inmn h8 b with ⟨i1, i2⟩ | ⟨i1, i2, i3, i4⟩
    · rw [if_pos i1] at e2
      refine no (-1) ?_ (by cases e2; rfl)
      by_cases c : b < -1
      · rw [if_pos c] at e1
        cases e1
        rfl
      · rw [if_neg c, if_neg (by rcases i2 with z | z; exact absurd z c; exact z)] at e1
        cases e1
        rfl
    · rw [if_neg i1] at e2
      rw [if_neg i2, if_pos i3] at e1
      have ft : t_M_isCup (nI n) = t_Cu_fits (nI n) := rfl
      rw [ft] at e2
      by_cases hf : t_Cu_fits (nI n) = 0
      · rw [if_pos hf] at e1 e2
        cases e1
        cases e2
        rfl
      · rw [if_neg hf] at e1 e2
        obtain ⟨k, hk, rfl⟩ : ∃ k, k ≤ 3 ∧ n = 2 ^ k := by
          rcases (show n = 1 ∨ n = 2 ∨ n = 4 ∨ n = 8 ∨ n = 3 ∨ n = 5 ∨ n = 6 ∨ n = 7 by omega) with rfl | rfl | rfl | rfl | rfl | rfl | rfl | rfl
          · exact ⟨0, by decide, rfl⟩
          · exact ⟨1, by decide, rfl⟩
          · exact ⟨2, by decide, rfl⟩
          · exact ⟨3, by decide, rfl⟩
          · exact absurd (by decide) hf
          · exact absurd (by decide) hf
          · exact absurd (by decide) hf
          · exact absurd (by decide) hf
        have c4 : cup4 (2 ^ k) := by
          unfold cup4
          rcases (show k = 0 ∨ k = 1 ∨ k = 2 ∨ k = 3 by omega) with rfl | rfl | rfl | rfl <;> decide
        rcases i4 with z | ⟨z, p, hp, rfl⟩
        · rw [if_pos z] at e1 e2
          have a1 : q.1 = nI (cc (gI σ 13) (2 ^ k) (2 ^ (2 ^ k) - 1) x) := p_ob2 (k := fun r s => some (r, s)) (P := fun q => q.1 = nI (cc (gI σ 13) (2 ^ k) (2 ^ (2 ^ k) - 1) x)) (fun r _ => r = _) (rw_D (N := N) h3 hT hx c4 (hR.1.r13 x)) (fun r s h => p_some h) q e1
          have lt : (2 : Nat) ^ (2 ^ k) ≤ 256 := Nat.pow_le_pow_right (n := 2) (by decide) h8
          have one : 2 ≤ (2 : Nat) ^ (2 ^ k) := by
            have : (2 : Nat) ^ 1 ≤ 2 ^ (2 ^ k) := Nat.pow_le_pow_right (n := 2) (by decide) (Nat.pow_pos (by decide))
            omega
          have a2 : q2.1 = nI (cc (gI σ 13) (2 ^ k) (2 ^ (2 ^ k) - 1) x) := by
            have : par (ob (f_M_layCups N s1) fun s12 => gd (inb (((8 : Int32) * (t_M_all s12)) + nI x) 2048) (some ((gI s12 24 (((8 : Int32) * (t_M_all s12)) + nI x).toNatClampNeg), s12))) (fun q => q.1 = nI (cc (gI σ 13) (2 ^ k) (2 ^ (2 ^ k) - 1) x)) := by
              refine p_ob _ (lcu_M hN h8 h1 h13) (fun s12 h => p_gd (fun _ => p_some ?_))
              obtain ⟨f1, f2⟩ := h
              have f1' : fr [24] [] s1 s12 := f1
              have ea : t_M_all s12 = nI (2 ^ (2 ^ k) - 1) := by
                unfold t_M_all
                rw [n0, f1'.1 1 (by decide), h1, mask_e (2 ^ k) h8]
              have l8' : (8 : Int32) = nI 8 := rfl
              show gI s12 24 (((8 : Int32) * (t_M_all s12)) + nI x).toNatClampNeg = _
              rw [ea, l8', nmul (by omega) (by omega), nI_add, nI_clamp (by omega)]
              exact f2 _ x (by omega) (by omega) (by omega)
            exact this q2 e2
          rw [a1, a2]
        · rw [if_neg z] at e1 e2
          have a1 : lst (gI σ 13) k x p q.1 := by
            have : par (ob2 (f_Cu_leastRowWonBy N (nI x) σ) fun r2 s1 => if r2 = (-1 : Int32) then (some ((-3 : Int32), s1)) else (some ((t_Cu_placeIn r2 (nI p) (gI s1 3 0)), s1))) (fun q => lst (gI σ 13) k x p q.1) := by
              refine p_obq _ (lrw_D hk h3 hT hx (hR.1.r13 x)) (fun r s h => ?_)
              obtain ⟨g3, hl⟩ := h
              have g3' : gI s 3 0 = nI (2 ^ k) := g3
              have := lst_i hk hp hl
              rw [g3']
              refine p_if (fun c => p_some ?_) (fun c => p_some ?_)
              · have c' : (r, s).1 = -1 := c
                rw [if_pos c'] at this
                exact this
              · have c' : ¬ (r, s).1 = -1 := c
                rw [if_neg c'] at this
                exact this
            exact this q e1
          have a2 : lst (gI σ 13) k x p q2.1 := srch_M hk hp h1 h13 q2 e2
          exact lst_u hp a1 a2
