/-! every call keeps the relation; the law ends -/
theorem lc0 {N L : Nat} (hN : 8589934592 ≤ N) {xs : Nat → Int32} {self : Int32 → Mem → Mem → Option Unit} {i : Int32} {σ μ : Mem} (hR : Rl σ μ) (g1 : inb (i + (1 : Int32)) L = true) (g2 : inb (i + (2 : Int32)) L = true) (g3 : inb (i + (3 : Int32)) L = true) (hs : ∀ s t, Rl s t → tot (self (i + (4 : Int32)) s t) (fun _ => True)) : tot (Lw_c0 N L xs self i σ μ) (fun _ => True) := by
  unfold Lw_c0
  obtain ⟨q, q2, e1, e2, hq⟩ := st_Rl_sign hN hR (xs (i + (1 : Int32)).toNatClampNeg)
  refine t_gd g1 (?_)
  rw [e1, ob2_s]
  refine t_gd g1 (?_)
  rw [e2, ob2_s]
  exact hs _ _ hq
theorem lc1 {N L : Nat} (hN : 8589934592 ≤ N) {xs : Nat → Int32} {self : Int32 → Mem → Mem → Option Unit} {i : Int32} {σ μ : Mem} (hR : Rl σ μ) (g1 : inb (i + (1 : Int32)) L = true) (g2 : inb (i + (2 : Int32)) L = true) (g3 : inb (i + (3 : Int32)) L = true) (hs : ∀ s t, Rl s t → tot (self (i + (4 : Int32)) s t) (fun _ => True)) : tot (Lw_c1 N L xs self i σ μ) (fun _ => True) := by
  unfold Lw_c1
  obtain ⟨q, q2, e1, e2, hq⟩ := st_Rl_end hN hR (xs (i + (1 : Int32)).toNatClampNeg)
  refine t_gd g1 (?_)
  rw [e1, ob2_s]
  refine t_gd g1 (?_)
  rw [e2, ob2_s]
  exact hs _ _ hq
theorem lc2 {N L : Nat} (hN : 8589934592 ≤ N) {xs : Nat → Int32} {self : Int32 → Mem → Mem → Option Unit} {i : Int32} {σ μ : Mem} (hR : Rl σ μ) (g1 : inb (i + (1 : Int32)) L = true) (g2 : inb (i + (2 : Int32)) L = true) (g3 : inb (i + (3 : Int32)) L = true) (hs : ∀ s t, Rl s t → tot (self (i + (4 : Int32)) s t) (fun _ => True)) : tot (Lw_c2 N L xs self i σ μ) (fun _ => True) := by
  unfold Lw_c2
  obtain ⟨q, q2, e1, e2, hq⟩ := st_Rl_round hN hR 
  refine ?_
  rw [e1, ob2_s]
  refine ?_
  rw [e2, ob2_s]
  exact hs _ _ hq
theorem lc3 {N L : Nat} (hN : 8589934592 ≤ N) {xs : Nat → Int32} {self : Int32 → Mem → Mem → Option Unit} {i : Int32} {σ μ : Mem} (hR : Rl σ μ) (g1 : inb (i + (1 : Int32)) L = true) (g2 : inb (i + (2 : Int32)) L = true) (g3 : inb (i + (3 : Int32)) L = true) (hs : ∀ s t, Rl s t → tot (self (i + (4 : Int32)) s t) (fun _ => True)) : tot (Lw_c3 N L xs self i σ μ) (fun _ => True) := by
  unfold Lw_c3
  obtain ⟨q, q2, e1, e2, hq⟩ := st_Rl_drawn hN hR (xs (i + (1 : Int32)).toNatClampNeg) (xs (i + (2 : Int32)).toNatClampNeg)
  refine t_gd g1 (t_gd g2 (?_))
  rw [e1, ob2_s]
  refine t_gd g1 (t_gd g2 (?_))
  rw [e2, ob2_s]
  exact hs _ _ hq
theorem lc4 {N L : Nat} (hN : 8589934592 ≤ N) {xs : Nat → Int32} {self : Int32 → Mem → Mem → Option Unit} {i : Int32} {σ μ : Mem} (hR : Rl σ μ) (g1 : inb (i + (1 : Int32)) L = true) (g2 : inb (i + (2 : Int32)) L = true) (g3 : inb (i + (3 : Int32)) L = true) (hs : ∀ s t, Rl s t → tot (self (i + (4 : Int32)) s t) (fun _ => True)) : tot (Lw_c4 N L xs self i σ μ) (fun _ => True) := by
  unfold Lw_c4
  refine t_gd g1 (t_gd g2 (t_gd g3 (t_ob _ (D_duel_t hN hR.1) (fun x _ => ?_))))
  refine t_gd g1 (t_gd g2 (t_gd g3 (t_ob2 (fun _ t => KM [0] [] μ t) (t_mono (M_duel_t hN hR.2.1) (fun q h => h.2)) (fun r t kt => ?_))))
  exact hs _ _ (Rl_q hR (dM_k hR.1 x) kt (by decide) (by decide))
theorem lc5 {N L : Nat} (hN : 8589934592 ≤ N) {xs : Nat → Int32} {self : Int32 → Mem → Mem → Option Unit} {i : Int32} {σ μ : Mem} (hR : Rl σ μ) (g1 : inb (i + (1 : Int32)) L = true) (g2 : inb (i + (2 : Int32)) L = true) (g3 : inb (i + (3 : Int32)) L = true) (hs : ∀ s t, Rl s t → tot (self (i + (4 : Int32)) s t) (fun _ => True)) : tot (Lw_c5 N L xs self i σ μ) (fun _ => True) := by
  unfold Lw_c5
  refine t_gd g1 (t_gd g2 (t_ob _ (D_beaten_t  hR.1) (fun x _ => ?_)))
  refine t_gd g1 (t_gd g2 (t_ob2 (fun _ t => KM [0] [] μ t) (t_mono (M_beaten_t  hR.2.1) (fun q h => h.2)) (fun r t kt => ?_)))
  exact hs _ _ (Rl_q hR (kd_r (S := []) (J := []) hR.1) kt (by decide) (by decide))
theorem lc6 {N L : Nat} (hN : 8589934592 ≤ N) {xs : Nat → Int32} {self : Int32 → Mem → Mem → Option Unit} {i : Int32} {σ μ : Mem} (hR : Rl σ μ) (g1 : inb (i + (1 : Int32)) L = true) (g2 : inb (i + (2 : Int32)) L = true) (g3 : inb (i + (3 : Int32)) L = true) (hs : ∀ s t, Rl s t → tot (self (i + (4 : Int32)) s t) (fun _ => True)) : tot (Lw_c6 N L xs self i σ μ) (fun _ => True) := by
  unfold Lw_c6
  obtain ⟨q, q2, e1, e2, hq⟩ := st_Rl_turn hN hR (xs (i + (1 : Int32)).toNatClampNeg) (xs (i + (2 : Int32)).toNatClampNeg)
  refine t_gd g1 (t_gd g2 (?_))
  rw [e1, ob2_s]
  refine t_gd g1 (t_gd g2 (?_))
  rw [e2, ob2_s]
  exact hs _ _ hq
theorem lc7 {N L : Nat} (hN : 8589934592 ≤ N) {xs : Nat → Int32} {self : Int32 → Mem → Mem → Option Unit} {i : Int32} {σ μ : Mem} (hR : Rl σ μ) (g1 : inb (i + (1 : Int32)) L = true) (g2 : inb (i + (2 : Int32)) L = true) (g3 : inb (i + (3 : Int32)) L = true) (hs : ∀ s t, Rl s t → tot (self (i + (4 : Int32)) s t) (fun _ => True)) : tot (Lw_c7 N L xs self i σ μ) (fun _ => True) := by
  unfold Lw_c7
  obtain ⟨q, q2, e1, e2, hq⟩ := st_Rl_join hN hR (xs (i + (1 : Int32)).toNatClampNeg)
  refine t_gd g1 (?_)
  rw [e1, ob2_s]
  refine t_gd g1 (?_)
  rw [e2, ob2_s]
  exact hs _ _ hq
theorem lc8 {N L : Nat} (hN : 8589934592 ≤ N) {xs : Nat → Int32} {self : Int32 → Mem → Mem → Option Unit} {i : Int32} {σ μ : Mem} (hR : Rl σ μ) (g1 : inb (i + (1 : Int32)) L = true) (g2 : inb (i + (2 : Int32)) L = true) (g3 : inb (i + (3 : Int32)) L = true) (hs : ∀ s t, Rl s t → tot (self (i + (4 : Int32)) s t) (fun _ => True)) : tot (Lw_c8 N L xs self i σ μ) (fun _ => True) := by
  unfold Lw_c8
  obtain ⟨q, q2, e1, e2, hq⟩ := st_Rl_drop hN hR (xs (i + (1 : Int32)).toNatClampNeg)
  refine t_gd g1 (?_)
  rw [e1, ob2_s]
  refine t_gd g1 (?_)
  rw [e2, ob2_s]
  exact hs _ _ hq
theorem lc9 {N L : Nat} (hN : 8589934592 ≤ N) {xs : Nat → Int32} {self : Int32 → Mem → Mem → Option Unit} {i : Int32} {σ μ : Mem} (hR : Rl σ μ) (g1 : inb (i + (1 : Int32)) L = true) (g2 : inb (i + (2 : Int32)) L = true) (g3 : inb (i + (3 : Int32)) L = true) (hs : ∀ s t, Rl s t → tot (self (i + (4 : Int32)) s t) (fun _ => True)) : tot (Lw_c9 N L xs self i σ μ) (fun _ => True) := by
  unfold Lw_c9
  refine t_gd g1 (t_gd g2 (t_ob2 (fun _ s => KD [17, 18, 19, 20, 21, 22, 23] [] σ s) (t_mono (D_set_t hN hR.1) (fun q h => h.2)) (fun r s ks => ?_)))
  refine t_gd g1 (t_gd g2 (t_ob2 (fun _ t => KM [0, 13, 14, 15, 16, 17, 18, 19, 20, 21, 22, 23, 24] [] μ t) (t_mono (M_set_t hN hR.2.1) (fun q h => h.2)) (fun r t kt => ?_)))
  exact hs _ _ (Rl_q hR ks kt (by decide) (by decide))
theorem lc10 {N L : Nat} (hN : 8589934592 ≤ N) {xs : Nat → Int32} {self : Int32 → Mem → Mem → Option Unit} {i : Int32} {σ μ : Mem} (hR : Rl σ μ) (g1 : inb (i + (1 : Int32)) L = true) (g2 : inb (i + (2 : Int32)) L = true) (g3 : inb (i + (3 : Int32)) L = true) (hs : ∀ s t, Rl s t → tot (self (i + (4 : Int32)) s t) (fun _ => True)) : tot (Lw_c10 N L xs self i σ μ) (fun _ => True) := by
  unfold Lw_c10
  refine t_gd g1 (t_gd g2 (t_ob2 (fun _ s => KD [17, 18, 19, 20, 21, 22, 23] [] σ s) (t_mono (D_praised_t hN hR.1) (fun q h => h.2)) (fun r s ks => ?_)))
  refine t_gd g1 (t_gd g2 (t_ob2 (fun _ t => KM [0, 13, 14, 15, 16, 17, 18, 19, 20, 21, 22, 23, 24] [] μ t) (t_mono (M_praised_t hN hR.2.1) (fun q h => h.2)) (fun r t kt => ?_)))
  exact hs _ _ (Rl_q hR ks kt (by decide) (by decide))
theorem lc11 {N L : Nat} (hN : 8589934592 ≤ N) {xs : Nat → Int32} {self : Int32 → Mem → Mem → Option Unit} {i : Int32} {σ μ : Mem} (hR : Rl σ μ) (g1 : inb (i + (1 : Int32)) L = true) (g2 : inb (i + (2 : Int32)) L = true) (g3 : inb (i + (3 : Int32)) L = true) (hs : ∀ s t, Rl s t → tot (self (i + (4 : Int32)) s t) (fun _ => True)) : tot (Lw_c11 N L xs self i σ μ) (fun _ => True) := by
  unfold Lw_c11
  obtain ⟨q, q2, e1, e2, hq, hc⟩ := st_Rl_within_c hN hR (xs (i + (1 : Int32)).toNatClampNeg)
  refine t_gd g1 (?_)
  rw [e1, ob2_s]
  refine t_gd g1 (?_)
  rw [e2, ob2_s]
  rw [if_pos hc]
  exact hs _ _ hq
theorem lc12 {N L : Nat} (hN : 8589934592 ≤ N) {xs : Nat → Int32} {self : Int32 → Mem → Mem → Option Unit} {i : Int32} {σ μ : Mem} (hR : Rl σ μ) (g1 : inb (i + (1 : Int32)) L = true) (g2 : inb (i + (2 : Int32)) L = true) (g3 : inb (i + (3 : Int32)) L = true) (hs : ∀ s t, Rl s t → tot (self (i + (4 : Int32)) s t) (fun _ => True)) : tot (Lw_c12 N L xs self i σ μ) (fun _ => True) := by
  unfold Lw_c12
  refine t_gd g1 (t_gd g2 (t_gd g3 (t_ob2 (fun _ s => KD [22] [] σ s) (t_mono (D_chain_t hN hR.1) (fun q h => h.2)) (fun r s ks => ?_))))
  refine t_gd g1 (t_gd g2 (t_gd g3 (t_ob2 (fun _ t => KM [0, 13, 14, 15, 16, 17] [] μ t) (t_mono (M_chain_t hN hR.2.1) (fun q h => h.2)) (fun r t kt => ?_))))
  exact hs _ _ (Rl_q hR ks kt (by decide) (by decide))
theorem lc13 {N L : Nat} (hN : 8589934592 ≤ N) {xs : Nat → Int32} {self : Int32 → Mem → Mem → Option Unit} {i : Int32} {σ μ : Mem} (hR : Rl σ μ) (g1 : inb (i + (1 : Int32)) L = true) (g2 : inb (i + (2 : Int32)) L = true) (g3 : inb (i + (3 : Int32)) L = true) (hs : ∀ s t, Rl s t → tot (self (i + (4 : Int32)) s t) (fun _ => True)) : tot (Lw_c13 N L xs self i σ μ) (fun _ => True) := by
  unfold Lw_c13
  refine t_gd g1 (t_ob2 (fun _ s => KD [17, 18] [] σ s) (t_mono (D_best_t hN hR.1) (fun q h => h.2)) (fun r s ks => ?_))
  refine t_gd g1 (t_ob2 (fun _ t => KM [0, 18, 19] [] μ t) (t_mono (M_best_t hN hR.2.1) (fun q h => h)) (fun r t kt => ?_))
  exact hs _ _ (Rl_q hR ks kt (by decide) (by decide))
theorem lc14 {N L : Nat} (hN : 8589934592 ≤ N) {xs : Nat → Int32} {self : Int32 → Mem → Mem → Option Unit} {i : Int32} {σ μ : Mem} (hR : Rl σ μ) (g1 : inb (i + (1 : Int32)) L = true) (g2 : inb (i + (2 : Int32)) L = true) (g3 : inb (i + (3 : Int32)) L = true) (hs : ∀ s t, Rl s t → tot (self (i + (4 : Int32)) s t) (fun _ => True)) : tot (Lw_c14 N L xs self i σ μ) (fun _ => True) := by
  unfold Lw_c14
  refine t_gd g1 (t_ob2 (fun _ s => KD [17, 18] [] σ s) (t_mono (D_byWins_t hN hR.1) (fun q h => h.2)) (fun r s ks => ?_))
  refine t_gd g1 (t_ob2 (fun _ t => KM [0, 18, 19] [] μ t) (t_mono (M_byWins_t hN hR.2.1) (fun q h => h.2)) (fun r t kt => ?_))
  exact hs _ _ (Rl_q hR ks kt (by decide) (by decide))
theorem lc15 {N L : Nat} (hN : 8589934592 ≤ N) {xs : Nat → Int32} {self : Int32 → Mem → Mem → Option Unit} {i : Int32} {σ μ : Mem} (hR : Rl σ μ) (g1 : inb (i + (1 : Int32)) L = true) (g2 : inb (i + (2 : Int32)) L = true) (g3 : inb (i + (3 : Int32)) L = true) (hs : ∀ s t, Rl s t → tot (self (i + (4 : Int32)) s t) (fun _ => True)) : tot (Lw_c15 N L xs self i σ μ) (fun _ => True) := by
  unfold Lw_c15
  refine t_gd g1 (t_gd g2 (t_ob2 (fun _ s => KD [19, 20] [] σ s) (t_mono (D_weight_t hN hR.1) (fun q h => h.2)) (fun r s ks => ?_)))
  refine t_gd g1 (t_gd g2 (t_ob2 (fun _ t => KM [0, 20, 21] [] μ t) (t_mono (M_weight_t hN hR.2.1) (fun q h => h.2)) (fun r t kt => ?_)))
  exact hs _ _ (Rl_q hR ks kt (by decide) (by decide))
theorem lc16 {N L : Nat} (hN : 8589934592 ≤ N) {xs : Nat → Int32} {self : Int32 → Mem → Mem → Option Unit} {i : Int32} {σ μ : Mem} (hR : Rl σ μ) (g1 : inb (i + (1 : Int32)) L = true) (g2 : inb (i + (2 : Int32)) L = true) (g3 : inb (i + (3 : Int32)) L = true) (hs : ∀ s t, Rl s t → tot (self (i + (4 : Int32)) s t) (fun _ => True)) : tot (Lw_c16 N L xs self i σ μ) (fun _ => True) := by
  unfold Lw_c16
  refine t_gd g1 (t_gd g2 (t_ob2 (fun _ s => KD [17, 18, 19, 20, 21, 22, 23] [] σ s) (t_mono (D_keeps_t hN hR.1) (fun q h => h.2)) (fun r s ks => ?_)))
  refine t_gd g1 (t_gd g2 (t_ob2 (fun _ t => KM [0, 22, 23] [] μ t) (t_mono (M_keeps_t hN hR.2.1) (fun q h => h.2)) (fun r t kt => ?_)))
  exact hs _ _ (Rl_q hR ks kt (by decide) (by decide))
theorem lc17 {N L : Nat} (hN : 8589934592 ≤ N) {xs : Nat → Int32} {self : Int32 → Mem → Mem → Option Unit} {i : Int32} {σ μ : Mem} (hR : Rl σ μ) (g1 : inb (i + (1 : Int32)) L = true) (g2 : inb (i + (2 : Int32)) L = true) (g3 : inb (i + (3 : Int32)) L = true) (hs : ∀ s t, Rl s t → tot (self (i + (4 : Int32)) s t) (fun _ => True)) : tot (Lw_c17 N L xs self i σ μ) (fun _ => True) := by
  unfold Lw_c17
  refine t_gd g1 (t_gd g2 (t_ob2 (fun _ s => KD [23] [] σ s) (t_mono (D_is_t hN hR.1) (fun q h => h.2)) (fun r s ks => ?_)))
  refine t_gd g1 (t_gd g2 (t_ob2 (fun _ t => KM [0, 22, 23] [] μ t) (t_mono (M_is_t hN hR.2.1) (fun q h => h.2)) (fun r t kt => ?_)))
  exact hs _ _ (Rl_q hR ks kt (by decide) (by decide))
theorem lc18 {N L : Nat} (hN : 8589934592 ≤ N) {xs : Nat → Int32} {self : Int32 → Mem → Mem → Option Unit} {i : Int32} {σ μ : Mem} (hR : Rl σ μ) (g1 : inb (i + (1 : Int32)) L = true) (g2 : inb (i + (2 : Int32)) L = true) (g3 : inb (i + (3 : Int32)) L = true) (hs : ∀ s t, Rl s t → tot (self (i + (4 : Int32)) s t) (fun _ => True)) : tot (Lw_c18 N L xs self i σ μ) (fun _ => True) := by
  unfold Lw_c18
  refine t_gd g1 (t_gd g2 (t_ob2 (fun _ s => KD [21] [] σ s) (t_mono (D_cup_t hN hR.1) (fun q h => h.2)) (fun r s ks => ?_)))
  refine t_gd g1 (t_gd g2 (t_ob2 (fun _ t => KM [0, 24, 26, 27] [] μ t) (t_mono (M_cup_t hN hR.2.1) (fun q h => h)) (fun r t kt => ?_)))
  exact hs _ _ (Rl_q hR ks kt (by decide) (by decide))
theorem lc19 {N L : Nat} (hN : 8589934592 ≤ N) {xs : Nat → Int32} {self : Int32 → Mem → Mem → Option Unit} {i : Int32} {σ μ : Mem} (hR : Rl σ μ) (g1 : inb (i + (1 : Int32)) L = true) (g2 : inb (i + (2 : Int32)) L = true) (g3 : inb (i + (3 : Int32)) L = true) (hs : ∀ s t, Rl s t → tot (self (i + (4 : Int32)) s t) (fun _ => True)) : tot (Lw_c19 N L xs self i σ μ) (fun _ => True) := by
  unfold Lw_c19
  refine t_gd g1 (t_ob2 (fun _ s => KD [21] [] σ s) (t_mono (D_winner_t hN hR.1) (fun q h => h.2)) (fun r s ks => ?_))
  refine t_gd g1 (t_ob2 (fun _ t => KM [0, 26, 27] [] μ t) (t_mono (M_winner_t hN hR.2.1) (fun q h => h)) (fun r t kt => ?_))
  exact hs _ _ (Rl_q hR ks kt (by decide) (by decide))
theorem lc20 {N L : Nat} (hN : 8589934592 ≤ N) {xs : Nat → Int32} {self : Int32 → Mem → Mem → Option Unit} {i : Int32} {σ μ : Mem} (hR : Rl σ μ) (g1 : inb (i + (1 : Int32)) L = true) (g2 : inb (i + (2 : Int32)) L = true) (g3 : inb (i + (3 : Int32)) L = true) (hs : ∀ s t, Rl s t → tot (self (i + (4 : Int32)) s t) (fun _ => True)) : tot (Lw_c20 N L xs self i σ μ) (fun _ => True) := by
  unfold Lw_c20
  obtain ⟨q, q2, e1, e2, hq⟩ := st_Rl_judge hN hR 
  refine ?_
  rw [e1, ob2_s]
  refine ?_
  rw [e2, ob2_s]
  exact hs _ _ hq
theorem lc21 {N L : Nat} (hN : 8589934592 ≤ N) {xs : Nat → Int32} {self : Int32 → Mem → Mem → Option Unit} {i : Int32} {σ μ : Mem} (hR : Rl σ μ) (g1 : inb (i + (1 : Int32)) L = true) (g2 : inb (i + (2 : Int32)) L = true) (g3 : inb (i + (3 : Int32)) L = true) (hs : ∀ s t, Rl s t → tot (self (i + (4 : Int32)) s t) (fun _ => True)) : tot (Lw_c21 N L xs self i σ μ) (fun _ => True) := by
  unfold Lw_c21
  refine t_gd g1 (t_gd g1 (t_ob2 (fun _ t => KM [0] [] μ t) (t_mono (M_judged_t hR.2.1) (fun q h => h.2)) (fun r t kt => ?_)))
  exact hs _ _ (Rl_q hR (kd_r (S := []) (J := []) hR.1) kt (by decide) (by decide))
theorem lc22 {N L : Nat} (hN : 8589934592 ≤ N) {xs : Nat → Int32} {self : Int32 → Mem → Mem → Option Unit} {i : Int32} {σ μ : Mem} (hR : Rl σ μ) (g1 : inb (i + (1 : Int32)) L = true) (g2 : inb (i + (2 : Int32)) L = true) (g3 : inb (i + (3 : Int32)) L = true) (hs : ∀ s t, Rl s t → tot (self (i + (4 : Int32)) s t) (fun _ => True)) : tot (Lw_c22 N L xs self i σ μ) (fun _ => True) := by
  unfold Lw_c22
  refine t_gd g1 (t_gd g2 (t_ob2 (fun _ s => KD dS [] σ s) (t_mono (D_fewest_t hN hR.1) (fun q h => h)) (fun r s ks => ?_)))
  refine t_gd g1 (t_gd g2 (t_ob2 (fun _ t => KM (0 :: mS) [] μ t) (t_mono (M_fewest_t hN hR.2.1) (fun q h => h)) (fun r t kt => ?_)))
  exact hs _ _ (Rl_q hR ks kt (by decide) (by decide))
theorem lc23 {N L : Nat} (hN : 8589934592 ≤ N) {xs : Nat → Int32} {self : Int32 → Mem → Mem → Option Unit} {i : Int32} {σ μ : Mem} (hR : Rl σ μ) (g1 : inb (i + (1 : Int32)) L = true) (g2 : inb (i + (2 : Int32)) L = true) (g3 : inb (i + (3 : Int32)) L = true) (hs : ∀ s t, Rl s t → tot (self (i + (4 : Int32)) s t) (fun _ => True)) : tot (Lw_c23 N L xs self i σ μ) (fun _ => True) := by
  unfold Lw_c23
  refine t_ob2 (fun _ s => KD [27] [] σ s) (t_mono (D_selves_t hN hR.1) (fun q h => h.2)) (fun r s ks => ?_)
  refine t_ob2 (fun _ t => KM [0, 26] [] μ t) (t_mono (M_selves_t hN hR.2.1) (fun q h => h)) (fun r t kt => ?_)
  exact hs _ _ (Rl_q hR ks kt (by decide) (by decide))
theorem lc24 {N L : Nat} (hN : 8589934592 ≤ N) {xs : Nat → Int32} {self : Int32 → Mem → Mem → Option Unit} {i : Int32} {σ μ : Mem} (hR : Rl σ μ) (g1 : inb (i + (1 : Int32)) L = true) (g2 : inb (i + (2 : Int32)) L = true) (g3 : inb (i + (3 : Int32)) L = true) (hs : ∀ s t, Rl s t → tot (self (i + (4 : Int32)) s t) (fun _ => True)) : tot (Lw_c24 N L xs self i σ μ) (fun _ => True) := by
  unfold Lw_c24
  obtain ⟨q, q2, e1, e2, hq⟩ := st_Rl_undo hN hR 
  refine ?_
  rw [e1, ob2_s]
  refine ?_
  rw [e2, ob2_s]
  exact hs _ _ hq
theorem lc25 {N L : Nat} (hN : 8589934592 ≤ N) {xs : Nat → Int32} {self : Int32 → Mem → Mem → Option Unit} {i : Int32} {σ μ : Mem} (hR : Rl σ μ) (g1 : inb (i + (1 : Int32)) L = true) (g2 : inb (i + (2 : Int32)) L = true) (g3 : inb (i + (3 : Int32)) L = true) (hs : ∀ s t, Rl s t → tot (self (i + (4 : Int32)) s t) (fun _ => True)) : tot (Lw_c25 N L xs self i σ μ) (fun _ => True) := by
  unfold Lw_c25
  obtain ⟨q, q2, e1, e2, hq⟩ := st_Rl_keep hN hR (xs (i + (1 : Int32)).toNatClampNeg)
  refine t_gd g1 (?_)
  rw [e1, ob2_s]
  refine t_gd g1 (?_)
  rw [e2, ob2_s]
  exact hs _ _ hq
theorem lc26 {N L : Nat} (hN : 8589934592 ≤ N) {xs : Nat → Int32} {self : Int32 → Mem → Mem → Option Unit} {i : Int32} {σ μ : Mem} (hR : Rl σ μ) (g1 : inb (i + (1 : Int32)) L = true) (g2 : inb (i + (2 : Int32)) L = true) (g3 : inb (i + (3 : Int32)) L = true) (hs : ∀ s t, Rl s t → tot (self (i + (4 : Int32)) s t) (fun _ => True)) : tot (Lw_c26 N L xs self i σ μ) (fun _ => True) := by
  unfold Lw_c26
  obtain ⟨q, q2, e1, e2, hq⟩ := st_Rl_again hN hR (xs (i + (1 : Int32)).toNatClampNeg)
  refine t_gd g1 (?_)
  rw [e1, ob2_s]
  refine t_gd g1 (?_)
  rw [e2, ob2_s]
  exact hs _ _ hq
theorem lc27 {N L : Nat} (hN : 8589934592 ≤ N) {xs : Nat → Int32} {self : Int32 → Mem → Mem → Option Unit} {i : Int32} {σ μ : Mem} (hR : Rl σ μ) (g1 : inb (i + (1 : Int32)) L = true) (g2 : inb (i + (2 : Int32)) L = true) (g3 : inb (i + (3 : Int32)) L = true) (hs : ∀ s t, Rl s t → tot (self (i + (4 : Int32)) s t) (fun _ => True)) : tot (Lw_c27 N L xs self i σ μ) (fun _ => True) := by
  unfold Lw_c27
  refine t_gd g1 (t_gd g2 (t_ob2 (fun _ s => KD [4, 14, 27] [] σ s) (t_mono (D_alike_t hN hR.1) (fun q h => h)) (fun r s ks => ?_)))
  refine t_gd g1 (t_gd g2 (t_ob2 (fun _ t => KM [0, 26] [] μ t) (t_mono (M_alike_t hN hR.2.1) (fun q h => h.2)) (fun r t kt => ?_)))
  exact hs _ _ (Rl_q hR ks kt (by decide) (by decide))
theorem lc28 {N L : Nat} (hN : 8589934592 ≤ N) {xs : Nat → Int32} {self : Int32 → Mem → Mem → Option Unit} {i : Int32} {σ μ : Mem} (hR : Rl σ μ) (g1 : inb (i + (1 : Int32)) L = true) (g2 : inb (i + (2 : Int32)) L = true) (g3 : inb (i + (3 : Int32)) L = true) (hs : ∀ s t, Rl s t → tot (self (i + (4 : Int32)) s t) (fun _ => True)) : tot (Lw_c28 N L xs self i σ μ) (fun _ => True) := by
  unfold Lw_c28
  refine t_gd g1 (t_ob _ (D_count_t hN hR.1) (fun x _ => ?_))
  refine t_gd g1 (t_ob2 (fun _ t => KM [0] [] μ t) (t_mono (M_count_t hN hR.2.1) (fun q h => h.2)) (fun r t kt => ?_))
  exact hs _ _ (Rl_q hR (kd_r (S := []) (J := []) hR.1) kt (by decide) (by decide))
theorem law_ok (L : Nat) (xs : Nat → Int32) (hL : L ≤ 2048) : ∃ N, f_law N L xs σ0 μ0 = some () := by
  have hN : 8589934592 ≤ 8589934592 := Nat.le_refl _
  have h : tot (f_law 8589934592 L xs σ0 μ0) (fun _ => True) := by
    unfold f_law
    refine t_it3 (fun i σ μ => (∃ k, k ≤ 512 ∧ i = nI (4 * k)) ∧ Rl σ μ) (fun i _ _ => 2048 / 4 - i.toNatClampNeg / 4) ?_ _ _ _ _ ⟨⟨0, by decide, rfl⟩, Rl_0⟩ (by rw [n0]; decide)
    rintro self _ σ μ ⟨⟨k, hk, rfl⟩, hR⟩ ih
    unfold Lw_B
    refine t_if (fun _ => t_some trivial) (fun h => ?_)
    have hkL : 4 * k + 4 ≤ L := by
      have e4 : (4 : Int32).toInt = 4 := by decide
      rw [i_lt, i_sub (by rw [nI_toInt (by omega), e4]; omega) (by rw [nI_toInt (by omega), e4]; omega), nI_toInt (by omega), nI_toInt (by omega), e4] at h
      omega
    have g1 : inb (nI (4 * k) + (1 : Int32)) L = true := by rw [nadd1]; exact inb_nI (by omega) (by omega)
    have g2 : inb (nI (4 * k) + (2 : Int32)) L = true := by rw [l2, nI_add]; exact inb_nI (by omega) (by omega)
    have g3 : inb (nI (4 * k) + (3 : Int32)) L = true := by
      have e3 : (3 : Int32) = nI 3 := rfl
      rw [e3, nI_add]; exact inb_nI (by omega) (by omega)
    have hs : ∀ s t, Rl s t → tot (self (nI (4 * k) + (4 : Int32)) s t) (fun _ => True) := fun s t hst => by
      rw [l4, nI_add]
      refine ih _ _ _ ⟨⟨k + 1, by omega, rfl⟩, hst⟩ ?_
      rw [nI_clamp (by omega), nI_clamp (by omega)]
      omega
    refine t_gd (inb_nI (by omega) (by omega)) ?_
    refine t_sw1 (fun _ => lc0 hN hR g1 g2 g3 hs) (fun _ => ?_)
    refine t_sw1 (fun _ => lc1 hN hR g1 g2 g3 hs) (fun _ => ?_)
    refine t_sw1 (fun _ => lc2 hN hR g1 g2 g3 hs) (fun _ => ?_)
    refine t_sw1 (fun _ => lc3 hN hR g1 g2 g3 hs) (fun _ => ?_)
    refine t_sw1 (fun _ => lc4 hN hR g1 g2 g3 hs) (fun _ => ?_)
    refine t_sw1 (fun _ => lc5 hN hR g1 g2 g3 hs) (fun _ => ?_)
    refine t_sw1 (fun _ => lc6 hN hR g1 g2 g3 hs) (fun _ => ?_)
    refine t_sw1 (fun _ => lc7 hN hR g1 g2 g3 hs) (fun _ => ?_)
    refine t_sw1 (fun _ => lc8 hN hR g1 g2 g3 hs) (fun _ => ?_)
    refine t_sw1 (fun _ => lc9 hN hR g1 g2 g3 hs) (fun _ => ?_)
    refine t_sw1 (fun _ => lc10 hN hR g1 g2 g3 hs) (fun _ => ?_)
    refine t_sw1 (fun _ => lc11 hN hR g1 g2 g3 hs) (fun _ => ?_)
    refine t_sw1 (fun _ => lc12 hN hR g1 g2 g3 hs) (fun _ => ?_)
    refine t_sw1 (fun _ => lc13 hN hR g1 g2 g3 hs) (fun _ => ?_)
    refine t_sw1 (fun _ => lc14 hN hR g1 g2 g3 hs) (fun _ => ?_)
    refine t_sw1 (fun _ => lc15 hN hR g1 g2 g3 hs) (fun _ => ?_)
    refine t_sw1 (fun _ => lc16 hN hR g1 g2 g3 hs) (fun _ => ?_)
    refine t_sw1 (fun _ => lc17 hN hR g1 g2 g3 hs) (fun _ => ?_)
    refine t_sw1 (fun _ => lc18 hN hR g1 g2 g3 hs) (fun _ => ?_)
    refine t_sw1 (fun _ => lc19 hN hR g1 g2 g3 hs) (fun _ => ?_)
    refine t_sw1 (fun _ => lc20 hN hR g1 g2 g3 hs) (fun _ => ?_)
    refine t_sw1 (fun _ => lc21 hN hR g1 g2 g3 hs) (fun _ => ?_)
    refine t_sw1 (fun _ => lc22 hN hR g1 g2 g3 hs) (fun _ => ?_)
    refine t_sw1 (fun _ => lc23 hN hR g1 g2 g3 hs) (fun _ => ?_)
    refine t_sw1 (fun _ => lc24 hN hR g1 g2 g3 hs) (fun _ => ?_)
    refine t_sw1 (fun _ => lc25 hN hR g1 g2 g3 hs) (fun _ => ?_)
    refine t_sw1 (fun _ => lc26 hN hR g1 g2 g3 hs) (fun _ => ?_)
    refine t_sw1 (fun _ => lc27 hN hR g1 g2 g3 hs) (fun _ => ?_)
    refine t_sw1 (fun _ => lc28 hN hR g1 g2 g3 hs) (fun _ => ?_)
    exact t_sw0 (hs _ _ hR)
  obtain ⟨u, hu, -⟩ := h
  exact ⟨8589934592, hu⟩
