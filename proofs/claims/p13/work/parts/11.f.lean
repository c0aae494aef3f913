def sh (j : Nat) : Int32 := ([24, 16, 8, 0, -8] : List Int32).getD j 0
theorem addFour_t {N k : Nat} (hN : 60 ≤ N) (hk : k + 4 ≤ 300) (v : Int32) {σ : Mem} (hl : gI σ 1 0 = nI k) : tot (it2 (Sg_addFour_B17 v) N (24 : Int32) σ) (fun q => q.1 = nI (k + 4) ∧ fr [1, 12] [] σ q.2 ∧ gI q.2 1 0 = nI (k + 4)) := by
  refine t_it2 (fun i s => ∃ j, j ≤ 4 ∧ i = sh j ∧ gI s 1 0 = nI (k + j) ∧ fr [1, 12] [] σ s) (fun i _ => (i + 8).toNatClampNeg) ?_ N _ _ ⟨0, by decide, rfl, hl, fr_r _ _ _⟩ (Nat.lt_of_lt_of_le (by decide) hN)
  rintro self _ s ⟨j, hj, rfl, hs, hf⟩ ih
  unfold Sg_addFour_B17
  by_cases hj4 : j = 4
  · subst hj4
    rw [if_pos (by decide)]
    exact t_some ⟨hs, hf, hs⟩
  · have hneg : ¬ sh j < 0 ∧ sh j + -8 = sh (j + 1) ∧ (sh (j + 1) + 8).toNatClampNeg < (sh j + 8).toNatClampNeg := by
      rcases (show j = 0 ∨ j = 1 ∨ j = 2 ∨ j = 3 by omega) with rfl | rfl | rfl | rfl <;> decide
    rw [if_neg hneg.1, hs]
    refine t_gd (inb_nI (by omega) (by decide)) (t_bnd (t_bnd ?_))
    rw [hneg.2.1]
    refine ih _ _ ⟨j + 1, by omega, rfl, ?_, fr_t hf (fr_t (fr_sI (by decide)) (fr_sI (by decide)))⟩ hneg.2.2
    rw [gI_sI, if_pos rfl, upd_ap, if_pos rfl, gI_sI, if_neg (by decide), hs, nadd1]
    rfl
theorem signM_t {N k : Nat} (hN : 60 ≤ N) (hk : k + 4 ≤ 300) (v : Int32) {σ : Mem} (hl : gI σ 7 0 = nI k) : tot (it2 (M_sign_B22 v) N (24 : Int32) σ) (fun q => q.1 = nI (k + 4) ∧ fr [6, 7] [] σ q.2 ∧ gI q.2 7 0 = nI (k + 4)) := by
  refine t_it2 (fun i s => ∃ j, j ≤ 4 ∧ i = sh j ∧ gI s 7 0 = nI (k + j) ∧ fr [6, 7] [] σ s) (fun i _ => (i + 8).toNatClampNeg) ?_ N _ _ ⟨0, by decide, rfl, hl, fr_r _ _ _⟩ (Nat.lt_of_lt_of_le (by decide) hN)
  rintro self _ s ⟨j, hj, rfl, hs, hf⟩ ih
  unfold M_sign_B22
  by_cases hj4 : j = 4
  · subst hj4
    rw [if_pos (by decide)]
    exact t_some ⟨hs, hf, hs⟩
  · have hneg : ¬ sh j < 0 ∧ sh j + -8 = sh (j + 1) ∧ (sh (j + 1) + 8).toNatClampNeg < (sh j + 8).toNatClampNeg := by
      rcases (show j = 0 ∨ j = 1 ∨ j = 2 ∨ j = 3 by omega) with rfl | rfl | rfl | rfl <;> decide
    rw [if_neg hneg.1, hs]
    refine t_gd (inb_nI (by omega) (by decide)) (t_bnd (t_bnd ?_))
    rw [hneg.2.1]
    refine ih _ _ ⟨j + 1, by omega, rfl, ?_, fr_t hf (fr_t (fr_sI (by decide)) (fr_sI (by decide)))⟩ hneg.2.2
    rw [gI_sI, if_pos rfl, upd_ap, if_pos rfl, gI_sI, if_neg (by decide), hs, nadd1]
    rfl
/-- two answers that are the same -/
def two (o : Option (Int32 × Mem)) (p : Option (Int32 × Mem)) : Prop := ∃ r, tot o (fun q => q.1 = r) ∧ tot p (fun q => q.1 = r)
theorem two_eq {o p : Option (Int32 × Mem)} (h : two o p) : ∃ r σ μ, o = some (r, σ) ∧ p = some (r, μ) := by
  obtain ⟨r, ⟨⟨r1, s1⟩, e1, h1⟩, ⟨r2, s2⟩, e2, h2⟩ := h
  cases h1
  cases h2
  exact ⟨_, _, _, e1, e2⟩
theorem two_r (r : Int32) {o p : Option (Int32 × Mem)} (h1 : tot o (fun q => q.1 = r)) (h2 : tot p (fun q => q.1 = r)) : two o p := ⟨r, h1, h2⟩
theorem w0 (v : Int32) : two (f_D_sign 60 v σ0) (f_M_sign 60 v μ0) := by
  refine two_r 4 ?_ ?_
  · unfold f_D_sign f_Sg_addFour
    refine t_ob2 (fun r _ => r = 4) ?_ (fun r t hr => t_some hr)
    rw [s0, if_pos (by decide)]
    exact t_mono (addFour_t (k := 0) (by decide) (by decide) v (s0 1 0)) (fun q h => h.1)
  · unfold f_M_sign
    refine t_bnd ?_
    have e : gI (sI μ0 0 0 0) 7 0 = 0 := by rw [gI_sI, if_neg (by decide)]; exact m0 (by decide)
    rw [e, if_pos (by decide)]
    exact t_mono (signM_t (k := 0) (by decide) (by decide) v e) (fun q h => h.1)
theorem min0 (a lo hi : Int64) : t_M_in a lo hi = 0 ↔ ¬ (lo.toInt ≤ a.toInt ∧ a.toInt ≤ hi.toInt) := by
  rw [min_iff]
  by_cases h : lo.toInt ≤ a.toInt ∧ a.toInt ≤ hi.toInt
  · rw [if_pos h]
    exact ⟨fun e => absurd e (by decide), fun e => absurd h e⟩
  · rw [if_neg h]
    exact ⟨fun _ => h, fun _ => rfl⟩
theorem w1 (a : Int32) : two (f_D_end a σ0) (f_M_end a μ0) := by
  have e : gI (sI μ0 0 0 0) 7 0 = 0 := by rw [gI_sI, if_neg (by decide)]; exact m0 (by decide)
  have q0 : (0 : Int64).toInt = 0 := by decide
  have q1 : (0 : Int32).toInt64.toInt = 0 := by decide
  have q2 : (0 : Int32).toInt = 0 := by decide
  have hM : ∀ r : Int32, (r = if 0 ≤ a.toInt ∧ a.toInt ≤ 0 then 1 else 0) → tot (f_M_end a μ0) (fun q => q.1 = r) := fun r hr => by
    unfold f_M_end
    refine t_bnd ?_
    rw [e]
    refine t_if (fun h => t_some ?_) (fun h => t_bnd (t_some ?_))
    · rw [min0, i64, q0, q1] at h
      rw [hr, if_neg h]
    · rw [min0, i64, q0, q1, Decidable.not_not] at h
      rw [hr, if_pos h]
  have hD : ∀ r : Int32, (r = if 0 ≤ a.toInt ∧ a.toInt ≤ 0 then 1 else 0) → tot (f_D_end a σ0) (fun q => q.1 = r) := fun r hr => by
    unfold f_D_end f_Sg_cutTo
    rw [s0]
    refine t_ob2 (fun x _ => x = r) ?_ (fun x t hx => ?_)
    · refine t_if (fun h => t_some ?_) (fun h => t_if (fun h2 => t_bnd (t_some ?_)) (fun h2 => t_some ?_))
      · rw [Int32.lt_iff_toInt_lt, q2] at h
        rw [hr, if_neg (by omega)]
      · rw [Int32.lt_iff_toInt_lt, q2] at h
        rw [Int32.le_iff_toInt_le, q2] at h2
        rw [hr, if_pos (by omega)]
      · rw [Int32.le_iff_toInt_le, q2] at h2
        rw [hr, if_neg (by omega)]
    · refine t_gd ?_ (t_some hx)
      rw [hx, hr]
      split <;> rfl
  exact two_r _ (hD _ rfl) (hM _ rfl)
set_option maxRecDepth 100000 in
theorem w2a : (f_D_round 60 σ0).map Prod.fst = some (-1000) := by decide +kernel
set_option maxRecDepth 100000 in
theorem w2b : (f_M_round 60 μ0).map Prod.fst = some (-1000) := by decide +kernel
theorem tot_map {o : Option (Int32 × Mem)} {r : Int32} (h : o.map Prod.fst = some r) : tot o (fun q => q.1 = r) := by
  cases o with
  | none => cases h
  | some q => exact ⟨q, rfl, Option.some.inj h⟩
theorem w2 : two (f_D_round 60 σ0) (f_M_round 60 μ0) := two_r (-1000) (tot_map w2a) (tot_map w2b)
theorem w3 (a b : Int32) : two (f_D_drawn 60 a b σ0) (f_M_drawn 60 a b μ0) := by
  have q1 : (1 : Int64).toInt = 1 := by decide
  have q8 : (8 : Int64).toInt = 8 := by decide
  have q0 : (0 : Int64).toInt = 0 := by decide
  have q9 : (999999 : Int64).toInt = 999999 := by decide
  have p1 : (1 : Int32).toInt = 1 := by decide
  have p8 : (8 : Int32).toInt = 8 := by decide
  have p0 : (0 : Int32).toInt = 0 := by decide
  have p9 : (999999 : Int32).toInt = 999999 := by decide
  by_cases hok : (1 ≤ a.toInt ∧ a.toInt ≤ 8) ∧ 0 ≤ b.toInt ∧ b.toInt ≤ 999999
  · obtain ⟨⟨h1, h2⟩, h3, h4⟩ := hok
    obtain ⟨n, hn, rfl⟩ : ∃ n : Nat, n ≤ 8 ∧ a = nI n := nI_of2 (M := 8) (n := 8) (by decide) (by rw [Int32.lt_iff_toInt_lt, p0]; omega) (by rw [Int32.le_iff_toInt_le, p8]; omega)
    have hn1 : 1 ≤ n := by
      rw [nI_toInt (by omega)] at h1
      omega
    refine two_r (nI n) ?_ ?_
    · unfold f_D_drawn
      refine t_if (fun h => absurd h (by rw [Int32.lt_iff_toInt_lt, p1]; omega)) (fun _ => ?_)
      refine t_if (fun h => absurd h (by rw [Int32.lt_iff_toInt_lt, p8]; omega)) (fun _ => ?_)
      refine t_if (fun h => absurd h (by rw [Int32.lt_iff_toInt_lt, p0]; omega)) (fun _ => ?_)
      refine t_if (fun _ => drawnD_t (by decide) hn1 hn b σ0) (fun h => absurd (by rw [Int32.le_iff_toInt_le, p9]; omega) h)
    · unfold f_M_drawn
      refine t_bnd ?_
      refine t_if (fun h => absurd h (by rw [min0, i64, q1, q8]; omega)) (fun _ => ?_)
      refine t_if (fun h => absurd h (by rw [min0, i64, q0, q9]; omega)) (fun _ => drawnM_t (by decide) hn b _)
  · refine two_r (-1) ?_ ?_
    · unfold f_D_drawn
      refine t_if (fun _ => t_some rfl) (fun h1 => ?_)
      refine t_if (fun _ => t_some rfl) (fun h2 => ?_)
      refine t_if (fun _ => t_some rfl) (fun h3 => ?_)
      refine t_if (fun h4 => ?_) (fun _ => t_some rfl)
      rw [Int32.lt_iff_toInt_lt, p1] at h1
      rw [Int32.lt_iff_toInt_lt, p8] at h2
      rw [Int32.lt_iff_toInt_lt, p0] at h3
      rw [Int32.le_iff_toInt_le, p9] at h4
      exact absurd ⟨⟨by omega, by omega⟩, by omega, by omega⟩ hok
    · unfold f_M_drawn
      refine t_bnd ?_
      refine t_if (fun _ => t_some rfl) (fun h1 => ?_)
      refine t_if (fun _ => t_some rfl) (fun h2 => ?_)
      rw [min0, i64, q1, q8, Decidable.not_not] at h1
      rw [min0, i64, q0, q9, Decidable.not_not] at h2
      exact absurd ⟨h1, h2⟩ hok
