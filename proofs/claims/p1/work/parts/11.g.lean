theorem w8 (a : Int32) : two (f_D_drop 60 a σ0) (f_M_drop 60 a μ0) := by
  refine two_r (-2) ?_ ?_
  · unfold f_D_drop
    exact t_if (fun _ => t_some rfl) (fun h => absurd (pD0 _) h)
  · unfold f_M_drop
    exact t_bnd (t_if (fun _ => t_some rfl) (fun h => absurd (pM0 nr1 _) h))
theorem w10 (a b : Int32) : two (f_D_praised 60 a b σ0) (f_M_praised 60 a b μ0) := by
  refine two_r (-1) ?_ ?_
  · unfold f_D_praised
    exact t_if (fun _ => t_some rfl) (fun h => absurd (pD0 _) h)
  · unfold f_M_praised
    exact t_bnd (t_if (fun _ => t_some rfl) (fun h => absurd (pM0 nr1 _) h))
theorem w12 (a b c : Int32) : two (f_D_chain 60 a b c σ0) (f_M_chain 60 a b c μ0) := by
  refine two_r (-1) ?_ ?_
  · unfold f_D_chain
    exact t_if (fun _ => t_some rfl) (fun h => absurd (pD0 _) h)
  · unfold f_M_chain
    exact t_bnd (t_if (fun _ => t_some rfl) (fun h => absurd (sM0 nr1 _) h))
theorem w15 (a b : Int32) : two (f_D_weight 60 a b σ0) (f_M_weight 60 a b μ0) := by
  refine two_r (-2147483648) ?_ ?_
  · unfold f_D_weight
    exact t_if (fun _ => t_some rfl) (fun h => absurd (pD0 _) h)
  · unfold f_M_weight
    exact t_bnd (t_if (fun _ => t_some rfl) (fun h => absurd (pM0 nr1 _) h))
theorem w16 (a b : Int32) : two (f_D_keeps 60 a b σ0) (f_M_keeps 60 a b μ0) := by
  refine two_r (-1) ?_ ?_
  · unfold f_D_keeps
    exact t_if (fun _ => t_some rfl) (fun h => absurd (pD0 _) h)
  · unfold f_M_keeps
    exact t_bnd (t_if (fun _ => t_some rfl) (fun h => absurd (pM0 nr1 _) h))
theorem w18 (a b : Int32) : two (f_D_cup 60 a b σ0) (f_M_cup 60 a b μ0) := by
  refine two_r (-1) ?_ ?_
  · unfold f_D_cup
    exact t_if (fun _ => t_some rfl) (fun h => absurd (pD0 _) h)
  · unfold f_M_cup
    exact t_bnd (t_if (fun _ => t_some rfl) (fun h => absurd (pM0 nr1 _) h))
theorem w22 (a b : Int32) : two (f_D_fewest 60 a b σ0) (f_M_fewest 60 a b μ0) := by
  refine two_r (-1) ?_ ?_
  · unfold f_D_fewest
    exact t_if (fun _ => t_some rfl) (fun h => absurd (pD0 _) h)
  · unfold f_M_fewest
    exact t_bnd (t_if (fun _ => t_some rfl) (fun h => absurd (pM0 nr1 _) h))
theorem w9 (a b : Int32) : two (f_D_set 60 a b σ0) (f_M_set 60 a b μ0) := by
  refine two_r (-1) ?_ ?_
  · unfold f_D_set
    exact t_if (fun _ => t_some rfl) (fun h => absurd (s0 3 0) h)
  · unfold f_M_set
    exact t_bnd (t_if (fun _ => t_some rfl) (fun _ => t_if (fun _ => t_some rfl) (fun h => absurd (sM0 nr1 _) h)))
theorem w11 (a : Int32) : two (f_D_within 60 a σ0) (f_M_within 60 a μ0) := by
  refine two_r (-1) ?_ ?_
  · unfold f_D_within
    exact t_if (fun _ => t_some rfl) (fun h => absurd (s0 3 0) h)
  · unfold f_M_within
    exact t_bnd (t_if (fun _ => t_some rfl) (fun h => absurd (rM0 nr1) h))
theorem w13 (a : Int32) : two (f_D_best 60 a σ0) (f_M_best 60 a μ0) := by
  refine two_r (-1) ?_ ?_
  · unfold f_D_best
    exact t_if (fun _ => t_some rfl) (fun h => absurd (s0 3 0) h)
  · unfold f_M_best
    exact t_bnd (t_if (fun _ => t_some rfl) (fun h => absurd (rM0 nr1) h))
theorem w14 (a : Int32) : two (f_D_byWins 60 a σ0) (f_M_byWins 60 a μ0) := by
  refine two_r (-1) ?_ ?_
  · unfold f_D_byWins
    exact t_if (fun _ => t_some rfl) (fun h => absurd (s0 3 0) h)
  · unfold f_M_byWins
    exact t_bnd (t_if (fun _ => t_some rfl) (fun h => absurd (rM0 nr1) h))
theorem w17 (a b : Int32) : two (f_D_is 60 a b σ0) (f_M_is 60 a b μ0) := by
  refine two_r (-1) ?_ ?_
  · unfold f_D_is
    exact t_if (fun _ => t_some rfl) (fun h => absurd (s0 3 0) h)
  · unfold f_M_is
    exact t_bnd (t_if (fun _ => t_some rfl) (fun h => absurd (sM0 nr1 _) h))
theorem w19 (a : Int32) : two (f_D_winner 60 a σ0) (f_M_winner 60 a μ0) := by
  refine two_r (-1) ?_ ?_
  · unfold f_D_winner
    exact t_if (fun _ => t_some rfl) (fun h => absurd (s0 3 0) h)
  · unfold f_M_winner
    exact t_bnd (t_if (fun _ => t_some rfl) (fun h => absurd (sM0 nr1 _) h))
theorem w23 : two (f_D_selves 60  σ0) (f_M_selves 60  μ0) := by
  refine two_r (-1) ?_ ?_
  · unfold f_D_selves
    exact t_if (fun _ => t_some rfl) (fun h => absurd (s0 3 0) h)
  · unfold f_M_selves
    exact t_bnd (t_if (fun _ => t_some rfl) (fun h => absurd (rM0 nr1) h))
theorem w24 : two (f_D_undo 60  σ0) (f_M_undo 60  μ0) := by
  refine two_r (-2) ?_ ?_
  · unfold f_D_undo
    exact t_if (fun _ => t_some rfl) (fun h => absurd (s0 3 0) h)
  · unfold f_M_undo
    exact t_bnd (t_if (fun _ => t_some rfl) (fun h => absurd (rM0 nr1) h))
theorem w25 (a : Int32) : two (f_D_keep 60 a σ0) (f_M_keep 60 a μ0) := by
  refine two_r (0) ?_ ?_
  · unfold f_D_keep
    exact t_if (fun _ => t_some rfl) (fun h => absurd (s0 3 0) h)
  · unfold f_M_keep
    exact t_bnd (t_if (fun _ => t_some rfl) (fun _ => t_if (fun _ => t_some rfl) (fun h => absurd (rM0 nr1) h)))
theorem w6 (a b : Int32) : two (f_D_turn 60 a b σ0) (f_M_turn 60 a b μ0) := by
  by_cases h : a = b
  · refine two_r (-1) ?_ ?_
    · unfold f_D_turn
      exact t_if (fun _ => t_some rfl) (fun h2 => absurd h h2)
    · unfold f_M_turn
      exact t_bnd (t_if (fun _ => t_some rfl) (fun h2 => absurd h h2))
  · refine two_r (-2) ?_ ?_
    · unfold f_D_turn
      exact t_if (fun h2 => absurd h2 h) (fun _ => t_if (fun _ => t_some rfl) (fun h2 => absurd (pD0 _) h2))
    · unfold f_M_turn
      exact t_bnd (t_if (fun h2 => absurd h2 h) (fun _ => t_if (fun _ => t_some rfl) (fun h2 => absurd (pM0 nr1 _) h2)))
theorem iw0 (a : Int32) : t_M_isWithin a (t_M_all (sI μ0 0 0 0)) = if a = 0 then 1 else 0 := by
  have e : gI (sI μ0 0 0 0) 1 0 = 0 := nr1
  unfold t_M_isWithin t_M_all
  rw [n0, e]
  have h : (a &&& ((((1 : Int32) <<< ((0 : Int32) &&& 31)) - 1) ^^^ -1)) = a := by
    have : ((((1 : Int32) <<< ((0 : Int32) &&& 31)) - 1) ^^^ -1) = -1 := by decide
    rw [this]
    simp
  rw [h]
theorem w7 (a : Int32) : two (f_D_join 60 a σ0) (f_M_join 60 a μ0) := by
  by_cases h : a = 0
  · subst h
    refine two_r (-2) ?_ ?_
    · unfold f_D_join
      exact t_if (fun h => absurd h (by rw [aD0]; decide)) (fun _ => t_if (fun _ => t_some rfl) (fun h => absurd (s0 3 0) h))
    · unfold f_M_join
      exact t_bnd (t_if (fun h => absurd h (by decide)) (fun _ => t_if (fun h => absurd h (by rw [iw0]; decide)) (fun _ => t_if (fun _ => t_some rfl) (fun h => absurd (rM0 nr1) h))))
  · refine two_r (-1) ?_ ?_
    · unfold f_D_join
      exact t_if (fun _ => t_some rfl) (fun h2 => absurd (by rw [aD0, if_neg h]) h2)
    · unfold f_M_join
      exact t_bnd (t_if (fun _ => t_some rfl) (fun _ => t_if (fun _ => t_some rfl) (fun h2 => absurd (by rw [iw0, if_neg h]) h2)))
theorem w20 : two (f_D_judge 60 σ0) (f_M_judge 60 μ0) := by
  refine two_r (-2) ?_ ?_
  · unfold f_D_judge
    refine t_if (fun _ => ?_) (fun h => absurd (s0 3 0) h)
    refine t_ob2 (fun _ _ => True) ?_ (fun _ _ _ => t_some rfl)
    unfold f_Sg_cutTo
    exact t_if (fun _ => t_some trivial) (fun _ => t_if (fun _ => t_bnd (t_some trivial)) (fun _ => t_some trivial))
  · unfold f_M_judge
    exact t_bnd (t_if (fun _ => t_bnd (t_some rfl)) (fun h => absurd (rM0 nr1) h))
theorem kept0 (a : Int32) : tot (f_Pa_isKept a σ0) (fun r => r = 0) := by
  unfold f_Pa_isKept
  refine t_if (fun _ => t_some rfl) (fun h1 => t_if (fun _ => t_some rfl) (fun h2 => ?_))
  have p0 : (0 : Int32).toInt = 0 := by decide
  have p2 : (2 : Int32).toInt = 2 := by decide
  rw [Int32.lt_iff_toInt_lt, p0] at h1
  rw [Int32.le_iff_toInt_le, p2] at h2
  refine t_gd ?_ (t_if (fun _ => t_some rfl) (fun h => absurd (by rw [s0J]; decide) h))
  unfold inb
  simp
  omega
theorem keptM {a : Int32} {r : Int32} {k : Option (Int32 × Mem)} (h : ¬ t_M_in a.toInt64 0 1 = 0) : tot (gd (inb a 2) (if gI (sI μ0 0 0 0) 5 a.toNatClampNeg = 0 then some (r, sI μ0 0 0 0) else k)) (fun q => q.1 = r) := by
  have q0 : (0 : Int64).toInt = 0 := by decide
  have q1 : (1 : Int64).toInt = 1 := by decide
  rw [min0, i64, q0, q1, Decidable.not_not] at h
  refine t_gd ?_ (t_if (fun _ => t_some rfl) (fun h2 => absurd ?_ h2))
  · unfold inb
    simp
    omega
  · rw [gI_sI, if_neg (by decide)]
    exact m0 (by decide)
theorem w26 (a : Int32) : two (f_D_again 60 a σ0) (f_M_again 60 a μ0) := by
  refine two_r 0 ?_ ?_
  · unfold f_D_again
    refine t_ob _ (kept0 a) (fun r hr => ?_)
    exact t_if (fun _ => t_some rfl) (fun h => absurd hr h)
  · unfold f_M_again
    exact t_bnd (t_if (fun _ => t_some rfl) (fun h => keptM h))
theorem w27 (a b : Int32) : two (f_D_alike 60 a b σ0) (f_M_alike 60 a b μ0) := by
  refine two_r (-1) ?_ ?_
  · unfold f_D_alike
    refine t_ob _ (kept0 a) (fun r hr => ?_)
    exact t_if (fun _ => t_some rfl) (fun h => absurd hr h)
  · unfold f_M_alike
    exact t_bnd (t_if (fun _ => t_some rfl) (fun h => keptM h))
/-- an answer alone, and an answer with a memory -/
def twoO (o : Option Int32) (p : Option (Int32 × Mem)) : Prop := ∃ r, o = some r ∧ tot p (fun q => q.1 = r)
theorem twoO_eq {o : Option Int32} {p : Option (Int32 × Mem)} (h : twoO o p) : ∃ r μ, o = some r ∧ p = some (r, μ) := by
  obtain ⟨r, h1, ⟨r2, s2⟩, e2, h2⟩ := h
  cases h2
  exact ⟨_, _, h1, e2⟩
theorem w5 (a b : Int32) : twoO (f_D_beaten a b σ0) (f_M_beaten a b μ0) := by
  refine ⟨-1, ?_, ?_⟩
  · unfold f_D_beaten
    rw [if_pos (pD0 _)]
  · unfold f_M_beaten
    exact t_bnd (t_if (fun _ => t_some rfl) (fun h => absurd (pM0 nr1 _) h))
theorem w21 (a : Int32) : tot (f_M_judged a μ0) (fun q => q.1 = t_D_judged a σ0) := by
  have e : t_D_judged a σ0 = -1 := by
    unfold t_D_judged
    rw [if_pos (s0 8 0)]
  rw [e]
  unfold f_M_judged
  refine t_bnd (t_if (fun _ => t_some rfl) (fun h => absurd ?_ h))
  rw [gI_sI, if_neg (by decide)]
  exact m0 (by decide)
theorem w28 (a : Int32) : twoO (f_D_count 60 a σ0) (f_M_count 60 a μ0) := by
  by_cases h0 : a = 0
  · subst h0
    exact ⟨0, rfl, tot_map rfl⟩
  by_cases h1 : a = 1
  · subst h1
    exact ⟨0, rfl, tot_map rfl⟩
  by_cases h2 : a = 2
  · subst h2
    exact ⟨0, rfl, tot_map rfl⟩
  by_cases h3 : a = 3
  · subst h3
    exact ⟨0, rfl, tot_map rfl⟩
  by_cases h4 : a = 4
  · subst h4
    exact ⟨0, rfl, tot_map rfl⟩
  by_cases h5 : a = 5
  · subst h5
    exact ⟨0, rfl, tot_map rfl⟩
  refine ⟨-1, ?_, ?_⟩
  · unfold f_D_count swc
    simp only [swc, h0, h1, h2, h3, h4, h5, if_false]
  · unfold f_M_count
    refine t_bnd ?_
    simp only [swc, h0, h1, h2, h3, h4, h5, if_false]
    exact t_some rfl
theorem w4a (a b c : Int32) : f_D_duel 60 a b c σ0 = some none := by
  unfold f_D_duel
  rw [if_pos (pD0 _)]
theorem w4b (a b c : Int32) : tot (f_M_duel 60 a b c μ0) (fun q => t_M_thrown q.2 = 1) := by
  unfold f_M_duel
  refine t_if (fun _ => ?_) (fun h => absurd (pM0 (m0 (by decide)) _) h)
  unfold M_duel_J26 M_duel_J27
  refine t_bnd (t_if (fun _ => t_some rfl) (fun h => absurd rfl h))
theorem g1 : inb ((0 : Int32) + 1) 4 = true := by decide
theorem g2 : inb ((0 : Int32) + 2) 4 = true := by decide
theorem g3 : inb ((0 : Int32) + 3) 4 = true := by decide
section Cases
variable {xs : Nat → Int32} {self : Int32 → Mem → Mem → Option Unit}
theorem cs0 (hs : ∀ σ μ, self ((0 : Int32) + 4) σ μ = some ()) : Lw_c0 60 4 xs self 0 σ0 μ0 = some () := by
  obtain ⟨r, t1, t2, e1, e2⟩ := two_eq (w0 (xs ((0 : Int32) + 1).toNatClampNeg))
  unfold Lw_c0
  simp only [gd, g1, g2, g3, e1, e2, ob_s, ob2_s, hs, if_true]
theorem cs1 (hs : ∀ σ μ, self ((0 : Int32) + 4) σ μ = some ()) : Lw_c1 60 4 xs self 0 σ0 μ0 = some () := by
  obtain ⟨r, t1, t2, e1, e2⟩ := two_eq (w1 (xs ((0 : Int32) + 1).toNatClampNeg))
  unfold Lw_c1
  simp only [gd, g1, g2, g3, e1, e2, ob_s, ob2_s, hs, if_true]
theorem cs2 (hs : ∀ σ μ, self ((0 : Int32) + 4) σ μ = some ()) : Lw_c2 60 4 xs self 0 σ0 μ0 = some () := by
  obtain ⟨r, t1, t2, e1, e2⟩ := two_eq (w2)
  unfold Lw_c2
  simp only [gd, g1, g2, g3, e1, e2, ob_s, ob2_s, hs, if_true]
theorem cs3 (hs : ∀ σ μ, self ((0 : Int32) + 4) σ μ = some ()) : Lw_c3 60 4 xs self 0 σ0 μ0 = some () := by
  obtain ⟨r, t1, t2, e1, e2⟩ := two_eq (w3 (xs ((0 : Int32) + 1).toNatClampNeg) (xs ((0 : Int32) + 2).toNatClampNeg))
  unfold Lw_c3
  simp only [gd, g1, g2, g3, e1, e2, ob_s, ob2_s, hs, if_true]
theorem cs4 (hs : ∀ σ μ, self ((0 : Int32) + 4) σ μ = some ()) : Lw_c4 60 4 xs self 0 σ0 μ0 = some () := by
  obtain ⟨⟨r, t2⟩, e1, e2⟩ := w4b (xs ((0 : Int32) + 1).toNatClampNeg) (xs ((0 : Int32) + 2).toNatClampNeg) (xs ((0 : Int32) + 3).toNatClampNeg)
  have e3 : t_M_thrown t2 = 1 := e2
  unfold Lw_c4
  simp only [gd, g1, g2, g3, e1, w4a, ob_s, ob2_s, e3, dK, hs, if_true]
  rw [if_neg (by decide)]
theorem cs5 (hs : ∀ σ μ, self ((0 : Int32) + 4) σ μ = some ()) : Lw_c5 60 4 xs self 0 σ0 μ0 = some () := by
  obtain ⟨r, t2, e1, e2⟩ := twoO_eq (w5 (xs ((0 : Int32) + 1).toNatClampNeg) (xs ((0 : Int32) + 2).toNatClampNeg))
  unfold Lw_c5
  simp only [gd, g1, g2, g3, e1, e2, ob_s, ob2_s, hs, if_true]
theorem cs6 (hs : ∀ σ μ, self ((0 : Int32) + 4) σ μ = some ()) : Lw_c6 60 4 xs self 0 σ0 μ0 = some () := by
  obtain ⟨r, t1, t2, e1, e2⟩ := two_eq (w6 (xs ((0 : Int32) + 1).toNatClampNeg) (xs ((0 : Int32) + 2).toNatClampNeg))
  unfold Lw_c6
  simp only [gd, g1, g2, g3, e1, e2, ob_s, ob2_s, hs, if_true]
theorem cs7 (hs : ∀ σ μ, self ((0 : Int32) + 4) σ μ = some ()) : Lw_c7 60 4 xs self 0 σ0 μ0 = some () := by
  obtain ⟨r, t1, t2, e1, e2⟩ := two_eq (w7 (xs ((0 : Int32) + 1).toNatClampNeg))
  unfold Lw_c7
  simp only [gd, g1, g2, g3, e1, e2, ob_s, ob2_s, hs, if_true]
theorem cs8 (hs : ∀ σ μ, self ((0 : Int32) + 4) σ μ = some ()) : Lw_c8 60 4 xs self 0 σ0 μ0 = some () := by
  obtain ⟨r, t1, t2, e1, e2⟩ := two_eq (w8 (xs ((0 : Int32) + 1).toNatClampNeg))
  unfold Lw_c8
  simp only [gd, g1, g2, g3, e1, e2, ob_s, ob2_s, hs, if_true]
theorem cs9 (hs : ∀ σ μ, self ((0 : Int32) + 4) σ μ = some ()) : Lw_c9 60 4 xs self 0 σ0 μ0 = some () := by
  obtain ⟨r, t1, t2, e1, e2⟩ := two_eq (w9 (xs ((0 : Int32) + 1).toNatClampNeg) (xs ((0 : Int32) + 2).toNatClampNeg))
  unfold Lw_c9
  simp only [gd, g1, g2, g3, e1, e2, ob_s, ob2_s, hs, if_true]
theorem cs10 (hs : ∀ σ μ, self ((0 : Int32) + 4) σ μ = some ()) : Lw_c10 60 4 xs self 0 σ0 μ0 = some () := by
  obtain ⟨r, t1, t2, e1, e2⟩ := two_eq (w10 (xs ((0 : Int32) + 1).toNatClampNeg) (xs ((0 : Int32) + 2).toNatClampNeg))
  unfold Lw_c10
  simp only [gd, g1, g2, g3, e1, e2, ob_s, ob2_s, hs, if_true]
theorem cs11 (hs : ∀ σ μ, self ((0 : Int32) + 4) σ μ = some ()) : Lw_c11 60 4 xs self 0 σ0 μ0 = some () := by
  obtain ⟨r, t1, t2, e1, e2⟩ := two_eq (w11 (xs ((0 : Int32) + 1).toNatClampNeg))
  unfold Lw_c11
  simp only [gd, g1, g2, g3, e1, e2, ob_s, ob2_s, hs, if_true]
theorem cs12 (hs : ∀ σ μ, self ((0 : Int32) + 4) σ μ = some ()) : Lw_c12 60 4 xs self 0 σ0 μ0 = some () := by
  obtain ⟨r, t1, t2, e1, e2⟩ := two_eq (w12 (xs ((0 : Int32) + 1).toNatClampNeg) (xs ((0 : Int32) + 2).toNatClampNeg) (xs ((0 : Int32) + 3).toNatClampNeg))
  unfold Lw_c12
  simp only [gd, g1, g2, g3, e1, e2, ob_s, ob2_s, hs, if_true]
theorem cs13 (hs : ∀ σ μ, self ((0 : Int32) + 4) σ μ = some ()) : Lw_c13 60 4 xs self 0 σ0 μ0 = some () := by
  obtain ⟨r, t1, t2, e1, e2⟩ := two_eq (w13 (xs ((0 : Int32) + 1).toNatClampNeg))
  unfold Lw_c13
  simp only [gd, g1, g2, g3, e1, e2, ob_s, ob2_s, hs, if_true]
theorem cs14 (hs : ∀ σ μ, self ((0 : Int32) + 4) σ μ = some ()) : Lw_c14 60 4 xs self 0 σ0 μ0 = some () := by
  obtain ⟨r, t1, t2, e1, e2⟩ := two_eq (w14 (xs ((0 : Int32) + 1).toNatClampNeg))
  unfold Lw_c14
  simp only [gd, g1, g2, g3, e1, e2, ob_s, ob2_s, hs, if_true]
theorem cs15 (hs : ∀ σ μ, self ((0 : Int32) + 4) σ μ = some ()) : Lw_c15 60 4 xs self 0 σ0 μ0 = some () := by
  obtain ⟨r, t1, t2, e1, e2⟩ := two_eq (w15 (xs ((0 : Int32) + 1).toNatClampNeg) (xs ((0 : Int32) + 2).toNatClampNeg))
  unfold Lw_c15
  simp only [gd, g1, g2, g3, e1, e2, ob_s, ob2_s, hs, if_true]
theorem cs16 (hs : ∀ σ μ, self ((0 : Int32) + 4) σ μ = some ()) : Lw_c16 60 4 xs self 0 σ0 μ0 = some () := by
  obtain ⟨r, t1, t2, e1, e2⟩ := two_eq (w16 (xs ((0 : Int32) + 1).toNatClampNeg) (xs ((0 : Int32) + 2).toNatClampNeg))
  unfold Lw_c16
  simp only [gd, g1, g2, g3, e1, e2, ob_s, ob2_s, hs, if_true]
theorem cs17 (hs : ∀ σ μ, self ((0 : Int32) + 4) σ μ = some ()) : Lw_c17 60 4 xs self 0 σ0 μ0 = some () := by
  obtain ⟨r, t1, t2, e1, e2⟩ := two_eq (w17 (xs ((0 : Int32) + 1).toNatClampNeg) (xs ((0 : Int32) + 2).toNatClampNeg))
  unfold Lw_c17
  simp only [gd, g1, g2, g3, e1, e2, ob_s, ob2_s, hs, if_true]
theorem cs18 (hs : ∀ σ μ, self ((0 : Int32) + 4) σ μ = some ()) : Lw_c18 60 4 xs self 0 σ0 μ0 = some () := by
  obtain ⟨r, t1, t2, e1, e2⟩ := two_eq (w18 (xs ((0 : Int32) + 1).toNatClampNeg) (xs ((0 : Int32) + 2).toNatClampNeg))
  unfold Lw_c18
  simp only [gd, g1, g2, g3, e1, e2, ob_s, ob2_s, hs, if_true]
theorem cs19 (hs : ∀ σ μ, self ((0 : Int32) + 4) σ μ = some ()) : Lw_c19 60 4 xs self 0 σ0 μ0 = some () := by
  obtain ⟨r, t1, t2, e1, e2⟩ := two_eq (w19 (xs ((0 : Int32) + 1).toNatClampNeg))
  unfold Lw_c19
  simp only [gd, g1, g2, g3, e1, e2, ob_s, ob2_s, hs, if_true]
theorem cs20 (hs : ∀ σ μ, self ((0 : Int32) + 4) σ μ = some ()) : Lw_c20 60 4 xs self 0 σ0 μ0 = some () := by
  obtain ⟨r, t1, t2, e1, e2⟩ := two_eq (w20)
  unfold Lw_c20
  simp only [gd, g1, g2, g3, e1, e2, ob_s, ob2_s, hs, if_true]
theorem cs21 (hs : ∀ σ μ, self ((0 : Int32) + 4) σ μ = some ()) : Lw_c21 60 4 xs self 0 σ0 μ0 = some () := by
  obtain ⟨⟨r, t2⟩, e1, e2⟩ := w21 (xs ((0 : Int32) + 1).toNatClampNeg)
  unfold Lw_c21
  have e3 : t_D_judged (xs ((0 : Int32) + 1).toNatClampNeg) σ0 = r := e2.symm
  simp only [gd, g1, g2, g3, e1, ob_s, ob2_s, e3, hs, if_true]
theorem cs22 (hs : ∀ σ μ, self ((0 : Int32) + 4) σ μ = some ()) : Lw_c22 60 4 xs self 0 σ0 μ0 = some () := by
  obtain ⟨r, t1, t2, e1, e2⟩ := two_eq (w22 (xs ((0 : Int32) + 1).toNatClampNeg) (xs ((0 : Int32) + 2).toNatClampNeg))
  unfold Lw_c22
  simp only [gd, g1, g2, g3, e1, e2, ob_s, ob2_s, hs, if_true]
theorem cs23 (hs : ∀ σ μ, self ((0 : Int32) + 4) σ μ = some ()) : Lw_c23 60 4 xs self 0 σ0 μ0 = some () := by
  obtain ⟨r, t1, t2, e1, e2⟩ := two_eq (w23)
  unfold Lw_c23
  simp only [gd, g1, g2, g3, e1, e2, ob_s, ob2_s, hs, if_true]
theorem cs24 (hs : ∀ σ μ, self ((0 : Int32) + 4) σ μ = some ()) : Lw_c24 60 4 xs self 0 σ0 μ0 = some () := by
  obtain ⟨r, t1, t2, e1, e2⟩ := two_eq (w24)
  unfold Lw_c24
  simp only [gd, g1, g2, g3, e1, e2, ob_s, ob2_s, hs, if_true]
theorem cs25 (hs : ∀ σ μ, self ((0 : Int32) + 4) σ μ = some ()) : Lw_c25 60 4 xs self 0 σ0 μ0 = some () := by
  obtain ⟨r, t1, t2, e1, e2⟩ := two_eq (w25 (xs ((0 : Int32) + 1).toNatClampNeg))
  unfold Lw_c25
  simp only [gd, g1, g2, g3, e1, e2, ob_s, ob2_s, hs, if_true]
theorem cs26 (hs : ∀ σ μ, self ((0 : Int32) + 4) σ μ = some ()) : Lw_c26 60 4 xs self 0 σ0 μ0 = some () := by
  obtain ⟨r, t1, t2, e1, e2⟩ := two_eq (w26 (xs ((0 : Int32) + 1).toNatClampNeg))
  unfold Lw_c26
  simp only [gd, g1, g2, g3, e1, e2, ob_s, ob2_s, hs, if_true]
theorem cs27 (hs : ∀ σ μ, self ((0 : Int32) + 4) σ μ = some ()) : Lw_c27 60 4 xs self 0 σ0 μ0 = some () := by
  obtain ⟨r, t1, t2, e1, e2⟩ := two_eq (w27 (xs ((0 : Int32) + 1).toNatClampNeg) (xs ((0 : Int32) + 2).toNatClampNeg))
  unfold Lw_c27
  simp only [gd, g1, g2, g3, e1, e2, ob_s, ob2_s, hs, if_true]
theorem cs28 (hs : ∀ σ μ, self ((0 : Int32) + 4) σ μ = some ()) : Lw_c28 60 4 xs self 0 σ0 μ0 = some () := by
  obtain ⟨r, t2, e1, e2⟩ := twoO_eq (w28 (xs ((0 : Int32) + 1).toNatClampNeg))
  unfold Lw_c28
  simp only [gd, g1, g2, g3, e1, e2, ob_s, ob2_s, hs, if_true]
end Cases
theorem swc_u {x : Int32} : ∀ {cs : List (Int32 × Option Unit)} {d : Option Unit}, (∀ q ∈ cs, q.2 = some ()) → d = some () → swc x cs d = some ()
  | [], _, _, hd => hd
  | (v, a) :: t, d, h, hd => by
    unfold swc
    split
    · exact h (v, a) List.mem_cons_self
    · exact swc_u (fun q hq => h q (List.mem_cons_of_mem _ hq)) hd
theorem law_ok (L : Nat) (xs : Nat → Int32) (hL : L ≤ 4) : ∃ N, f_law N L xs σ0 μ0 = some () := by
  refine ⟨60, ?_⟩
  unfold f_law
  show Lw_B 60 L xs (it3 (Lw_B 60 L xs) 512) 0 σ0 μ0 = some ()
  by_cases h4 : L = 4
  · subst h4
    have hs : ∀ σ μ, it3 (Lw_B 60 4 xs) 512 ((0 : Int32) + 4) σ μ = some () := fun σ μ => by
      show Lw_B 60 4 xs (it3 (Lw_B 60 4 xs) 511) ((0 : Int32) + 4) σ μ = some ()
      unfold Lw_B
      rw [if_pos (by decide)]
    generalize it3 (Lw_B 60 4 xs) 512 = self at hs ⊢
    unfold Lw_B
    rw [if_neg (by decide), gd_t (by decide)]
    refine swc_u ?_ (hs _ _)
    simp only [List.forall_mem_cons]
    exact ⟨cs0 hs, cs1 hs, cs2 hs, cs3 hs, cs4 hs, cs5 hs, cs6 hs, cs7 hs, cs8 hs, cs9 hs, cs10 hs, cs11 hs, cs12 hs, cs13 hs, cs14 hs, cs15 hs, cs16 hs, cs17 hs, cs18 hs, cs19 hs, cs20 hs, cs21 hs, cs22 hs, cs23 hs, cs24 hs, cs25 hs, cs26 hs, cs27 hs, cs28 hs, fun _ h => absurd h List.not_mem_nil⟩
  · unfold Lw_B
    rw [if_pos]
    rcases (show L = 0 ∨ L = 1 ∨ L = 2 ∨ L = 3 by omega) with rfl | rfl | rfl | rfl <;> decide
