/-! the reference: winner, best -/
def c1 (x : Int32) : Nat → Nat
  | 0 => 0
  | k + 1 => c1 x k + b1 (bt x k)
theorem c1_up (x : Int32) (k : Nat) : ∀ d, c1 x (k + d) ≤ c1 x k + d
  | 0 => Nat.le_refl _
  | d + 1 => by
    have h := c1_up x k d
    have h2 := b1_le (bt x (k + d))
    show c1 x (k + d) + b1 (bt x (k + d)) ≤ _
    omega
theorem c1_mo (x : Int32) (k : Nat) : ∀ d, c1 x k ≤ c1 x (k + d)
  | 0 => Nat.le_refl _
  | d + 1 => by
    have h := c1_mo x k d
    show _ ≤ c1 x (k + d) + b1 (bt x (k + d))
    omega
theorem c1_le (x : Int32) (k : Nat) : c1 x k ≤ k := by
  have := c1_up x 0 k
  rw [Nat.zero_add] at this
  exact Nat.le_trans this (by show 0 + k ≤ k; omega)
theorem M_winner_t {N : Nat} (hN : 8589934592 ≤ N) {a1 : Int32} {σ : Mem} (hm : InvM σ) : tot (f_M_winner N a1 σ) (fun q => KM [0, 26, 27] [] σ q.2) := by
  unfold f_M_winner
  refine t_lm (KM [0, 26, 27] [] σ) (km_s (km_r hm) (by decide) (mS0 hm)) (fun s1 e1 k1 => ?_)
  refine t_if (fun _ => t_some k1) (fun h1 => t_if (fun _ => t_some k1) (fun h2 => ?_))
  obtain ⟨n, hn, -, hn8, -⟩ := rg_ex k1.1.n1 (by decide)
  refine t_it3 (fun i5 i6 s => (∃ r, r ≤ 2 ∧ i6 = nI r ∧ (r = 0 → i5 = nI 0) ∧ (r = 1 → i5 = nI (c1 a1 n))) ∧ KM [0, 26, 27] [] σ s ∧ gI s 1 0 = nI n) (fun _ i6 _ => 2 - i6.toNatClampNeg) ?_ _ _ _ _ ⟨⟨0, by decide, rfl, fun _ => rfl, fun h => (by cases h)⟩, k1, hn⟩ (by rw [n0]; omega)
  rintro self i5 _ s ⟨⟨r, hr, rfl, h50, h51⟩, ks, hs⟩ ih
  unfold M_winner_B32
  refine t_if (fun h => ?_) (fun h => ?_)
  · unfold M_winner_K90
    refine t_ob2 (fun r u => rg 0 7 r ∧ KM [27] [] s u) (M_wins_t hN ks.1) (fun r4 s3 ⟨_, k3⟩ => t_some (km_t ks k3 (by decide) (by decide)))
  · have hr2 : r < 2 := by
      rw [l2, nle (by decide) (by omega)] at h
      omega
    have dec1 : 2 - (nI (r + 1)).toNatClampNeg < 2 - (nI r).toNatClampNeg := by
      rw [nI_clamp (by omega), nI_clamp (by omega)]
      omega
    refine t_it3 (fun i9 i10 s => (∃ k, k ≤ n ∧ i10 = nI k ∧ (r = 0 → i9 = nI (c1 a1 k)) ∧ (r = 1 → i9 = nI (c1 a1 n + k - c1 a1 k))) ∧ KM [0, 26, 27] [] σ s ∧ gI s 1 0 = nI n) (fun _ i10 _ => 8 - i10.toNatClampNeg) ?_ _ _ _ _ ⟨⟨0, by omega, rfl, h50, fun e => by rw [h51 e]; rfl⟩, ks, hs⟩ (by rw [n0]; omega)
    rintro self2 i9 _ t ⟨⟨k, hk, rfl, h90, h91⟩, kt, ht⟩ ih2
    unfold M_winner_B40
    rw [many_e ht]
    refine t_if (fun h3 => ?_) (fun h3 => ?_)
    · have hkn : k = n := by
        rw [nle (by omega) (by omega)] at h3
        omega
      rw [nadd1]
      refine ih _ _ _ ⟨⟨r + 1, by omega, rfl, fun e => by omega, fun e => ?_⟩, kt, ht⟩ dec1
      rw [h90 (by omega), hkn]
    · have hkn : k < n := by
        rw [nle (by omega) (by omega)] at h3
        omega
      have dec2 : 8 - (nI (k + 1)).toNatClampNeg < 8 - (nI k).toNatClampNeg := by
        rw [nI_clamp (by omega), nI_clamp (by omega)]
        omega
      have hk7 : rg 0 7 (nI k) := nI_rg (by omega) (by omega)
      have cs : c1 a1 (k + 1) = c1 a1 k + b1 (bt a1 k) := rfl
      have cu := c1_up a1 (k + 1) (n - (k + 1))
      have cl := c1_mo a1 (k + 1) (n - (k + 1))
      have ek : k + 1 + (n - (k + 1)) = n := by omega
      rw [ek] at cu cl
      have cle := c1_le a1 k
      have cln := c1_le a1 n
      by_cases hr0 : r = 0
      · subst hr0
        rw [if_pos (by decide)]
        unfold M_winner_J64
        rw [has_bt (by omega), nadd1, h90 rfl]
        refine t_if (fun hb => ?_) (fun hb => ?_)
        · have hb' : bt a1 k = true := by
            cases e : bt a1 k
            · rw [e] at hb; exact absurd hb (by decide)
            · rfl
          rw [hb'] at cs
          have cs : c1 a1 (k + 1) = c1 a1 k + 1 := cs
          refine t_gd (inb_nI (by omega) (by decide)) ?_
          refine t_lm (KM [0, 26, 27] [] σ) (km_s kt (by decide) (mS26 kt.1 hk7)) (fun u eu ku => ?_)
          rw [nadd1]
          refine ih2 _ _ _ ⟨⟨k + 1, by omega, rfl, fun _ => by rw [cs], fun e => (by cases e)⟩, ku, ?_⟩ dec2
          rw [eu, gI_sI, if_neg (by decide)]
          exact ht
        · have hb' : bt a1 k = false := by
            cases e : bt a1 k
            · rfl
            · rw [e] at hb; exact absurd rfl hb
          rw [hb'] at cs
          have cs : c1 a1 (k + 1) = c1 a1 k + 0 := cs
          exact ih2 _ _ _ ⟨⟨k + 1, by omega, rfl, fun _ => by rw [cs]; rfl, fun e => (by cases e)⟩, kt, ht⟩ dec2
      · have hr1 : r = 1 := by omega
        subst hr1
        rw [if_neg (by decide)]
        unfold M_winner_J64
        rw [has_bt (by omega), nadd1, h91 rfl]
        refine t_if (fun hb => ?_) (fun hb => ?_)
        · have hb' : bt a1 k = false := by
            cases e : bt a1 k
            · rfl
            · rw [e] at hb; exact absurd hb (by decide)
          rw [hb'] at cs
          have cs : c1 a1 (k + 1) = c1 a1 k + 0 := cs
          refine t_gd (inb_nI (by omega) (by decide)) ?_
          refine t_lm (KM [0, 26, 27] [] σ) (km_s kt (by decide) (mS26 kt.1 hk7)) (fun u eu ku => ?_)
          rw [nadd1]
          refine ih2 _ _ _ ⟨⟨k + 1, by omega, rfl, fun e => (by cases e), fun _ => ?_⟩, ku, ?_⟩ dec2
          · congr 1
            omega
          · rw [eu, gI_sI, if_neg (by decide)]
            exact ht
        · have hb' : bt a1 k = true := by
            cases e : bt a1 k
            · rw [e] at hb; exact absurd rfl hb
            · rfl
          rw [hb'] at cs
          have cs : c1 a1 (k + 1) = c1 a1 k + 1 := cs
          refine ih2 _ _ _ ⟨⟨k + 1, by omega, rfl, fun e => (by cases e), fun _ => ?_⟩, kt, ht⟩ dec2
          congr 1
          omega
