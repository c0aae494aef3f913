theorem startWithSpare_t {N n : Nat} (hN : 20 ≤ N) (hn : n ≤ 8) {σ : Mem} (hp : gI σ 4 0 = nI n) : tot (f_D_startWithSpare N σ) (fun q => q.1 = nI n) := by
  unfold f_D_startWithSpare
  refine t_ob _ (packedS_t hN hn hp) (fun r hr => ?_)
  obtain ⟨B, rfl⟩ := hr
  refine t_ob _ (unpackN_t hN hn (low15 B (by omega)) σ) (fun s2 h2 => ?_)
  refine t_ob _ (forgetAll_t hN s2) (fun s3 h3 => ?_)
  refine t_some ?_
  show gI s3 3 0 = nI n
  rw [h3.1 3 (by decide)]
  exact h2.2
theorem drawnD_t {N n : Nat} (hN : 20 ≤ N) (h1 : 1 ≤ n) (hn : n ≤ 8) (a2 : Int32) (σ : Mem) : tot (ob (f_Du_clearS N σ) fun s1 => bnd (sI s1 4 0 (nI n)) fun s2 => it3 (D_drawn_B43 N (nI n)) N a2 (0 : Int32) s2) (fun q => q.1 = nI n) := by
  refine t_ob _ (clearS_t hN σ) (fun s1 hs1 => t_bnd ?_)
  refine t_it3 (fun _ i s => (∃ k, k ≤ n ∧ i = nI k) ∧ gI s 4 0 = nI n) (fun _ i _ => n - i.toNatClampNeg) ?_ N _ _ _ ⟨⟨0, by omega, rfl⟩, ?_⟩ (by rw [n0]; omega)
  · rintro self a _ s ⟨⟨k, hk, rfl⟩, hp⟩ ih
    unfold D_drawn_B43
    refine t_if (fun _ => ?_) (fun h => ?_)
    · unfold D_drawn_K117
      refine t_ob2 (fun r _ => r = nI n) (startWithSpare_t hN hn hp) (fun r t hr => t_some hr)
    · have hkn : k < n := by
        rw [nle (by omega) (by omega)] at h
        omega
      refine t_bnd ?_
      rw [nadd1]
      refine t_it3 (fun _ i s => (∃ j, k < j ∧ j ≤ n ∧ i = nI j) ∧ gI s 4 0 = nI n) (fun _ i _ => n - i.toNatClampNeg) ?_ N _ _ _ ⟨⟨k + 1, by omega, by omega, rfl⟩, hp⟩ (by rw [nI_clamp (by omega)]; omega)
      rintro self2 a' _ s2 ⟨⟨j, hj1, hj, rfl⟩, hp2⟩ ih2
      unfold D_drawn_B55
      refine t_if (fun _ => ?_) (fun h2 => ?_)
      · rw [nadd1]
        refine ih _ _ _ ⟨⟨k + 1, by omega, rfl⟩, hp2⟩ ?_
        rw [nI_clamp (by omega), nI_clamp (by omega)]
        omega
      · have hjn : j < n := by
          rw [nle (by omega) (by omega)] at h2
          omega
        refine t_bnd (t_if (fun _ => ?_) (fun _ => ?_))
        · refine t_ob _ (letBeatS_t (by omega) (by omega) s2) (fun s3 h3 => ?_)
          rw [nadd1]
          refine ih2 _ _ _ ⟨⟨j + 1, by omega, by omega, rfl⟩, by rw [h3.1 4 (by decide)]; exact hp2⟩ ?_
          rw [nI_clamp (by omega), nI_clamp (by omega)]
          omega
        · refine t_ob _ (letBeatS_t (by omega) (by omega) s2) (fun s3 h3 => ?_)
          rw [nadd1]
          refine ih2 _ _ _ ⟨⟨j + 1, by omega, by omega, rfl⟩, by rw [h3.1 4 (by decide)]; exact hp2⟩ ?_
          rw [nI_clamp (by omega), nI_clamp (by omega)]
          omega
  · rw [gI_sI, if_pos rfl, upd_ap, if_pos rfl]
theorem begin_t {N : Nat} (hN : 20 ≤ N) (a : Int32) (σ : Mem) : tot (f_M_begin N a σ) (fun τ => fr [1, 3, 5] [] σ τ ∧ gI τ 1 0 = a ∧ gI τ 3 0 = 0 ∧ gI τ 5 0 = 0 ∧ gI τ 5 1 = 0 ∧ ∀ k, 1 ≤ k → k < 9 → gI τ 1 k = 0) := by
  unfold f_M_begin
  refine t_bnd ?_
  refine t_it2 (fun i s => ∃ k, k ≤ 8 ∧ i = nI k ∧ fr [1, 3, 5] [] σ s ∧ gI s 1 0 = a ∧ ∀ j, 1 ≤ j → j < k + 1 → gI s 1 j = 0) (fun i _ => 8 - i.toNatClampNeg) ?_ N _ _ ⟨0, by decide, rfl, fr_sI (by decide), ?_, fun j h1 h2 => by omega⟩ (by rw [n0]; omega)
  · rintro self _ s ⟨k, hk, rfl, hf, h0, hz⟩ ih
    unfold M_begin_B9
    refine t_if (fun h => ?_) (fun h => ?_)
    · unfold M_begin_K30
      have hk8 : k = 8 := by
        rw [l8, nle (by decide) (by omega)] at h
        omega
      refine t_bnd (t_bnd (t_bnd (t_some ⟨?_, ?_, ?_, ?_, ?_, ?_⟩)))
      · exact fr_t hf (fr_t (fr_sI (by decide)) (fr_t (fr_sI (by decide)) (fr_sI (by decide))))
      · exact h0
      · rfl
      · rfl
      · rfl
      · exact fun j h1 h2 => hz j h1 (by omega)
    · have hk8 : k < 8 := by
        rw [l8, nle (by decide) (by omega)] at h
        omega
      rw [n1add]
      refine t_gd (inb_nI (by omega) (by decide)) (t_bnd ?_)
      rw [nadd1, nI_clamp (by omega)]
      refine ih _ _ ⟨k + 1, by omega, rfl, fr_t hf (fr_sI (by decide)), ?_, ?_⟩ ?_
      · rw [gI_sI, if_pos rfl, upd_ap, if_neg (by omega)]
        exact h0
      · intro j h1 h2
        rw [gI_sI, if_pos rfl, upd_ap]
        by_cases hj : j = 1 + k
        · rw [if_pos hj]
        · rw [if_neg hj]
          exact hz j h1 (by omega)
      · rw [nI_clamp (by omega), nI_clamp (by omega)]
        omega
  · rw [gI_sI, if_pos rfl, upd_ap, if_pos n0.symm]
theorem drawnM_t {N n : Nat} (hN : 20 ≤ N) (hn : n ≤ 8) (a2 : Int32) (σ : Mem) : tot (ob (f_M_begin N (nI n) σ) fun s2 => it3 (M_drawn_B41 N (nI n)) N a2 (0 : Int32) s2) (fun q => q.1 = nI n) := by
  refine t_ob _ (begin_t hN (nI n) σ) (fun s1 hs1 => ?_)
  refine t_it3 (fun _ i _ => (∃ k, k ≤ n ∧ i = nI k)) (fun _ i _ => n - i.toNatClampNeg) ?_ N _ _ _ ⟨0, by omega, rfl⟩ (by rw [n0]; omega)
  rintro self a _ s ⟨k, hk, rfl⟩ ih
  unfold M_drawn_B41
  refine t_if (fun _ => t_some rfl) (fun h => ?_)
  have hkn : k < n := by
    rw [nle (by omega) (by omega)] at h
    omega
  refine t_bnd ?_
  rw [nadd1]
  refine t_it3 (fun _ i _ => (∃ j, k < j ∧ j ≤ n ∧ i = nI j)) (fun _ i _ => n - i.toNatClampNeg) ?_ N _ _ _ ⟨k + 1, by omega, by omega, rfl⟩ (by rw [nI_clamp (by omega)]; omega)
  rintro self2 a' _ s2 ⟨j, hj1, hj, rfl⟩ ih2
  unfold M_drawn_B53
  refine t_if (fun _ => ?_) (fun h2 => ?_)
  · rw [nadd1]
    refine ih _ _ _ ⟨k + 1, by omega, rfl⟩ ?_
    rw [nI_clamp (by omega), nI_clamp (by omega)]
    omega
  · have hjn : j < n := by
      rw [nle (by omega) (by omega)] at h2
      omega
    refine t_bnd (t_if (fun _ => ?_) (fun _ => ?_))
    · rw [n1add]
      refine t_gd (inb_nI (by omega) (by decide)) (t_gd (inb_nI (by omega) (by decide)) (t_bnd ?_))
      rw [nadd1]
      refine ih2 _ _ _ ⟨j + 1, by omega, by omega, rfl⟩ ?_
      rw [nI_clamp (by omega), nI_clamp (by omega)]
      omega
    · rw [n1add]
      refine t_gd (inb_nI (by omega) (by decide)) (t_gd (inb_nI (by omega) (by decide)) (t_bnd ?_))
      rw [nadd1]
      refine ih2 _ _ _ ⟨j + 1, by omega, by omega, rfl⟩ ?_
      rw [nI_clamp (by omega), nI_clamp (by omega)]
      omega
