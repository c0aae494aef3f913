/-! the reference: weights -/
theorem M_commonOf_nz {N : Nat} (hN : 8589934592 ≤ N) {a1 a2 : Int32} (h : a1 ≠ 0) : tot (f_M_commonOf N a1 a2) (fun r => r ≠ 0) := by
  unfold f_M_commonOf
  refine t_it2 (fun x y => x ≠ 0 ∨ y ≠ 0) (fun _ x => x.toInt.natAbs) ?_ _ _ _ (Or.inl h) (by have := i_bd a2; omega)
  rintro self i1 i2 hI ih
  unfold M_commonOf_B4
  refine t_if (fun h => t_some ?_) (fun h => t_gd (by unfold nz; simp [h]) (t_bnd ?_))
  · rcases hI with e | e
    · exact e
    · exact absurd h e
  · exact ih _ _ (Or.inl h) (rem_lt h)
theorem M_weighs_t {N : Nat} (hN : 8589934592 ≤ N) {a1 : Int32} (h_a1 : rg 1 255 a1) {σ : Mem} (hm : InvM σ) : tot (f_M_weighs N a1 σ) (fun q => rg 0 1 q.1 ∧ KM [21] [] σ q.2) := by
  have h_a : rg 0 255 a1 := rg_w h_a1 (by decide)
  have hi256 : ∀ y, inb (a1 &&& y) 256 = true := fun y => inb_rg (rg_andl (lo := 0) (hi := 255) y h_a (by decide)) (by decide)
  unfold f_M_weighs
  refine t_ob _ (M_first_t hN) (fun r1 f1 => t_gd (hi256 _) ?_)
  have hK : ∀ y3 y4 s, rg 0 1 y4 → (y4 ≠ 0 → y3 ≠ 0) → KM [21] [] σ s → tot (M_weighs_K139 N y3 y4 s) (fun q => rg 0 1 q.1 ∧ KM [21] [] σ q.2) := by
    intro y3 y4 s h4 h3 ks
    unfold M_weighs_K139
    refine t_it2 (fun i s => rg 0 8 i ∧ KM [21] [] σ s) (fun i _ => (8 - i.toInt).toNat) ?_ _ _ _ ⟨by decide, ks⟩ (ms_u0 hN _ (by decide))
    rintro self i s ⟨fi, kt⟩ ih
    unfold M_weighs_B142
    refine t_if (fun _ => t_gd (isb_rg h4) (t_some ⟨h4, kt⟩)) (fun h8 => ?_)
    have f7 := rg_ltL (lo := 0) (hi := 7) (i_nle h8) fi (by decide : rg 8 8 (8 : Int32)) (by decide)
    refine t_if (fun _ => t_gd (isb_rg h4) (t_some ⟨h4, kt⟩)) (fun h0 => ?_)
    refine t_gd (inb_rg f7 (by decide)) (t_gd (by unfold nz; simp [h3 h0]) (t_gd (inb_rg f7 (by decide)) ?_))
    refine t_lm (KM [21] [] σ) (km_s kt (by decide) (mS21 kt.1)) (fun u eu ku => ?_)
    exact ih _ _ ⟨rg_add f7 (by decide : rg 1 1 (1 : Int32)) (by decide), ku⟩ (ms_up f7 (by decide : rg 1 1 (1 : Int32)) (by decide))
  have hJ : ∀ v2, tot (M_weighs_J30 N σ a1 v2) (fun q => rg 0 1 q.1 ∧ KM [21] [] σ q.2) := by
    intro v2
    unfold M_weighs_J30
    refine t_it5 (fun _ i11 i12 i13 s => (∃ k, k ≤ 8 ∧ i13 = nI k ∧ (i12 = 0 ∨ i11 ≠ 0 ∨ ∀ j, j < k → bt a1 j = false)) ∧ rg 0 1 i12 ∧ KM [21] [] σ s) (fun _ _ _ i13 _ => 8 - i13.toNatClampNeg) ?_ _ _ _ _ _ _ ⟨⟨0, by decide, rfl, Or.inr (Or.inr (fun j hj => by omega))⟩, by decide, km_r hm⟩ (by rw [n0]; omega)
    rintro self i10 i11 i12 _ s ⟨⟨k, hk, rfl, hor⟩, f12, ks⟩ ih
    unfold M_weighs_B35
    refine t_if (fun h => ?_) (fun h => ?_)
    · have : k = 8 := by
        rw [l8, nle (by decide) (by omega)] at h
        omega
      subst this
      refine hK _ _ _ f12 (fun h0 => ?_) ks
      rcases hor with e | e | e
      · exact absurd e h0
      · exact e
      · obtain ⟨j, hj, hb⟩ := bt_ne0 h_a (fun e0 => by rw [e0] at h_a1; exact absurd h_a1 (by decide))
        rw [e j hj] at hb
        cases hb
    · have hk8 : k < 8 := by
        rw [l8, nle (by decide) (by omega)] at h
        omega
      have gk : inb (nI k) 8 = true := inb_nI hk8 (by decide)
      refine t_gd gk ?_
      refine t_lm (KM [21] [] σ) (km_s ks (by decide) (mS21 ks.1)) (fun s16 e16 k16 => ?_)
      have dec : 8 - (nI (k + 1)).toNatClampNeg < 8 - (nI k).toNatClampNeg := by
        rw [nI_clamp (by omega), nI_clamp (by omega)]
        omega
      rw [has_bt (by omega)]
      refine t_if (fun h2 => ?_) (fun h2 => ?_)
      · rw [nadd1]
        refine ih _ _ _ _ _ ⟨⟨k + 1, by omega, rfl, ?_⟩, f12, k16⟩ dec
        rcases hor with e | e | e
        · exact Or.inl e
        · exact Or.inr (Or.inl e)
        · refine Or.inr (Or.inr (fun j hj => ?_))
          by_cases hjk : j = k
          · subst hjk
            cases eb : bt a1 j
            · rfl
            · rw [eb] at h2
              exact absurd h2 (by decide)
          · exact e j (by omega)
      · have hJ1 : ∀ x18 v19, (v19 = 0 ∨ (v19 = 1 ∧ (0 : Int32) < x18)) → tot (M_weighs_J101 N s16 i10 i11 (nI k) x18 self v19) (fun q => rg 0 1 q.1 ∧ KM [21] [] σ q.2) := by
          intro x18 v19 hv
          have fv : rg 0 1 v19 := by rcases hv with e | ⟨e, -⟩ <;> rw [e] <;> decide
          unfold M_weighs_J101
          refine t_gd gk ?_
          refine t_lm (KM [21] [] σ) (km_s k16 (by decide) (mS21 k16.1)) (fun s20 e20 k20 => ?_)
          have hJ2 : ∀ v21, ((0 : Int32) < x18 → v21 ≠ 0) → tot (M_weighs_J125 N s20 i10 i11 (nI k) v19 self v21) (fun q => rg 0 1 q.1 ∧ KM [21] [] σ q.2) := by
            intro v21 hn
            unfold M_weighs_J125
            rw [nadd1]
            rcases hv with e | ⟨e, hp⟩
            · refine t_ob _ (M_commonOf_t hN) (fun r22 _ => t_bnd ?_)
              exact ih _ _ _ _ _ ⟨⟨k + 1, by omega, rfl, Or.inl e⟩, fv, k20⟩ dec
            · refine t_ob _ (M_commonOf_nz hN (hn hp)) (fun r22 h22 => t_bnd ?_)
              exact ih _ _ _ _ _ ⟨⟨k + 1, by omega, rfl, Or.inr (Or.inl h22)⟩, fv, k20⟩ dec
          refine t_if (fun hx => hJ2 _ (fun hp e => ?_)) (fun hx => hJ2 _ (fun hp => ?_))
          · rw [e] at hp
            exact absurd hp (by decide)
          · exact absurd (by rw [i_lt] at hp; rw [i_le]; omega) hx
        have hJ0 : ∀ v17, tot (M_weighs_J70 N s16 a1 i10 i11 i12 (nI k) self v17) (fun q => rg 0 1 q.1 ∧ KM [21] [] σ q.2) := by
          intro v17
          unfold M_weighs_J70
          refine t_gd (hi256 _) (t_let (fun x18 _ => ?_))
          have h0 : tot (M_weighs_J100 N s16 i10 i11 (nI k) x18 self) (fun q => rg 0 1 q.1 ∧ KM [21] [] σ q.2) := by
            unfold M_weighs_J100
            exact hJ1 _ _ (Or.inl rfl)
          exact t_if (fun _ => h0) (fun _ => t_if (fun _ => h0) (fun hx => hJ1 _ _ (Or.inr ⟨rfl, i_nle hx⟩)))
        exact t_if (fun _ => hJ0 _) (fun _ => hJ0 _)
  exact t_if (fun _ => hJ _) (fun _ => hJ _)
