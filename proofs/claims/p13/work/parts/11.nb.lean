/-! the reference: drawn, join, drop, fewest, winner, sign, end -/
theorem o255 {x : Nat} (hx : x < 8) : rg 0 255 ((1 : Int32) <<< (nI x &&& 31)) := rg_w (rg_shl1 (lo := 1) (hi := 128) 7 (nI_rg (b := 7) (by omega) (by omega)) (by decide)) (by decide)
theorem M_drawn_t {N : Nat} (hN : 8589934592 ≤ N) {a1 a2 : Int32} {σ : Mem} (hm : InvM σ) : tot (f_M_drawn N a1 a2 σ) (fun q => KM [0, 1, 3, 5] [] σ q.2) := by
  unfold f_M_drawn
  refine t_lm (KM [0, 1, 3, 5] [] σ) (km_s (km_r hm) (by decide) (mS0 hm)) (fun s1 e1 k1 => ?_)
  refine t_if (fun _ => t_some k1) (fun h1 => t_if (fun _ => t_some k1) (fun h2 => ?_))
  have f1 := c_in (lo := 1) (hi := 8) h1 (by decide)
  obtain ⟨n, rfl, hn1, hn8, -⟩ := rg_ex f1 (by decide)
  refine t_ob _ (M_begin_s hN (rg_w f1 (by decide)) k1.1) (fun s2 ⟨k2, _⟩ => ?_)
  refine t_it3 (fun _ i s => (∃ k, k ≤ n ∧ i = nI k) ∧ KM [0, 1, 3, 5] [] σ s) (fun _ i _ => n - i.toNatClampNeg) ?_ N _ _ _ ⟨⟨0, by omega, rfl⟩, km_t k1 k2 (by decide) (by decide)⟩ (by rw [n0]; omega)
  rintro self a _ s ⟨⟨k, hk, rfl⟩, ks⟩ ih
  unfold M_drawn_B41
  refine t_if (fun _ => t_some ks) (fun h => ?_)
  have hkn : k < n := by
    rw [nle (by omega) (by omega)] at h
    omega
  refine t_bnd ?_
  rw [nadd1]
  refine t_it3 (fun _ i s => (∃ j, k < j ∧ j ≤ n ∧ i = nI j) ∧ KM [0, 1, 3, 5] [] σ s) (fun _ i _ => n - i.toNatClampNeg) ?_ N _ _ _ ⟨⟨k + 1, by omega, by omega, rfl⟩, ks⟩ (by rw [nI_clamp (by omega)]; omega)
  rintro self2 a' _ s2 ⟨⟨j, hj1, hj, rfl⟩, ks2⟩ ih2
  unfold M_drawn_B53
  refine t_if (fun _ => ?_) (fun h2 => ?_)
  · rw [nadd1]
    refine ih _ _ _ ⟨⟨k + 1, by omega, rfl⟩, ks2⟩ ?_
    rw [nI_clamp (by omega), nI_clamp (by omega)]
    omega
  · have hjn : j < n := by
      rw [nle (by omega) (by omega)] at h2
      omega
    have dec : n - (nI (j + 1)).toNatClampNeg < n - (nI j).toNatClampNeg := by
      rw [nI_clamp (by omega), nI_clamp (by omega)]
      omega
    refine t_bnd (t_if (fun _ => ?_) (fun _ => ?_))
    · rw [n1add, nI_clamp (by omega), nadd1]
      refine t_gd (inb_nI (by omega) (by decide)) (t_gd (inb_nI (by omega) (by decide)) ?_)
      refine t_lm (KM [0, 1, 3, 5] [] σ) (km_s ks2 (by decide) (mS1 ks2.1 (rg_or 8 (ks2.1.r1 _) (o255 (by omega)) (by decide)) (fun e => by omega) (fun c hc e => ?_))) (fun t et kt => ?_)
      · have : k = c := by omega
        subst this
        rw [bt_or, show bt (gI s2 1 (1 + k)) k = false from ks2.1.ir k hc, bt_one (by omega) (by omega), decide_eq_false (by omega)]
        rfl
      · exact ih2 _ _ _ ⟨⟨j + 1, by omega, by omega, rfl⟩, kt⟩ dec
    · rw [n1add, nI_clamp (by omega), nadd1]
      refine t_gd (inb_nI (by omega) (by decide)) (t_gd (inb_nI (by omega) (by decide)) ?_)
      refine t_lm (KM [0, 1, 3, 5] [] σ) (km_s ks2 (by decide) (mS1 ks2.1 (rg_or 8 (ks2.1.r1 _) (o255 (by omega)) (by decide)) (fun e => by omega) (fun c hc e => ?_))) (fun t et kt => ?_)
      · have : j = c := by omega
        subst this
        rw [bt_or, show bt (gI s2 1 (1 + j)) j = false from ks2.1.ir j hc, bt_one (by omega) (by omega), decide_eq_false (by omega)]
        rfl
      · exact ih2 _ _ _ ⟨⟨j + 1, by omega, by omega, rfl⟩, kt⟩ dec
theorem wi_bt {x m : Int32} (h : ¬ t_M_isWithin x m = 0) {j : Nat} (hb : bt x j = true) : bt m j = true := by
  unfold t_M_isWithin at h
  by_cases h1 : x &&& (m ^^^ (-1 : Int32)) = 0
  · have := and_not h1
    rw [this, bt_and] at hb
    exact (Bool.and_eq_true_iff.mp hb).2
  · rw [if_neg h1] at h; exact absurd rfl h
theorem all_e {μ : Mem} {n : Nat} (h : gI μ 1 0 = nI n) : t_M_all μ = ((1 : Int32) <<< (nI n &&& 31)) - 1 := by
  unfold t_M_all
  rw [n0, h]
theorem many_e {μ : Mem} {n : Nat} (h : gI μ 1 0 = nI n) : t_M_many μ = nI n := by
  unfold t_M_many
  rw [n0, h]
theorem M_join_t {N : Nat} (hN : 8589934592 ≤ N) {a1 : Int32} {σ : Mem} (hm : InvM σ) : tot (f_M_join N a1 σ) (fun q => KM [0, 1, 2, 3] [] σ q.2) := by
  unfold f_M_join
  refine t_lm (KM [0, 1, 2, 3] [] σ) (km_s (km_r hm) (by decide) (mS0 hm)) (fun s1 e1 k1 => ?_)
  refine t_if (fun _ => t_some k1) (fun h1 => t_if (fun _ => t_some k1) (fun h2 => t_if (fun _ => t_some k1) (fun h3 => t_if (fun _ => t_some k1) (fun h4 => ?_))))
  obtain ⟨n, hn, -, hn8, -⟩ := rg_ex k1.1.n1 (by decide)
  rw [many_e hn] at h4
  have hn7 : n < 8 := by
    have : n ≠ 8 := fun e => h4 (by rw [e]; rfl)
    omega
  have fa : rg 0 255 a1 := c_wi h2 (al_rg k1.1) (by decide)
  have ba : bt a1 n = false := by
    cases e : bt a1 n
    · rfl
    · have := wi_bt h2 e
      rw [all_e hn, bt_mask (by omega) (by omega)] at this
      simp at this
  refine t_ob _ (M_remember_t hN k1.1) (fun s2 k2 => ?_)
  have k2' := km_t (S := [0, 1, 2, 3]) (J := []) k1 k2 (by decide) (by decide)
  have q1 : gI s2 1 0 = nI n := by rw [k2.2.1 1 (by decide)]; exact hn
  rw [many_e q1]
  refine t_bnd ?_
  refine t_it2 (fun i s => (∃ k, k ≤ n ∧ i = nI k) ∧ KM [0, 1, 2, 3] [] σ s ∧ gI s 1 0 = nI n) (fun i _ => n - i.toNatClampNeg) ?_ N _ _ ⟨⟨0, by omega, rfl⟩, k2', q1⟩ (by rw [n0]; omega)
  rintro self _ s ⟨⟨k, hk, rfl⟩, ks, hs⟩ ih
  unfold M_join_B55
  refine t_if (fun _ => ?_) (fun h => ?_)
  · unfold M_join_K92
    rw [n1add]
    refine t_gd (inb_nI (by omega) (by decide)) ?_
    rw [nI_clamp (by omega)]
    refine t_lm (KM [0, 1, 2, 3] [] σ) (km_s ks (by decide) (mS1 ks.1 fa (fun e => by omega) (fun c hc e => ?_))) (fun t et kt => ?_)
    · have : c = n := by omega
      rw [this]
      exact ba
    · have qt : gI t 1 0 = nI n := by rw [et, gI_sI, if_pos rfl, upd_ap, if_neg (by omega)]; exact hs
      rw [n0, qt, nadd1]
      refine t_bnd (t_some (km_s kt (by decide) (mS1 kt.1 (nI_rg (by omega) (by omega)) (fun _ => nI_rg (by omega) (by omega)) (fun c hc e => by omega))))
  · have hkn : k < n := by
      rw [nle (by omega) (by omega)] at h
      omega
    rw [n1add]
    have gk : inb (nI (1 + k)) 9 = true := inb_nI (by omega) (by decide)
    refine t_gd gk ?_
    have hJ : ∀ v, rg 0 255 v → bt v k = false → tot (M_join_J84 s (nI k) self v) (fun q => KM [0, 1, 2, 3] [] σ q.2) := by
      intro v fv bv
      unfold M_join_J84
      rw [n1add]
      refine t_gd gk ?_
      rw [nI_clamp (by omega), nadd1]
      refine t_lm (KM [0, 1, 2, 3] [] σ) (km_s ks (by decide) (mS1 ks.1 (rg_or 8 (ks.1.r1 _) fv (by decide)) (fun e => by omega) (fun c hc e => ?_))) (fun t et kt => ?_)
      · have : c = k := by omega
        subst this
        rw [bt_or, show bt (gI s 1 (1 + c)) c = false from ks.1.ir c hc, bv]
        rfl
      · refine ih _ _ ⟨⟨k + 1, by omega, rfl⟩, kt, ?_⟩ ?_
        · rw [et, gI_sI, if_pos rfl, upd_ap, if_neg (by omega)]
          exact hs
        · rw [nI_clamp (by omega), nI_clamp (by omega)]
          omega
    refine t_if (fun _ => hJ _ (o255 (by omega)) ?_) (fun _ => hJ _ (by decide) (bt_0 k))
    rw [bt_one (by omega) (by omega), decide_eq_false (by omega)]
theorem M_sign_t {N : Nat} (hN : 8589934592 ≤ N) {a1 : Int32} {σ : Mem} (hm : InvM σ) : tot (f_M_sign N a1 σ) (fun q => KM [0, 6, 7] [] σ q.2 ∧ ∃ k, k ≤ 300 ∧ gI σ 7 0 = nI k ∧ if k + 4 ≤ 300 then q.1 = nI (k + 4) ∧ gI q.2 7 0 = nI (k + 4) else q.1 = -1 ∧ gI q.2 7 0 = nI k) := by
  unfold f_M_sign
  refine t_lm (KM [0, 6, 7] [] σ) (km_s (km_r hm) (by decide) (mS0 hm)) (fun s1 e1 k1 => ?_)
  obtain ⟨n, hn, -, hn3, -⟩ := rg_ex (hm.r7 0) (by decide)
  have q7 : gI s1 7 0 = nI n := by rw [e1, gI_sI, if_neg (by decide)]; exact hn
  rw [q7, l4, nI_add, l300]
  refine t_if (fun h => ?_) (fun h => ?_)
  · have h2 : n + 4 ≤ 300 := by rwa [nle (by omega) (by decide)] at h
    refine t_it2 (fun i s => (∃ k, k ≤ 4 ∧ i = nI (8 * (4 - k)) + (-8) ∧ gI s 7 0 = nI (n + k)) ∧ KM [0, 6, 7] [] σ s) (fun i _ => (i + 8).toNatClampNeg) ?_ N _ _ ⟨⟨0, by decide, by decide, q7⟩, k1⟩ (Nat.lt_of_le_of_lt (by decide : ((24 : Int32) + 8).toNatClampNeg ≤ 32) (by omega))
    rintro self _ s ⟨⟨k, hk, rfl, hs⟩, ks⟩ ih
    unfold M_sign_B22
    have ei : ∀ j, j < 5 → ((nI (8 * (4 - j)) + (-8) < 0) ↔ j = 4) := by decide
    refine t_if (fun h3 => ?_) (fun h3 => ?_)
    · have : k = 4 := (ei k (by omega)).mp h3
      subst this
      refine t_some ⟨ks, n, by omega, hn, ?_⟩
      rw [if_pos h2]
      exact ⟨hs, hs⟩
    · have hk4 : k < 4 := by
        have : k ≠ 4 := fun e => h3 ((ei k (by omega)).mpr e)
        omega
      rw [hs]
      refine t_gd (inb_nI (by omega) (by decide)) ?_
      have fb : ∀ x : Int8, rg (-128) 127 (vp_nar .byte x.toInt32) := by
        intro x
        have e : vp_nar .byte x.toInt32 = x.toInt32 := by
          show x.toInt32.toInt8.toInt32 = x.toInt32
          simp
        rw [e]
        have h1 := x.le_toInt
        have h2 := x.toInt_lt
        unfold rg
        rw [Int8.toInt_toInt32]
        omega
      refine t_lm (KM [0, 6, 7] [] σ) (km_s ks (by decide) (mS6 ks.1 (fb _))) (fun t et kt => ?_)
      have qt : gI t 7 0 = nI (n + k) := by rw [et, gI_sI, if_neg (by decide)]; exact hs
      rw [qt, nadd1]
      refine t_lm (KM [0, 6, 7] [] σ) (km_s kt (by decide) (mS7 kt.1 (nI_rg (by omega) (by omega)))) (fun u eu ku => ?_)
      have ej : ∀ j, j < 4 → nI (8 * (4 - j)) + (-8) + (-8) = nI (8 * (4 - (j + 1))) + (-8) := by decide
      have em : ∀ j, j < 4 → (nI (8 * (4 - (j + 1))) + (-8) + 8).toNatClampNeg < (nI (8 * (4 - j)) + (-8) + 8).toNatClampNeg := by decide
      rw [ej k hk4]
      refine ih _ _ ⟨⟨k + 1, by omega, rfl, ?_⟩, ku⟩ (em k hk4)
      rw [eu, gI_sI, if_pos rfl, upd_ap, if_pos rfl]
      rfl
  · have h2 : ¬ n + 4 ≤ 300 := by rwa [nle (by omega) (by decide)] at h
    refine t_some ⟨k1, n, by omega, hn, ?_⟩
    rw [if_neg h2]
    exact ⟨rfl, q7⟩
theorem M_end_t {a1 : Int32} {σ : Mem} (hm : InvM σ) : tot (f_M_end a1 σ) (fun q => KM [0, 7] [] σ q.2 ∧ if 0 ≤ a1.toInt ∧ a1.toInt ≤ (gI σ 7 0).toInt then q.1 = 1 ∧ gI q.2 7 0 = a1 else q.1 = 0 ∧ gI q.2 7 0 = gI σ 7 0) := by
  unfold f_M_end
  refine t_lm (KM [0, 7] [] σ) (km_s (km_r hm) (by decide) (mS0 hm)) (fun s1 e1 k1 => ?_)
  have q7 : gI s1 7 0 = gI σ 7 0 := by rw [e1, gI_sI, if_neg (by decide)]
  rw [min_iff, q7, i64, i64]
  have z : (0 : Int64).toInt = 0 := by decide
  rw [z]
  by_cases h : 0 ≤ a1.toInt ∧ a1.toInt ≤ (gI σ 7 0).toInt
  · rw [if_pos h, if_neg (by decide)]
    have f7 := (hm.r7 0).2
    refine t_lm (KM [0, 7] [] σ) (km_s k1 (by decide) (mS7 k1.1 ⟨h.1, by omega⟩)) (fun s2 e2 k2 => ?_)
    refine t_some ⟨k2, ?_⟩
    rw [if_pos h]
    refine ⟨rfl, ?_⟩
    rw [e2, gI_sI, if_pos rfl, upd_ap, if_pos rfl]
  · rw [if_neg h, if_pos rfl]
    refine t_some ⟨k1, ?_⟩
    rw [if_neg h]
    exact ⟨rfl, q7⟩
