/-! the reference: calls that change its ROUND -/
theorem mS1 {μ : Mem} (h : InvM μ) {i : Nat} {v : Int32} (h1 : rg 0 255 v) (h2 : i = 0 → rg 0 8 v) (h3 : ∀ a, a < 8 → i = 1 + a → bt v a = false) : InvM (sI μ 1 i v) := by
  refine ⟨rg_up h.r1 h1, ?_, ?_, h.2.2.2⟩
  · show rg 0 8 (upd (gI μ 1) i v 0)
    rw [upd_ap]
    by_cases e : 0 = i
    · rw [if_pos e]; exact h2 e.symm
    · rw [if_neg e]; exact h.n1
  · intro a ha
    show bt (upd (gI μ 1) i v (1 + a)) a = false
    rw [upd_ap]
    by_cases e : 1 + a = i
    · rw [if_pos e]; exact h3 a ha e.symm
    · rw [if_neg e]; exact h.ir a ha
theorem mS2 {μ : Mem} (h : InvM μ) {i : Nat} {v : Int32} (h1 : rg 0 255 v) (h2 : ∀ r, i = 9 * r → rg 0 8 v) (h3 : ∀ r a, a < 8 → i = 9 * r + 1 + a → bt v a = false) : InvM (sI μ 2 i v) := by
  refine ⟨h.r1, h.n1, h.ir, rg_up h.r2 h1, ?_, ?_, h.2.2.2.2.2.2⟩
  · intro r
    show rg 0 8 (upd (gI μ 2) i v (9 * r))
    rw [upd_ap]
    by_cases e : 9 * r = i
    · rw [if_pos e]; exact h2 r e.symm
    · rw [if_neg e]; exact h.n2 r
  · intro r a ha
    show bt (upd (gI μ 2) i v (9 * r + 1 + a)) a = false
    rw [upd_ap]
    by_cases e : 9 * r + 1 + a = i
    · rw [if_pos e]; exact h3 r a ha e.symm
    · rw [if_neg e]; exact h.i2 r a ha
theorem mS4 {μ : Mem} (h : InvM μ) {i : Nat} {v : Int32} (h1 : rg 0 255 v) (h2 : ∀ r, i = 9 * r → rg 0 8 v) (h3 : ∀ r a, a < 8 → i = 9 * r + 1 + a → bt v a = false) : InvM (sI μ 4 i v) := by
  refine ⟨h.r1, h.n1, h.ir, h.r2, h.n2, h.i2, rg_up h.r4 h1, ?_, ?_, h.2.2.2.2.2.2.2.2.2⟩
  · intro r
    show rg 0 8 (upd (gI μ 4) i v (9 * r))
    rw [upd_ap]
    by_cases e : 9 * r = i
    · rw [if_pos e]; exact h2 r e.symm
    · rw [if_neg e]; exact h.n4 r
  · intro r a ha
    show bt (upd (gI μ 4) i v (9 * r + 1 + a)) a = false
    rw [upd_ap]
    by_cases e : 9 * r + 1 + a = i
    · rw [if_pos e]; exact h3 r a ha e.symm
    · rw [if_neg e]; exact h.i4 r a ha
theorem l9m (k : Nat) : (9 : Int32) * nI k = nI (9 * k) := by
  induction k with
  | zero => decide
  | succ k ih =>
    have e : 9 * (k + 1) = 9 * k + 9 := by omega
    rw [← nadd1, Int32.mul_add, ih, e, ← nI_add]
    rfl
theorem M_remember_J {N : Nat} (hN : 8589934592 ≤ N) {σ s : Mem} (ks : KM [2, 3] [] σ s) {u : Nat} (hu : u < 10) (h3 : gI s 3 0 = nI u) : tot (M_remember_J53 N s) (fun s => KM [2, 3] [] σ s) := by
  unfold M_remember_J53
  refine t_it2 (fun i s => ∃ k, k ≤ 9 ∧ i = nI k ∧ KM [2, 3] [] σ s ∧ gI s 3 0 = nI u) (fun i _ => 9 - i.toNatClampNeg) ?_ _ _ _ ⟨0, by decide, rfl, ks, h3⟩ (by rw [n0]; omega)
  rintro self _ t ⟨k, hk, rfl, kt, ht⟩ ih
  unfold M_remember_B55
  refine t_if (fun h => ?_) (fun h => ?_)
  · unfold M_remember_K87
    rw [ht, nadd1]
    exact t_bnd (t_some (km_s kt (by decide) (mS3 kt.1 (nI_rg (by omega) (by omega)))))
  · have hk9 : k < 9 := by
      rw [l9, nle (by decide) (by omega)] at h
      omega
    rw [ht, l9m, nI_add]
    refine t_gd (inb_nI hk9 (by decide)) (t_gd (inb_nI (by omega) (by decide)) ?_)
    rw [nI_clamp (by omega), nI_clamp (by omega), nadd1]
    refine t_lm (KM [2, 3] [] σ) (km_s kt (by decide) (mS2 kt.1 (kt.1.r1 _) (fun r e => ?_) (fun r a ha e => ?_))) (fun v ev kv => ?_)
    · have : k = 0 := by omega
      rw [this]
      exact kt.1.n1
    · have : k = 1 + a := by omega
      rw [this]
      exact kt.1.ir a ha
    · refine ih _ _ ⟨k + 1, by omega, rfl, kv, ?_⟩ ?_
      · rw [ev, gI_sI, if_neg (by decide)]
        exact ht
      · rw [nI_clamp (by omega), nI_clamp (by omega)]
        omega
theorem M_remember_t {N : Nat} (hN : 8589934592 ≤ N) {σ : Mem} (hm : InvM σ) : tot (f_M_remember N σ) (fun s => KM [2, 3] [] σ s) := by
  unfold f_M_remember
  refine t_if (fun h => ?_) (fun h => ?_)
  · have e9 : gI σ 3 0 - 1 = nI 9 := by rw [h]; decide
    rw [e9]
    refine t_lm (KM [2, 3] [] σ) (km_s (km_r hm) (by decide) (mS3 hm (by decide))) (fun s8 e8 k8 => ?_)
    have q3 : gI s8 3 0 = nI 9 := by rw [e8, gI_sI, if_pos rfl, upd_ap, if_pos rfl]
    refine t_it2 (fun i s => ∃ k, k ≤ 81 ∧ i = nI k ∧ KM [2, 3] [] σ s ∧ gI s 3 0 = nI 9) (fun i _ => 81 - i.toNatClampNeg) ?_ _ _ _ ⟨0, by decide, rfl, k8, q3⟩ (by rw [n0]; omega)
    rintro self _ t ⟨k, hk, rfl, kt, ht⟩ ih
    unfold M_remember_B21
    refine t_if (fun h => M_remember_J hN kt (by decide) ht) (fun h => ?_)
    have hk9 : k < 81 := by
      rw [ht, l9m, nle (by decide) (by omega)] at h
      omega
    rw [l9, nI_add]
    refine t_gd (inb_nI (by omega) (by decide)) (t_gd (inb_nI (by omega) (by decide)) ?_)
    rw [nI_clamp (by omega), nI_clamp (by omega), nadd1]
    refine t_lm (KM [2, 3] [] σ) (km_s kt (by decide) (mS2 kt.1 (kt.1.r2 _) (fun r e => ?_) (fun r a ha e => ?_))) (fun v ev kv => ?_)
    · have : k + 9 = 9 * (r + 1) := by omega
      rw [this]
      exact kt.1.n2 _
    · have : k + 9 = 9 * (r + 1) + 1 + a := by omega
      rw [this]
      exact kt.1.i2 _ a ha
    · refine ih _ _ ⟨k + 1, by omega, rfl, kv, ?_⟩ ?_
      · rw [ev, gI_sI, if_neg (by decide)]
        exact ht
      · rw [nI_clamp (by omega), nI_clamp (by omega)]
        omega
  · obtain ⟨u, hu, -, hu2, -⟩ := rg_ex (hm.r3 0) (by decide)
    refine M_remember_J hN (km_r hm) (u := u) ?_ hu
    have : u ≠ 10 := fun e => h (by rw [hu, e]; rfl)
    omega
theorem M_again_t {N : Nat} (hN : 8589934592 ≤ N) {a1 : Int32} {σ : Mem} (hm : InvM σ) : tot (f_M_again N a1 σ) (fun q => KM [0, 1, 2, 3] [] σ q.2) := by
  unfold f_M_again
  refine t_lm (KM [0, 1, 2, 3] [] σ) (km_s (km_r hm) (by decide) (mS0 hm)) (fun s1 e1 k1 => ?_)
  refine t_if (fun _ => t_some k1) (fun h1 => ?_)
  have f1 := c_in (lo := 0) (hi := 1) h1 (by decide)
  refine t_gd (inb_rg f1 (by decide)) (t_if (fun _ => t_some k1) (fun h2 => ?_))
  obtain ⟨p, rfl, -, hp, -⟩ := rg_ex f1 (by decide)
  refine t_ob _ (M_remember_t hN k1.1) (fun s2 k2 => ?_)
  refine t_it2 (fun i s => ∃ k, k ≤ 9 ∧ i = nI k ∧ KM [0, 1, 2, 3] [] σ s) (fun i _ => 9 - i.toNatClampNeg) ?_ _ _ _ ⟨0, by decide, rfl, km_t k1 k2 (by decide) (by decide)⟩ (by rw [n0]; omega)
  rintro self _ t ⟨k, hk, rfl, kt⟩ ih
  unfold M_again_B32
  refine t_if (fun h => t_some kt) (fun h => ?_)
  have hk9 : k < 9 := by
    rw [l9, nle (by decide) (by omega)] at h
    omega
  rw [l9m, nI_add]
  refine t_gd (inb_nI (by omega) (by decide)) (t_gd (inb_nI (by omega) (by decide)) ?_)
  rw [nI_clamp (by omega), nI_clamp (by omega), nadd1]
  refine t_lm (KM [0, 1, 2, 3] [] σ) (km_s kt (by decide) (mS1 kt.1 (kt.1.r4 _) (fun e => ?_) (fun a ha e => ?_))) (fun v ev kv => ?_)
  · rw [e]
    exact kt.1.n4 _
  · have : 9 * p + k = 9 * p + 1 + a := by omega
    rw [this]
    exact kt.1.i4 _ a ha
  · refine ih _ _ ⟨k + 1, by omega, rfl, kv⟩ ?_
    rw [nI_clamp (by omega), nI_clamp (by omega)]
    omega
theorem M_keep_t {N : Nat} (hN : 8589934592 ≤ N) {a1 : Int32} {σ : Mem} (hm : InvM σ) : tot (f_M_keep N a1 σ) (fun q => KM [0, 4, 5] [] σ q.2) := by
  unfold f_M_keep
  refine t_lm (KM [0, 4, 5] [] σ) (km_s (km_r hm) (by decide) (mS0 hm)) (fun s1 e1 k1 => ?_)
  refine t_if (fun _ => t_some k1) (fun h1 => t_if (fun _ => t_some k1) (fun h2 => ?_))
  have f1 := c_in (lo := 0) (hi := 1) h1 (by decide)
  obtain ⟨p, rfl, -, hp, -⟩ := rg_ex f1 (by decide)
  refine t_it2 (fun i s => ∃ k, k ≤ 9 ∧ i = nI k ∧ KM [0, 4, 5] [] σ s) (fun i _ => 9 - i.toNatClampNeg) ?_ _ _ _ ⟨0, by decide, rfl, k1⟩ (by rw [n0]; omega)
  rintro self _ t ⟨k, hk, rfl, kt⟩ ih
  unfold M_keep_B26
  refine t_if (fun h => ?_) (fun h => ?_)
  · refine t_gd (inb_nI (by omega) (by decide)) (t_bnd (t_some (km_s kt (by decide) (mS5 kt.1 (by decide)))))
  · have hk9 : k < 9 := by
      rw [l9, nle (by decide) (by omega)] at h
      omega
    rw [l9m, nI_add]
    refine t_gd (inb_nI (by omega) (by decide)) (t_gd (inb_nI (by omega) (by decide)) ?_)
    rw [nI_clamp (by omega), nI_clamp (by omega), nadd1]
    refine t_lm (KM [0, 4, 5] [] σ) (km_s kt (by decide) (mS4 kt.1 (kt.1.r1 _) (fun r e => ?_) (fun r a ha e => ?_))) (fun v ev kv => ?_)
    · have : k = 0 := by omega
      rw [this]
      exact kt.1.n1
    · have : k = 1 + a := by omega
      rw [this]
      exact kt.1.ir a ha
    · refine ih _ _ ⟨k + 1, by omega, rfl, kv⟩ ?_
      rw [nI_clamp (by omega), nI_clamp (by omega)]
      omega
theorem M_undo_t {N : Nat} (hN : 8589934592 ≤ N) {σ : Mem} (hm : InvM σ) : tot (f_M_undo N σ) (fun q => KM [0, 1, 3] [] σ q.2) := by
  unfold f_M_undo
  refine t_lm (KM [0, 1, 3] [] σ) (km_s (km_r hm) (by decide) (mS0 hm)) (fun s1 e1 k1 => ?_)
  refine t_if (fun _ => t_some k1) (fun h1 => t_if (fun _ => t_some k1) (fun h2 => ?_))
  obtain ⟨u, hu, -, hu2, -⟩ := rg_ex (k1.1.r3 0) (by decide)
  have hu0 : 0 < u := Nat.pos_of_ne_zero (fun e => h2 (by rw [hu, e]; rfl))
  rw [hu, nsub1' (by omega)]
  refine t_lm (KM [0, 1, 3] [] σ) (km_s k1 (by decide) (mS3 k1.1 (nI_rg (by omega) (by omega)))) (fun s2 e2 k2 => ?_)
  have q3 : gI s2 3 0 = nI (u - 1) := by rw [e2, gI_sI, if_pos rfl, upd_ap, if_pos rfl]
  refine t_it2 (fun i s => ∃ k, k ≤ 9 ∧ i = nI k ∧ KM [0, 1, 3] [] σ s ∧ gI s 3 0 = nI (u - 1)) (fun i _ => 9 - i.toNatClampNeg) ?_ _ _ _ ⟨0, by decide, rfl, k2, q3⟩ (by rw [n0]; omega)
  rintro self _ t ⟨k, hk, rfl, kt, ht⟩ ih
  unfold M_undo_B37
  refine t_if (fun h => t_some kt) (fun h => ?_)
  have hk9 : k < 9 := by
    rw [l9, nle (by decide) (by omega)] at h
    omega
  rw [ht, l9m, nI_add]
  refine t_gd (inb_nI (by omega) (by decide)) (t_gd (inb_nI (by omega) (by decide)) ?_)
  rw [nI_clamp (by omega), nI_clamp (by omega), nadd1]
  refine t_lm (KM [0, 1, 3] [] σ) (km_s kt (by decide) (mS1 kt.1 (kt.1.r2 _) (fun e => ?_) (fun a ha e => ?_))) (fun v ev kv => ?_)
  · rw [e]
    exact kt.1.n2 _
  · have : 9 * (u - 1) + k = 9 * (u - 1) + 1 + a := by omega
    rw [this]
    exact kt.1.i2 _ a ha
  · refine ih _ _ ⟨k + 1, by omega, rfl, kv, ?_⟩ ?_
    · rw [ev, gI_sI, if_neg (by decide)]
      exact ht
    · rw [nI_clamp (by omega), nI_clamp (by omega)]
      omega
/-- one arrow turned in the reference -/
theorem M_turnNow_s {a b : Nat} (ha : a < 8) (hb : b < 8) (hab : a ≠ b) {σ : Mem} (hm : InvM σ) : tot (f_M_turnNow (nI a) (nI b) σ) (fun s => KM [1] [] σ s ∧ ∀ i, gI s 1 i = if i = 1 + b then gI σ 1 i ^^^ ((1 : Int32) <<< (nI a &&& 31)) else if i = 1 + a then gI σ 1 i ^^^ ((1 : Int32) <<< (nI b &&& 31)) else gI σ 1 i) := by
  have o1 : ∀ {x y : Nat}, x < 8 → y < 8 → rg 0 255 ((1 : Int32) <<< (nI x &&& 31)) := fun {x y} hx hy => rg_w (rg_shl1 (lo := 1) (hi := 128) 7 (nI_rg (b := 7) (by omega) (by omega)) (by decide)) (by decide)
  unfold f_M_turnNow
  rw [n1add, n1add]
  refine t_gd (inb_nI (by omega) (by decide)) (t_gd (inb_nI (by omega) (by decide)) ?_)
  rw [nI_clamp (by omega)]
  refine t_lm (KM [1] [] σ) (km_s (km_r hm) (by decide) (mS1 hm (rg_xor 8 (hm.r1 _) (o1 hb hb) (by decide)) (fun e => by omega) (fun c hc e => ?_))) (fun s1 e1 k1 => ?_)
  · have : a = c := by omega
    subst this
    rw [bt_xor, show bt (gI σ 1 (1 + a)) a = false from hm.ir a ha, bt_one (by omega) (by omega), decide_eq_false hab]
    rfl
  · refine t_gd (inb_nI (by omega) (by decide)) (t_gd (inb_nI (by omega) (by decide)) ?_)
    rw [nI_clamp (by omega)]
    refine t_lm (KM [1] [] σ) (km_s k1 (by decide) (mS1 k1.1 (rg_xor 8 (k1.1.r1 _) (o1 ha ha) (by decide)) (fun e => by omega) (fun c hc e => ?_))) (fun s2 e2 k2 => ?_)
    · have : b = c := by omega
      subst this
      rw [bt_xor, show bt (gI s1 1 (1 + b)) b = false from k1.1.ir b hb, bt_one (by omega) (by omega), decide_eq_false (fun e => hab e.symm)]
      rfl
    · refine t_some ⟨k2, fun i => ?_⟩
      rw [e2, gI_sI, if_pos rfl, upd_ap]
      by_cases h1 : i = 1 + b
      · rw [if_pos h1, if_pos h1, e1, gI_sI, if_pos rfl, upd_ap, if_neg (by omega), h1]
      · rw [if_neg h1, if_neg h1, e1, gI_sI, if_pos rfl, upd_ap]
        by_cases h2 : i = 1 + a
        · rw [if_pos h2, if_pos h2, h2]
        · rw [if_neg h2, if_neg h2]
theorem M_turn_t {N : Nat} (hN : 8589934592 ≤ N) {a1 a2 : Int32} {σ : Mem} (hm : InvM σ) : tot (f_M_turn N a1 a2 σ) (fun q => KM [0, 1, 2, 3] [] σ q.2) := by
  unfold f_M_turn
  refine t_lm (KM [0, 1, 2, 3] [] σ) (km_s (km_r hm) (by decide) (mS0 hm)) (fun s1 e1 k1 => ?_)
  refine t_if (fun _ => t_some k1) (fun h0 => t_if (fun _ => t_some k1) (fun h1 => t_if (fun _ => t_some k1) (fun h2 => ?_)))
  have f1 := c_mpl h1 k1.1
  have f2 := c_mpl h2 k1.1
  obtain ⟨a, rfl, -, ha, -⟩ := rg_ex f1 (by decide)
  obtain ⟨b, rfl, -, hb, -⟩ := rg_ex f2 (by decide)
  have hab : a ≠ b := fun e => h0 (by rw [e])
  refine t_ob _ (M_remember_t hN k1.1) (fun s2 k2 => ?_)
  have k2' := km_t (S := [0, 1, 2, 3]) (J := []) k1 k2 (by decide) (by decide)
  refine t_ob _ (M_turnNow_s (by omega) (by omega) hab k2.1) (fun s3 ⟨k3, _⟩ => ?_)
  have k3' := km_t (S := [0, 1, 2, 3]) (J := []) k2' k3 (by decide) (by decide)
  refine t_ob _ (M_beats_t (rg_w f1 (by decide)) k3.1) (fun r4 _ => ?_)
  exact t_if (fun _ => t_some k3') (fun _ => t_some k3')
theorem M_begin_s {N : Nat} (hN : 8589934592 ≤ N) {a : Int32} (ha : rg 0 8 a) {σ : Mem} (hm : InvM σ) : tot (f_M_begin N a σ) (fun τ => KM [1, 3, 5] [] σ τ ∧ gI τ 1 0 = a ∧ gI τ 3 0 = 0 ∧ gI τ 5 0 = 0 ∧ gI τ 5 1 = 0 ∧ ∀ k, 1 ≤ k → k < 9 → gI τ 1 k = 0) := by
  unfold f_M_begin
  refine t_lm (KM [1, 3, 5] [] σ) (km_s (km_r hm) (by decide) (mS1 hm (rg_w ha (by decide)) (fun _ => ha) (fun a ha e => ?_))) (fun s1 e1 k1 => ?_)
  · rw [n0] at e; omega
  refine t_it2 (fun i s => ∃ k, k ≤ 8 ∧ i = nI k ∧ KM [1, 3, 5] [] σ s ∧ gI s 1 0 = a ∧ ∀ j, 1 ≤ j → j < k + 1 → gI s 1 j = 0) (fun i _ => 8 - i.toNatClampNeg) ?_ _ _ _ ⟨0, by decide, rfl, k1, ?_, fun j h1 h2 => by omega⟩ (by rw [n0]; omega)
  · rintro self _ s ⟨k, hk, rfl, ks, h0, hz⟩ ih
    unfold M_begin_B9
    refine t_if (fun h => ?_) (fun h => ?_)
    · unfold M_begin_K30
      have hk8 : k = 8 := by
        rw [l8, nle (by decide) (by omega)] at h
        omega
      refine t_lm (KM [1, 3, 5] [] σ) (km_s ks (by decide) (mS3 ks.1 (by decide))) (fun s3 e3 k3 => ?_)
      refine t_lm (KM [1, 3, 5] [] σ) (km_s k3 (by decide) (mS5 k3.1 (by decide))) (fun s4 e4 k4 => ?_)
      refine t_lm (KM [1, 3, 5] [] σ) (km_s k4 (by decide) (mS5 k4.1 (by decide))) (fun s5 e5 k5 => ?_)
      have q1 : gI s5 1 = gI s 1 := by rw [e5, gI_sI, if_neg (by decide), e4, gI_sI, if_neg (by decide), e3, gI_sI, if_neg (by decide)]
      refine t_some ⟨k5, ?_, ?_, ?_, ?_, ?_⟩
      · rw [q1]; exact h0
      · rw [e5, e4, e3]; rfl
      · rw [e5, e4]; rfl
      · rw [e5]; rfl
      · intro j h1 h2
        rw [q1]
        exact hz j h1 (by omega)
    · have hk8 : k < 8 := by
        rw [l8, nle (by decide) (by omega)] at h
        omega
      rw [n1add]
      refine t_gd (inb_nI (by omega) (by decide)) ?_
      rw [nadd1, nI_clamp (by omega)]
      refine t_lm (KM [1, 3, 5] [] σ) (km_s ks (by decide) (mS1 ks.1 (by decide) (fun e => by omega) (fun a ha e => bt_0 a))) (fun t et kt => ?_)
      refine ih _ _ ⟨k + 1, by omega, rfl, kt, ?_, ?_⟩ ?_
      · rw [et, gI_sI, if_pos rfl, upd_ap, if_neg (by omega)]
        exact h0
      · intro j h1 h2
        rw [et, gI_sI, if_pos rfl, upd_ap]
        by_cases hj : j = 1 + k
        · rw [if_pos hj]
        · rw [if_neg hj]
          exact hz j h1 (by omega)
      · rw [nI_clamp (by omega), nI_clamp (by omega)]
        omega
  · rw [e1, gI_sI, if_pos rfl, upd_ap, if_pos n0.symm]
