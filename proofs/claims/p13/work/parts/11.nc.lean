/-! the reference: drop, fewest, winner -/
theorem inv_row {μ τ : Mem} (h : InvM μ) (hf : fr [1] [] μ τ) (h1 : ∀ i, rg 0 255 (gI τ 1 i)) (h2 : rg 0 8 (gI τ 1 0)) (h3 : irr τ) : InvM τ := by
  have e : ∀ k, k ≠ 1 → gI τ k = gI μ k := fun k hk => hf.1 k (by simpa using hk)
  refine ⟨h1, h2, h3, ?_⟩
  rw [e 2 (by decide), e 4 (by decide), e 3 (by decide), e 5 (by decide), e 6 (by decide), e 7 (by decide), e 8 (by decide), e 10 (by decide), e 11 (by decide), e 12 (by decide), e 13 (by decide), e 14 (by decide), e 15 (by decide), e 16 (by decide), e 17 (by decide), e 22 (by decide), e 23 (by decide), e 26 (by decide), e 27 (by decide), e 29 (by decide), e 31 (by decide), e 32 (by decide)]
  exact h.2.2.2
theorem M_drop_s {N : Nat} (hN : 8589934592 ≤ N) {a n : Nat} (ha : a < n) (hn : n ≤ 8) (hn1 : 2 ≤ n) {μ : Mem} (hm : InvM μ) (h0 : gI μ 1 0 = nI n) : tot (it2 (M_drop_B40 N (nI a) (nI (n - 1))) N (nI a) μ) (fun q => q.1 = nI (n - 1) ∧ fr [1] [] μ q.2 ∧ ∀ i, gI q.2 1 i = if i = 0 then nI (n - 1) else if i < n then t_M_without (if i < 1 + a then gI μ 1 i else gI μ 1 (i + 1)) (nI a) else if i = n then 0 else gI μ 1 i) := by
  refine t_it2 (fun i s => ∃ k, a ≤ k ∧ k ≤ n - 1 ∧ i = nI k ∧ fr [1] [] μ s ∧ ∀ i, gI s 1 i = if 1 + a ≤ i ∧ i < 1 + k then gI μ 1 (i + 1) else gI μ 1 i) (fun i _ => n - i.toNatClampNeg) ?_ N _ _ ⟨a, by omega, by omega, rfl, fr_r _ _ _, fun i => by rw [if_neg (by omega)]⟩ (by rw [nI_clamp (by omega)]; omega)
  rintro self _ s ⟨k, hk1, hk2, rfl, fs, hs⟩ ih
  unfold M_drop_B40
  refine t_if (fun h => ?_) (fun h => ?_)
  · have hk : k = n - 1 := by
      rw [nle (by omega) (by omega)] at h
      omega
    unfold M_drop_K69
    rw [n1add]
    refine t_gd (inb_nI (by omega) (by decide)) ?_
    rw [nI_clamp (by omega)]
    refine t_let (fun s5 e5 => ?_)
    have f5 : fr [1] [] μ s5 := by rw [e5]; exact fr_t fs (fr_sI (by decide))
    have q5 : ∀ i, gI s5 1 i = if i = n then 0 else if 1 + a ≤ i ∧ i < n then gI μ 1 (i + 1) else gI μ 1 i := fun i => by
      rw [e5, gI_sI, if_pos rfl, upd_ap, hs]
      have e : 1 + (n - 1) = n := by omega
      have e2 : 1 + k = n := by omega
      rw [e, e2]
    refine t_it2 (fun i s => ∃ k, k ≤ n - 1 ∧ i = nI k ∧ fr [1] [] μ s ∧ ∀ i, gI s 1 i = if 1 ≤ i ∧ i < 1 + k then t_M_without (gI s5 1 i) (nI a) else gI s5 1 i) (fun i _ => n - i.toNatClampNeg) ?_ N _ _ ⟨0, by omega, rfl, f5, fun i => by rw [if_neg (by omega)]⟩ (by rw [n0]; omega)
    rintro self2 _ t ⟨j, hj, rfl, ft, ht⟩ ih2
    unfold M_drop_B80
    refine t_if (fun h2 => ?_) (fun h2 => ?_)
    · have hj2 : j = n - 1 := by
        rw [nle (by omega) (by omega)] at h2
        omega
      unfold M_drop_K111
      refine t_let (fun s7 e7 => t_some ⟨rfl, by rw [e7]; exact fr_t ft (fr_sI (by decide)), fun i => ?_⟩)
      show gI s7 1 i = _
      rw [e7, gI_sI, if_pos rfl, upd_ap, n0]
      by_cases hi0 : i = 0
      · rw [if_pos hi0, if_pos hi0]
      · rw [if_neg hi0, if_neg hi0, ht]
        by_cases hin : i < n
        · rw [if_pos (by omega), if_pos hin, q5, if_neg (by omega)]
          by_cases hia : i < 1 + a
          · rw [if_neg (by omega), if_pos hia]
          · rw [if_pos (by omega), if_neg hia]
        · rw [if_neg (by omega), if_neg hin, q5]
          by_cases he : i = n
          · rw [if_pos he, if_pos he]
          · rw [if_neg he, if_neg he, if_neg (by omega)]
    · have hjn : j < n - 1 := by
        rw [nle (by omega) (by omega)] at h2
        omega
      rw [n1add]
      refine t_gd (inb_nI (by omega) (by decide)) (t_gd (inb_nI (by omega) (by decide)) ?_)
      rw [nI_clamp (by omega), nadd1]
      refine t_let (fun u eu => ?_)
      refine ih2 _ _ ⟨j + 1, by omega, rfl, by rw [eu]; exact fr_t ft (fr_sI (by decide)), fun i => ?_⟩ ?_
      · rw [eu, gI_sI, if_pos rfl, upd_ap]
        by_cases hij : i = 1 + j
        · rw [if_pos hij, if_pos (by omega), ht, if_neg (by omega), hij]
        · rw [if_neg hij, ht]
          by_cases h3 : 1 ≤ i ∧ i < 1 + j
          · rw [if_pos h3, if_pos (by omega)]
          · rw [if_neg h3, if_neg (by omega)]
      · rw [nI_clamp (by omega), nI_clamp (by omega)]
        omega
  · have hkn : k < n - 1 := by
      rw [nle (by omega) (by omega)] at h
      omega
    rw [n1add, nadd1]
    refine t_gd (inb_nI (by omega) (by decide)) (t_gd (inb_nI (by omega) (by decide)) ?_)
    rw [nI_clamp (by omega), nI_clamp (by omega), nadd1]
    refine t_let (fun u eu => ?_)
    refine ih _ _ ⟨k + 1, by omega, by omega, rfl, by rw [eu]; exact fr_t fs (fr_sI (by decide)), fun i => ?_⟩ ?_
    · rw [eu, gI_sI, if_pos rfl, upd_ap]
      by_cases hij : i = 1 + k
      · rw [if_pos hij, if_pos (by omega), hs, if_neg (by omega), hij]
      · rw [if_neg hij, hs]
        by_cases h3 : 1 + a ≤ i ∧ i < 1 + k
        · rw [if_pos h3, if_pos (by omega)]
        · rw [if_neg h3, if_neg (by omega)]
    · rw [nI_clamp (by omega), nI_clamp (by omega)]
      omega
theorem drop_inv {a n : Nat} (ha : a < n) (hn : n ≤ 8) {μ τ : Mem} (hm : InvM μ) (hf : fr [1] [] μ τ) (h : ∀ i, gI τ 1 i = if i = 0 then nI (n - 1) else if i < n then t_M_without (if i < 1 + a then gI μ 1 i else gI μ 1 (i + 1)) (nI a) else if i = n then 0 else gI μ 1 i) : InvM τ := by
  refine inv_row hm hf (fun i => ?_) ?_ (fun c hc => ?_)
  · rw [h]
    by_cases h0 : i = 0
    · rw [if_pos h0]; exact nI_rg (by omega) (by omega)
    · rw [if_neg h0]
      by_cases h1 : i < n
      · rw [if_pos h1]
        refine rg_wo ?_ (by omega)
        split <;> exact hm.r1 _
      · rw [if_neg h1]
        split
        · decide
        · exact hm.r1 _
  · rw [h, if_pos rfl]; exact nI_rg (by omega) (by omega)
  · show bt (gI τ 1 (1 + c)) c = false
    rw [h, if_neg (by omega)]
    by_cases h1 : 1 + c < n
    · rw [if_pos h1]
      by_cases h2 : c < a
      · rw [if_pos (by omega), bt_wo (hm.r1 _) (by omega) (by omega), if_pos h2]
        exact hm.ir c hc
      · rw [if_neg (by omega), bt_wo (hm.r1 _) (by omega) (by omega), if_neg h2]
        have : 1 + c + 1 = 1 + (c + 1) := by omega
        rw [this]
        exact hm.ir (c + 1) (by omega)
    · rw [if_neg h1]
      split
      · exact bt_0 c
      · exact hm.ir c hc
theorem M_drop_t {N : Nat} (hN : 8589934592 ≤ N) {a1 : Int32} {σ : Mem} (hm : InvM σ) : tot (f_M_drop N a1 σ) (fun q => KM [0, 1, 2, 3] [] σ q.2) := by
  unfold f_M_drop
  refine t_lm (KM [0, 1, 2, 3] [] σ) (km_s (km_r hm) (by decide) (mS0 hm)) (fun s1 e1 k1 => ?_)
  refine t_if (fun _ => t_some k1) (fun h1 => t_if (fun _ => t_some k1) (fun h2 => ?_))
  obtain ⟨n, hn, -, hn8, -⟩ := rg_ex k1.1.n1 (by decide)
  have f1 := c_mpl h1 k1.1
  obtain ⟨a, rfl, -, ha7, -⟩ := rg_ex f1 (by decide)
  have han : a < n := by
    unfold t_M_isPlayer at h1
    rw [n0, hn] at h1
    have e1 : (1 : Int64).toInt = 1 := by decide
    have := (c_inm (lo := 0) (hi := (n : Int) - 1) (b := n) h1 (nI_rg (by omega) (by omega)) ⟨by decide, by decide, by omega⟩).2
    rw [nI_toInt (by omega)] at this
    omega
  have hn1 : n ≠ 1 := fun e => h2 (by rw [many_e hn, e]; rfl)
  refine t_ob _ (M_remember_t hN k1.1) (fun s2 k2 => ?_)
  have k2' := km_t (S := [0, 1, 2, 3]) (J := []) k1 k2 (by decide) (by decide)
  have q1 : gI s2 1 0 = nI n := by rw [k2.2.1 1 (by decide)]; exact hn
  rw [many_e q1, nsub1' (by omega)]
  refine t_bnd ?_
  refine t_mono (M_drop_s hN han (by omega) (by omega) k2.1 q1) (fun q ⟨_, h4, h5⟩ => ?_)
  exact ⟨drop_inv han (by omega) k2.1 h4 h5, fr_t k2'.2 (fr_m h4 (by decide) (by decide))⟩
theorem xx {x y : Int32} : (x ^^^ y) ^^^ y = x := by
  rw [Int32.xor_assoc, Int32.xor_self, Int32.xor_zero]
theorem turn_back {a b : Nat} {f g h : Nat → Int32} (h1 : ∀ i, g i = if i = 1 + b then f i ^^^ ((1 : Int32) <<< (nI a &&& 31)) else if i = 1 + a then f i ^^^ ((1 : Int32) <<< (nI b &&& 31)) else f i) (h2 : ∀ i, h i = if i = 1 + b then g i ^^^ ((1 : Int32) <<< (nI a &&& 31)) else if i = 1 + a then g i ^^^ ((1 : Int32) <<< (nI b &&& 31)) else g i) : h = f := by
  funext i
  rw [h2, h1]
  by_cases e1 : i = 1 + b
  · rw [if_pos e1, if_pos e1, xx]
  · rw [if_neg e1, if_neg e1]
    by_cases e2 : i = 1 + a
    · rw [if_pos e2, if_pos e2, xx]
    · rw [if_neg e2, if_neg e2]
/-- the rows that a set of the reference is found in -/
abbrev mS : List Nat := [13, 14, 15, 16, 17, 18, 19, 20, 21, 22, 23, 24]
/-- kept but for these rows, the ROUND as it was -/
def kq (σ s : Mem) : Prop := KM mS [] σ s
theorem kq_turn {σ s t u v : Mem} {a b : Nat} (ha : a < 8) (hb : b < 8) (hab : a ≠ b) (h0 : KM mS [] σ s) (h1 : KM [1] [] s t ∧ ∀ i, gI t 1 i = if i = 1 + b then gI s 1 i ^^^ ((1 : Int32) <<< (nI a &&& 31)) else if i = 1 + a then gI s 1 i ^^^ ((1 : Int32) <<< (nI b &&& 31)) else gI s 1 i) (h2 : KM mS [] t u) (h3 : KM [1] [] u v ∧ ∀ i, gI v 1 i = if i = 1 + b then gI u 1 i ^^^ ((1 : Int32) <<< (nI a &&& 31)) else if i = 1 + a then gI u 1 i ^^^ ((1 : Int32) <<< (nI b &&& 31)) else gI u 1 i) : KM mS [] σ v := by
  refine ⟨h3.1.1, fun k hk => ?_, fun k hk => ?_⟩
  · by_cases e : k = 1
    · subst e
      have q := h2.2.1 1 (by decide)
      have := h3.2
      rw [q] at this
      rw [turn_back h1.2 this]
      exact h0.2.1 1 hk
    · rw [h3.1.2.1 k (by simpa using e), h2.2.1 k hk, h1.1.2.1 k (by simpa using e)]
      exact h0.2.1 k hk
  · rw [h3.1.2.2 k (by simp), h2.2.2 k hk, h1.1.2.2 k (by simp)]
    exact h0.2.2 k hk
theorem M_byOne_t {N : Nat} (hN : 8589934592 ≤ N) {a1 a2 : Int32} (h_a1 : rg 0 7 a1) (h_a2 : rg 0 9 a2) {σ : Mem} (hm : InvM σ) : tot (f_M_byOne N a1 a2 σ) (fun q => rg 0 1 q.1 ∧ KM mS [] σ q.2) := by
  unfold f_M_byOne
  refine t_it3 (fun i1 i2 s => rg 0 1 i1 ∧ rg 0 8 i2 ∧ KM mS [] σ s) (fun _ i2 _ => (8 - i2.toInt).toNat) ?_ _ _ _ _ ⟨by decide, by decide, km_r hm⟩ (ms_u0 hN _ (by decide))
  rintro self i1 i2 s ⟨f1, f2, ks⟩ ih
  unfold M_byOne_B5
  refine t_if (fun _ => t_gd (isb_rg f1) (t_some ⟨f1, ks⟩)) (fun h => ?_)
  have f2' := rg_ltL (lo := 0) (hi := 7) (i_nle h) f2 ks.1.n1 (by decide)
  refine t_if (fun _ => ?_) (fun _ => t_gd (isb_rg f1) (t_some ⟨f1, ks⟩))
  obtain ⟨k, rfl, -, hk7, -⟩ := rg_ex f2' (by decide)
  refine t_bnd ?_
  rw [nadd1]
  refine t_it3 (fun i6 i7 s => rg 0 1 i6 ∧ (∃ j, k < j ∧ j ≤ 8 ∧ i7 = nI j) ∧ KM mS [] σ s) (fun _ i7 _ => 8 - i7.toNatClampNeg) ?_ _ _ _ _ ⟨f1, ⟨k + 1, by omega, by omega, rfl⟩, ks⟩ (by rw [nI_clamp (by omega)]; omega)
  rintro self2 i6 _ t ⟨f6, ⟨j, hj1, hj2, rfl⟩, kt⟩ ih2
  have out : tot (self i6 (nI k + 1) t) (fun q => rg 0 1 q.1 ∧ KM mS [] σ q.2) := ih _ _ _ ⟨f6, rg_w (lo := 0) (hi := 8) (rg_add (lo := 1) (hi := 8) f2' (by decide : rg 1 1 (1 : Int32)) (by decide)) (by decide), kt⟩ (ms_up f2' (by decide : rg 1 1 (1 : Int32)) (by decide))
  unfold M_byOne_B24
  refine t_if (fun _ => out) (fun h2 => t_if (fun h3 => ?_) (fun _ => out))
  have hj8 : j < 8 := by
    have := rg_ltL (lo := 0) (hi := 7) (i_nle h2) (nI_rg (b := 8) (by omega) (by omega)) kt.1.n1 (by decide)
    have := this.2
    rw [nI_toInt (by omega)] at this
    omega
  refine t_ob _ (M_turnNow_s (by omega) hj8 (by omega) kt.1) (fun s10 h10 => ?_)
  refine t_ob2 (fun r u => rg 0 1 r ∧ KM mS [] s10 u) (M_isIn_t hN h_a1 h_a2 h10.1.1) (fun r12 s11 ⟨f12, k11⟩ => ?_)
  refine t_ob _ (M_turnNow_s (by omega) hj8 (by omega) k11.1) (fun s13 h13 => ?_)
  rw [nadd1]
  refine ih2 _ _ _ ⟨f12, ⟨j + 1, by omega, by omega, rfl⟩, kq_turn (a := k) (b := j) (by omega) hj8 (by omega) kt h10 k11 h13⟩ ?_
  rw [nI_clamp (by omega), nI_clamp (by omega)]
  omega
theorem M_fewest_t {N : Nat} (hN : 8589934592 ≤ N) {a1 a2 : Int32} {σ : Mem} (hm : InvM σ) : tot (f_M_fewest N a1 a2 σ) (fun q => KM (0 :: mS) [] σ q.2) := by
  unfold f_M_fewest
  refine t_lm (KM [0] [] σ) (km_s (km_r hm) (by decide) (mS0 hm)) (fun s1 e1 k1 => ?_)
  have lift : ∀ {s : Mem}, KM mS [] s1 s → KM (0 :: mS) [] σ s := fun {s} h => km_t (S := 0 :: mS) (J := []) ⟨k1.1, fr_m k1.2 (by decide) (by decide)⟩ h (by decide) (by decide)
  refine t_if (fun _ => t_some (lift (km_r k1.1))) (fun h1 => t_if (fun _ => t_some (lift (km_r k1.1))) (fun h2 => ?_))
  have h_a1 := c_mpl h1 k1.1
  have h_a2 := c_in (lo := 0) (hi := 9) h2 (by decide)
  refine t_ob2 (fun r u => rg 0 1 r ∧ KM mS [] s1 u) (M_isIn_t hN h_a1 h_a2 k1.1) (fun r3 s2 ⟨f3, k2⟩ => ?_)
  refine t_if (fun _ => ?_) (fun _ => t_some (lift k2))
  refine t_ob2 (fun r u => rg 0 1 r ∧ KM mS [] s2 u) (M_byOne_t hN h_a1 h_a2 k2.1) (fun r5 s4 ⟨f5, k4⟩ => ?_)
  have k4' := km_t (S := mS) (J := []) k2 k4 (by decide) (by decide)
  refine t_if (fun _ => ?_) (fun _ => t_some (lift k4'))
  have hK : ∀ y s, KM mS [] s1 s → tot (M_fewest_K121 y s) (fun q => KM (0 :: mS) [] σ q.2) := by
    intro y s ks
    unfold M_fewest_K121
    exact t_if (fun _ => t_some (lift ks)) (fun _ => t_some (lift ks))
  refine t_it3 (fun i1 i2 s => rg 0 1 i1 ∧ rg 0 8 i2 ∧ KM mS [] s1 s) (fun _ i2 _ => (8 - i2.toInt).toNat) ?_ _ _ _ _ ⟨by decide, by decide, k4'⟩ (ms_u0 hN _ (by decide))
  rintro self i1 i2 s ⟨f1, f2, ks⟩ ih
  unfold M_fewest_B54
  refine t_if (fun _ => hK _ _ ks) (fun h => ?_)
  have f2' := rg_ltL (lo := 0) (hi := 7) (i_nle h) f2 ks.1.n1 (by decide)
  refine t_if (fun _ => ?_) (fun _ => hK _ _ ks)
  obtain ⟨k, rfl, -, hk7, -⟩ := rg_ex f2' (by decide)
  refine t_bnd ?_
  rw [nadd1]
  refine t_it3 (fun i6 i7 s => rg 0 1 i6 ∧ (∃ j, k < j ∧ j ≤ 8 ∧ i7 = nI j) ∧ KM mS [] s1 s) (fun _ i7 _ => 8 - i7.toNatClampNeg) ?_ _ _ _ _ ⟨f1, ⟨k + 1, by omega, by omega, rfl⟩, ks⟩ (by rw [nI_clamp (by omega)]; omega)
  rintro self2 i6 _ t ⟨f6, ⟨j, hj1, hj2, rfl⟩, kt⟩ ih2
  have out : tot (self i6 (nI k + 1) t) (fun q => KM (0 :: mS) [] σ q.2) := ih _ _ _ ⟨f6, rg_w (lo := 0) (hi := 8) (rg_add (lo := 1) (hi := 8) f2' (by decide : rg 1 1 (1 : Int32)) (by decide)) (by decide), kt⟩ (ms_up f2' (by decide : rg 1 1 (1 : Int32)) (by decide))
  unfold M_fewest_B73
  refine t_if (fun _ => out) (fun h2 => t_if (fun h3 => ?_) (fun _ => out))
  have hj8 : j < 8 := by
    have := rg_ltL (lo := 0) (hi := 7) (i_nle h2) (nI_rg (b := 8) (by omega) (by omega)) kt.1.n1 (by decide)
    have := this.2
    rw [nI_toInt (by omega)] at this
    omega
  refine t_ob _ (M_turnNow_s (by omega) hj8 (by omega) kt.1) (fun s10 h10 => ?_)
  refine t_ob2 (fun r u => rg 0 1 r ∧ KM mS [] s10 u) (M_byOne_t hN h_a1 h_a2 h10.1.1) (fun r12 s11 ⟨f12, k11⟩ => ?_)
  refine t_ob _ (M_turnNow_s (by omega) hj8 (by omega) k11.1) (fun s13 h13 => ?_)
  rw [nadd1]
  refine ih2 _ _ _ ⟨f12, ⟨j + 1, by omega, by omega, rfl⟩, kq_turn (a := k) (b := j) (by omega) hj8 (by omega) kt h10 k11 h13⟩ ?_
  rw [nI_clamp (by omega), nI_clamp (by omega)]
  omega
