/-! numbers below 2^31 as nI; what a call leaves as it was -/
theorem inb_nI {k n : Nat} (h : k < n) (hn : n < 2 ^ 31) : inb (nI k) n = true := by
  unfold inb
  rw [nI_toInt (by omega)]
  simp
  omega
theorem inb_ex {i : Int32} {n : Nat} (hn : n < 2 ^ 31) (h : inb i n = true) : ∃ k, k < n ∧ i = nI k := vp_in_of (inb_in h) hn
theorem nle {a b : Nat} (ha : a < 2 ^ 31) (hb : b < 2 ^ 31) : nI a ≤ nI b ↔ a ≤ b := nI_leI ha hb
theorem nlt {a b : Nat} (ha : a < 2 ^ 31) (hb : b < 2 ^ 31) : nI a < nI b ↔ a < b := nI_ltI ha hb
theorem l0 : (0 : Int32) = nI 0 := rfl
theorem l1 : (1 : Int32) = nI 1 := rfl
theorem l2 : (2 : Int32) = nI 2 := rfl
theorem l4 : (4 : Int32) = nI 4 := rfl
theorem l8 : (8 : Int32) = nI 8 := rfl
theorem l9 : (9 : Int32) = nI 9 := rfl
theorem l300 : (300 : Int32) = nI 300 := rfl
theorem nadd1 (a : Nat) : nI a + 1 = nI (a + 1) := nI_1 a
theorem n1add (a : Nat) : (1 : Int32) + nI a = nI (1 + a) := by rw [l1, nI_add]
theorem nsub1 {a : Nat} (h : 0 < a) : nI a + (-1) = nI (a - 1) := sb_m1 h
theorem nsub1' {a : Nat} (h : 1 ≤ a) : nI a - 1 = nI (a - 1) := by rw [l1, pk_sub h]
def fr (S J : List Nat) (σ τ : Mem) : Prop := (∀ k, k ∉ S → gI τ k = gI σ k) ∧ (∀ k, k ∉ J → gJ τ k = gJ σ k)
theorem fr_r (S J : List Nat) (σ : Mem) : fr S J σ σ := ⟨fun _ _ => rfl, fun _ _ => rfl⟩
theorem fr_t {S J : List Nat} {a b c : Mem} (h1 : fr S J a b) (h2 : fr S J b c) : fr S J a c := ⟨fun k hk => (h2.1 k hk).trans (h1.1 k hk), fun k hk => (h2.2 k hk).trans (h1.2 k hk)⟩
theorem fr_m {S J S' J' : List Nat} {a b : Mem} (h : fr S J a b) (hS : ∀ k ∈ S, k ∈ S') (hJ : ∀ k ∈ J, k ∈ J') : fr S' J' a b := ⟨fun k hk => h.1 k (fun h2 => hk (hS k h2)), fun k hk => h.2 k (fun h2 => hk (hJ k h2))⟩
theorem fr_sI {S J : List Nat} {σ : Mem} {k i : Nat} {v : Int32} (h : k ∈ S) : fr S J σ (sI σ k i v) := ⟨fun a ha => by
  rw [gI_sI, if_neg]
  intro e
  exact ha (e ▸ h), fun _ _ => rfl⟩
theorem fr_sJ {S J : List Nat} {σ : Mem} {k i : Nat} {v : Int64} (h : k ∈ J) : fr S J σ (sJ σ k i v) := ⟨fun _ _ => rfl, fun a ha => by
  rw [gJ_sJ, if_neg]
  intro e
  exact ha (e ▸ h)⟩
theorem fr_cJ {S J : List Nat} {σ : Mem} {k a b n : Nat} (h : k ∈ J) : fr S J σ (cJ σ k a b n) := ⟨fun _ _ => rfl, fun c hc => by
  rw [gJ_cJ, if_neg]
  intro e
  exact hc (e ▸ h)⟩
-- arrows of the two Duels
theorem letBeatS_t {x y : Nat} (hx : x < 8) (hy : y < 8) (σ : Mem) : tot (f_Du_letBeatS (nI x) (nI y) σ) (fun τ => fr [14] [] σ τ) := by
  unfold f_Du_letBeatS
  refine t_gd (inb_nI hx (by decide)) (t_gd (inb_nI hx (by decide)) (t_bnd (t_gd (inb_nI hy (by decide)) (t_gd (inb_nI hy (by decide)) (t_bnd (t_some ?_))))))
  exact fr_t (fr_sI (by decide)) (fr_sI (by decide))
theorem letBeatN_t {x y : Nat} (hx : x < 8) (hy : y < 8) (σ : Mem) : tot (f_Du_letBeatN (nI x) (nI y) σ) (fun τ => fr [13] [] σ τ) := by
  unfold f_Du_letBeatN
  refine t_gd (inb_nI hx (by decide)) (t_gd (inb_nI hx (by decide)) (t_bnd (t_gd (inb_nI hy (by decide)) (t_gd (inb_nI hy (by decide)) (t_bnd (t_some ?_))))))
  exact fr_t (fr_sI (by decide)) (fr_sI (by decide))
theorem clearS_t {N : Nat} (hN : 20 ≤ N) (σ : Mem) : tot (f_Du_clearS N σ) (fun τ => fr [4, 14] [] σ τ) := by
  unfold f_Du_clearS
  refine t_bnd ?_
  refine t_it2 (fun i s => ∃ k, k ≤ 8 ∧ i = nI k ∧ fr [4, 14] [] σ s) (fun i _ => 8 - i.toNatClampNeg) ?_ N _ _ ⟨0, by decide, rfl, fr_sI (by decide)⟩ (by rw [n0]; omega)
  rintro self _ s ⟨k, hk, rfl, hf⟩ ih
  unfold Du_clearS_B7
  refine t_if (fun _ => t_some hf) (fun h => ?_)
  have hk8 : k < 8 := by
    rw [l8, nle (by decide) (by omega)] at h
    omega
  refine t_gd (inb_nI hk8 (by decide)) (t_bnd ?_)
  rw [nadd1]
  refine ih _ _ ⟨k + 1, by omega, rfl, fr_t hf (fr_sI (by decide))⟩ ?_
  rw [nI_clamp (by omega), nI_clamp (by omega)]
  omega
theorem clearN_t {N : Nat} (hN : 20 ≤ N) (σ : Mem) : tot (f_Du_clearN N σ) (fun τ => fr [3, 13] [] σ τ) := by
  unfold f_Du_clearN
  refine t_bnd ?_
  refine t_it2 (fun i s => ∃ k, k ≤ 8 ∧ i = nI k ∧ fr [3, 13] [] σ s) (fun i _ => 8 - i.toNatClampNeg) ?_ N _ _ ⟨0, by decide, rfl, fr_sI (by decide)⟩ (by rw [n0]; omega)
  rintro self _ s ⟨k, hk, rfl, hf⟩ ih
  unfold Du_clearN_B7
  refine t_if (fun _ => t_some hf) (fun h => ?_)
  have hk8 : k < 8 := by
    rw [l8, nle (by decide) (by omega)] at h
    omega
  refine t_gd (inb_nI hk8 (by decide)) (t_bnd ?_)
  rw [nadd1]
  refine ih _ _ ⟨k + 1, by omega, rfl, fr_t hf (fr_sI (by decide))⟩ ?_
  rw [nI_clamp (by omega), nI_clamp (by omega)]
  omega
theorem forgetAll_t {N : Nat} (hN : 20 ≤ N) (σ : Mem) : tot (f_Pa_forgetAll N σ) (fun τ => fr [5] [16] σ τ) := by
  unfold f_Pa_forgetAll
  refine t_bnd ?_
  refine t_it2 (fun i s => ∃ k, k ≤ 2 ∧ i = nI k ∧ fr [5] [16] σ s) (fun i _ => 2 - i.toNatClampNeg) ?_ N _ _ ⟨0, by decide, rfl, fr_sI (by decide)⟩ (by rw [n0]; omega)
  rintro self _ s ⟨k, hk, rfl, hf⟩ ih
  unfold Pa_forgetAll_B7
  refine t_if (fun _ => t_some hf) (fun h => ?_)
  have hk8 : k < 2 := by
    rw [l2, nle (by decide) (by omega)] at h
    omega
  refine t_gd (inb_nI hk8 (by decide)) (t_bnd ?_)
  rw [nadd1]
  refine ih _ _ ⟨k + 1, by omega, rfl, fr_t hf (fr_sJ (by decide))⟩ ?_
  rw [nI_clamp (by omega), nI_clamp (by omega)]
  omega
