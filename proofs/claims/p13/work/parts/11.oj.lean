/-! the relation of the two memories by the length of the text alone -/
theorem inv0 : InvD σ0 := by
  have z : ∀ a b : Int, a ≤ 0 → 0 ≤ b → ∀ i k, rg a b (gI σ0 k i) := fun a b h1 h2 i k => by
    rw [s0]
    have : (0 : Int32).toInt = 0 := by decide
    unfold rg
    omega
  have j : ∀ k i, jok (gJ σ0 k i) := fun k i => jok_0
  exact ⟨fun i => z _ _ (by decide) (by decide) i _, fun i => z _ _ (by decide) (by decide) i _, fun i => z _ _ (by decide) (by decide) i _, fun i => z _ _ (by decide) (by decide) i _, fun i => z _ _ (by decide) (by decide) i _, fun i => z _ _ (by decide) (by decide) i _, fun i => z _ _ (by decide) (by decide) i _, fun i => z _ _ (by decide) (by decide) i _, fun i => z _ _ (by decide) (by decide) i _, fun i => z _ _ (by decide) (by decide) i _, fun i => z _ _ (by decide) (by decide) i _, fun i => z _ _ (by decide) (by decide) i _, fun i => z _ _ (by decide) (by decide) i _, fun i => j _ i, fun i => j _ i⟩
theorem invm00 : InvM σ0 := by
  have z : ∀ a b : Int, a ≤ 0 → 0 ≤ b → ∀ i k, rg a b (gI σ0 k i) := fun a b h1 h2 i k => by
    rw [s0]
    have : (0 : Int32).toInt = 0 := by decide
    unfold rg
    omega
  have y : ∀ k i a, (gI σ0 k i).toBitVec.getLsbD a = false := fun k i a => bt_0 a
  refine ⟨fun i => z _ _ (by decide) (by decide) i _, z _ _ (by decide) (by decide) _ _, fun a _ => y _ _ a, fun i => z _ _ (by decide) (by decide) i _, fun r => z _ _ (by decide) (by decide) _ _, fun r a _ => y _ _ a, fun i => z _ _ (by decide) (by decide) i _, fun r => z _ _ (by decide) (by decide) _ _, fun r a _ => y _ _ a, fun i => z _ _ (by decide) (by decide) i _, fun i => z _ _ (by decide) (by decide) i _, fun i => z _ _ (by decide) (by decide) i _, fun i => z _ _ (by decide) (by decide) i _, fun i => z _ _ (by decide) (by decide) i _, fun i => z _ _ (by decide) (by decide) i _, fun i => z _ _ (by decide) (by decide) i _, fun i => z _ _ (by decide) (by decide) i _, fun i => z _ _ (by decide) (by decide) i _, fun i => z _ _ (by decide) (by decide) i _, fun i => z _ _ (by decide) (by decide) i _, fun i => z _ _ (by decide) (by decide) i _, fun i => z _ _ (by decide) (by decide) i _, fun i => z _ _ (by decide) (by decide) i _, fun i => z _ _ (by decide) (by decide) i _, fun i => z _ _ (by decide) (by decide) i _, fun i => z _ _ (by decide) (by decide) i _, fun i => z _ _ (by decide) (by decide) i _, fun i => z _ _ (by decide) (by decide) i _, fun i => z _ _ (by decide) (by decide) i _⟩
theorem invm0 : InvM μ0 := mS33 invm00
theorem dM_k {σ : Mem} (h : InvD σ) (x : Option Int32) : KD [] [28] σ (dM σ x) := by
  cases x with
  | none => exact kd_r h
  | some v => exact kd_j (kd_r h) (by decide) (dJ28 h)
def RelT (σ μ : Mem) : Prop := InvD σ ∧ InvM μ ∧ gI σ 1 0 = gI μ 7 0
theorem RelT_0 : RelT σ0 μ0 := ⟨inv0, invm0, rfl⟩
theorem RelT_q {σ μ s t : Mem} {S J S' J' : List Nat} (h : RelT σ μ) (k1 : KD S J σ s) (k2 : KM S' J' μ t) (h1 : 1 ∉ S) (h7 : 7 ∉ S') : RelT s t := ⟨k1.1, k2.1, by rw [k1.2.1 1 h1, k2.2.1 7 h7]; exact h.2.2⟩
theorem nI_inj {a b : Nat} (ha : a < 2147483648) (hb : b < 2147483648) (h : nI a = nI b) : a = b := by
  have e : (nI a).toInt = (nI b).toInt := by rw [h]
  rw [nI_toInt (by omega), nI_toInt (by omega)] at e
  omega
theorem st_RelT_sign_c {N : Nat} (hN : 8589934592 ≤ N) {σ μ : Mem} (hR : RelT σ μ) (a : Int32) : ∃ q q2 : Int32 × Mem, f_D_sign N a σ = some (q.1, q.2) ∧ f_M_sign N a μ = some (q2.1, q2.2) ∧ RelT q.2 q2.2 ∧ q.1 = q2.1 := by
  obtain ⟨q, e1, k1, k, hk, h1, h2⟩ := D_sign_t hN (a1 := a) hR.1
  obtain ⟨q2, e2, k2, k', hk', h1', h2'⟩ := M_sign_t hN (a1 := a) hR.2.1
  have ek : k = k' := nI_inj (by omega) (by omega) (by rw [← h1, ← h1']; exact hR.2.2)
  subst ek
  refine ⟨q, q2, e1, e2, ?_⟩
  by_cases hc : k + 4 ≤ 300
  · rw [if_pos hc] at h2 h2'
    exact ⟨⟨k1.1, k2.1, by rw [h2.2, h2'.2]⟩, by rw [h2.1, h2'.1]⟩
  · rw [if_neg hc] at h2 h2'
    exact ⟨⟨k1.1, k2.1, by rw [h2.2, h2'.2]⟩, by rw [h2.1, h2'.1]⟩
theorem st_RelT_sign {N : Nat} (hN : 8589934592 ≤ N) {σ μ : Mem} (hR : RelT σ μ) (a : Int32) : ∃ q q2 : Int32 × Mem, f_D_sign N a σ = some (q.1, q.2) ∧ f_M_sign N a μ = some (q2.1, q2.2) ∧ RelT q.2 q2.2 := by
  obtain ⟨q, q2, h1, h2, h3, -⟩ := st_RelT_sign_c hN hR a
  exact ⟨q, q2, h1, h2, h3⟩
theorem st_RelT_end_c {N : Nat} (hN : 8589934592 ≤ N) {σ μ : Mem} (hR : RelT σ μ) (a : Int32) : ∃ q q2 : Int32 × Mem, f_D_end a σ = some (q.1, q.2) ∧ f_M_end a μ = some (q2.1, q2.2) ∧ RelT q.2 q2.2 ∧ q.1 = q2.1 := by
  obtain ⟨q, e1, k1, h1⟩ := D_end_t (a1 := a) hR.1
  obtain ⟨q2, e2, k2, h2⟩ := M_end_t (a1 := a) hR.2.1
  rw [hR.2.2] at h1
  refine ⟨q, q2, e1, e2, ?_⟩
  by_cases hc : 0 ≤ a.toInt ∧ a.toInt ≤ (gI μ 7 0).toInt
  · rw [if_pos hc] at h1 h2
    exact ⟨⟨k1.1, k2.1, by rw [h1.2, h2.2]⟩, by rw [h1.1, h2.1]⟩
  · rw [if_neg hc] at h1 h2
    exact ⟨⟨k1.1, k2.1, by rw [h1.2, h2.2]⟩, by rw [h1.1, h2.1]⟩
theorem st_RelT_end {N : Nat} (hN : 8589934592 ≤ N) {σ μ : Mem} (hR : RelT σ μ) (a : Int32) : ∃ q q2 : Int32 × Mem, f_D_end a σ = some (q.1, q.2) ∧ f_M_end a μ = some (q2.1, q2.2) ∧ RelT q.2 q2.2 := by
  obtain ⟨q, q2, h1, h2, h3, -⟩ := st_RelT_end_c hN hR a
  exact ⟨q, q2, h1, h2, h3⟩
theorem st_RelT_round {N : Nat} (hN : 8589934592 ≤ N) {σ μ : Mem} (hR : RelT σ μ) : ∃ q q2 : Int32 × Mem, f_D_round N σ = some (q.1, q.2) ∧ f_M_round N μ = some (q2.1, q2.2) ∧ RelT q.2 q2.2 := by
  obtain ⟨q, e1, k1, h1⟩ := D_round_t hN hR.1
  obtain ⟨q2, e2, k2, h2⟩ := M_round_t hN hR.2.1
  exact ⟨q, q2, e1, e2, k1.1, k2.1, by rw [h1, h2]⟩
theorem st_RelT_judge {N : Nat} (hN : 8589934592 ≤ N) {σ μ : Mem} (hR : RelT σ μ) : ∃ q q2 : Int32 × Mem, f_D_judge N σ = some (q.1, q.2) ∧ f_M_judge N μ = some (q2.1, q2.2) ∧ RelT q.2 q2.2 := by
  obtain ⟨q, e1, k1, h1⟩ := D_judge_t hN hR.1
  obtain ⟨q2, e2, k2, h2⟩ := M_judge_t hN hR.2.1
  exact ⟨q, q2, e1, e2, k1.1, k2.1, by rw [h1, h2]⟩
theorem t_and {X : Type} {o : Option X} {P Q : X → Prop} (h1 : tot o P) (h2 : tot o Q) : tot o (fun x => P x ∧ Q x) := by
  obtain ⟨x, e, hx⟩ := h1
  obtain ⟨y, e2, hy⟩ := h2
  rw [e] at e2
  cases e2
  exact ⟨x, e, hx, hy⟩
theorem drawnD_v {N : Nat} (hN : 8589934592 ≤ N) {a1 a2 : Int32} {σ : Mem} : tot (f_D_drawn N a1 a2 σ) (fun q => if (1 ≤ a1.toInt ∧ a1.toInt ≤ 8) ∧ 0 ≤ a2.toInt ∧ a2.toInt ≤ 999999 then q.1 = a1 else q.1 = -1) := by
  have o1 : (1 : Int32).toInt = 1 := by decide
  have o8 : (8 : Int32).toInt = 8 := by decide
  have o0 : (0 : Int32).toInt = 0 := by decide
  have o9 : (999999 : Int32).toInt = 999999 := by decide
  unfold f_D_drawn
  refine t_if (fun h => t_some ?_) (fun h1 => t_if (fun h => t_some ?_) (fun h2 => t_if (fun h => t_some ?_) (fun h3 => t_if (fun h4 => ?_) (fun h => t_some ?_))))
  · rw [i_lt] at h
    rw [if_neg (by omega)]
  · rw [i_lt] at h
    rw [if_neg (by omega)]
  · rw [i_lt] at h
    rw [if_neg (by omega)]
  · rw [i_lt] at h1 h2 h3
    rw [i_le] at h4
    obtain ⟨n, rfl, hn1, hn8, -⟩ := rg_ex (a := 1) (b := 8) (x := a1) ⟨by omega, by omega⟩ (by decide)
    refine t_mono (drawnD_t (by omega) (by omega) (by omega) a2 σ) (fun q hq => ?_)
    rw [if_pos (by omega)]
    exact hq
  · rw [i_le] at h
    rw [if_neg (by omega)]
theorem drawnM_v {N : Nat} (hN : 8589934592 ≤ N) {a1 a2 : Int32} {σ : Mem} : tot (f_M_drawn N a1 a2 σ) (fun q => if (1 ≤ a1.toInt ∧ a1.toInt ≤ 8) ∧ 0 ≤ a2.toInt ∧ a2.toInt ≤ 999999 then q.1 = a1 else q.1 = -1) := by
  have o1 : (1 : Int64).toInt = 1 := by decide
  have o8 : (8 : Int64).toInt = 8 := by decide
  have o0 : (0 : Int64).toInt = 0 := by decide
  have o9 : (999999 : Int64).toInt = 999999 := by decide
  unfold f_M_drawn
  refine t_bnd ?_
  rw [min_iff, min_iff, i64, i64, o1, o8, o0, o9]
  by_cases h1 : 1 ≤ a1.toInt ∧ a1.toInt ≤ 8
  · rw [if_pos h1, if_neg (by decide)]
    by_cases h2 : 0 ≤ a2.toInt ∧ a2.toInt ≤ 999999
    · rw [if_pos h2, if_neg (by decide)]
      obtain ⟨n, rfl, hn1, hn8, -⟩ := rg_ex (a := 1) (b := 8) (x := a1) h1 (by decide)
      refine t_mono (drawnM_t (by omega) (by omega) a2 _) (fun q hq => ?_)
      rw [if_pos ⟨h1, h2⟩]
      exact hq
    · rw [if_neg h2, if_pos rfl]
      refine t_some ?_
      rw [if_neg (fun h => h2 h.2)]
  · rw [if_neg h1, if_pos rfl]
    refine t_some ?_
    rw [if_neg (fun h => h1 h.1)]
theorem st_RelT_drawn_c {N : Nat} (hN : 8589934592 ≤ N) {σ μ : Mem} (hR : RelT σ μ) (a b : Int32) : ∃ q q2 : Int32 × Mem, f_D_drawn N a b σ = some (q.1, q.2) ∧ f_M_drawn N a b μ = some (q2.1, q2.2) ∧ RelT q.2 q2.2 ∧ q.1 = q2.1 := by
  obtain ⟨q, e1, ⟨-, k1⟩, h1⟩ := t_and (D_drawn_t hN (a1 := a) (a2 := b) hR.1) (drawnD_v hN)
  obtain ⟨q2, e2, k2, h2⟩ := t_and (M_drawn_t hN (a1 := a) (a2 := b) hR.2.1) (drawnM_v hN)
  refine ⟨q, q2, e1, e2, RelT_q hR k1 k2 (by decide) (by decide), ?_⟩
  by_cases hc : (1 ≤ a.toInt ∧ a.toInt ≤ 8) ∧ 0 ≤ b.toInt ∧ b.toInt ≤ 999999
  · rw [if_pos hc] at h1 h2
    rw [h1, h2]
  · rw [if_neg hc] at h1 h2
    rw [h1, h2]
