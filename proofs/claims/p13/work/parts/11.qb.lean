/-! count answers alike -/
def sm (h : Nat → Nat) : Nat → Nat
  | 0 => 0
  | k + 1 => sm h k + h k
def su (h : Nat → Nat) (a : Nat) : Nat → Nat
  | 0 => 0
  | m + 1 => su h a m + h (a + m)
theorem sm_c {h g : Nat → Nat} : ∀ n, (∀ i, i < n → h i = g i) → sm h n = sm g n
  | 0, _ => rfl
  | n + 1, e => by
    show sm h n + h n = sm g n + g n
    rw [sm_c n (fun i hi => e i (by omega)), e n (by omega)]
theorem sm_add (h g : Nat → Nat) : ∀ n, sm (fun i => h i + g i) n = sm h n + sm g n
  | 0 => rfl
  | n + 1 => by
    show sm (fun i => h i + g i) n + (h n + g n) = (sm h n + h n) + (sm g n + g n)
    rw [sm_add h g n]
    omega
theorem sm_0 : ∀ n, sm (fun _ => 0) n = 0
  | 0 => rfl
  | n + 1 => by
    show sm (fun _ => 0) n + 0 = 0
    rw [sm_0 n]
/-- over all ordered pairs, or over pairs once with both ways -/
theorem pairs (g : Nat → Nat → Nat) (h0 : ∀ i, g i i = 0) : ∀ n, sm (fun i => sm (fun j => g i j) n) n = sm (fun i => su (fun j => g i j + g j i) (i + 1) (n - (i + 1))) n
  | 0 => rfl
  | n + 1 => by
    have ih := pairs g h0 n
    show sm (fun i => sm (fun j => g i j) n + g i n) n + (sm (fun j => g n j) n + g n n) = sm (fun i => su (fun j => g i j + g j i) (i + 1) (n + 1 - (i + 1))) n + su (fun j => g n j + g j n) (n + 1) (n + 1 - (n + 1))
    have e1 : sm (fun i => su (fun j => g i j + g j i) (i + 1) (n + 1 - (i + 1))) n = sm (fun i => su (fun j => g i j + g j i) (i + 1) (n - (i + 1)) + (g i n + g n i)) n := by
      refine sm_c n (fun i hi => ?_)
      have e : n + 1 - (i + 1) = (n - (i + 1)) + 1 := by omega
      show su (fun j => g i j + g j i) (i + 1) (n + 1 - (i + 1)) = _
      rw [e]
      show su (fun j => g i j + g j i) (i + 1) (n - (i + 1)) + (g i (i + 1 + (n - (i + 1))) + g (i + 1 + (n - (i + 1))) i) = _
      have e2 : i + 1 + (n - (i + 1)) = n := by omega
      rw [e2]
    have e3 : n + 1 - (n + 1) = 0 := by omega
    have a1 : sm (fun i => sm (fun j => g i j) n + g i n) n = sm (fun i => sm (fun j => g i j) n) n + sm (fun i => g i n) n := sm_add _ _ n
    have a2 : sm (fun i => su (fun j => g i j + g j i) (i + 1) (n - (i + 1)) + (g i n + g n i)) n = sm (fun i => su (fun j => g i j + g j i) (i + 1) (n - (i + 1))) n + sm (fun i => g i n + g n i) n := sm_add _ _ n
    have a3 : sm (fun i => g i n + g n i) n = sm (fun i => g i n) n + sm (fun i => g n i) n := sm_add _ _ n
    have a4 : su (fun j => g n j + g j n) (n + 1) 0 = 0 := rfl
    rw [e1, e3, a1, a2, a3, a4, ih, h0]
    omega
theorem sm_le {h : Nat → Nat} {c : Nat} (hc : ∀ i, h i ≤ c) : ∀ n, sm h n ≤ c * n
  | 0 => Nat.le_refl _
  | n + 1 => by
    have := sm_le hc n
    have := hc n
    show sm h n + h n ≤ c * (n + 1)
    rw [Nat.mul_succ]
    omega
theorem su_le {h : Nat → Nat} {c : Nat} (hc : ∀ i, h i ≤ c) (a : Nat) : ∀ n, su h a n ≤ c * n
  | 0 => Nat.le_refl _
  | n + 1 => by
    have := su_le hc a n
    have := hc (a + n)
    show su h a n + h (a + n) ≤ c * (n + 1)
    rw [Nat.mul_succ]
    omega
/-- the cycles of three through an arrow from i to j -/
def cyw (μ : Mem) (f : Nat → Int32) (i j : Nat) : Nat := pc (f j &&& ov μ i)
def cyg (μ : Mem) (f : Nat → Int32) (i j : Nat) : Nat := if bt (f i) j = true then cyw μ f i j else 0
theorem cyD {N : Nat} (hN : 8589934592 ≤ N) {σ μ : Mem} (hD : InvD σ) {n : Nat} (h8 : n ≤ 8) (h3 : gI σ 3 0 = nI n) (h1 : gI μ 1 0 = nI n) (h13 : ∀ a, a < 8 → gI μ 1 (1 + a) = gI σ 13 a) (hT : Tn n (gI σ 13)) : f_Du_cyclesOfThreeN N σ = some (nI (sm (fun i => su (fun j => cyg μ (gI σ 13) i j + cyg μ (gI σ 13) j i) (i + 1) (n - (i + 1))) n) / 3) := by
  suffices h : tot (f_Du_cyclesOfThreeN N σ) (fun r => r = nI (sm (fun i => su (fun j => cyg μ (gI σ 13) i j + cyg μ (gI σ 13) j i) (i + 1) (n - (i + 1))) n) / 3) by
    obtain ⟨x, e, rfl⟩ := h
    exact e
  unfold f_Du_cyclesOfThreeN
  refine t_it2 (fun x i => ∃ k, k ≤ n ∧ i = nI k ∧ x = nI (sm (fun i => su (fun j => cyg μ (gI σ 13) i j + cyg μ (gI σ 13) j i) (i + 1) (n - (i + 1))) k)) (fun _ i => n - i.toNatClampNeg) ?_ N _ _ ⟨0, by omega, rfl, rfl⟩ (by rw [n0]; omega)
  rintro self _ _ ⟨k, hk, rfl, rfl⟩ ih
  unfold Du_cyclesOfThreeN_B4
  rw [h3]
  refine t_if (fun h => ?_) (fun h => ?_)
  · have : k = n := by
      rw [nle (by omega) (by omega)] at h
      omega
    subst this
    exact t_some rfl
  · have hkn : k < n := by
      rw [nle (by omega) (by omega)] at h
      omega
    refine t_bnd ?_
    rw [nadd1]
    refine t_it2 (fun x i => ∃ j, j ≤ n - (k + 1) ∧ i = nI (k + 1 + j) ∧ x = nI (sm (fun i => su (fun j => cyg μ (gI σ 13) i j + cyg μ (gI σ 13) j i) (i + 1) (n - (i + 1))) k + su (fun j => cyg μ (gI σ 13) k j + cyg μ (gI σ 13) j k) (k + 1) j)) (fun _ i => n - i.toNatClampNeg) ?_ N _ _ ⟨0, by omega, rfl, rfl⟩ (by rw [nI_clamp (by omega)]; omega)
    rintro self2 _ _ ⟨j, hj, rfl, rfl⟩ ih2
    unfold Du_cyclesOfThreeN_B16
    rw [h3]
    refine t_if (fun h2 => ?_) (fun h2 => ?_)
    · have : j = n - (k + 1) := by
        rw [nle (by omega) (by omega)] at h2
        omega
      subst this
      rw [nadd1]
      refine ih _ _ ⟨k + 1, by omega, rfl, rfl⟩ ?_
      rw [nI_clamp (by omega), nI_clamp (by omega)]
      omega
    · have hjn : j < n - (k + 1) := by
        rw [nle (by omega) (by omega)] at h2
        omega
      have dec : n - (nI (k + 1 + (j + 1))).toNatClampNeg < n - (nI (k + 1 + j)).toNatClampNeg := by
        rw [nI_clamp (by omega), nI_clamp (by omega)]
        omega
      have anti := hT.2.2 k (k + 1 + j) (by omega) (by omega) (by omega)
      have r13 : ∀ a, rg 0 255 (gI σ 13 a) := fun a => hD.r13 a
      rw [isb_e (by omega) (by omega), ob_s]
      cases e : bt (gI σ 13 k) (k + 1 + j)
      · rw [if_pos (by decide)]
        refine t_gd (inb_nI (by omega) (by decide)) ?_
        rw [ov_e h3 h1 h13 (by omega), ob_s]
        unfold Du_cyclesOfThreeN_J68
        rw [nI_clamp (by omega), cnt_v (rg_andl _ (r13 k) (by decide)), nI_add, bnd_e, nadd1]
        refine ih2 _ _ ⟨j + 1, by omega, rfl, ?_⟩ dec
        congr 1
        have e2 : bt (gI σ 13 (k + 1 + j)) k = true := by
          rw [e] at anti
          cases e3 : bt (gI σ 13 (k + 1 + j)) k
          · rw [e3] at anti; exact absurd anti (by decide)
          · rfl
        show _ + _ = _ + (su _ (k + 1) j + (cyg μ (gI σ 13) k (k + 1 + j) + cyg μ (gI σ 13) (k + 1 + j) k))
        have c1' : cyg μ (gI σ 13) k (k + 1 + j) = 0 := by unfold cyg; rw [if_neg (by rw [e]; decide)]
        have c2' : cyg μ (gI σ 13) (k + 1 + j) k = pc (gI σ 13 k &&& ov μ (k + 1 + j)) := by unfold cyg cyw; rw [if_pos e2]
        rw [c1', c2']
        omega
      · rw [if_neg (by decide)]
        refine t_gd (inb_nI (by omega) (by decide)) ?_
        rw [ov_e h3 h1 h13 (by omega), ob_s]
        unfold Du_cyclesOfThreeN_J68
        rw [nI_clamp (by omega), cnt_v (rg_andl _ (r13 _) (by decide)), nI_add, bnd_e, nadd1]
        refine ih2 _ _ ⟨j + 1, by omega, rfl, ?_⟩ dec
        congr 1
        have e2 : bt (gI σ 13 (k + 1 + j)) k = false := by
          rw [e] at anti
          cases e3 : bt (gI σ 13 (k + 1 + j)) k
          · rfl
          · rw [e3] at anti; exact absurd anti (by decide)
        show _ + _ = _ + (su _ (k + 1) j + (cyg μ (gI σ 13) k (k + 1 + j) + cyg μ (gI σ 13) (k + 1 + j) k))
        have c1' : cyg μ (gI σ 13) k (k + 1 + j) = pc (gI σ 13 (k + 1 + j) &&& ov μ k) := by unfold cyg cyw; rw [if_pos e]
        have c2' : cyg μ (gI σ 13) (k + 1 + j) k = 0 := by unfold cyg; rw [if_neg (by rw [e2]; decide)]
        rw [c1', c2']
        omega
theorem cyM {N : Nat} (hN : 8589934592 ≤ N) {σ μ : Mem} (hM : InvM μ) {n : Nat} (h8 : n ≤ 8) (h1 : gI μ 1 0 = nI n) (h13 : ∀ a, a < 8 → gI μ 1 (1 + a) = gI σ 13 a) : f_M_cycles N μ = some (nI (sm (fun i => sm (fun j => cyg μ (gI σ 13) i j) n) n) / 3) := by
  suffices h : tot (f_M_cycles N μ) (fun r => r = nI (sm (fun i => sm (fun j => cyg μ (gI σ 13) i j) n) n) / 3) by
    obtain ⟨x, e, rfl⟩ := h
    exact e
  unfold f_M_cycles
  refine t_it2 (fun x i => ∃ k, k ≤ n ∧ i = nI k ∧ x = nI (sm (fun i => sm (fun j => cyg μ (gI σ 13) i j) n) k)) (fun _ i => n - i.toNatClampNeg) ?_ N _ _ ⟨0, by omega, rfl, rfl⟩ (by rw [n0]; omega)
  rintro self _ _ ⟨k, hk, rfl, rfl⟩ ih
  unfold M_cycles_B4
  rw [many_e h1]
  refine t_if (fun h => ?_) (fun h => ?_)
  · have : k = n := by
      rw [nle (by omega) (by omega)] at h
      omega
    subst this
    exact t_some rfl
  · have hkn : k < n := by
      rw [nle (by omega) (by omega)] at h
      omega
    refine t_it2 (fun x i => ∃ j, j ≤ n ∧ i = nI j ∧ x = nI (sm (fun i => sm (fun j => cyg μ (gI σ 13) i j) n) k + sm (fun j => cyg μ (gI σ 13) k j) j)) (fun _ i => n - i.toNatClampNeg) ?_ N _ _ ⟨0, by omega, rfl, rfl⟩ (by rw [n0]; omega)
    rintro self2 _ _ ⟨j, hj, rfl, rfl⟩ ih2
    unfold M_cycles_B14
    rw [many_e h1]
    refine t_if (fun h2 => ?_) (fun h2 => ?_)
    · have : j = n := by
        rw [nle (by omega) (by omega)] at h2
        omega
      subst this
      rw [nadd1]
      refine ih _ _ ⟨k + 1, by omega, rfl, rfl⟩ ?_
      rw [nI_clamp (by omega), nI_clamp (by omega)]
      omega
    · have hjn : j < n := by
        rw [nle (by omega) (by omega)] at h2
        omega
      have dec : n - (nI (j + 1)).toNatClampNeg < n - (nI j).toNatClampNeg := by
        rw [nI_clamp (by omega), nI_clamp (by omega)]
        omega
      rw [beats_e (by omega), ob_s, has_bt (by omega), h13 k (by omega), nadd1]
      cases e : bt (gI σ 13 k) j
      · rw [if_pos (by decide), bnd_e, Int32.add_zero]
        refine ih2 _ _ ⟨j + 1, by omega, rfl, ?_⟩ dec
        congr 1
        show _ + _ = _ + (sm (fun j => cyg μ (gI σ 13) k j) j + cyg μ (gI σ 13) k j)
        have c1' : cyg μ (gI σ 13) k j = 0 := by unfold cyg; rw [if_neg (by rw [e]; decide)]
        omega
      · rw [if_neg (by decide), beats_e (by omega), ob_s, over_e (by omega), ob_s, h13 j (by omega)]
        refine t_ob _ (M_sizeOf_s hN (rg_andl _ (by rw [← h13 j (by omega)]; exact hM.r1 _) (by decide))) (fun r11 h11 => ?_)
        rw [h11, nI_add, bnd_e]
        refine ih2 _ _ ⟨j + 1, by omega, rfl, ?_⟩ dec
        congr 1
        show _ + _ = _ + (sm (fun j => cyg μ (gI σ 13) k j) j + cyg μ (gI σ 13) k j)
        have c1' : cyg μ (gI σ 13) k j = pc (gI σ 13 j &&& ov μ k) := by unfold cyg cyw; rw [if_pos e]
        omega
theorem cy_b {N : Nat} (hN : 8589934592 ≤ N) {σ μ : Mem} (hD : InvD σ) (hM : InvM μ) {n : Nat} (h8 : n ≤ 8) (h3 : gI σ 3 0 = nI n) (h1 : gI μ 1 0 = nI n) (h13 : ∀ a, a < 8 → gI μ 1 (1 + a) = gI σ 13 a) (hT : Tn n (gI σ 13)) : ∃ r, f_Du_cyclesOfThreeN N σ = some r ∧ f_M_cycles N μ = some r := by
  refine ⟨_, cyD hN hD h8 h3 h1 h13 hT, ?_⟩
  rw [cyM (σ := σ) hN hM h8 h1 h13]
  by_cases h9 : True
  · congr 3
    have hz : ∀ i, i < n → cyg μ (gI σ 13) i i = 0 := fun i hi => by
      unfold cyg
      rw [if_neg]
      intro e
      exact (hT.2.1 i i (by omega) e).2.2 rfl
    -- beyond the PLAYERS nothing is counted
    have g' : ∀ i j, i < n → cyg μ (gI σ 13) i j = (fun i j => if i = j then 0 else cyg μ (gI σ 13) i j) i j := fun i j hi => by
      show _ = if i = j then 0 else cyg μ (gI σ 13) i j
      by_cases c : i = j
      · rw [if_pos c, ← c]; exact hz i hi
      · rw [if_neg c]
    have p := pairs (fun i j => if i = j then 0 else cyg μ (gI σ 13) i j) (fun i => if_pos rfl) n
    have l : sm (fun i => sm (fun j => cyg μ (gI σ 13) i j) n) n = sm (fun i => sm (fun j => (fun i j => if i = j then 0 else cyg μ (gI σ 13) i j) i j) n) n := sm_c n (fun i hi => sm_c n (fun j _ => g' i j hi))
    rw [l, p]
    refine sm_c n (fun i hi => ?_)
    have su_c : ∀ (h g : Nat → Nat) a m, (∀ q, a ≤ q → q < a + m → h q = g q) → su h a m = su g a m := by
      intro h g a m
      induction m with
      | zero => intro _; rfl
      | succ m ih =>
        intro e
        show su h a m + h (a + m) = su g a m + g (a + m)
        rw [ih (fun q q1 q2 => e q q1 (by omega)), e (a + m) (by omega) (by omega)]
    refine su_c _ _ _ _ (fun q q1 q2 => ?_)
    show (if i = q then 0 else cyg μ (gI σ 13) i q) + (if q = i then 0 else cyg μ (gI σ 13) q i) = _
    rw [if_neg (by omega), if_neg (by omega)]
  · exact absurd trivial h9
theorem unb_D {N : Nat} (hN : 8589934592 ≤ N) {σ μ : Mem} {n : Nat} (h8 : n ≤ 8) (h3 : gI σ 3 0 = nI n) (h1 : gI μ 1 0 = nI n) (h13 : ∀ a, a < 8 → gI μ 1 (1 + a) = gI σ 13 a) : tot (f_Du_unbeatenOfN N (t_Du_everybodyN σ) σ) (fun r => (r = 0 ∧ ∀ j, j < n → ¬ ov μ j = 0) ∨ ∃ k, k < n ∧ r = (1 : Int32) <<< (nI k &&& 31) ∧ ov μ k = 0) := by
  unfold f_Du_unbeatenOfN
  refine t_it1 (fun i => ∃ k, k ≤ n ∧ i = nI k ∧ ∀ j, j < k → ¬ ov μ j = 0) (fun i => n - i.toNatClampNeg) ?_ N _ ⟨0, by omega, rfl, fun j hj => by omega⟩ (by rw [n0]; omega)
  rintro self _ ⟨k, hk, rfl, hz⟩ ih
  unfold Du_unbeatenOfN_B2
  rw [h3]
  refine t_if (fun h => ?_) (fun h => ?_)
  · have : k = n := by
      rw [nle (by omega) (by omega)] at h
      omega
    subst this
    exact t_some (Or.inl ⟨rfl, hz⟩)
  · have hkn : k < n := by
      rw [nle (by omega) (by omega)] at h
      omega
    have ein : bt (t_Du_everybodyN σ) k = true := by
      unfold t_Du_everybodyN
      rw [h3, bt_mask h8 (by omega), decide_eq_true hkn]
    rw [bit_bt (by omega), ein, if_pos (by decide), ov_e h3 h1 h13 (by omega), ob_s]
    refine t_if (fun h2 => t_some (Or.inr ⟨k, hkn, rfl, h2⟩)) (fun h2 => ?_)
    rw [nadd1]
    refine ih _ ⟨k + 1, by omega, rfl, fun j hj => ?_⟩ ?_
    · by_cases e : j = k
      · rw [e]; exact h2
      · exact hz j (by omega)
    · rw [nI_clamp (by omega), nI_clamp (by omega)]
      omega
theorem ov_bt {μ : Mem} {n : Nat} (h8 : n ≤ 8) (h1 : gI μ 1 0 = nI n) {x j : Nat} (hx : x < 8) (hj : j < 32) : bt (ov μ x) j = (decide (j < n) && !(bt (gI μ 1 (1 + x)) j) && !(decide (j = x))) := by
  unfold ov
  rw [bt_and, bt_and, bt_not _ hj, bt_not _ hj, all_e h1, bt_mask h8 hj, bt_one (by omega) hj]
theorem ov_one {σ μ : Mem} {n : Nat} (h8 : n ≤ 8) (h1 : gI μ 1 0 = nI n) (h13 : ∀ a, a < 8 → gI μ 1 (1 + a) = gI σ 13 a) (hT : Tn n (gI σ 13)) {a b : Nat} (ha : a < n) (hb : b < n) (h2 : ov μ a = 0) (h4 : ov μ b = 0) : a = b := by
  refine Classical.byContradiction (fun hab => ?_)
  have e1 := ov_bt h8 h1 (x := a) (j := b) (by omega) (by omega)
  have e2 := ov_bt h8 h1 (x := b) (j := a) (by omega) (by omega)
  rw [h2, bt_0, decide_eq_true hb, decide_eq_false (fun q => hab q.symm), h13 a (by omega)] at e1
  rw [h4, bt_0, decide_eq_true ha, decide_eq_false hab, h13 b (by omega)] at e2
  have anti := hT.2.2 a b ha hb hab
  cases q1 : bt (gI σ 13 a) b <;> cases q2 : bt (gI σ 13 b) a <;> rw [q1, q2] at anti <;> rw [q1] at e1 <;> rw [q2] at e2 <;> revert anti e1 e2 <;> decide
theorem unb_M {N : Nat} (hN : 8589934592 ≤ N) {σ μ : Mem} {n : Nat} (h8 : n ≤ 8) (h1 : gI μ 1 0 = nI n) (h13 : ∀ a, a < 8 → gI μ 1 (1 + a) = gI σ 13 a) (hT : Tn n (gI σ 13)) : tot (it2 (M_count_B82 μ) N (0 : Int32) (0 : Int32)) (fun q => q.2 = μ ∧ ((q.1 = 0 ∧ ∀ j, j < n → ¬ ov μ j = 0) ∨ ∃ k, k < n ∧ q.1 = (1 : Int32) <<< (nI k &&& 31) ∧ ov μ k = 0)) := by
  refine t_it2 (fun x i => ∃ k, k ≤ n ∧ i = nI k ∧ ((x = 0 ∧ ∀ j, j < k → ¬ ov μ j = 0) ∨ ∃ j, j < k ∧ x = (1 : Int32) <<< (nI j &&& 31) ∧ ov μ j = 0)) (fun _ i => n - i.toNatClampNeg) ?_ N _ _ ⟨0, by omega, rfl, Or.inl ⟨rfl, fun j hj => by omega⟩⟩ (by rw [n0]; omega)
  rintro self x _ ⟨k, hk, rfl, hor⟩ ih
  unfold M_count_B82
  rw [many_e h1]
  refine t_if (fun h => ?_) (fun h => ?_)
  · have : k = n := by
      rw [nle (by omega) (by omega)] at h
      omega
    subst this
    exact t_some ⟨rfl, hor⟩
  · have hkn : k < n := by
      rw [nle (by omega) (by omega)] at h
      omega
    have dec : n - (nI (k + 1)).toNatClampNeg < n - (nI k).toNatClampNeg := by
      rw [nI_clamp (by omega), nI_clamp (by omega)]
      omega
    rw [over_e (by omega), ob_s, nadd1]
    refine t_if (fun h2 => t_bnd ?_) (fun h2 => t_bnd ?_)
    · refine ih _ _ ⟨k + 1, by omega, rfl, Or.inr ⟨k, by omega, ?_, h2⟩⟩ dec
      rcases hor with ⟨e, -⟩ | ⟨j, j1, -, j3⟩
      · rw [e]; exact Int32.zero_or
      · have := ov_one h8 h1 h13 hT (by omega) hkn j3 h2
        omega
    · rw [Int32.or_zero]
      refine ih _ _ ⟨k + 1, by omega, rfl, ?_⟩ dec
      rcases hor with ⟨e, e2⟩ | ⟨j, j1, j2, j3⟩
      · refine Or.inl ⟨e, fun j hj => ?_⟩
        by_cases c : j = k
        · rw [c]; exact h2
        · exact e2 j (by omega)
      · exact Or.inr ⟨j, by omega, j2, j3⟩
theorem st_Rl_count_c {N : Nat} (hN : 8589934592 ≤ N) {σ μ : Mem} (hR : Rl σ μ) (a : Int32) : ∃ (q : Int32) (q2 : Int32 × Mem), f_D_count N a σ = some q ∧ f_M_count N a μ = some (q2.1, q2.2) ∧ Rl σ q2.2 ∧ q = q2.1 := by
  obtain ⟨s1, es1⟩ : ∃ s, s = sI μ 0 0 0 := ⟨_, rfl⟩
  obtain ⟨hR1, k0⟩ := Rl_m0 hR es1
  obtain ⟨n, h8, h3, h1, h13, hT⟩ := Rl_n hR1
  obtain ⟨u, hu, u5, u3, -⟩ := hR1.2.2.2.2.1
  unfold f_D_count f_M_count
  rw [bnd_e, ← es1]
  by_cases c0 : a = 0
  · subst c0
    refine ⟨nI n, (nI n, s1), ?_, ?_, hR1, rfl⟩
    · show (if (0 : Int32) = 0 then _ else _) = _
      rw [if_pos rfl, h3]
    · show (if (0 : Int32) = 0 then _ else _) = _
      rw [if_pos rfl, many_e h1]
  · by_cases c1' : a = 1
    · subst c1'
      refine ⟨_, (t_Du_arrowsN σ, s1), ?_, ?_, hR1, rfl⟩
      · show (if (1 : Int32) = 0 then _ else if (1 : Int32) = 1 then _ else _) = _
        rw [if_neg n10, if_pos rfl]
      · show (if (1 : Int32) = 0 then _ else if (1 : Int32) = 1 then _ else _) = _
        rw [if_neg n10, if_pos rfl, many_e h1]
        unfold t_Du_arrowsN
        rw [h3]
    · by_cases c2' : a = 2
      · subst c2'
        obtain ⟨r, r1, r2⟩ := cy_b hN hR1.1 hR1.2.1 h8 h3 h1 h13 hT
        refine ⟨r, (r, s1), ?_, ?_, hR1, rfl⟩
        · show (if (2 : Int32) = 0 then _ else if (2 : Int32) = 1 then _ else if (2 : Int32) = 2 then _ else _) = _
          rw [if_neg (by decide), if_neg (by decide), if_pos rfl, r1, ob_s]
        · show (if (2 : Int32) = 0 then _ else if (2 : Int32) = 1 then _ else if (2 : Int32) = 2 then _ else _) = _
          rw [if_neg (by decide), if_neg (by decide), if_pos rfl, r2, ob_s]
      · by_cases c3' : a = 3
        · subst c3'
          refine ⟨_, (gI σ 1 0, s1), ?_, ?_, hR1, rfl⟩
          · show (if (3 : Int32) = 0 then _ else if (3 : Int32) = 1 then _ else if (3 : Int32) = 2 then _ else if (3 : Int32) = 3 then _ else _) = _
            rw [if_neg (by decide), if_neg (by decide), if_neg (by decide), if_pos rfl]
          · show (if (3 : Int32) = 0 then _ else if (3 : Int32) = 1 then _ else if (3 : Int32) = 2 then _ else if (3 : Int32) = 3 then _ else _) = _
            rw [if_neg (by decide), if_neg (by decide), if_neg (by decide), if_pos rfl, hR1.2.2.1.1]
        · by_cases c4' : a = 4
          · subst c4'
            refine ⟨_, (gI σ 5 0, s1), ?_, ?_, hR1, rfl⟩
            · show (if (4 : Int32) = 0 then _ else if (4 : Int32) = 1 then _ else if (4 : Int32) = 2 then _ else if (4 : Int32) = 3 then _ else if (4 : Int32) = 4 then _ else _) = _
              rw [if_neg (by decide), if_neg (by decide), if_neg (by decide), if_neg (by decide), if_pos rfl]
            · show (if (4 : Int32) = 0 then _ else if (4 : Int32) = 1 then _ else if (4 : Int32) = 2 then _ else if (4 : Int32) = 3 then _ else if (4 : Int32) = 4 then _ else _) = _
              rw [if_neg (by decide), if_neg (by decide), if_neg (by decide), if_neg (by decide), if_pos rfl, u5, u3]
          · by_cases c5' : a = 5
            · subst c5'
              obtain ⟨r, r1, r2⟩ := unb_D hN h8 h3 h1 h13
              obtain ⟨q, e1, e2, e3⟩ := unb_M hN h8 h1 h13 hT
              refine ⟨r, (r, s1), ?_, ?_, hR1, rfl⟩
              · show (if (5 : Int32) = 0 then _ else if (5 : Int32) = 1 then _ else if (5 : Int32) = 2 then _ else if (5 : Int32) = 3 then _ else if (5 : Int32) = 4 then _ else if (5 : Int32) = 5 then _ else _) = _
                rw [if_neg (by decide), if_neg (by decide), if_neg (by decide), if_neg (by decide), if_neg (by decide), if_pos rfl, r1, ob_s]
              · show (if (5 : Int32) = 0 then _ else if (5 : Int32) = 1 then _ else if (5 : Int32) = 2 then _ else if (5 : Int32) = 3 then _ else if (5 : Int32) = 4 then _ else if (5 : Int32) = 5 then _ else _) = _
                rw [if_neg (by decide), if_neg (by decide), if_neg (by decide), if_neg (by decide), if_neg (by decide), if_pos rfl, e1]
                have : q = (r, s1) := by
                  have : q.1 = r := by
                    rcases r2 with ⟨a1, a2⟩ | ⟨k, k1, k2, k3⟩
                    · rcases e3 with ⟨b1', -⟩ | ⟨m, m1, m2, m3⟩
                      · rw [a1, b1']
                      · exact absurd m3 (a2 m m1)
                    · rcases e3 with ⟨-, b2'⟩ | ⟨m, m1, m2, m3⟩
                      · exact absurd k3 (b2' k k1)
                      · rw [k2, m2, ov_one h8 h1 h13 hT k1 m1 k3 m3]
                  rw [← this, ← e2]
                rw [this]
            · refine ⟨-1, (-1, s1), ?_, ?_, hR1, rfl⟩
              · show (if a = 0 then _ else if a = 1 then _ else if a = 2 then _ else if a = 3 then _ else if a = 4 then _ else if a = 5 then _ else _) = _
                rw [if_neg c0, if_neg c1', if_neg c2', if_neg c3', if_neg c4', if_neg c5']
                rfl
              · show (if a = 0 then _ else if a = 1 then _ else if a = 2 then _ else if a = 3 then _ else if a = 4 then _ else if a = 5 then _ else _) = _
                rw [if_neg c0, if_neg c1', if_neg c2', if_neg c3', if_neg c4', if_neg c5']
                rfl
