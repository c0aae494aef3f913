/-! is answers alike -/
def cvr (f : Nat → Int32) (S : Int32) (y x : Nat) : Prop := bt (f y) x = true ∧ ∀ j, j < 32 → bt (f x) j = true → bt S j = true → bt (f y) j = true
def cvd (f : Nat → Int32) (n : Nat) (S : Int32) (x : Nat) : Prop := ∃ y, y < n ∧ bt S y = true ∧ cvr f S y x
def cvs (f : Nat → Int32) (n : Nat) (S A : Int32) : Prop := ¬ S = 0 ∧ ∀ x, x < n → bt A x = true → bt S x = false → cvd f n S x
theorem cvd_D {N : Nat} {σ μ : Mem} {n x : Nat} (h8 : n ≤ 8) (h3 : gI σ 3 0 = nI n) (h1 : gI μ 1 0 = nI n) (h13 : ∀ a, a < 8 → gI μ 1 (1 + a) = gI σ 13 a) (hx : x < 8) (S : Int32) : par (f_Se_isCovered N (nI x) S σ) (fun r => (r = 1 ∧ cvd (gI σ 13) n S x) ∨ (r = 0 ∧ ¬ cvd (gI σ 13) n S x)) := by
  unfold f_Se_isCovered
  refine p_it1 (fun i => ∃ k, k ≤ n ∧ i = nI k ∧ ∀ y, y < k → bt S y = true → ¬ cvr (gI σ 13) S y x) ?_ N _ ⟨0, by omega, rfl, fun y hy => by omega⟩
  rintro self _ ⟨k, hk, rfl, hn⟩ ih
  unfold Se_isCovered_B2
  rw [h3]
  refine p_if (fun h => p_some (Or.inr ⟨rfl, ?_⟩)) (fun h => ?_)
  · rw [nle (by omega) (by omega)] at h
    rintro ⟨y, hy, h2, h4⟩
    exact hn y (by omega) h2 h4
  · rw [nle (by omega) (by omega)] at h
    rw [bit_bt (by omega), nadd1]
    cases hb : bt S k
    · rw [if_neg (by decide)]
      refine ih _ ⟨k + 1, by omega, rfl, fun y hy h2 => ?_⟩
      by_cases c : y = k
      · rw [c, hb] at h2; cases h2
      · exact hn y (by omega) h2
    · rw [if_pos (by rfl)]
      obtain ⟨r, r1, -, r3, r4⟩ := cov_e h3 h1 h13 (show k < 8 by omega) hx S
      rw [r1, ob_s]
      refine p_if (fun c => ?_) (fun c => p_some (Or.inl ⟨rfl, k, by omega, hb, ?_⟩))
      · refine ih _ ⟨k + 1, by omega, rfl, fun y hy h2 h4 => ?_⟩
        by_cases c2 : y = k
        · rw [c2] at h4
          have := r4.mpr h4
          rw [c] at this
          exact absurd this (by decide)
        · exact hn y (by omega) h2 h4
      · refine r4.mp (r3.resolve_left c)
theorem cvs_D {N : Nat} {σ μ : Mem} {n : Nat} (h8 : n ≤ 8) (h3 : gI σ 3 0 = nI n) (h1 : gI μ 1 0 = nI n) (h13 : ∀ a, a < 8 → gI μ 1 (1 + a) = gI σ 13 a) (S A : Int32) : par (f_Se_isCoveringSet N S A σ) (fun r => (r = 1 ∧ cvs (gI σ 13) n S A) ∨ (r = 0 ∧ ¬ cvs (gI σ 13) n S A)) := by
  unfold f_Se_isCoveringSet
  refine p_if (fun h => p_some (Or.inr ⟨rfl, fun q => q.1 h⟩)) (fun h0 => ?_)
  refine p_it1 (fun i => ∃ k, k ≤ n ∧ i = nI k ∧ ∀ x, x < k → bt A x = true → bt S x = false → cvd (gI σ 13) n S x) ?_ N _ ⟨0, by omega, rfl, fun y hy => by omega⟩
  rintro self _ ⟨k, hk, rfl, hn⟩ ih
  unfold Se_isCoveringSet_B8
  rw [h3]
  refine p_if (fun h => p_some (Or.inl ⟨rfl, h0, ?_⟩)) (fun h => ?_)
  · rw [nle (by omega) (by omega)] at h
    exact fun x hx => hn x (by omega)
  · rw [nle (by omega) (by omega)] at h
    rw [bit_bt (by omega), nadd1, bt_and, bt_not _ (by omega)]
    cases hb : (bt A k && !bt S k)
    · rw [if_neg (by decide)]
      refine ih _ ⟨k + 1, by omega, rfl, fun y hy h2 h4 => ?_⟩
      by_cases c : y = k
      · rw [← c, h2, h4] at hb; cases hb
      · exact hn y (by omega) h2 h4
    · rw [if_pos (by rfl)]
      rw [Bool.and_eq_true, Bool.not_eq_true'] at hb
      refine p_ob _ (cvd_D h8 h3 h1 h13 (show k < 8 by omega) S) (fun r hr => ?_)
      rcases hr with ⟨e, hr⟩ | ⟨e, hr⟩
      · rw [if_neg (by rw [e]; decide)]
        refine ih _ ⟨k + 1, by omega, rfl, fun y hy h2 h4 => ?_⟩
        by_cases c : y = k
        · rw [c]; exact hr
        · exact hn y (by omega) h2 h4
      · rw [if_pos e]
        exact p_some (Or.inr ⟨rfl, fun q => hr (q.2 k (by omega) hb.1 hb.2)⟩)
theorem cvs_M {N : Nat} {σ μ : Mem} {n : Nat} (h8 : n ≤ 8) (h3 : gI σ 3 0 = nI n) (h1 : gI μ 1 0 = nI n) (h13 : ∀ a, a < 8 → gI μ 1 (1 + a) = gI σ 13 a) (S A : Int32) : par (f_M_isCovering N S A μ) (fun r => (r = 1 ∧ cvs (gI σ 13) n S A) ∨ (r = 0 ∧ ¬ cvs (gI σ 13) n S A)) := by
  have key : ∀ v, ((v = 1 ∧ ¬ S = 0) ∨ (v = 0 ∧ S = 0)) → par (M_isCovering_J9 N μ S A v) (fun r => (r = 1 ∧ cvs (gI σ 13) n S A) ∨ (r = 0 ∧ ¬ cvs (gI σ 13) n S A)) := fun v hv => by
    unfold M_isCovering_J9
    refine p_it2 (fun i2 i3 => ∃ k, k ≤ n ∧ i3 = nI k ∧ ((i2 = 1 ∧ ¬ S = 0 ∧ ∀ x, x < k → bt A x = true → bt S x = false → cvd (gI σ 13) n S x) ∨ (i2 = 0 ∧ ¬ cvs (gI σ 13) n S A))) ?_ N _ _ ⟨0, by omega, rfl, ?_⟩
    · rintro self i2 _ ⟨k, hk, rfl, hn⟩ ih
      unfold M_isCovering_B13
      rw [many_e h1]
      refine p_if (fun h => p_gd (fun _ => p_some ?_)) (fun h => p_if (fun h2 => p_gd (fun _ => p_some ?_)) (fun h2 => ?_))
      · rw [nle (by omega) (by omega)] at h
        rcases hn with ⟨e, e2, e3⟩ | e
        · exact Or.inl ⟨e, e2, fun x hx => e3 x (by omega)⟩
        · exact Or.inr e
      · rcases hn with ⟨e, -⟩ | e
        · rw [e] at h2; exact absurd h2 (by decide)
        · exact Or.inr e
      · rw [nle (by omega) (by omega)] at h
        rcases hn with ⟨e, e2, e3⟩ | ⟨e, -⟩
        · rw [has_bt (by omega), nadd1, bt_and, bt_not _ (by omega)]
          cases hb : (bt A k && !bt S k)
          · rw [if_pos (by decide)]
            refine ih _ _ ⟨k + 1, by omega, rfl, Or.inl ⟨e, e2, fun y hy h2 h4 => ?_⟩⟩
            by_cases c : y = k
            · rw [← c, h2, h4] at hb; cases hb
            · exact e3 y (by omega) h2 h4
          · rw [if_neg (by decide)]
            rw [Bool.and_eq_true, Bool.not_eq_true'] at hb
            refine p_it2 (fun i5 i6 => ∃ q, q ≤ n ∧ i6 = nI q ∧ ((i5 = 1 ∧ cvd (gI σ 13) n S k) ∨ (i5 = 0 ∧ ∀ y, y < q → bt S y = true → ¬ cvr (gI σ 13) S y k))) ?_ N _ _ ⟨0, by omega, rfl, Or.inr ⟨rfl, fun y hy => by omega⟩⟩
            rintro self2 i5 _ ⟨q, hq, rfl, h5⟩ ih2
            unfold M_isCovering_B45
            rw [many_e h1, nadd1, nadd1]
            refine p_if (fun h6 => ?_) (fun h6 => ?_)
            · rw [nle (by omega) (by omega)] at h6
              rcases h5 with ⟨a1, a2⟩ | ⟨a1, a2⟩
              · refine ih _ _ ⟨k + 1, by omega, rfl, Or.inl ⟨a1, e2, fun y hy h2 h4 => ?_⟩⟩
                by_cases c : y = k
                · rw [c]; exact a2
                · exact e3 y (by omega) h2 h4
              · refine ih _ _ ⟨k + 1, by omega, rfl, Or.inr ⟨a1, fun w => ?_⟩⟩
                obtain ⟨y, y1, y2, y3⟩ := w.2 k (by omega) hb.1 hb.2
                exact a2 y (by omega) y2 y3
            · rw [nle (by omega) (by omega)] at h6
              rcases h5 with ⟨a1, a2⟩ | ⟨a1, a2⟩
              · rw [if_neg (by rw [a1]; decide)]
                exact ih2 _ _ ⟨q + 1, by omega, rfl, Or.inl ⟨rfl, a2⟩⟩
              · rw [if_pos a1, has_bt (by omega)]
                cases hq2 : bt S q
                · rw [if_pos (by decide)]
                  refine ih2 _ _ ⟨q + 1, by omega, rfl, Or.inr ⟨rfl, fun y hy h2 => ?_⟩⟩
                  by_cases c : y = q
                  · rw [c, hq2] at h2; cases h2
                  · exact a2 y (by omega) h2
                · rw [if_neg (by decide)]
                  obtain ⟨r, -, r2, r3, r4⟩ := cov_e h3 h1 h13 (show q < 8 by omega) (show k < 8 by omega) S
                  rw [r2, ob_s]
                  refine p_if (fun c => ?_) (fun c => ?_)
                  · refine ih2 _ _ ⟨q + 1, by omega, rfl, Or.inr ⟨rfl, fun y hy h2 h4 => ?_⟩⟩
                    by_cases c2 : y = q
                    · rw [c2] at h4
                      have := r4.mpr h4
                      rw [c] at this
                      exact absurd this (by decide)
                    · exact a2 y (by omega) h2 h4
                  · exact ih2 _ _ ⟨q + 1, by omega, rfl, Or.inl ⟨rfl, q, by omega, hq2, r4.mp (r3.resolve_left c)⟩⟩
        · exact absurd e h2
    · rcases hv with ⟨e, e2⟩ | ⟨e, e2⟩
      · exact Or.inl ⟨e, e2, fun x hx => by omega⟩
      · exact Or.inr ⟨e, fun q => q.1 e2⟩
  unfold f_M_isCovering
  exact p_if (fun h => key _ (Or.inr ⟨rfl, h⟩)) (fun h => key _ (Or.inl ⟨rfl, h⟩))
def kps (f T : Nat → Int32) (n : Nat) (S : Int32) : Prop := ¬ S = 0 ∧ ∀ x, x < n → bt S x = true → (T (bs f (nI (2 ^ n - 1)) x).toNatClampNeg &&& (S ^^^ (-1 : Int32))) = 0
theorem kps_D {N : Nat} {T : Nat → Int32} {n : Nat} (h8 : n ≤ 8) {σ : Mem} (h3 : gI σ 3 0 = nI n) (hT : Tn n (gI σ 13)) (h0 : T 0 = 0) (hK : ∀ m, 0 < m → m < 2 ^ n → kpq (gI σ 13) T (nI m)) (S : Int32) : par (f_Se_isKeepingSet N S (nI (2 ^ n - 1)) σ) (fun q => (q.1 = 1 ∧ kps (gI σ 13) T n S) ∨ (q.1 = 0 ∧ ¬ kps (gI σ 13) T n S)) := by
  have hp : (2 : Nat) ^ n ≤ 256 := Nat.pow_le_pow_right (n := 2) (by decide) h8
  have hp0 : 0 < (2 : Nat) ^ n := Nat.pow_pos (by decide)
  unfold f_Se_isKeepingSet
  refine p_it2 (fun i s => ∃ k, k ≤ n ∧ i = nI k ∧ fr [23] [] σ s ∧ ∀ x, x < k → bt S x = true → (T (bs (gI σ 13) (nI (2 ^ n - 1)) x).toNatClampNeg &&& (S ^^^ (-1 : Int32))) = 0) ?_ N _ _ ⟨0, by omega, rfl, fr_r _ _ _, fun x hx => by omega⟩
  rintro self _ s ⟨k, hk, rfl, hf, hn⟩ ih
  have s3 : gI s 3 0 = nI n := by rw [hf.1 3 (by decide), h3]
  have s13 : gI s 13 = gI σ 13 := hf.1 13 (by decide)
  unfold Se_isKeepingSet_B2
  rw [s3]
  refine p_if (fun h => ?_) (fun h => ?_)
  · rw [nle (by omega) (by omega)] at h
    unfold Se_isKeepingSet_K51
    refine p_if (fun c => p_some (Or.inr ⟨rfl, fun q => q.1 c⟩)) (fun c => p_some (Or.inl ⟨rfl, c, fun x hx => hn x (by omega)⟩))
  · rw [nle (by omega) (by omega)] at h
    rw [bit_bt (by omega), nadd1]
    cases hb : bt S k
    · rw [if_neg (by decide)]
      refine ih _ _ ⟨k + 1, by omega, rfl, hf, fun x hx h2 => ?_⟩
      by_cases c : x = k
      · rw [c, hb] at h2; cases h2
      · exact hn x (by omega) h2
    · rw [if_pos (by rfl), beaters_e (by omega), ob_s, s13]
      obtain ⟨b1', b2', b3'⟩ := bs_lt (f := gI σ 13) (by omega : 2 ^ n - 1 < 256) (by omega : k < 8)
      have e : (nI (2 ^ n - 1) &&& (gI σ 13 k ^^^ (-1 : Int32))) &&& (((1 : Int32) <<< (nI k &&& 31)) ^^^ (-1 : Int32)) = nI (bs (gI σ 13) (nI (2 ^ n - 1)) k).toNatClampNeg := b2'
      rw [e]
      refine p_ob2 (fun r t => r = T (bs (gI σ 13) (nI (2 ^ n - 1)) k).toNatClampNeg ∧ fr [23] [] s t ∧ ∀ i, i < 8 * 0 → gI t 23 i = gI s 23 i) (keep_D (k := 0) h8 hT h0 hK (by omega) (by have := pc_8 (nI (bs (gI σ 13) (nI (2 ^ n - 1)) k).toNatClampNeg); omega) s3 s13) (fun r7 s6 h7 => ?_)
      obtain ⟨t1, t2, -⟩ := h7
      rw [t1]
      refine p_if (fun c => ?_) (fun c => p_some (Or.inr ⟨rfl, fun q => c (q.2 k (by omega) hb)⟩))
      refine ih _ _ ⟨k + 1, by omega, rfl, fr_t hf t2, fun x hx h2 => ?_⟩
      by_cases c2 : x = k
      · rw [c2]; exact c
      · exact hn x (by omega) h2
theorem ov_all {s : Mem} {f : Nat → Int32} {n x : Nat} (h8 : n ≤ 8) (hx : x < 8) (h1 : gI s 1 0 = nI n) (hf : gI s 1 (1 + x) = f x) : ov s x = bs f (nI (2 ^ n - 1)) x := by
  unfold ov bs
  rw [all_e h1, mask_e n h8, hf]
theorem kps_M {N : Nat} {μ : Mem} {f : Nat → Int32} {n : Nat} (h8 : n ≤ 8) (h1 : gI μ 1 0 = nI n) (h13 : ∀ a, a < 8 → gI μ 1 (1 + a) = f a) (S : Int32) : par (f_M_isKeeping N S μ) (fun r => (r = 1 ∧ kps f (gI μ 22) n S) ∨ (r = 0 ∧ ¬ kps f (gI μ 22) n S)) := by
  have key : ∀ v, ((v = 1 ∧ ¬ S = 0) ∨ (v = 0 ∧ S = 0)) → par (M_isKeeping_J9 N μ S v) (fun r => (r = 1 ∧ kps f (gI μ 22) n S) ∨ (r = 0 ∧ ¬ kps f (gI μ 22) n S)) := fun v hv => by
    unfold M_isKeeping_J9
    refine p_it2 (fun i2 i3 => ∃ k, k ≤ n ∧ i3 = nI k ∧ ((i2 = 1 ∧ ¬ S = 0 ∧ ∀ x, x < k → bt S x = true → (gI μ 22 (bs f (nI (2 ^ n - 1)) x).toNatClampNeg &&& (S ^^^ (-1 : Int32))) = 0) ∨ (i2 = 0 ∧ ¬ kps f (gI μ 22) n S))) ?_ N _ _ ⟨0, by omega, rfl, ?_⟩
    · rintro self i2 _ ⟨k, hk, rfl, hn⟩ ih
      unfold M_isKeeping_B12
      rw [many_e h1, nadd1]
      refine p_if (fun h => p_gd (fun _ => p_some ?_)) (fun h => ?_)
      · rw [nle (by omega) (by omega)] at h
        rcases hn with ⟨e, e2, e3⟩ | e
        · exact Or.inl ⟨e, e2, fun x hx => e3 x (by omega)⟩
        · exact Or.inr e
      · rw [nle (by omega) (by omega)] at h
        rcases hn with ⟨e, e2, e3⟩ | ⟨e, e2⟩
        · rw [if_neg (by rw [e]; decide), has_bt (by omega)]
          cases hb : bt S k
          · rw [if_pos (by decide)]
            refine ih _ _ ⟨k + 1, by omega, rfl, Or.inl ⟨rfl, e2, fun x hx h2 => ?_⟩⟩
            by_cases c : x = k
            · rw [c, hb] at h2; cases h2
            · exact e3 x (by omega) h2
          · rw [if_neg (by decide), over_e (by omega), ob_s, ov_all h8 (by omega) h1 (h13 k (by omega))]
            refine p_gd (fun _ => ?_)
            unfold t_M_isWithin
            by_cases c : (gI μ 22 (bs f (nI (2 ^ n - 1)) k).toNatClampNeg &&& (S ^^^ (-1 : Int32))) = 0
            · rw [if_pos c, if_neg (by decide)]
              refine ih _ _ ⟨k + 1, by omega, rfl, Or.inl ⟨rfl, e2, fun x hx h2 => ?_⟩⟩
              by_cases c2 : x = k
              · rw [c2]; exact c
              · exact e3 x (by omega) h2
            · rw [if_neg c, if_pos rfl]
              exact ih _ _ ⟨k + 1, by omega, rfl, Or.inr ⟨rfl, fun q => c (q.2 k (by omega) hb)⟩⟩
        · rw [if_pos e]
          exact ih _ _ ⟨k + 1, by omega, rfl, Or.inr ⟨rfl, e2⟩⟩
    · rcases hv with ⟨e, e2⟩ | ⟨e, e2⟩
      · exact Or.inl ⟨e, e2, fun x hx => by omega⟩
      · exact Or.inr ⟨e, fun q => q.1 e2⟩
  unfold f_M_isKeeping
  exact p_if (fun h => key _ (Or.inr ⟨rfl, h⟩)) (fun h => key _ (Or.inl ⟨rfl, h⟩))
theorem kpq_e {f T T' : Nat → Int32} {n : Nat} (h8 : n ≤ 8) (h0 : T 0 = 0) (h0' : T' 0 = 0) (hK : ∀ m, 0 < m → m < 2 ^ n → kpq f T (nI m)) (hK' : ∀ m, 0 < m → m < 2 ^ n → kpq f T' (nI m)) : ∀ m, m < 2 ^ n → T m = T' m := by
  have hp : (2 : Nat) ^ n ≤ 256 := Nat.pow_le_pow_right (n := 2) (by decide) h8
  have main : ∀ b m, m ≤ b → m < 2 ^ n → T m = T' m := by
    intro b
    induction b with
    | zero =>
      intro m h1 _
      have : m = 0 := by omega
      rw [this, h0, h0']
    | succ b ih =>
      intro m h1 h2
      by_cases c : m = 0
      · rw [c, h0, h0']
      · have a1 := hK m (by omega) h2
        have a2 := hK' m (by omega) h2
        refine bt_eq (fun j => ?_)
        have b1' := a1 j
        have b2' := a2 j
        rw [nI_clamp (by omega)] at b1' b2'
        rw [b1', b2']
        have cc := fun u v => rr_c (f := f) (T := T) (T' := T') h8 h2 (fun i hi => ih i (by omega) (by omega)) u v
        refine ⟨fun q => ⟨q.1, fun y hy => ?_⟩, fun q => ⟨q.1, fun y hy => ?_⟩⟩
        · exact (Rs_c cc).mp (q.2 y ((Rs_c cc).mpr hy))
        · exact (Rs_c cc).mpr (q.2 y ((Rs_c cc).mp hy))
  exact fun m => main m m (Nat.le_refl _)
theorem st_Rl_is_c {N : Nat} (hN : 8589934592 ≤ N) {σ μ : Mem} (hR : Rl σ μ) (a b : Int32) : ∃ (q q2 : Int32 × Mem), f_D_is N a b σ = some (q.1, q.2) ∧ f_M_is N a b μ = some (q2.1, q2.2) ∧ Rl q.2 q2.2 ∧ q.1 = q2.1 := by
  obtain ⟨q, e1, k1⟩ := D_is_t hN (a1 := a) (a2 := b) hR.1
  obtain ⟨q2, e2, k2⟩ := M_is_t hN (a1 := a) (a2 := b) hR.2.1
  refine ⟨q, q2, e1, e2, Rl_q hR k1.2 k2.2 (by decide) (by decide), ?_⟩
  obtain ⟨s1, es1⟩ : ∃ s, s = sI μ 0 0 0 := ⟨_, rfl⟩
  obtain ⟨hR1, k0⟩ := Rl_m0 hR es1
  obtain ⟨n, h8, h3, h1, h13, hT⟩ := Rl_n hR1
  unfold f_D_is at e1
  unfold f_M_is at e2
  rw [bnd_e, ← es1] at e2
  have pD := ps_D h8 h3 a
  have pM := so_M h8 h1 a
  have y1 : (1 : Int32).toInt = 1 := by decide
  have y2 : (2 : Int32).toInt = 2 := by decide
  by_cases hs : 1 ≤ n ∧ sub n a
  · have d1 : ¬ gI σ 3 0 = 0 := fun q => by
      have := (eq0_iff h8).mp (by rw [← h3]; exact q)
      omega
    rw [if_neg d1, if_neg (fun q => pD.mp q hs.2)] at e1
    rw [if_neg (fun q => pM.mp q hs)] at e2
    rcases in01 b with ⟨i1, i2⟩ | ⟨i1, i2, i3, p, hp, rfl⟩
    · rw [if_pos i1] at e2
      cases e2
      by_cases c : b < 0
      · rw [if_pos c] at e1
        cases e1
        rfl
      · rw [if_neg c, if_neg (by rcases i2 with i2 | i2; exact absurd i2 c; rw [i_le, y1]; rw [i_lt, y2] at i2; omega)] at e1
        cases e1
        rfl
    · rw [if_neg i1] at e2
      rw [if_neg i2, if_pos (by rw [i_le, y1]; rw [i_lt, y2] at i3; omega)] at e1
      have ev : t_Du_everybodyN σ = nI (2 ^ n - 1) := by
        unfold t_Du_everybodyN
        rw [h3, mask_e n h8]
      have ea : t_M_all s1 = nI (2 ^ n - 1) := by rw [all_e h1, mask_e n h8]
      rw [ev] at e1
      have j69 : ∀ {v : Int32} {s : Mem} {P : Prop}, ((v = 1 ∧ P) ∨ (v = 0 ∧ ¬ P)) → par (D_is_J69 v s) (fun q => (q.1 = 1 ∧ P) ∨ (q.1 = 0 ∧ ¬ P)) := fun {v s P} hv => by
        unfold D_is_J69
        rcases hv with ⟨e, hP⟩ | ⟨e, hP⟩
        · rw [if_neg (by rw [e]; decide)]
          exact p_some (Or.inl ⟨rfl, hP⟩)
        · rw [if_pos e]
          exact p_some (Or.inr ⟨rfl, hP⟩)
      have fin : ∀ {P : Prop}, ((q.1 = 1 ∧ P) ∨ (q.1 = 0 ∧ ¬ P)) → ((q2.1 = 1 ∧ P) ∨ (q2.1 = 0 ∧ ¬ P)) → q.1 = q2.1 := fun {P} a1 a2 => by
        rcases a1 with ⟨a1, a3⟩ | ⟨a1, a3⟩ <;> rcases a2 with ⟨a2, a4⟩ | ⟨a2, a4⟩
        · rw [a1, a2]
        · exact absurd a3 a4
        · exact absurd a4 a3
        · rw [a1, a2]
      have mend : ∀ {o : Option (Int32 × Mem)} {P : Prop}, par o (fun q => (q.1 = 1 ∧ P) ∨ (q.1 = 0 ∧ ¬ P)) → par (ob2 o fun r3 s2 => if r3 = (0 : Int32) then (some ((0 : Int32), s2)) else (some ((1 : Int32), s2))) (fun q => (q.1 = 1 ∧ P) ∨ (q.1 = 0 ∧ ¬ P)) := fun {o P} h => by
        refine p_ob2 (fun r _ => (r = 1 ∧ P) ∨ (r = 0 ∧ ¬ P)) h (fun r s hr => ?_)
        rcases hr with ⟨e, hP⟩ | ⟨e, hP⟩
        · rw [if_neg (by rw [e]; decide)]
          exact p_some (Or.inl ⟨rfl, hP⟩)
        · rw [if_pos e]
          exact p_some (Or.inr ⟨rfl, hP⟩)
      unfold f_M_isSo at e2
      by_cases c : nI p = 0
      · rw [if_pos c] at e1 e2
        rw [ea] at e2
        refine fin (P := cvs (gI σ 13) n a (nI (2 ^ n - 1))) ?_ ?_
        · exact p_ob _ (cvs_D h8 h3 h1 h13 a (nI (2 ^ n - 1))) (fun r hr => j69 hr) q e1
        · exact mend (p_ob _ (cvs_M h8 h3 h1 h13 a (nI (2 ^ n - 1))) (fun r hr => p_gd (fun _ => p_some hr))) q2 e2
      · rw [if_neg c] at e1 e2
        have m' : ∃ T : Nat → Int32, T 0 = 0 ∧ (∀ m, 0 < m → m < 2 ^ n → kpq (gI σ 13) T (nI m)) ∧ ((q2.1 = 1 ∧ kps (gI σ 13) T n a) ∨ (q2.1 = 0 ∧ ¬ kps (gI σ 13) T n a)) := by
          have z : par (ob2 (ob (f_M_layKeeping N s1) fun s1 => ob (f_M_isKeeping N a s1) fun r2 => gd (isb r2) (some (r2, s1))) fun r3 s2 => if r3 = (0 : Int32) then (some ((0 : Int32), s2)) else (some ((1 : Int32), s2))) (fun q2 => ∃ T : Nat → Int32, T 0 = 0 ∧ (∀ m, 0 < m → m < 2 ^ n → kpq (gI σ 13) T (nI m)) ∧ ((q2.1 = 1 ∧ kps (gI σ 13) T n a) ∨ (q2.1 = 0 ∧ ¬ kps (gI σ 13) T n a))) := by
            refine p_ob2 (fun r _ => ∃ T : Nat → Int32, T 0 = 0 ∧ (∀ m, 0 < m → m < 2 ^ n → kpq (gI σ 13) T (nI m)) ∧ ((r = 1 ∧ kps (gI σ 13) T n a) ∨ (r = 0 ∧ ¬ kps (gI σ 13) T n a))) ?_ (fun r s hr => ?_)
            · refine p_ob _ (lk_M h8 h1 h13) (fun s hs => ?_)
              obtain ⟨t1, t2, t3⟩ := hs
              have g1 : gI s 1 = gI s1 1 := t1.1 1 (by decide)
              refine p_ob _ (kps_M (f := gI σ 13) h8 (by rw [g1]; exact h1) (fun a ha => by rw [g1]; exact h13 a ha) a) (fun r hr => p_gd (fun _ => p_some ⟨gI s 22, t2, t3, hr⟩))
            · obtain ⟨T, t1, t2, t3⟩ := hr
              rcases t3 with ⟨e, hP⟩ | ⟨e, hP⟩
              · rw [if_neg (by rw [e]; decide)]
                exact p_some ⟨T, t1, t2, Or.inl ⟨rfl, hP⟩⟩
              · rw [if_pos e]
                exact p_some ⟨T, t1, t2, Or.inr ⟨rfl, hP⟩⟩
          exact z q2 e2
        obtain ⟨T, t1, t2, t3⟩ := m'
        refine fin (P := kps (gI σ 13) T n a) ?_ t3
        exact p_ob2 (fun r _ => (r = 1 ∧ kps (gI σ 13) T n a) ∨ (r = 0 ∧ ¬ kps (gI σ 13) T n a)) (kps_D h8 h3 hT t1 t2 a) (fun r s hr => j69 hr) q e1
  · rw [if_pos (pM.mpr hs)] at e2
    cases e2
    by_cases d1 : gI σ 3 0 = 0
    · rw [if_pos d1] at e1
      cases e1
      rfl
    · have : ¬ n = 0 := fun q => d1 (by rw [h3, q]; rfl)
      rw [if_neg d1, if_pos (pD.mpr (fun q => hs ⟨by omega, q⟩))] at e1
      cases e1
      rfl
