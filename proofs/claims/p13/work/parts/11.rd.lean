/-! most, uncovered, uncovered again, in both -/
def mof (f : Nat → Int32) (S : Int32) : Nat → Int32 × Int32
  | 0 => (-1, 0)
  | k + 1 => if bt S k = true then (if (mof f S k).1 < nI (pc (f k &&& S)) then (nI (pc (f k &&& S)), (1 : Int32) <<< (nI k &&& 31)) else if nI (pc (f k &&& S)) = (mof f S k).1 then ((mof f S k).1, (mof f S k).2 ||| ((1 : Int32) <<< (nI k &&& 31))) else mof f S k) else mof f S k
theorem mo_D {N : Nat} {n : Nat} (h8 : n ≤ 8) {S : Int32} {σ : Mem} (hD : InvD σ) (h3 : gI σ 3 0 = nI n) : par (f_Se_most N S σ) (fun r => r = (mof (gI σ 13) S n).2) := by
  unfold f_Se_most
  refine p_it3 (fun i1 i2 i3 => ∃ k, k ≤ n ∧ i3 = nI k ∧ i1 = (mof (gI σ 13) S k).1 ∧ i2 = (mof (gI σ 13) S k).2) ?_ N _ _ _ ⟨0, by omega, rfl, rfl, rfl⟩
  rintro self _ _ _ ⟨k, hk, rfl, rfl, rfl⟩ ih
  unfold Se_most_B7
  rw [h3]
  refine p_if (fun c => ?_) (fun c => ?_)
  · rw [nle (by omega) (by omega)] at c
    have : k = n := by omega
    subst this
    exact p_some rfl
  · rw [nle (by omega) (by omega)] at c
    rw [bit_bt (by omega), nadd1]
    have hm : mof (gI σ 13) S (k + 1) = if bt S k = true then (if (mof (gI σ 13) S k).1 < nI (pc (gI σ 13 k &&& S)) then (nI (pc (gI σ 13 k &&& S)), (1 : Int32) <<< (nI k &&& 31)) else if nI (pc (gI σ 13 k &&& S)) = (mof (gI σ 13) S k).1 then ((mof (gI σ 13) S k).1, (mof (gI σ 13) S k).2 ||| ((1 : Int32) <<< (nI k &&& 31))) else mof (gI σ 13) S k) else mof (gI σ 13) S k := rfl
    cases hb : bt S k
    · rw [if_pos (by decide)]
      rw [hb, if_neg (by decide)] at hm
      exact ih _ _ _ ⟨k + 1, by omega, rfl, by rw [hm], by rw [hm]⟩
    · rw [if_neg (by decide)]
      rw [hb, if_pos rfl] at hm
      refine p_gd (fun _ => p_bnd ?_)
      rw [nI_clamp (by omega), cnt_v (rg_andl _ (hD.r13 k) (by decide))]
      refine p_if (fun c2 => ?_) (fun c2 => ?_)
      · unfold Se_most_J59
        rw [nadd1]
        rw [if_neg (fun z => by rw [i_lt] at z; rw [i_le] at c2; omega)] at hm
        refine p_if (fun c4 => ?_) (fun c4 => ?_)
        · rw [if_pos c4] at hm
          exact p_bnd (ih _ _ _ ⟨k + 1, by omega, rfl, by rw [hm], by rw [hm]⟩)
        · rw [if_neg c4] at hm
          exact ih _ _ _ ⟨k + 1, by omega, rfl, by rw [hm], by rw [hm]⟩
      · unfold Se_most_J59
        rw [nadd1, if_pos rfl]
        rw [if_pos (i_nle c2)] at hm
        refine p_bnd ?_
        rw [zor]
        exact ih _ _ _ ⟨k + 1, by omega, rfl, by rw [hm], by rw [hm]⟩
theorem wo_M {N : Nat} (hN : 8589934592 ≤ N) {μ : Mem} {f : Nat → Int32} {x : Nat} (hM : InvM μ) (h13 : ∀ a, a < 8 → gI μ 1 (1 + a) = f a) (hx : x < 8) (S : Int32) : par (f_M_winsOf N (nI x) S μ) (fun r => r = nI (pc (f x &&& S))) := by
  unfold f_M_winsOf
  rw [beats_e hx, ob_s]
  refine p_ob _ (p_tot (M_sizeOf_s hN (rg_andl _ (hM.r1 _) (by decide)))) (fun r hr => p_some ?_)
  rw [hr, h13 x hx]
theorem mo_M {N : Nat} (hN : 8589934592 ≤ N) {n : Nat} (h8 : n ≤ 8) {f : Nat → Int32} {S : Int32} {μ : Mem} (hM : InvM μ) (h1 : gI μ 1 0 = nI n) (h13 : ∀ a, a < 8 → gI μ 1 (1 + a) = f a) : par (f_M_most N S μ) (fun r => r = (mof f S n).2) := by
  unfold f_M_most
  refine p_it3 (fun i1 i2 i3 => ∃ k, k ≤ n ∧ i3 = nI k ∧ i2 = (mof f S k).1 ∧ i1 = (mof f S k).2) ?_ N _ _ _ ⟨0, by omega, rfl, rfl, rfl⟩
  rintro self _ _ _ ⟨k, hk, rfl, rfl, rfl⟩ ih
  unfold M_most_B7
  rw [many_e h1]
  refine p_if (fun c => ?_) (fun c => ?_)
  · rw [nle (by omega) (by omega)] at c
    have : k = n := by omega
    subst this
    exact p_some rfl
  · rw [nle (by omega) (by omega)] at c
    rw [has_bt (by omega), nadd1]
    have hm : mof f S (k + 1) = if bt S k = true then (if (mof f S k).1 < nI (pc (f k &&& S)) then (nI (pc (f k &&& S)), (1 : Int32) <<< (nI k &&& 31)) else if nI (pc (f k &&& S)) = (mof f S k).1 then ((mof f S k).1, (mof f S k).2 ||| ((1 : Int32) <<< (nI k &&& 31))) else mof f S k) else mof f S k := rfl
    cases hb : bt S k
    · rw [if_pos (by decide)]
      rw [hb, if_neg (by decide)] at hm
      exact ih _ _ _ ⟨k + 1, by omega, rfl, by rw [hm], by rw [hm]⟩
    · rw [if_neg (by decide)]
      rw [hb, if_pos rfl] at hm
      refine p_ob _ (wo_M hN hM h13 (by omega) S) (fun r5 h5 => ?_)
      rw [h5]
      refine p_if (fun c2 => ?_) (fun c2 => ?_)
      · rw [if_neg (fun z => by rw [i_lt] at z c2; omega), if_neg (fun z => by rw [i_lt, z] at c2; omega)] at hm
        exact ih _ _ _ ⟨k + 1, by omega, rfl, by rw [hm], by rw [hm]⟩
      · refine p_ob _ (wo_M hN hM h13 (by omega) S) (fun r6 h6 => ?_)
        rw [h6]
        refine p_if (fun c3 => ?_) (fun c3 => ?_)
        · have ce : nI (pc (f k &&& S)) = (mof f S k).1 := by
            have := i_nlt c2
            rw [i_le] at c3 this
            exact Int32.toInt_inj.mp (by omega)
          rw [if_neg (fun z => by rw [i_lt, ce] at z; omega), if_pos ce] at hm
          unfold M_most_J60
          rw [nadd1]
          refine p_ob _ (wo_M hN hM h13 (by omega) S) (fun r8 h8' => ?_)
          rw [h8']
          exact ih _ _ _ ⟨k + 1, by omega, rfl, by rw [hm, ce], by rw [hm]⟩
        · rw [if_pos (i_nle c3)] at hm
          unfold M_most_J60
          rw [nadd1]
          refine p_ob _ (wo_M hN hM h13 (by omega) S) (fun r8 h8' => ?_)
          rw [h8']
          exact ih _ _ _ ⟨k + 1, by omega, rfl, by rw [hm], by rw [hm]⟩
/-- who is not covered -/
noncomputable def ucp (f : Nat → Int32) (n : Nat) (S : Int32) (x : Nat) : Bool := bt S x && !(@decide (cvd f n S x) (Classical.propDecidable _))
noncomputable def ucs (f : Nat → Int32) (n : Nat) (S : Int32) : Int32 := bsf (ucp f n S) n
theorem ucp_t {f : Nat → Int32} {n : Nat} {S : Int32} {x : Nat} : ucp f n S x = true ↔ (bt S x = true ∧ ¬ cvd f n S x) := by
  unfold ucp
  rw [Bool.and_eq_true, Bool.not_eq_true', decide_eq_false_iff_not]
theorem ucs_bt {f : Nat → Int32} {n : Nat} (h8 : n ≤ 8) {S : Int32} (hS : ∀ j, bt S j = true → j < n) {j : Nat} : bt (ucs f n S) j = true ↔ (bt S j = true ∧ ¬ cvd f n S j) := by
  unfold ucs
  rw [bsf_bt n h8 j, Bool.and_eq_true, decide_eq_true_iff, ucp_t]
  exact ⟨fun h => h.2, fun h => ⟨hS j h.1, h⟩⟩
theorem uc_D {N : Nat} {σ μ : Mem} {n : Nat} (h8 : n ≤ 8) (h3 : gI σ 3 0 = nI n) (h1 : gI μ 1 0 = nI n) (h13 : ∀ a, a < 8 → gI μ 1 (1 + a) = gI σ 13 a) (S : Int32) : par (f_Se_uncovered N S σ) (fun r => r = ucs (gI σ 13) n S) := by
  unfold f_Se_uncovered
  refine p_it2 (fun i1 i2 => ∃ k, k ≤ n ∧ i2 = nI k ∧ i1 = bsf (ucp (gI σ 13) n S) k) ?_ N _ _ ⟨0, by omega, rfl, rfl⟩
  rintro self _ _ ⟨k, hk, rfl, rfl⟩ ih
  unfold Se_uncovered_B4
  rw [h3]
  refine p_if (fun c => ?_) (fun c => ?_)
  · rw [nle (by omega) (by omega)] at c
    have : k = n := by omega
    subst this
    exact p_some rfl
  · rw [nle (by omega) (by omega)] at c
    rw [bit_bt (by omega), nadd1]
    have no : ¬ ucp (gI σ 13) n S k = true → ucp (gI σ 13) n S k = false := fun h => by
      cases e : ucp (gI σ 13) n S k
      · rfl
      · exact absurd e h
    cases hb : bt S k
    · rw [if_neg (by decide)]
      refine ih _ _ ⟨k + 1, by omega, rfl, (bsf_f (no (fun h => ?_))).symm⟩
      rw [(ucp_t.mp h).1] at hb
      cases hb
    · rw [if_pos (by rfl)]
      refine p_ob _ (cvd_D h8 h3 h1 h13 (show k < 8 by omega) S) (fun r hr => ?_)
      rcases hr with ⟨r1, r2⟩ | ⟨r1, r2⟩
      · rw [if_neg (by rw [r1]; decide)]
        exact ih _ _ ⟨k + 1, by omega, rfl, (bsf_f (no (fun h => (ucp_t.mp h).2 r2))).symm⟩
      · rw [if_pos r1]
        exact p_bnd (ih _ _ ⟨k + 1, by omega, rfl, (bsf_t (ucp_t.mpr ⟨hb, r2⟩)).symm⟩)
theorem uc_M {N : Nat} {σ μ : Mem} {n : Nat} (h8 : n ≤ 8) (h3 : gI σ 3 0 = nI n) (h1 : gI μ 1 0 = nI n) (h13 : ∀ a, a < 8 → gI μ 1 (1 + a) = gI σ 13 a) (hT : Tn n (gI σ 13)) {S : Int32} (hS : ∀ j, bt S j = true → j < n) : par (f_M_uncovered N S μ) (fun r => r = ucs (gI σ 13) n S) := by
  have hcl : ∀ (z : Int32) (x j : Nat), x < 8 → bt (z &&& (((1 : Int32) <<< (nI x &&& 31)) ^^^ (-1 : Int32))) j = (bt z j && !decide (j = x)) := fun z x j hx => by
    by_cases hj : j < 32
    · rw [bt_and, bt_not _ hj, bt_one (by omega) hj]
    · rw [bt_ge (by omega), bt_ge (by omega)]
      rfl
  unfold f_M_uncovered
  refine p_it2 (fun i1 i2 => ∃ k, k ≤ n ∧ i2 = nI k ∧ ∀ j, bt i1 j = true ↔ (bt S j = true ∧ ¬ ∃ x, x < k ∧ bt S x = true ∧ cvr (gI σ 13) S x j)) ?_ N _ _ ⟨0, by omega, rfl, fun j => ⟨fun h => ⟨h, fun ⟨x, hx, _⟩ => by omega⟩, fun h => h.1⟩⟩
  rintro self i1 _ ⟨k, hk, rfl, hi⟩ ih
  unfold M_uncovered_B4
  rw [many_e h1]
  refine p_if (fun c => ?_) (fun c => ?_)
  · rw [nle (by omega) (by omega)] at c
    have : k = n := by omega
    subst this
    refine p_some (bt_eq (fun j => ?_))
    rw [ucs_bt h8 hS, hi j]
    exact Iff.rfl
  · rw [nle (by omega) (by omega)] at c
    refine p_it2 (fun i4 i5 => ∃ l, l ≤ n ∧ i5 = nI l ∧ ∀ j, bt i4 j = true ↔ (bt i1 j = true ∧ ¬ (j < l ∧ bt S k = true ∧ cvr (gI σ 13) S k j))) ?_ N _ _ ⟨0, by omega, rfl, fun j => ⟨fun h => ⟨h, fun ⟨hx, _⟩ => by omega⟩, fun h => h.1⟩⟩
    rintro self6 i4 _ ⟨l, hl, rfl, hj⟩ ih6
    unfold M_uncovered_B15
    rw [many_e h1, nadd1, nadd1]
    refine p_if (fun c2 => ?_) (fun c2 => ?_)
    · rw [nle (by omega) (by omega)] at c2
      have : l = n := by omega
      subst this
      refine ih _ _ ⟨k + 1, by omega, rfl, fun j => ?_⟩
      rw [hj j, hi j]
      constructor
      · rintro ⟨⟨a1, a2⟩, a3⟩
        refine ⟨a1, fun ⟨x, hx, h2, h4⟩ => ?_⟩
        by_cases cx : x = k
        · rw [cx] at h2 h4
          exact a3 ⟨hS j a1, h2, h4⟩
        · exact a2 ⟨x, by omega, h2, h4⟩
      · rintro ⟨a1, a2⟩
        exact ⟨⟨a1, fun ⟨x, hx, h2, h4⟩ => a2 ⟨x, by omega, h2, h4⟩⟩, fun ⟨_, h2, h4⟩ => a2 ⟨k, by omega, h2, h4⟩⟩
    · rw [nle (by omega) (by omega)] at c2
      have stay : ¬ (bt S k = true ∧ bt S l = true ∧ cvr (gI σ 13) S k l) → par (self6 i4 (nI (l + 1))) (fun r => r = ucs (gI σ 13) n S) := fun hno => by
        refine ih6 _ _ ⟨l + 1, by omega, rfl, fun j => ?_⟩
        rw [hj j]
        constructor
        · rintro ⟨a1, a2⟩
          refine ⟨a1, fun ⟨b1', b2', b3'⟩ => ?_⟩
          by_cases cj : j = l
          · rw [cj] at b3' a1
            exact hno ⟨b2', ((hi l).mp a1).1, b3'⟩
          · exact a2 ⟨by omega, b2', b3'⟩
        · rintro ⟨a1, a2⟩
          exact ⟨a1, fun ⟨b1', b2', b3'⟩ => a2 ⟨by omega, b2', b3'⟩⟩
      rw [has_bt (by omega), has_bt (by omega)]
      cases hb : bt S k
      · rw [if_pos (by decide)]
        refine p_bnd ?_
        rw [andm]
        exact stay (fun h => by rw [hb] at h; exact absurd h.1 (by decide))
      · rw [if_neg (by decide)]
        cases hb2 : bt S l
        · rw [if_pos (by decide)]
          refine p_bnd ?_
          rw [andm]
          exact stay (fun h => by rw [hb2] at h; exact absurd h.2.1 (by decide))
        · rw [if_neg (by decide)]
          refine p_if (fun c3 => ?_) (fun c3 => ?_)
          · have : k = l := nI_inj (by omega) (by omega) c3
            refine p_bnd ?_
            rw [andm]
            refine stay (fun h => ?_)
            have h2 := h.2.2.1
            rw [this] at h2
            exact absurd rfl (hT.2.1 l l (by omega) h2).2.2
          · obtain ⟨r, -, r2, r3, r4⟩ := cov_e h3 h1 h13 (show k < 8 by omega) (show l < 8 by omega) S
            rw [r2, ob_s]
            refine p_if (fun c4 => ?_) (fun c4 => ?_)
            · refine p_bnd ?_
              rw [andm]
              refine stay (fun h => ?_)
              have := r4.mpr h.2.2
              rw [c4] at this
              exact absurd this (by decide)
            · have hc : cvr (gI σ 13) S k l := r4.mp (r3.resolve_left c4)
              refine p_bnd (ih6 _ _ ⟨l + 1, by omega, rfl, fun j => ?_⟩)
              rw [hcl i4 l j (by omega), Bool.and_eq_true, hj j, Bool.not_eq_true', decide_eq_false_iff_not]
              constructor
              · rintro ⟨⟨a1, a2⟩, a3⟩
                exact ⟨a1, fun ⟨b1', b2', b3'⟩ => a2 ⟨by omega, b2', b3'⟩⟩
              · rintro ⟨a1, a2⟩
                refine ⟨⟨a1, fun ⟨b1', b2', b3'⟩ => a2 ⟨by omega, b2', b3'⟩⟩, fun e => a2 ?_⟩
                rw [e]
                exact ⟨by omega, hb, hc⟩
/-- again and again -/
noncomputable def uit (f : Nat → Int32) (n : Nat) (S : Int32) : Nat → Int32
  | 0 => S
  | k + 1 => ucs f n (uit f n S k)
theorem uit_s {f : Nat → Int32} {n : Nat} (h8 : n ≤ 8) {S : Int32} (hS : ∀ j, bt S j = true → j < n) : ∀ k j, bt (uit f n S k) j = true → j < n
  | 0, j, h => hS j h
  | k + 1, j, h => uit_s h8 hS k j ((ucs_bt h8 (uit_s h8 hS k)).mp h).1
theorem uit_pc {f : Nat → Int32} {n : Nat} (h8 : n ≤ 8) {S : Int32} (hS : ∀ j, bt S j = true → j < n) : ∀ k, (∀ i, i < k → ¬ uit f n S (i + 1) = uit f n S i) → pc (uit f n S k) + k ≤ 8
  | 0, _ => by have := pc_8 (uit f n S 0); omega
  | k + 1, h => by
    have ih := uit_pc h8 hS k (fun i hi => h i (by omega))
    have hs := uit_s (f := f) h8 hS k
    have hle : ∀ j, bt (uit f n S (k + 1)) j = true → bt (uit f n S k) j = true := fun j hj => ((ucs_bt h8 hs).mp hj).1
    have : ∃ j, bt (uit f n S k) j = true ∧ bt (uit f n S (k + 1)) j = false := by
      refine Classical.byContradiction (fun hc => h k (by omega) (bt_eq (fun j => ⟨hle j, fun hj => ?_⟩)))
      cases e : bt (uit f n S (k + 1)) j
      · exact absurd ⟨j, hj, e⟩ hc
      · rfl
    obtain ⟨j, j1, j2⟩ := this
    have := pc_lt (fun i _ hi => hle i hi) (show j < 8 by have := hs j j1; omega) j2 j1
    omega
theorem uit_fix {f : Nat → Int32} {n : Nat} {S : Int32} {k : Nat} (h : uit f n S (k + 1) = uit f n S k) : ∀ d, uit f n S (k + d) = uit f n S k
  | 0 => rfl
  | d + 1 => by
    show ucs f n (uit f n S (k + d)) = _
    rw [uit_fix h d]
    exact h
theorem ua_D {N : Nat} {σ μ : Mem} {n : Nat} (h8 : n ≤ 8) (h3 : gI σ 3 0 = nI n) (h1 : gI μ 1 0 = nI n) (h13 : ∀ a, a < 8 → gI μ 1 (1 + a) = gI σ 13 a) (S : Int32) : par (f_Se_uncoveredAgain N S σ) (fun r => r = uit (gI σ 13) n S 8) := by
  unfold f_Se_uncoveredAgain
  refine p_it2 (fun i1 i2 => ∃ k, k ≤ 8 ∧ i2 = nI k ∧ i1 = uit (gI σ 13) n S k) ?_ N _ _ ⟨0, by omega, rfl, rfl⟩
  rintro self _ _ ⟨k, hk, rfl, rfl⟩ ih
  unfold Se_uncoveredAgain_B4
  refine p_if (fun c => ?_) (fun c => ?_)
  · rw [l8, nle (by omega) (by omega)] at c
    have : k = 8 := by omega
    subst this
    exact p_some rfl
  · rw [l8, nle (by omega) (by omega)] at c
    rw [nadd1]
    refine p_ob _ (uc_D h8 h3 h1 h13 _) (fun r hr => ?_)
    exact ih _ _ ⟨k + 1, by omega, rfl, hr⟩
theorem ua_M {N : Nat} {σ μ : Mem} {n : Nat} (h8 : n ≤ 8) (h3 : gI σ 3 0 = nI n) (h1 : gI μ 1 0 = nI n) (h13 : ∀ a, a < 8 → gI μ 1 (1 + a) = gI σ 13 a) (hT : Tn n (gI σ 13)) {S : Int32} (hS : ∀ j, bt S j = true → j < n) : par (f_M_againUncovered N S μ) (fun r => r = uit (gI σ 13) n S 8) := by
  unfold f_M_againUncovered
  refine p_ob _ (uc_M h8 h3 h1 h13 hT hS) (fun r hr => ?_)
  refine p_it2 (fun i2 i3 => ∃ k, i2 = uit (gI σ 13) n S k ∧ i3 = uit (gI σ 13) n S (k + 1) ∧ ∀ i, i < k → ¬ uit (gI σ 13) n S (i + 1) = uit (gI σ 13) n S i) ?_ N _ _ ⟨0, rfl, hr, fun i hi => by omega⟩
  rintro self _ _ ⟨k, rfl, rfl, hk⟩ ih
  unfold M_againUncovered_B8
  refine p_if (fun c => p_some ?_) (fun c => ?_)
  · have h := uit_pc (f := gI σ 13) h8 hS k hk
    have e := uit_fix c (8 - k)
    have : k + (8 - k) = 8 := by omega
    rw [this] at e
    exact e.symm
  · refine p_ob _ (uc_M h8 h3 h1 h13 hT (uit_s h8 hS (k + 1))) (fun r5 h5 => ?_)
    refine ih _ _ ⟨k + 1, rfl, h5, fun i hi => ?_⟩
    by_cases ci : i = k
    · rw [ci]; exact c
    · exact hk i (by omega)
