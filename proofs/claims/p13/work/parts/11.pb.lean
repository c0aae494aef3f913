/-! unpacking what was packed -/
theorem lg_eq (a b : Int64) : lg_cmp a b = 0 ↔ a = b := by
  unfold lg_cmp
  by_cases h1 : a > b
  · rw [if_pos h1]
    refine ⟨fun h => absurd h (by decide), fun h => ?_⟩
    subst h
    have : a.toInt < a.toInt := Int64.lt_iff_toInt_lt.mp h1
    omega
  · rw [if_neg h1]
    by_cases h3 : a = b
    · rw [if_pos h3]
      exact ⟨fun _ => h3, fun _ => rfl⟩
    · rw [if_neg h3]
      exact ⟨fun h => absurd h (by decide), fun h => absurd h h3⟩
theorem clearN_s {N : Nat} (hN : 8589934592 ≤ N) (σ : Mem) : tot (f_Du_clearN N σ) (fun τ => fr [3, 13] [] σ τ ∧ gI τ 3 0 = 0 ∧ ∀ a, a < 8 → gI τ 13 a = 0) := by
  unfold f_Du_clearN
  refine t_let (fun s1 e1 => ?_)
  refine t_it2 (fun i s => ∃ k, k ≤ 8 ∧ i = nI k ∧ fr [3, 13] [] σ s ∧ gI s 3 0 = 0 ∧ ∀ a, a < k → gI s 13 a = 0) (fun i _ => 8 - i.toNatClampNeg) ?_ N _ _ ⟨0, by decide, rfl, by rw [e1]; exact fr_sI (by decide), by rw [e1, gI_sI, if_pos rfl, upd_ap, if_pos rfl], fun a ha => by omega⟩ (by rw [n0]; omega)
  rintro self _ s ⟨k, hk, rfl, hf, h3, hz⟩ ih
  unfold Du_clearN_B7
  refine t_if (fun h => ?_) (fun h => ?_)
  · have : k = 8 := by
      rw [l8, nle (by decide) (by omega)] at h
      omega
    subst this
    exact t_some ⟨hf, h3, hz⟩
  · have hk8 : k < 8 := by
      rw [l8, nle (by decide) (by omega)] at h
      omega
    refine t_gd (inb_nI hk8 (by decide)) ?_
    rw [nI_clamp (by omega), nadd1]
    refine t_let (fun t et => ih _ _ ⟨k + 1, by omega, rfl, by rw [et]; exact fr_t hf (fr_sI (by decide)), by rw [et, gI_sI, if_neg (by decide)]; exact h3, fun a ha => ?_⟩ ?_)
    · rw [et, gI_sI, if_pos rfl, upd_ap]
      by_cases e : a = k
      · rw [if_pos e]
      · rw [if_neg e]
        exact hz a (by omega)
    · rw [nI_clamp (by omega), nI_clamp (by omega)]
      omega
theorem clearS_s {N : Nat} (hN : 8589934592 ≤ N) (σ : Mem) : tot (f_Du_clearS N σ) (fun τ => fr [4, 14] [] σ τ ∧ gI τ 4 0 = 0 ∧ ∀ a, a < 8 → gI τ 14 a = 0) := by
  unfold f_Du_clearS
  refine t_let (fun s1 e1 => ?_)
  refine t_it2 (fun i s => ∃ k, k ≤ 8 ∧ i = nI k ∧ fr [4, 14] [] σ s ∧ gI s 4 0 = 0 ∧ ∀ a, a < k → gI s 14 a = 0) (fun i _ => 8 - i.toNatClampNeg) ?_ N _ _ ⟨0, by decide, rfl, by rw [e1]; exact fr_sI (by decide), by rw [e1, gI_sI, if_pos rfl, upd_ap, if_pos rfl], fun a ha => by omega⟩ (by rw [n0]; omega)
  rintro self _ s ⟨k, hk, rfl, hf, h3, hz⟩ ih
  unfold Du_clearS_B7
  refine t_if (fun h => ?_) (fun h => ?_)
  · have : k = 8 := by
      rw [l8, nle (by decide) (by omega)] at h
      omega
    subst this
    exact t_some ⟨hf, h3, hz⟩
  · have hk8 : k < 8 := by
      rw [l8, nle (by decide) (by omega)] at h
      omega
    refine t_gd (inb_nI hk8 (by decide)) ?_
    rw [nI_clamp (by omega), nadd1]
    refine t_let (fun t et => ih _ _ ⟨k + 1, by omega, rfl, by rw [et]; exact fr_t hf (fr_sI (by decide)), by rw [et, gI_sI, if_neg (by decide)]; exact h3, fun a ha => ?_⟩ ?_)
    · rw [et, gI_sI, if_pos rfl, upd_ap]
      by_cases e : a = k
      · rw [if_pos e]
      · rw [if_neg e]
        exact hz a (by omega)
    · rw [nI_clamp (by omega), nI_clamp (by omega)]
      omega
/-- rows told so far, going down from the last pair -/
def sofar (f g : Nat → Int32) (P : Nat → Nat → Prop) : Prop := ∀ a b, a < 8 → b < 32 → (bt (g a) b = true ↔ (bt (f a) b = true ∧ P a b))
theorem Tn_bt {n : Nat} {f : Nat → Int32} (hT : Tn n f) {a b : Nat} (ha : a < 8) (h : ¬ (a < n ∧ b < n ∧ a ≠ b)) : bt (f a) b = false := by
  cases e : bt (f a) b
  · rfl
  · exact absurd (hT.2.1 a b ha e) h
theorem sofar_step {n : Nat} {f g h : Nat → Int32} (hT : Tn n f) {i j : Nat} (hij : i < j) (hj : j < n) (hs : sofar f g (fun a b => (i < a ∧ i < b) ∨ (a = i ∧ j < b) ∨ (b = i ∧ j < a))) (hh : ∀ a, h a = if bt (f i) j = true then lb g i j a else lb g j i a) : sofar f h (fun a b => (i < a ∧ i < b) ∨ (a = i ∧ j - 1 < b) ∨ (b = i ∧ j - 1 < a)) := by
  have hn := hT.1
  intro a b ha hb
  have hsab := hs a b ha hb
  have anti := hT.2.2 i j (by omega) hj (by omega)
  rw [hh]
  cases hf : bt (f i) j
  · rw [if_neg (by decide), lb_bt (by omega) (by omega) hb]
    rw [hf] at anti
    have fji : bt (f j) i = true := by
      cases e : bt (f j) i
      · rw [e] at anti; exact absurd anti (by decide)
      · rfl
    by_cases c1 : a = i ∧ b = j
    · rw [if_pos c1, c1.1, c1.2, hf]
      exact ⟨fun h => absurd h (by decide), fun h => absurd h.1 (by decide)⟩
    · rw [if_neg c1]
      by_cases c2 : a = j ∧ a ≠ i ∧ b = i
      · rw [if_pos c2, c2.1, c2.2.2, fji]
        exact ⟨fun _ => ⟨rfl, Or.inr (Or.inr ⟨rfl, by omega⟩)⟩, fun _ => rfl⟩
      · rw [if_neg c2, hsab]
        constructor
        · rintro ⟨h1, h2⟩
          exact ⟨h1, by omega⟩
        · rintro ⟨h1, h2⟩
          refine ⟨h1, ?_⟩
          rcases h2 with q | ⟨q1, q2⟩ | ⟨q1, q2⟩
          · exact Or.inl q
          · exact Or.inr (Or.inl ⟨q1, by omega⟩)
          · exact Or.inr (Or.inr ⟨q1, by omega⟩)
  · rw [if_pos rfl, lb_bt (by omega) (by omega) hb]
    rw [hf] at anti
    have fji : bt (f j) i = false := by
      cases e : bt (f j) i
      · rfl
      · rw [e] at anti; exact absurd anti (by decide)
    by_cases c1 : a = j ∧ b = i
    · rw [if_pos c1, c1.1, c1.2, fji]
      exact ⟨fun h => absurd h (by decide), fun h => absurd h.1 (by decide)⟩
    · rw [if_neg c1]
      by_cases c2 : a = i ∧ a ≠ j ∧ b = j
      · rw [if_pos c2, c2.1, c2.2.2, hf]
        exact ⟨fun _ => ⟨rfl, Or.inr (Or.inl ⟨rfl, by omega⟩)⟩, fun _ => rfl⟩
      · rw [if_neg c2, hsab]
        constructor
        · rintro ⟨h1, h2⟩
          exact ⟨h1, by omega⟩
        · rintro ⟨h1, h2⟩
          refine ⟨h1, ?_⟩
          rcases h2 with q | ⟨q1, q2⟩ | ⟨q1, q2⟩
          · exact Or.inl q
          · exact Or.inr (Or.inl ⟨q1, by omega⟩)
          · exact Or.inr (Or.inr ⟨q1, by omega⟩)
theorem wi_pop (f : Nat → Int32) (i x d : Nat) : wi f i x (d + 1) % 2 = b1 (bt (f i) (i + 1 + d)) ∧ wi f i x (d + 1) / 2 = wi f i x d := by
  have h2 := b1_le (bt (f i) (i + 1 + d))
  show (2 * wi f i x d + b1 (bt (f i) (i + 1 + d))) % 2 = _ ∧ (2 * wi f i x d + b1 (bt (f i) (i + 1 + d))) / 2 = _
  omega
theorem pk_n {n : Nat} (hn : n ≤ 8) (f : Nat → Int32) : (pk n f &&& 15).toInt32 = nI n := by
  unfold pk
  have := wo_b f hn (Nat.le_refl n)
  rw [l_and15 (by omega), lN_i]
  congr 1
  omega
theorem pk_r {n : Nat} (hn : n ≤ 8) (f : Nat → Int32) : pk n f >>> ((4 : Int32).toInt64 &&& 63) = lN (wo f n n) := by
  unfold pk
  have := wo_b f hn (Nat.le_refl n)
  rw [l_shr4 (by omega)]
  congr 1
  omega
theorem pk_jok {n : Nat} (hn : n ≤ 8) (f : Nat → Int32) : jok (pk n f) := by
  unfold jok
  rw [pk_n hn]
  exact nI_rg (by omega) (by omega)
theorem pk_ne {n : Nat} (hn : n ≤ 8) (h1 : 1 ≤ n) (f : Nat → Int32) : ¬ pk n f = 0 := fun e => by
  have h := pk_n hn f
  rw [e] at h
  have h2 : ((0 : Int64) &&& 15).toInt32 = nI 0 := by decide
  rw [h2] at h
  have := nI_inj (by omega) (by omega) h
  omega
theorem unpackN_s {N n : Nat} (hN : 8589934592 ≤ N) {f : Nat → Int32} (hT : Tn n f) (σ : Mem) : tot (f_Du_unpackN N (pk n f) σ) (fun τ => fr [3, 13] [] σ τ ∧ gI τ 3 0 = nI n ∧ ∀ a, a < 8 → gI τ 13 a = f a) := by
  have hn := hT.1
  unfold f_Du_unpackN
  refine t_ob _ (clearN_s hN σ) (fun s1 ⟨f1, _, z1⟩ => ?_)
  rw [pk_n hn, pk_r hn]
  refine t_bnd (t_bnd (t_bnd ?_))
  refine t_it3 (fun v i s => ∃ k, k ≤ n ∧ i = nI k + (-1) ∧ v = lN (wo f n k) ∧ fr [3, 13] [] σ s ∧ sofar f (gI s 13) (fun a b => k ≤ a ∧ k ≤ b)) (fun _ i _ => (i + 1).toNatClampNeg) ?_ N _ _ _ ⟨n, Nat.le_refl n, by rw [Int32.sub_eq_add_neg], rfl, f1, fun a b ha hb => ?_⟩ ?_
  · rintro self _ _ s ⟨k, hk, rfl, rfl, hf, hs⟩ ih
    unfold Du_unpackN_B21
    by_cases hk0 : k = 0
    · subst hk0
      rw [if_pos neg1_lt]
      unfold Du_unpackN_K84
      refine t_let (fun t et => t_some ⟨by rw [et]; exact fr_t hf (fr_sI (by decide)), by rw [et, gI_sI, if_pos rfl, upd_ap, if_pos rfl], fun a ha => ?_⟩)
      rw [et, gI_sI, if_neg (by decide)]
      apply bt_ext
      intro b hb
      have := hs a b ha hb
      cases e1 : bt (gI s 13 a) b
      · cases e2 : bt (f a) b
        · rfl
        · rw [e1, e2] at this
          exact absurd (this.mpr ⟨rfl, by omega, by omega⟩) (by decide)
      · rw [e1] at this
        exact ((this.mp rfl).1).symm
    · have hk1 : nI k + (-1) = nI (k - 1) := nsub1 (by omega)
      obtain ⟨i, rfl⟩ : ∃ i, k = i + 1 := ⟨k - 1, by omega⟩
      have e1 : i + 1 - 1 = i := by omega
      rw [hk1, if_neg (nI_pos (by omega)), e1]
      refine t_bnd ?_
      rw [nsub1' (by omega)]
      refine t_it3 (fun v x s => ∃ j, i ≤ j ∧ j < n ∧ x = nI j ∧ v = lN (wi f i (wo f n i) (j - i)) ∧ fr [3, 13] [] σ s ∧ sofar f (gI s 13) (fun a b => (i < a ∧ i < b) ∨ (a = i ∧ j < b) ∨ (b = i ∧ j < a))) (fun _ x _ => x.toNatClampNeg) ?_ N _ _ _ ⟨n - 1, by omega, by omega, rfl, ?_, hf, fun a b ha hb => ?_⟩ (by rw [nI_clamp (by omega)]; omega)
      · rintro self2 _ _ s2 ⟨j, hj1, hj, rfl, rfl, hf2, hs2⟩ ih2
        unfold Du_unpackN_B31
        refine t_if (fun h2 => ?_) (fun h2 => ?_)
        · have hji : j = i := by
            rw [nle (by omega) (by omega)] at h2
            omega
          subst hji
          have e0 : j - j = 0 := by omega
          rw [e0]
          refine ih _ _ _ ⟨j, by omega, rfl, rfl, hf2, fun a b ha hb => ?_⟩ ?_
          · rw [hs2 a b ha hb]
            constructor
            · rintro ⟨h1, h3⟩
              exact ⟨h1, by omega, by omega⟩
            · rintro ⟨h1, h3, h4⟩
              have := hT.2.1 a b ha h1
              exact ⟨h1, by omega⟩
          · have e3 : nI (j + 1) + (-1) + 1 = nI (j + 1) := by rw [hk1, e1, nadd1]
            have e4 : nI j + (-1) + 1 = nI j := by
              rw [Int32.add_assoc]
              have : (-1 : Int32) + 1 = 0 := by decide
              rw [this, Int32.add_zero]
            rw [e4, e3, nI_clamp (by omega), nI_clamp (by omega)]
            omega
        · have hjk : i < j := by
            rw [nle (by omega) (by omega)] at h2
            omega
          obtain ⟨d, hd⟩ : ∃ d, j - i = d + 1 := ⟨j - i - 1, by omega⟩
          rw [hd]
          obtain ⟨p1, p2⟩ := wi_pop f i (wo f n i) d
          have ebj : i + 1 + d = j := by omega
          rw [ebj] at p1
          have wb := wi_b f hn (i := i) (k := d + 1) (by omega) (by omega)
          have e5 : j - 1 - i = d := by omega
          rw [l_and1 (by omega), l_shr1 (by omega), p1, p2]
          have dec : (nI (j - 1)).toNatClampNeg < (nI j).toNatClampNeg := by
            rw [nI_clamp (by omega), nI_clamp (by omega)]
            omega
          have hbit : (lg_cmp (lN (b1 (bt (f i) j))) 1 = 0) ↔ bt (f i) j = true := by
            rw [lg_eq]
            cases bt (f i) j <;> decide
          refine t_if (fun h3 => ?_) (fun h3 => ?_)
          · refine t_ob _ (letBeatN_s (by omega) (by omega) (by omega) s2) (fun s3 ⟨h4, h5⟩ => t_bnd ?_)
            rw [nsub1 (by omega)]
            refine ih2 _ _ _ ⟨j - 1, by omega, by omega, rfl, by rw [e5], fr_t hf2 (fr_m h4 (by decide) (by decide)), sofar_step hT hjk hj hs2 (fun a => ?_)⟩ dec
            rw [if_pos (hbit.mp h3)]
            exact h5 a
          · refine t_ob _ (letBeatN_s (by omega) (by omega) (by omega) s2) (fun s3 ⟨h4, h5⟩ => t_bnd ?_)
            rw [nsub1 (by omega)]
            refine ih2 _ _ _ ⟨j - 1, by omega, by omega, rfl, by rw [e5], fr_t hf2 (fr_m h4 (by decide) (by decide)), sofar_step hT hjk hj hs2 (fun a => ?_)⟩ dec
            rw [if_neg (fun q => h3 (hbit.mpr q))]
            exact h5 a
      · show lN (wi f i (wo f n i) (n - (i + 1))) = _
        have e9 : n - (i + 1) = n - 1 - i := by omega
        rw [e9]
      · rw [hs a b ha hb]
        constructor
        · rintro ⟨h1, h3⟩
          exact ⟨h1, by omega⟩
        · rintro ⟨h1, h3⟩
          have := hT.2.1 a b ha h1
          exact ⟨h1, by omega, by omega⟩
  · rw [z1 a ha, bt_0]
    constructor
    · intro h; cases h
    · rintro ⟨h1, h2, h3⟩
      have := hT.2.1 a b ha h1
      omega
  · have e4 : nI n - 1 + 1 = nI n := by
      rw [Int32.sub_add_cancel]
    rw [e4, nI_clamp (by omega)]
    omega
