/-! lines read and judged, the first of the two -/
abbrev lS : List Nat := [2, 6, 7, 24, 25]
/-- the lines of a proof as they lie -/
def LSl (s : Mem) (l : Nat) (b : Nat → Nat) : Prop := l ≤ 101 ∧ gI s 7 0 = nI l ∧ (∀ i, i ≤ l → gI s 25 i = nI (b i)) ∧ (∀ i, i < l → ln s (b i) (b (i + 1))) ∧ b l ≤ 300
theorem b_mo {b : Nat → Nat} {l : Nat} (h : ∀ i, i < l → b i + 2 ≤ b (i + 1)) {i : Nat} : ∀ d, i + d ≤ l → b i ≤ b (i + d)
  | 0, _ => Nat.le_refl _
  | d + 1, hd => by
    have h1 := b_mo h (i := i) d (by omega)
    have h2 := h (i + d) (by omega)
    have e : i + (d + 1) = i + d + 1 := by omega
    rw [e]
    omega
theorem readLines_s {N : Nat} (hN : 8589934592 ≤ N) {σ : Mem} (hm : InvD σ) : tot (f_Pr_readLines N σ) (fun q => KD lS [] σ q.2 ∧ (q.1 = -1 → ∃ l b, LSl q.2 l b)) := by
  unfold f_Pr_readLines
  refine t_lm (KD lS [] σ) (kd_s (kd_r hm) (by decide) (dS2 hm (by decide))) (fun s1 e1 k1 => ?_)
  refine t_lm (KD lS [] σ) (kd_s k1 (by decide) (dS6 k1.1 (by decide))) (fun s2 e2 k2 => ?_)
  refine t_lm (KD lS [] σ) (kd_s k2 (by decide) (dS7 k2.1 (by decide))) (fun s3 e3 k3 => ?_)
  refine t_lm (KD lS [] σ) (kd_s k3 (by decide) (dS25 k3.1 (by decide))) (fun s4 e4 k4 => ?_)
  have hK : ∀ t l b, KD lS [] σ t → LSl t l b → tot (Pr_readLines_K102 N t) (fun q => KD lS [] σ q.2 ∧ (q.1 = -1 → ∃ l b, LSl q.2 l b)) := by
    intro t l b kt hl
    unfold Pr_readLines_K102
    refine t_ob2 (fun r u => rg (-1) 65535 r ∧ KD [2] [] t u ∧ (¬ r = -1 → rg 0 299 (gI u 2 0)) ∧ (gI t 2 0).toInt ≤ (gI u 2 0).toInt) (Sg_next_s hN kt.1) (fun r7 s6 ⟨_, k6, _, _⟩ => ?_)
    have k6' := kd_t (S := lS) (J := []) kt k6 (by decide) (by decide)
    refine t_if (fun _ => t_some ⟨k6', fun _ => ⟨l, b, ?_⟩⟩) (fun _ => t_some ⟨k6', fun e => ?_⟩)
    · obtain ⟨h1, h2, h3, h4, h5⟩ := hl
      have q24 : ap t s6 (b l) := ap_k k6 (by decide) _
      refine ⟨h1, by show gI s6 7 0 = _; rw [k6.2.1 7 (by decide)]; exact h2, fun i hi => by show gI s6 25 i = _; rw [k6.2.1 25 (by decide)]; exact h3 i hi, fun i hi => ln_ap (ap_k k6 (by decide) (b (i + 1))) (Nat.le_refl _) (h4 i hi), h5⟩
    · have e : gI s6 2 0 = -1 := e
      have f := k6.1.r2 0
      rw [e] at f
      exact absurd f (by decide)
  refine t_it2 (fun i s => KD lS [] σ s ∧ ∃ l b, i = nI l ∧ LSl s l b ∧ Wdn s (b l)) (fun i _ => 102 - i.toNatClampNeg) ?_ _ _ _ ⟨k4, 0, fun _ => 0, rfl, ⟨by decide, ?_, ?_, fun i hi => by omega, by decide⟩, ?_⟩ (by rw [n0]; omega)
  · rintro self _ s ⟨ks, l, b, rfl, hl, hw⟩ ih
    unfold Pr_readLines_B27
    have hl0 := hl
    obtain ⟨h1, h2, h3, h4, h5⟩ := hl
    refine t_if (fun _ => hK s l b ks hl0) (fun h => ?_)
    have hl100 : l ≤ 100 := by
      have e100 : (100 : Int32) = nI 100 := rfl
      rw [e100, nlt (by decide) (by omega)] at h
      omega
    refine t_ob2 (fun r u => KD jS [] s u ∧ ap s u (b l) ∧ ((r = 0 ∧ ∃ w', Wdn u w') ∨ (r = 1 ∧ ∃ e, Wdn u e ∧ ln u (b l) e))) (readLine_s hN ks.1 hw) (fun r13 s12 ⟨k12, a12, h12⟩ => ?_)
    have k12' := kd_t (S := lS) (J := []) ks k12 (by decide) (by decide)
    rcases h12 with ⟨e, -⟩ | ⟨e, w', wd, hln⟩
    · rw [e, if_pos rfl]
      refine t_some ⟨k12', fun e => ?_⟩
      have e : gI s12 2 0 = -1 := e
      have f := k12'.1.r2 0
      rw [e] at f
      exact absurd f (by decide)
    · rw [e, if_neg (by decide), nadd1]
      refine t_lm (KD lS [] σ) (kd_s k12' (by decide) (dS7 k12'.1 (nI_rg (by omega) (by omega)))) (fun s14 e14 k14 => ?_)
      have q7 : gI s14 7 0 = nI (l + 1) := by rw [e14, gI_sI, if_pos rfl, upd_ap, if_pos rfl]
      have q6 : gI s14 6 0 = nI w' := by rw [e14, gI_sI, if_neg (by decide)]; exact wd.1
      rw [q7, q6]
      refine t_gd (inb_nI (by omega) (by decide)) ?_
      rw [nI_clamp (by omega)]
      have w300 : w' ≤ 300 := by
        have := wd.2
        have := (k12'.1.r2 0).2
        omega
      refine t_lm (KD lS [] σ) (kd_s k14 (by decide) (dS25 k14.1 (nI_rg (by omega) (by omega)))) (fun s15 e15 k15 => ?_)
      -- the lines so far
      have hb : ∀ i, i < l → b i + 2 ≤ b (i + 1) := fun i hi => (h4 i hi).1
      have a15 : ∀ w, ap s12 s15 w := fun w j _ => by rw [e15, gI_sI, if_neg (by decide), e14, gI_sI, if_neg (by decide)]
      have hl15 : LSl s15 (l + 1) (fun i => if i ≤ l then b i else w') := by
        refine ⟨by omega, ?_, fun i hi => ?_, fun i hi => ?_, ?_⟩
        · rw [e15, gI_sI, if_neg (by decide)]
          exact q7
        · rw [e15, gI_sI, if_pos rfl, upd_ap]
          by_cases ei : i = l + 1
          · rw [if_pos ei]
            show _ = nI (if i ≤ l then b i else w')
            rw [if_neg (by omega)]
          · rw [if_neg ei, e14, gI_sI, if_neg (by decide), k12.2.1 25 (by decide)]
            show _ = nI (if i ≤ l then b i else w')
            rw [if_pos (by omega)]
            exact h3 i (by omega)
        · show ln s15 (if i ≤ l then b i else w') (if i + 1 ≤ l then b (i + 1) else w')
          rw [if_pos (by omega)]
          by_cases ei : i = l
          · rw [if_neg (by omega), ei]
            exact ln_ap (a15 w') (Nat.le_refl _) hln
          · rw [if_pos (by omega)]
            have : b (i + 1) ≤ b l := by
              have := b_mo hb (i := i + 1) (l - (i + 1)) (by omega)
              have e2 : i + 1 + (l - (i + 1)) = l := by omega
              rw [e2] at this
              exact this
            exact ln_ap (a15 _) (Nat.le_refl _) (ln_ap a12 this (h4 i (by omega)))
        · show (if l + 1 ≤ l then b (l + 1) else w') ≤ 300
          rw [if_neg (by omega)]
          exact w300
      have w15 : Wdn s15 w' := by
        refine ⟨by rw [e15, gI_sI, if_neg (by decide)]; exact q6, ?_⟩
        rw [e15, gI_sI, if_neg (by decide), e14, gI_sI, if_neg (by decide)]
        exact wd.2
      refine t_ob2 (fun r u => rg (-1) 65535 r ∧ KD [2] [] s15 u ∧ (¬ r = -1 → rg 0 299 (gI u 2 0)) ∧ (gI s15 2 0).toInt ≤ (gI u 2 0).toInt) (Sg_next_s hN k15.1) (fun r17 s16 ⟨_, k16, c16, p16⟩ => ?_)
      have k16' := kd_t (S := lS) (J := []) k15 k16 (by decide) (by decide)
      have hl16 : LSl s16 (l + 1) (fun i => if i ≤ l then b i else w') := by
        obtain ⟨g1, g2, g3, g4, g5⟩ := hl15
        exact ⟨g1, by rw [k16.2.1 7 (by decide)]; exact g2, fun i hi => by rw [k16.2.1 25 (by decide)]; exact g3 i hi, fun i hi => ln_ap (ap_k k16 (by decide) _) (Nat.le_refl _) (g4 i hi), g5⟩
      refine t_if (fun h17 => ?_) (fun _ => ?_)
      · refine t_lm (KD lS [] σ) (at1 k16' (by decide) (c16 (by rw [h17]; decide))) (fun s18 e18 k18 => ?_)
        refine ih _ _ ⟨k18, l + 1, (fun i => if i ≤ l then b i else w'), rfl, ?_, ?_⟩ ?_
        · obtain ⟨g1, g2, g3, g4, g5⟩ := hl16
          exact ⟨g1, by rw [e18, gI_sI, if_neg (by decide)]; exact g2, fun i hi => by rw [e18, gI_sI, if_neg (by decide)]; exact g3 i hi, fun i hi => ln_ap (fun j _ => by rw [e18, gI_sI, if_neg (by decide)]) (Nat.le_refl _) (g4 i hi), g5⟩
        · show Wdn s18 (if l + 1 ≤ l then b (l + 1) else w')
          rw [if_neg (by omega)]
          have q2 : gI s18 2 0 = gI s16 2 0 + 1 := by rw [e18, gI_sI, if_pos rfl, upd_ap, if_pos rfl]
          have o1 : (1 : Int32).toInt = 1 := by decide
          have hc2 := (c16 (by rw [h17]; decide)).2
          have w2 := w15.2
          refine ⟨by rw [e18, gI_sI, if_neg (by decide), k16.2.1 6 (by decide)]; exact w15.1, ?_⟩
          rw [q2, i_add (by rw [o1]; omega) (by rw [o1]; omega)]
          omega
        · rw [nI_clamp (by omega), nI_clamp (by omega)]
          omega
      · unfold Pr_readLines_K80
        exact hK _ _ _ k16' hl16
  · rw [e4, gI_sI, if_neg (by decide), e3, gI_sI, if_pos rfl, upd_ap, if_pos rfl]; rfl
  · intro i hi
    have : i = 0 := by omega
    subst this
    rw [e4, gI_sI, if_pos rfl, upd_ap, if_pos n0.symm]; rfl
  · refine ⟨?_, ?_⟩
    · rw [e4, gI_sI, if_neg (by decide), e3, gI_sI, if_neg (by decide), e2, gI_sI, if_pos rfl, upd_ap, if_pos rfl]; rfl
    · rw [e4, gI_sI, if_neg (by decide), e3, gI_sI, if_neg (by decide), e2, gI_sI, if_neg (by decide), e1, gI_sI, if_pos rfl, upd_ap, if_pos rfl]; decide
-- judging
theorem countTurned_s {N : Nat} (hN : 8589934592 ≤ N) {a e : Nat} (ha : a ≤ 300) (he : e ≤ 300) {σ : Mem} (hm : InvD σ) (hl : ∀ j, a ≤ j → j < e → lt8 σ j) : tot (f_Pr_countTurned N (nI a) (nI e) σ) (fun _ => True) := by
  unfold f_Pr_countTurned
  refine t_it2 (fun _ i => ∃ k, a ≤ k ∧ k ≤ 301 ∧ i = nI k) (fun _ i => 302 - i.toNatClampNeg) ?_ _ _ _ ⟨a, by omega, by omega, rfl⟩ (Nat.lt_of_le_of_lt (Nat.sub_le _ _) (by omega))
  rintro self i1 _ ⟨k, hk1, hk2, rfl⟩ ih
  unfold Pr_countTurned_B5
  refine t_if (fun _ => t_some trivial) (fun h => t_bnd ?_)
  have hke : k < e := by
    rw [nle (by omega) (by omega)] at h
    omega
  rw [nadd1]
  refine t_it2 (fun _ i => ∃ j, k < j ∧ j ≤ 301 ∧ i = nI j) (fun _ i => 302 - i.toNatClampNeg) ?_ _ _ _ ⟨k + 1, by omega, by omega, rfl⟩ (Nat.lt_of_le_of_lt (Nat.sub_le _ _) (by omega))
  rintro self2 i5 _ ⟨j, hj1, hj2, rfl⟩ ih2
  unfold Pr_countTurned_B17
  refine t_if (fun _ => ?_) (fun h2 => ?_)
  · rw [nadd1]
    refine ih _ _ ⟨k + 1, by omega, by omega, rfl⟩ ?_
    rw [nI_clamp (by omega), nI_clamp (by omega)]
    omega
  · have hje : j < e := by
      rw [nle (by omega) (by omega)] at h2
      omega
    have dec : 302 - (nI (j + 1)).toNatClampNeg < 302 - (nI j).toNatClampNeg := by
      rw [nI_clamp (by omega), nI_clamp (by omega)]
      omega
    refine t_gd (inb_nI (by omega) (by decide)) (t_gd (inb_nI (by omega) (by decide)) ?_)
    rw [nI_clamp (by omega), nI_clamp (by omega), nadd1]
    refine t_ob _ (Du_isBeatingN_t (hl j (by omega) hje) hm) (fun r8 _ => ?_)
    exact t_if (fun _ => ih2 _ _ ⟨j + 1, by omega, by omega, rfl⟩ dec) (fun _ => ih2 _ _ ⟨j + 1, by omega, by omega, rfl⟩ dec)
theorem whyNoWeights_s {N : Nat} (hN : 8589934592 ≤ N) {a e : Nat} (ha : a ≤ 300) (he : e ≤ 300) {σ : Mem} (hm : InvD σ) (hl : ∀ j, a + 2 * j + 1 < e → lt8 σ (a + 2 * j)) : tot (f_Pr_whyNoWeights N (nI a) (nI e) σ) (fun q => KD [26] [] σ q.2) := by
  unfold f_Pr_whyNoWeights
  have hK : ∀ y s, KD [26] [] σ s → tot (Pr_whyNoWeights_K79 N y s) (fun q => KD [26] [] σ q.2) := by
    intro y s ks
    unfold Pr_whyNoWeights_K79
    exact t_if (fun _ => t_some ks) (fun _ => t_ob _ (We_nobodyGainsG_t hN (ev_rg ks.1) ks.1) (fun _ _ => t_if (fun _ => t_some ks) (fun _ => t_some ks)))
  have h21 : ∀ s, KD [26] [] σ s → tot (Pr_whyNoWeights_K21 N (nI a) (nI e) s) (fun q => KD [26] [] σ q.2) := by
    intro s ks
    unfold Pr_whyNoWeights_K21
    refine t_it3 (fun _ i s => (∃ k, k ≤ 151 ∧ i = nI (a + 2 * k)) ∧ KD [26] [] σ s) (fun _ i _ => 700 - i.toNatClampNeg) ?_ _ _ _ _ ⟨⟨0, by decide, rfl⟩, ks⟩ (Nat.lt_of_le_of_lt (Nat.sub_le _ _) (by omega))
    rintro self i5 _ t ⟨⟨k, hk, rfl⟩, kt⟩ ih
    unfold Pr_whyNoWeights_B26
    rw [nadd1]
    refine t_if (fun _ => hK _ t kt) (fun h => ?_)
    have hke : a + 2 * k + 1 < e := by
      rw [nle (by omega) (by omega)] at h
      omega
    have g : inb (nI (a + 2 * k)) 300 = true := inb_nI (by omega) (by decide)
    have hq : gI t 24 = gI σ 24 := kt.2.1 24 (by decide)
    have f7 : rg 0 7 (gI t 24 (a + 2 * k)) := by rw [hq]; exact hl k hke
    refine t_gd g (t_gd (inb_nI (by omega) (by decide)) ?_)
    rw [nI_clamp (by omega)]
    refine t_gd (inb_rg f7 (by decide)) ?_
    refine t_lm (KD [26] [] σ) (kd_s kt (by decide) (dS26 kt.1)) (fun u eu ku => t_gd g ?_)
    have hq2 : gI u 24 = gI σ 24 := ku.2.1 24 (by decide)
    have f7' : rg 0 7 (gI u 24 (a + 2 * k)) := by rw [hq2]; exact hl k hke
    refine t_gd (inb_rg f7' (by decide)) (t_bnd ?_)
    have e2 : nI (a + 2 * k) + 2 = nI (a + 2 * (k + 1)) := by
      rw [l2, nI_add]
      congr 1
    rw [e2]
    refine ih _ _ _ ⟨⟨k + 1, by omega, rfl⟩, ku⟩ ?_
    rw [nI_clamp (by omega), nI_clamp (by omega)]
    omega
  refine t_it2 (fun i s => rg 0 8 i ∧ KD [26] [] σ s) (fun i _ => (8 - i.toInt).toNat) ?_ _ _ _ ⟨by decide, kd_r hm⟩ (ms_u0 hN _ (by decide))
  rintro self i s ⟨fi, ks⟩ ih
  unfold Pr_whyNoWeights_B2
  refine t_if (fun _ => h21 s ks) (fun h => ?_)
  have f7 := rg_ltL (lo := 0) (hi := 7) (i_nle h) fi (by decide : rg 8 8 (8 : Int32)) (by decide)
  refine t_gd (inb_rg f7 (by decide)) ?_
  refine t_lm (KD [26] [] σ) (kd_s ks (by decide) (dS26 ks.1)) (fun u eu ku => ?_)
  exact ih _ _ ⟨rg_w (lo := 0) (hi := 8) (rg_add (lo := 1) (hi := 8) f7 (by decide : rg 1 1 (1 : Int32)) (by decide)) (by decide), ku⟩ (ms_up f7 (by decide : rg 1 1 (1 : Int32)) (by decide))
abbrev wS : List Nat := [10, 17, 18, 23, 26]
theorem whyNotSo_s {N : Nat} (hN : 8589934592 ≤ N) {b e : Nat} (he : e ≤ 300) {σ : Mem} (hm : InvD σ) (hl : ln σ b e) {r3 : Int32} (f3 : rg 0 255 r3) : tot (f_Pr_whyNotSo N (gI σ 24 b) (nI (b + 1)) (nI e) r3 σ) (fun q => KD wS [] σ q.2) := by
  obtain ⟨h0, h1, h2, h3, h4⟩ := hl
  have kr : KD wS [] σ σ := kd_r hm
  unfold f_Pr_whyNotSo
  refine t_bnd ?_
  refine t_sw1 (fun _ => ?_) (fun _ => t_sw1 (fun ek => ?_) (fun _ => t_sw1 (fun ek => ?_) (fun _ => t_sw1 (fun ek => ?_) (fun _ => t_sw1 (fun ek => ?_) (fun _ => t_sw0 ?_)))))
  · exact t_ob _ (Se_isCoveringSet_t hN f3 (ev_rg hm) hm) (fun _ _ => t_if (fun _ => t_some kr) (fun _ => t_some kr))
  · -- a chain
    refine t_ob (fun _ => True) ?_ (fun r3 _ => t_some kr)
    unfold f_Pr_whyNoChain
    refine t_ob _ (countTurned_s hN (by omega) he hm (fun j q1 q2 => h1 ek j (by omega) q2)) (fun r1 _ => ?_)
    refine t_if (fun _ => ?_) (fun _ => t_some trivial)
    refine t_it1 (fun i => rg 0 8 i) (fun i => (8 - i.toInt).toNat) ?_ _ _ (by decide) (ms_u0 hN _ (by decide))
    rintro self i fi ih
    unfold Pr_whyNoChain_B14
    refine t_if (fun _ => t_some trivial) (fun h => ?_)
    have f7 := rg_ltL (lo := 0) (hi := 7) (i_nle h) fi (hm.r3 0) (by decide)
    refine t_gd (inb_rg f7 (by decide)) (t_if (fun _ => t_some trivial) (fun _ => ?_))
    exact ih _ (rg_w (lo := 0) (hi := 8) (rg_add (lo := 1) (hi := 8) f7 (by decide : rg 1 1 (1 : Int32)) (by decide)) (by decide)) (ms_up f7 (by decide : rg 1 1 (1 : Int32)) (by decide))
  · -- an order
    obtain ⟨g1, g2⟩ := h2 ek
    refine t_ob2 (fun _ s => KD [17, 18] [] σ s) ?_ (fun r5 s4 k4 => t_some (kd_t kr k4 (by decide) (by decide)))
    unfold f_Pr_whyNoBestOrder
    refine t_if (fun _ => ?_) (fun _ => t_some (kd_r hm))
    refine t_ob _ (Or_measure_t hN f3 hm) (fun s1 k1 => ?_)
    refine t_gd (inb_nI (by omega) (by decide)) (t_bnd ?_)
    rw [nadd1]
    have hq : gI s1 24 = gI σ 24 := k1.2.1 24 (by decide)
    refine t_ob _ (countTurned_s hN (by omega) he k1.1 (fun j q1 q2 => by unfold lt8; rw [hq]; exact g2 j (by omega) q2)) (fun r3' _ => ?_)
    have h64 : ∀ v, tot (Pr_whyNoBestOrder_J64 s1 v) (fun q => KD [17, 18] [] σ q.2) := by
      intro v
      unfold Pr_whyNoBestOrder_J64
      exact t_if (fun _ => t_some k1) (fun _ => t_some k1)
    have h63 : tot (Pr_whyNoBestOrder_J63 s1) (fun q => KD [17, 18] [] σ q.2) := by
      unfold Pr_whyNoBestOrder_J63
      exact h64 _
    exact t_if (fun _ => t_gd (inb_rg f3 (by decide)) (t_if (fun _ => h64 _) (fun _ => h63))) (fun _ => h63)
  · -- a step
    obtain ⟨g1, g2⟩ := h3 ek
    refine t_ob (fun _ => True) ?_ (fun r6 _ => t_if (fun _ => t_some kr) (fun _ => t_some kr))
    unfold f_Pr_isStep
    have l1 : rg 0 7 (gI σ 24 (b + 1)) := g2 (b + 1) (by omega) (by omega)
    refine t_gd (inb_nI (by omega) (by decide)) ?_
    rw [nI_clamp (by omega), nadd1]
    refine t_bnd (t_gd (inb_nI (by omega) (by decide)) (t_bnd ?_))
    refine t_if (fun _ => ?_) (fun hd => ?_)
    · refine t_ob _ (Du_isBeatingN_t l1 hm) (fun r f => t_gd (isb_rg f) (t_some trivial))
    · have e4 : e = b + 4 := by
        rcases g1 with e1 | e1
        · exfalso
          apply hd
          rw [e1]
          have : b + 3 = (b + 1) + 2 := by omega
          rw [this, ← nI_add]
          have : nI (b + 1) + nI 2 - nI (b + 1) = nI 2 := by rw [Int32.add_comm, Int32.add_sub_cancel]
          rw [this]
          rfl
        · exact e1
      have e3 : nI (b + 1) + 2 = nI (b + 3) := by rw [l2, nI_add]
      rw [e3]
      have l3 : rg 0 7 (gI σ 24 (b + 3)) := g2 (b + 3) (by omega) (by omega)
      refine t_gd (inb_nI (by omega) (by decide)) (t_bnd ?_)
      rw [nI_clamp (by omega)]
      refine t_ob _ (Du_isBeatingN_t l1 hm) (fun r4 _ => t_if (fun _ => t_some trivial) (fun _ => ?_))
      exact t_ob _ (Du_isBeatingN_t l3 hm) (fun r5 _ => t_if (fun _ => t_some trivial) (fun _ => t_some trivial))
  · -- weights
    refine t_ob2 (fun _ s => KD [26] [] σ s) (whyNoWeights_s hN (by omega) he hm (fun j q => h4 ek j q)) (fun r8 s7 k7 => t_some (kd_t kr k7 (by decide) (by decide)))
  · refine t_ob2 (fun r s => rg 0 1 r ∧ KD [23] [] σ s) (Se_isKeepingSet_t hN f3 (ev_rg hm) hm) (fun r10 s9 ⟨_, k9⟩ => ?_)
    have k9' := kd_t (S := wS) (J := []) kr k9 (by decide) (by decide)
    exact t_if (fun _ => t_some k9') (fun _ => t_some k9')
theorem LSl_k {s t : Mem} {S J : List Nat} (h : KD S J s t) (h7 : 7 ∉ S) (h24 : 24 ∉ S) (h25 : 25 ∉ S) {l : Nat} {b : Nat → Nat} (hl : LSl s l b) : LSl t l b := by
  obtain ⟨g1, g2, g3, g4, g5⟩ := hl
  exact ⟨g1, by rw [h.2.1 7 h7]; exact g2, fun i hi => by rw [h.2.1 25 h25]; exact g3 i hi, fun i hi => ln_ap (ap_k h h24 _) (Nat.le_refl _) (g4 i hi), g5⟩
theorem LSl_le {s : Mem} {l : Nat} {b : Nat → Nat} (hl : LSl s l b) {i : Nat} (hi : i ≤ l) : b i ≤ 300 := by
  have := b_mo (fun j hj => (hl.2.2.2.1 j hj).1) (i := i) (l - i) (by omega)
  have e : i + (l - i) = l := by omega
  rw [e] at this
  have := hl.2.2.2.2
  omega
theorem saysTheSame_s {N : Nat} (hN : 8589934592 ≤ N) {σ : Mem} (hm : InvD σ) {l : Nat} {b : Nat → Nat} (hl : LSl σ l b) {i k : Nat} (hi : i < l) (hk : k < l) : tot (f_Pr_saysTheSame N (nI i) (nI k) σ) (fun r => rg 0 1 r) := by
  have hl0 := hl
  obtain ⟨g1, g2, g3, g4, g5⟩ := hl
  have bi := (g4 i hi).1
  have bk := (g4 k hk).1
  have bi3 := LSl_le hl0 (i := i + 1) (by omega)
  have bk3 := LSl_le hl0 (i := k + 1) (by omega)
  unfold f_Pr_saysTheSame
  rw [nadd1, nadd1]
  refine t_gd (inb_nI (by omega) (by decide)) (t_gd (inb_nI (by omega) (by decide)) ?_)
  rw [nI_clamp (by omega), nI_clamp (by omega), g3 _ (by omega), g3 _ (by omega)]
  rw [pk_sub (by omega)]
  refine t_bnd (t_gd (inb_nI (by omega) (by decide)) (t_gd (inb_nI (by omega) (by decide)) ?_))
  rw [nI_clamp (by omega), nI_clamp (by omega), g3 _ (by omega), g3 _ (by omega), pk_sub (by omega)]
  refine t_if (fun heq => ?_) (fun _ => t_some (by decide))
  have heq : b (i + 1) - b i = b (k + 1) - b k := by
    have e1 : (nI (b (i + 1) - b i)).toInt = (nI (b (k + 1) - b k)).toInt := by rw [heq]
    rw [nI_toInt (by omega), nI_toInt (by omega)] at e1
    omega
  refine t_it1 (fun x => ∃ j, j ≤ b (i + 1) - b i ∧ x = nI j) (fun x => 301 - x.toNatClampNeg) ?_ _ _ ⟨0, by omega, rfl⟩ (by rw [n0]; omega)
  rintro self _ ⟨j, hj, rfl⟩ ih
  unfold Pr_saysTheSame_B40
  refine t_if (fun _ => t_some (by decide)) (fun h => ?_)
  have hj' : j < b (i + 1) - b i := by
    rw [nle (by omega) (by omega)] at h
    omega
  refine t_gd (inb_nI (by omega) (by decide)) ?_
  rw [nI_clamp (by omega), nI_clamp (by omega), g3 i (by omega), g3 k (by omega), nI_add, nI_add, nadd1]
  refine t_gd (inb_nI (by omega) (by decide)) (t_gd (inb_nI (by omega) (by decide)) (t_gd (inb_nI (by omega) (by decide)) ?_))
  refine t_if (fun _ => ?_) (fun _ => t_some (by decide))
  refine ih _ ⟨j + 1, by omega, rfl⟩ ?_
  rw [nI_clamp (by omega), nI_clamp (by omega)]
  omega
theorem isSaidAhead_s {N : Nat} (hN : 8589934592 ≤ N) {σ : Mem} (hm : InvD σ) {l : Nat} {b : Nat → Nat} (hl : LSl σ l b) {k : Nat} (hk : k < l) : tot (f_Pr_isSaidAhead N (nI k) σ) (fun r => rg 0 1 r) := by
  have hl1 := hl.1
  unfold f_Pr_isSaidAhead
  refine t_it1 (fun x => ∃ j, j ≤ k ∧ x = nI j) (fun x => 301 - x.toNatClampNeg) ?_ _ _ ⟨0, by omega, rfl⟩ (by rw [n0]; omega)
  rintro self _ ⟨j, hj, rfl⟩ ih
  unfold Pr_isSaidAhead_B2
  refine t_if (fun _ => t_some (by decide)) (fun h => ?_)
  have hj' : j < k := by
    rw [nle (by omega) (by omega)] at h
    omega
  refine t_ob _ (saysTheSame_s hN hm hl (by omega) hk) (fun r3 _ => t_if (fun _ => ?_) (fun _ => t_some (by decide)))
  rw [nadd1]
  refine ih _ ⟨j + 1, by omega, rfl⟩ ?_
  rw [nI_clamp (by omega), nI_clamp (by omega)]
  omega
theorem judgeLine_s {N : Nat} (hN : 8589934592 ≤ N) {σ : Mem} (hm : InvD σ) {l : Nat} {b : Nat → Nat} (hl : LSl σ l b) {k : Nat} (hk : k < l) : tot (f_Pr_judgeLine N (nI k) σ) (fun s => KD wS [] σ s) := by
  have hl0 := hl
  obtain ⟨g1, g2, g3, g4, g5⟩ := hl
  have lnk := g4 k hk
  have bk := lnk.1
  have bk3 := LSl_le hl0 (i := k + 1) (by omega)
  have kr : KD wS [] σ σ := kd_r hm
  have h88 : ∀ s, KD wS [] σ s → tot (Pr_judgeLine_J88 N (nI k) s) (fun s => KD wS [] σ s) := by
    intro s ks
    unfold Pr_judgeLine_J88
    refine t_if (fun _ => ?_) (fun _ => t_some ks)
    refine t_ob _ (isSaidAhead_s hN ks.1 (LSl_k ks (by decide) (by decide) (by decide) hl0) hk) (fun r5 _ => t_if (fun _ => t_some ks) (fun _ => ?_))
    exact t_bnd (t_some (kd_s ks (by decide) (dS10 ks.1)))
  unfold f_Pr_judgeLine
  refine t_gd (inb_nI (by omega) (by decide)) ?_
  rw [nI_clamp (by omega), g3 k (by omega), nadd1, nadd1]
  refine t_bnd (t_gd (inb_nI (by omega) (by decide)) ?_)
  rw [nI_clamp (by omega), g3 (k + 1) (by omega)]
  refine t_bnd ?_
  refine t_ob _ (Pr_lettersOf_t hN (nI_rg (by omega) (by omega)) (nI_rg (by omega) (by omega)) hm) (fun r3 _ => ?_)
  refine t_if (fun _ => t_lm (KD wS [] σ) (kd_s kr (by decide) (dS10 hm)) (fun s _ ks => h88 s ks)) (fun h3 => ?_)
  have f3 := c_ps h3 hm
  refine t_ob _ (Pr_countLetters_t hN (nI_rg (by omega) (by omega)) (nI_rg (by omega) (by omega)) hm) (fun r7 _ => ?_)
  refine t_if (fun _ => ?_) (fun _ => t_lm (KD wS [] σ) (kd_s kr (by decide) (dS10 hm)) (fun s _ ks => h88 s ks))
  rw [nsub1' (by omega)]
  refine t_gd (inb_nI (by omega) (by decide)) ?_
  rw [nI_clamp (by omega)]
  have e : b k + 1 - 1 = b k := by omega
  rw [e]
  refine t_ob2 (fun _ s => KD wS [] σ s) (whyNotSo_s hN bk3 hm lnk f3) (fun r9 s8 k8 => ?_)
  exact t_lm (KD wS [] σ) (kd_s k8 (by decide) (dS10 k8.1)) (fun s _ ks => h88 s ks)
theorem firstOf_s {σ : Mem} (hm : InvD σ) {l : Nat} {b : Nat → Nat} (hl : LSl σ l b) {k : Nat} (hk : k < l) : tot (f_Pr_firstOf (nI k) σ) (fun _ => True) := by
  have hl0 := hl
  obtain ⟨g1, g2, g3, g4, g5⟩ := hl
  have lnk := g4 k hk
  have bk := lnk.1
  have bk3 := LSl_le hl0 (i := k + 1) (by omega)
  unfold f_Pr_firstOf
  refine t_gd (inb_nI (by omega) (by decide)) ?_
  rw [nI_clamp (by omega), g3 k (by omega)]
  refine t_bnd (t_gd (inb_nI (by omega) (by decide)) ?_)
  rw [nI_clamp (by omega)]
  refine t_sw1 (fun _ => ?_) (fun _ => t_sw1 (fun ek => ?_) (fun _ => t_sw0 (t_some trivial)))
  · rw [nadd1]
    exact t_gd (inb_nI (by omega) (by decide)) (t_some trivial)
  · have := (lnk.2.2.1 ek).1
    rw [l2, nI_add]
    exact t_gd (inb_nI (by omega) (by decide)) (t_some trivial)
abbrev uS : List Nat := [8, 9, 10, 17, 18, 23, 26, 28, 29]
theorem judgeLines_s {N : Nat} (hN : 8589934592 ≤ N) {σ : Mem} (hm : InvD σ) {l : Nat} {b : Nat → Nat} (hl : LSl σ l b) : tot (f_Pr_judgeLines N σ) (fun q => KD uS [] σ q.2) := by
  have hl1 := hl.1
  unfold f_Pr_judgeLines
  refine t_lm (KD uS [] σ) (kd_s (kd_r hm) (by decide) (dS8 hm)) (fun s1 _ k1 => ?_)
  refine t_lm (KD uS [] σ) (kd_s k1 (by decide) (dS9 k1.1)) (fun s2 _ k2 => ?_)
  refine t_lm (KD uS [] σ) (kd_s k2 (by decide) (dS10 k2.1)) (fun s3 _ k3 => ?_)
  refine t_lm (KD uS [] σ) (kd_s k3 (by decide) (dS28 k3.1)) (fun s4 _ k4 => ?_)
  refine t_lm (KD uS [] σ) (kd_s k4 (by decide) (dS29 k4.1)) (fun s5 _ k5 => ?_)
  refine t_it2 (fun i s => KD uS [] σ s ∧ ∃ k, k ≤ l ∧ i = nI k) (fun i _ => 102 - i.toNatClampNeg) ?_ _ _ _ ⟨k5, 0, by omega, rfl⟩ (by rw [n0]; omega)
  rintro self _ s ⟨ks, k, hk, rfl⟩ ih
  have hs := LSl_k ks (by decide) (by decide) (by decide) hl
  unfold Pr_judgeLines_B30
  rw [hs.2.1]
  refine t_if (fun _ => t_some ks) (fun h => ?_)
  have hkl : k < l := by
    rw [nle (by omega) (by omega)] at h
    omega
  refine t_ob _ (judgeLine_s hN ks.1 hs hkl) (fun s12 k12 => ?_)
  have k12' := kd_t (S := uS) (J := []) ks k12 (by decide) (by decide)
  refine t_if (fun _ => ?_) (fun _ => ?_)
  · refine t_ob _ (firstOf_s k12.1 (LSl_k k12' (by decide) (by decide) (by decide) hl) hkl) (fun r13 _ => ?_)
    refine t_lm (KD uS [] σ) (kd_s k12' (by decide) (dS29 k12.1)) (fun s14 _ k14 => ?_)
    rw [nadd1]
    refine ih _ _ ⟨k14, k + 1, by omega, rfl⟩ ?_
    rw [nI_clamp (by omega), nI_clamp (by omega)]
    omega
  · unfold Pr_judgeLines_K50
    exact t_bnd (t_some (kd_s k12' (by decide) (dS9 k12.1)))
theorem D_judge_t {N : Nat} (hN : 8589934592 ≤ N) {σ : Mem} (hm : InvD σ) : tot (f_D_judge N σ) (fun q => KD [1, 2, 6, 7, 8, 9, 10, 17, 18, 23, 24, 25, 26, 28, 29] [] σ q.2 ∧ gI q.2 1 0 = 0) := by
  unfold f_D_judge
  refine t_if (fun _ => ?_) (fun _ => ?_)
  · rw [cut0 hm, ob2_s]
    exact t_some ⟨kd_s (kd_r hm) (by decide) (dS1 hm (by decide)), by show gI (sI σ 1 0 0) 1 0 = 0; rw [gI_sI, if_pos rfl, upd_ap, if_pos rfl]⟩
  · refine t_ob2 (fun r s => KD lS [] σ s ∧ (r = -1 → ∃ l b, LSl s l b)) (readLines_s hN hm) (fun r2 s1 ⟨k1, h1⟩ => ?_)
    rw [cut0 k1.1, ob2_s]
    have k1' := kd_t (S := [1, 2, 6, 7, 8, 9, 10, 17, 18, 23, 24, 25, 26, 28, 29]) (J := []) (kd_r hm) k1 (by decide) (by decide)
    have kc : KD [1] [] s1 (sI s1 1 0 0) := kd_s (kd_r k1.1) (by decide) (dS1 k1.1 (by decide))
    have k3 := kd_t (S := [1, 2, 6, 7, 8, 9, 10, 17, 18, 23, 24, 25, 26, 28, 29]) (J := []) k1' kc (by decide) (by decide)
    have q3 : gI (sI s1 1 0 0) 1 0 = 0 := by rw [gI_sI, if_pos rfl, upd_ap, if_pos rfl]
    refine t_if (fun h2 => ?_) (fun _ => t_some ⟨k3, q3⟩)
    obtain ⟨l, b, hl⟩ := h1 h2
    refine t_ob2 (fun _ s => KD uS [] (sI s1 1 0 0) s) (judgeLines_s hN kc.1 (LSl_k kc (by decide) (by decide) (by decide) hl)) (fun r6 s5 k5 => t_some ⟨kd_t k3 k5 (by decide) (by decide), ?_⟩)
    show gI s5 1 0 = 0
    rw [k5.2.1 1 (by decide)]
    exact q3
