/-! join, drop, undo, keep, again keep the relation -/
theorem of_tot {X : Type} {o : Option X} {q : X} {P : X → Prop} (h : tot o P) (e : o = some q) : P q := by
  obtain ⟨x, e1, hx⟩ := h
  rw [e] at e1
  cases e1
  exact hx
theorem Rl_fin {σ μ s t : Mem} (hR : Rl σ μ) (hs : InvD s) (ht : InvM t) (e1 : gI s 1 = gI σ 1) (e12 : gI s 12 = gI σ 12) (e7 : gI t 7 = gI μ 7) (e6 : gI t 6 = gI μ 6) (hN : RlN s t) (hU : RlU s t) (hK : RlK s t) : Rl s t := ⟨hs, ht, RlT_f hR.2.2.1 e1 e12 e7 e6, hN, hU, hK⟩
theorem addPlayer_v {N : Nat} (hN : 8589934592 ≤ N) {n : Nat} (hn : n < 8) {a : Int32} {σ : Mem} (h3 : gI σ 3 0 = nI n) : tot (f_Du_addPlayerN N a σ) (fun s => fr [3, 13] [] σ s ∧ gI s 3 0 = nI (n + 1) ∧ ∀ i, gI s 13 i = if i = n then a else if i < n ∧ bt a i = false then gI σ 13 i ||| ((1 : Int32) <<< (nI n &&& 31)) else gI σ 13 i) := by
  unfold f_Du_addPlayerN
  rw [h3]
  refine t_bnd ?_
  refine t_it2 (fun i s => ∃ k, k ≤ n ∧ i = nI k ∧ fr [3, 13] [] σ s ∧ gI s 3 0 = nI n ∧ ∀ i, gI s 13 i = if i < k ∧ bt a i = false then gI σ 13 i ||| ((1 : Int32) <<< (nI n &&& 31)) else gI σ 13 i) (fun i _ => n - i.toNatClampNeg) ?_ N _ _ ⟨0, by omega, rfl, fr_r _ _ _, h3, fun i => by rw [if_neg (by omega)]⟩ (by rw [n0]; omega)
  rintro self _ s ⟨k, hk, rfl, fs, s3, hs⟩ ih
  unfold Du_addPlayerN_B7
  refine t_if (fun h => ?_) (fun h => ?_)
  · have : k = n := by
      rw [nle (by omega) (by omega)] at h
      omega
    subst this
    unfold Du_addPlayerN_K38
    refine t_gd (inb_nI hn (by decide)) ?_
    rw [nI_clamp (by omega)]
    refine t_let (fun t et => ?_)
    have q3 : gI t 3 0 = nI k := by rw [et, gI_sI, if_neg (by decide)]; exact s3
    rw [q3, nadd1]
    refine t_let (fun u eu => t_some ⟨?_, ?_, fun i => ?_⟩)
    · rw [eu, et]; exact fr_t fs (fr_t (fr_sI (by decide)) (fr_sI (by decide)))
    · rw [eu, gI_sI, if_pos rfl, upd_ap, if_pos rfl]
    · rw [eu, gI_sI, if_neg (by decide), et, gI_sI, if_pos rfl, upd_ap, hs]
  · have hkn : k < n := by
      rw [nle (by omega) (by omega)] at h
      omega
    rw [bit_bt (by omega), nadd1]
    have dec : n - (nI (k + 1)).toNatClampNeg < n - (nI k).toNatClampNeg := by
      rw [nI_clamp (by omega), nI_clamp (by omega)]
      omega
    refine t_if (fun h2 => ?_) (fun h2 => ?_)
    · have hb : bt a k = false := by
        cases e : bt a k
        · rfl
        · rw [e] at h2; exact absurd h2 (by decide)
      refine t_gd (inb_nI (by omega) (by decide)) (t_gd (inb_nI (by omega) (by decide)) ?_)
      rw [nI_clamp (by omega)]
      refine t_let (fun t et => ih _ _ ⟨k + 1, by omega, rfl, by rw [et]; exact fr_t fs (fr_sI (by decide)), by rw [et, gI_sI, if_neg (by decide)]; exact s3, fun i => ?_⟩ dec)
      rw [et, gI_sI, if_pos rfl, upd_ap, hs]
      by_cases e : i = k
      · rw [if_pos e, if_neg (by omega), if_pos (by rw [e]; exact ⟨by omega, hb⟩), e]
      · rw [if_neg e, hs]
        by_cases e2 : i < k ∧ bt a i = false
        · rw [if_pos e2, if_pos ⟨by omega, e2.2⟩]
        · rw [if_neg e2, if_neg (fun q => e2 ⟨by omega, q.2⟩)]
    · have hb : bt a k = true := by
        cases e : bt a k
        · rw [e] at h2; exact absurd rfl h2
        · rfl
      refine ih _ _ ⟨k + 1, by omega, rfl, fs, s3, fun i => ?_⟩ dec
      rw [hs]
      by_cases e2 : i < k ∧ bt a i = false
      · rw [if_pos e2, if_pos ⟨by omega, e2.2⟩]
      · refine (if_neg e2).trans (if_neg (fun q => ?_)).symm
        by_cases e : i = k
        · rw [e, hb] at q; exact absurd q.2 (by decide)
        · exact e2 ⟨by omega, q.2⟩
theorem joinM_v {N : Nat} (hN : 8589934592 ≤ N) {n : Nat} (hn : n < 8) {a : Int32} {μ : Mem} (h1 : gI μ 1 0 = nI n) : tot (it2 (M_join_B55 a (nI n)) N (0 : Int32) μ) (fun q => q.1 = nI (n + 1) ∧ fr [1] [] μ q.2 ∧ gI q.2 1 0 = nI (n + 1) ∧ ∀ i, gI q.2 1 (1 + i) = if i = n then a else if i < n ∧ bt a i = false then gI μ 1 (1 + i) ||| ((1 : Int32) <<< (nI n &&& 31)) else gI μ 1 (1 + i)) := by
  refine t_it2 (fun i s => ∃ k, k ≤ n ∧ i = nI k ∧ fr [1] [] μ s ∧ gI s 1 0 = nI n ∧ ∀ i, gI s 1 (1 + i) = if i < k ∧ bt a i = false then gI μ 1 (1 + i) ||| ((1 : Int32) <<< (nI n &&& 31)) else gI μ 1 (1 + i)) (fun i _ => n - i.toNatClampNeg) ?_ N _ _ ⟨0, by omega, rfl, fr_r _ _ _, h1, fun i => by rw [if_neg (by omega)]⟩ (by rw [n0]; omega)
  rintro self _ s ⟨k, hk, rfl, fs, s1, hs⟩ ih
  unfold M_join_B55
  refine t_if (fun h => ?_) (fun h => ?_)
  · have : k = n := by
      rw [nle (by omega) (by omega)] at h
      omega
    subst this
    unfold M_join_K92
    rw [n1add]
    refine t_gd (inb_nI (by omega) (by decide)) ?_
    rw [nI_clamp (by omega)]
    refine t_let (fun t et => ?_)
    have q1 : gI t 1 0 = nI k := by rw [et, gI_sI, if_pos rfl, upd_ap, if_neg (by omega)]; exact s1
    rw [n0, q1, nadd1]
    refine t_let (fun u eu => t_some ⟨rfl, ?_, ?_, fun i => ?_⟩)
    · rw [eu, et]; exact fr_t fs (fr_t (fr_sI (by decide)) (fr_sI (by decide)))
    · show gI u 1 0 = _
      rw [eu, gI_sI, if_pos rfl, upd_ap, if_pos rfl]
    · show gI u 1 (1 + i) = _
      rw [eu, gI_sI, if_pos rfl, upd_ap, if_neg (by omega), et, gI_sI, if_pos rfl, upd_ap, hs]
      by_cases e : i = k
      · rw [if_pos (by omega), if_pos e]
      · rw [if_neg (by omega), if_neg e]
  · have hkn : k < n := by
      rw [nle (by omega) (by omega)] at h
      omega
    rw [n1add, has_bt (by omega)]
    have dec : n - (nI (k + 1)).toNatClampNeg < n - (nI k).toNatClampNeg := by
      rw [nI_clamp (by omega), nI_clamp (by omega)]
      omega
    refine t_gd (inb_nI (by omega) (by decide)) ?_
    have hJ : ∀ v, tot (M_join_J84 s (nI k) self v) (fun q => q.1 = nI (n + 1) ∧ fr [1] [] μ q.2 ∧ gI q.2 1 0 = nI (n + 1) ∧ ∀ i, gI q.2 1 (1 + i) = if i = n then a else if i < n ∧ bt a i = false then gI μ 1 (1 + i) ||| ((1 : Int32) <<< (nI n &&& 31)) else gI μ 1 (1 + i)) ∨ ¬ (v = if bt a k then 0 else (1 : Int32) <<< (nI n &&& 31)) := by
      intro v
      by_cases hv : v = if bt a k then 0 else (1 : Int32) <<< (nI n &&& 31)
      · left
        unfold M_join_J84
        rw [n1add, nadd1]
        refine t_gd (inb_nI (by omega) (by decide)) ?_
        rw [nI_clamp (by omega)]
        refine t_let (fun t et => ih _ _ ⟨k + 1, by omega, rfl, by rw [et]; exact fr_t fs (fr_sI (by decide)), by rw [et, gI_sI, if_pos rfl, upd_ap, if_neg (by omega)]; exact s1, fun i => ?_⟩ dec)
        rw [et, gI_sI, if_pos rfl, upd_ap, hs]
        by_cases e : i = k
        · rw [if_pos (by omega), if_neg (by omega), e, hv]
          cases hb : bt a k
          · rw [if_pos (show k < k + 1 ∧ false = false from ⟨by omega, rfl⟩), if_neg (by decide)]
          · rw [if_neg (show ¬ (k < k + 1 ∧ true = false) from fun q => absurd q.2 (by decide)), if_pos rfl]
            exact Int32.or_zero
        · rw [if_neg (by omega), hs]
          by_cases e2 : i < k ∧ bt a i = false
          · rw [if_pos e2, if_pos ⟨by omega, e2.2⟩]
          · rw [if_neg e2, if_neg (fun q => e2 ⟨by omega, q.2⟩)]
      · right; exact hv
    cases hb : bt a k
    · rw [if_pos (by decide)]
      rcases hJ ((1 : Int32) <<< (nI n &&& 31)) with h | h
      · exact h
      · rw [hb] at h; exact absurd rfl h
    · rw [if_neg (by decide)]
      rcases hJ 0 with h | h
      · exact h
      · rw [hb] at h; exact absurd rfl h
theorem join_T {n : Nat} {f g : Nat → Int32} {a : Int32} (hT : Tn n f) (hn : n < 8) (ha : sub n a) (h : ∀ i, i < 8 → g i = if i = n then a else if i < n ∧ bt a i = false then f i ||| ((1 : Int32) <<< (nI n &&& 31)) else f i) : Tn (n + 1) g := by
  have gb : ∀ i j, i < 8 → j < 32 → bt (g i) j = if i = n then bt a j else (bt (f i) j || decide (j = n ∧ i < n ∧ bt a i = false)) := by
    intro i j hi hj
    rw [h i hi]
    by_cases e1 : i = n
    · rw [if_pos e1, if_pos e1]
    · rw [if_neg e1, if_neg e1]
      by_cases e2 : i < n ∧ bt a i = false
      · rw [if_pos e2, bt_or, bt_one (by omega) hj]
        congr 1
        by_cases e3 : j = n
        · rw [decide_eq_true e3, decide_eq_true ⟨e3, e2⟩]
        · rw [decide_eq_false e3, decide_eq_false (fun q => e3 q.1)]
      · rw [if_neg e2, decide_eq_false (fun q => e2 q.2), Bool.or_false]
  refine ⟨by omega, fun i j hi hb => ?_, fun i j hi hj hij => ?_⟩
  · by_cases hj : j < 32
    · rw [gb i j hi hj] at hb
      by_cases e1 : i = n
      · rw [if_pos e1] at hb
        have := ha j hj hb
        omega
      · rw [if_neg e1] at hb
        rcases Bool.or_eq_true_iff.mp hb with q | q
        · have := hT.2.1 i j hi q
          omega
        · have := of_decide_eq_true q
          omega
    · rw [bt_ge (by omega)] at hb; cases hb
  · rw [gb i j (by omega) (by omega), gb j i (by omega) (by omega)]
    by_cases e1 : i = n
    · rw [if_pos e1, if_neg (by omega)]
      have f0 : bt (f j) i = false := Tn_bt hT (by omega) (by omega)
      rw [f0, Bool.false_or]
      cases e : bt a j
      · rw [decide_eq_true ⟨e1, by omega, rfl⟩]; rfl
      · rw [decide_eq_false (fun q => absurd q.2.2 (by decide))]; rfl
    · rw [if_neg e1]
      by_cases e2 : j = n
      · rw [if_pos e2]
        have f0 : bt (f i) j = false := Tn_bt hT (by omega) (by omega)
        rw [f0, Bool.false_or]
        cases e : bt a i
        · rw [decide_eq_true ⟨e2, by omega, rfl⟩]; rfl
        · rw [decide_eq_false (fun q => absurd q.2.2 (by decide))]; rfl
      · rw [if_neg e2, decide_eq_false (fun q => e2 q.1), decide_eq_false (fun q => e1 q.1), Bool.or_false, Bool.or_false]
        exact hT.2.2 i j (by omega) (by omega) hij
theorem eq_nI {n k : Nat} (hn : n ≤ 8) (hk : k ≤ 8) : (nI n = nI k) ↔ n = k := ⟨fun h => nI_inj (by omega) (by omega) h, fun h => by rw [h]⟩
theorem st_Rl_join_c {N : Nat} (hN : 8589934592 ≤ N) {σ μ : Mem} (hR : Rl σ μ) (a : Int32) : ∃ q q2 : Int32 × Mem, f_D_join N a σ = some (q.1, q.2) ∧ f_M_join N a μ = some (q2.1, q2.2) ∧ Rl q.2 q2.2 ∧ q.1 = q2.1 := by
  obtain ⟨s1, es1⟩ : ∃ s, s = sI μ 0 0 0 := ⟨_, rfl⟩
  obtain ⟨hR1, k0⟩ := Rl_m0 hR es1
  obtain ⟨n, h8, h3, h1, h13, hT⟩ := Rl_n hR1
  have pD := ps_D h8 h3 a
  have pM := wi_M h8 h1 a
  by_cases hs : sub n a
  · have a0 : ¬ a < 0 := fun q => by
      have := (sub_nn h8 hs).1
      rw [i_lt] at q
      have z : (0 : Int32).toInt = 0 := by decide
      omega
    have d1 : ¬ t_Du_arePlayersN a σ = 0 := fun q => pD.mp q hs
    have m1 : ¬ t_M_isWithin a (t_M_all s1) = 0 := fun q => pM.mp q hs
    by_cases hn0 : n = 0
    · have d2 : gI σ 3 0 = 0 := by rw [h3, hn0]; rfl
      have m2 : t_M_isRound s1 = 0 := (ro_M h8 h1).mpr hn0
      refine ⟨(-2, σ), (-2, s1), ?_, ?_, hR1, rfl⟩
      · unfold f_D_join; rw [if_neg d1, if_pos d2]
      · unfold f_M_join; rw [bnd_e, ← es1, if_neg a0, if_neg m1, if_pos m2]
    · have d2 : ¬ gI σ 3 0 = 0 := fun q => hn0 ((eq0_iff h8).mp (by rw [← h3]; exact q))
      have m2 : ¬ t_M_isRound s1 = 0 := fun q => hn0 ((ro_M h8 h1).mp q)
      by_cases hn8 : n = 8
      · have d3 : ¬ gI σ 3 0 < 8 := fun q => by rw [h3, l8, nlt (by omega) (by decide)] at q; omega
        have m3 : t_M_many s1 = 8 := by rw [many_e h1, hn8]; rfl
        refine ⟨(-3, σ), (-3, s1), ?_, ?_, hR1, rfl⟩
        · unfold f_D_join; rw [if_neg d1, if_neg d2, if_neg d3]
        · unfold f_M_join; rw [bnd_e, ← es1, if_neg a0, if_neg m1, if_neg m2, if_pos m3]
      · have d3 : gI σ 3 0 < 8 := by rw [h3, l8, nlt (by omega) (by decide)]; omega
        have m3 : ¬ t_M_many s1 = 8 := fun q => hn8 (nI_inj (by omega) (by omega) (by rw [← many_e h1, q]; rfl))
        obtain ⟨v, s2, t2, e1, e2, e3, k2, w2, hU⟩ := rem_both hN hR1 h8 h3
        have z3 : gI s2 3 0 = nI n := by rw [k2.2.1 3 (by decide)]; exact h3
        have z1 : gI t2 1 0 = nI n := by rw [w2.2.1 1 (by decide)]; exact h1
        obtain ⟨s3, e4, f3, w3, r3⟩ := addPlayer_v hN (a := a) (by omega) z3
        obtain ⟨q2, e5, a2, f4, w4, r4⟩ := joinM_v hN (a := a) (by omega) z1
        have eD : f_D_join N a σ = some (nI (n + 1), s3) := by
          unfold f_D_join
          rw [if_neg d1, if_neg d2, if_pos d3, e1, ob_s, e2, ob_s, e4, ob_s, w3]
        have eM : f_M_join N a μ = some q2 := by
          unfold f_M_join
          rw [bnd_e, ← es1, if_neg a0, if_neg m1, if_neg m2, if_neg m3, e3, ob_s, many_e z1, bnd_e, e5]
        have iD := of_tot (D_join_t hN hR.1) eD
        have iM := of_tot (M_join_t hN hR.2.1) eM
        refine ⟨(nI (n + 1), s3), q2, eD, eM, ?_, a2.symm⟩
        refine Rl_fin hR1 iD.2.1 iM.1 ?_ ?_ ?_ ?_ ⟨?_, fun i hi => ?_, n + 1, w3, ?_⟩ ?_ ?_
        · show gI s3 1 = _; rw [f3.1 1 (by decide), k2.2.1 1 (by decide)]
        · show gI s3 12 = _; rw [f3.1 12 (by decide), k2.2.1 12 (by decide)]
        · rw [f4.1 7 (by decide), w2.2.1 7 (by decide)]
        · rw [f4.1 6 (by decide), w2.2.1 6 (by decide)]
        · show gI s3 3 0 = _; rw [w3, w4]
        · show _ = gI s3 13 i
          rw [r4, r3, w2.2.1 1 (by decide), k2.2.1 13 (by decide), h13 i hi]
        · refine join_T hT (by omega) hs (fun i hi => ?_)
          show gI s3 13 i = _
          rw [r3, k2.2.1 13 (by decide)]
        · exact RlU_f hU (f3.1 5 (by decide)) (f3.2 15 (by decide)) (f4.1 3 (by decide)) (f4.1 2 (by decide))
        · refine RlK_f hR1.2.2.2.2.2 ?_ ?_ ?_
          · show gJ s3 16 = _; rw [f3.2 16 (by decide), k2.2.2 16 (by decide)]
          · rw [f4.1 5 (by decide), w2.2.1 5 (by decide)]
          · rw [f4.1 4 (by decide), w2.2.1 4 (by decide)]
  · have d1 : t_Du_arePlayersN a σ = 0 := pD.mpr hs
    have m1 : t_M_isWithin a (t_M_all s1) = 0 := pM.mpr hs
    refine ⟨(-1, σ), (-1, s1), ?_, ?_, hR1, rfl⟩
    · unfold f_D_join; rw [if_pos d1]
    · unfold f_M_join
      rw [bnd_e, ← es1]
      by_cases a0 : a < 0
      · rw [if_pos a0]
      · rw [if_neg a0, if_pos m1]
