/-! drop, undo, keep, again keep the relation -/
theorem cut_e {x : Int32} {a : Nat} (hx : rg 0 255 x) (ha : a < 8) : ((x &&& (((1 : Int32) <<< (nI a &&& 31)) - 1)) ||| ((x >>> ((1 : Int32) &&& 31)) &&& ((((1 : Int32) <<< (nI a &&& 31)) - 1) ^^^ (-1 : Int32)))) = t_M_without x (nI a) := by
  apply bt_ext
  intro j hj
  rw [bt_wo hx ha hj, bt_or, bt_and, bt_and, bt_not _ hj, bt_mask (by omega) hj]
  by_cases h : j < a
  · rw [if_pos h, decide_eq_true h]
    simp
  · rw [if_neg h, decide_eq_false h]
    have e1 : ((1 : Int32) &&& 31) = (nI 1 &&& 31) := rfl
    by_cases h2 : j + 1 < 32
    · rw [e1, bt_shr (by decide) h2]
      simp
    · have h5 : rg 0 255 (x >>> ((1 : Int32) &&& 31)) := rg_shr _ hx (by decide)
      rw [bt_hi h5 8 (by decide) (by omega), bt_ge (j := j + 1) (by omega)]
      simp
theorem remove_v {N : Nat} (hN : 8589934592 ≤ N) {a n : Nat} (ha : a < n) (hn : n ≤ 8) {σ : Mem} (hm : InvD σ) (h3 : gI σ 3 0 = nI n) : tot (f_Du_removePlayerN N (nI a) σ) (fun s => fr [3, 13] [] σ s ∧ gI s 3 0 = nI (n - 1) ∧ ∀ i, gI s 13 i = if i < n - 1 then t_M_without (if i < a then gI σ 13 i else gI σ 13 (i + 1)) (nI a) else if i = n - 1 then 0 else gI σ 13 i) := by
  unfold f_Du_removePlayerN
  refine t_it2 (fun i s => ∃ k, a ≤ k ∧ k ≤ n - 1 ∧ i = nI k ∧ fr [3, 13] [] σ s ∧ gI s 3 0 = nI n ∧ ∀ i, gI s 13 i = if a ≤ i ∧ i < k then gI σ 13 (i + 1) else gI σ 13 i) (fun i _ => n - i.toNatClampNeg) ?_ N _ _ ⟨a, by omega, by omega, rfl, fr_r _ _ _, h3, fun i => by rw [if_neg (by omega)]⟩ (by rw [nI_clamp (by omega)]; omega)
  rintro self _ s ⟨k, hk1, hk2, rfl, fs, s3, hs⟩ ih
  unfold Du_removePlayerN_B2
  rw [s3, nsub1' (by omega)]
  refine t_if (fun h => ?_) (fun h => ?_)
  · have hk : k = n - 1 := by
      rw [nle (by omega) (by omega)] at h
      omega
    unfold Du_removePlayerN_K32
    rw [s3, nsub1' (by omega)]
    refine t_let (fun s2 e2 => ?_)
    have q3 : gI s2 3 0 = nI (n - 1) := by rw [e2, gI_sI, if_pos rfl, upd_ap, if_pos rfl]
    rw [q3]
    refine t_gd (inb_nI (by omega) (by decide)) ?_
    rw [nI_clamp (by omega)]
    refine t_let (fun s5 e5 => t_bnd ?_)
    have f5 : fr [3, 13] [] σ s5 := by rw [e5, e2]; exact fr_t fs (fr_t (fr_sI (by decide)) (fr_sI (by decide)))
    have w3 : gI s5 3 0 = nI (n - 1) := by rw [e5, gI_sI, if_neg (by decide)]; exact q3
    have q5 : ∀ i, gI s5 13 i = if i = n - 1 then 0 else if a ≤ i ∧ i < n - 1 then gI σ 13 (i + 1) else gI σ 13 i := fun i => by
      rw [e5, gI_sI, if_pos rfl, upd_ap, e2, gI_sI, if_neg (show ¬ (13 = 3) by decide), hs, hk]
    have r5 : ∀ i, rg 0 255 (gI s5 13 i) := fun i => by
      rw [q5]
      split
      · decide
      · split <;> exact hm.r13 _
    refine t_it2 (fun i s => ∃ k, k ≤ n - 1 ∧ i = nI k ∧ fr [3, 13] [] σ s ∧ gI s 3 0 = nI (n - 1) ∧ ∀ i, gI s 13 i = if i < k then t_M_without (gI s5 13 i) (nI a) else gI s5 13 i) (fun i _ => n - i.toNatClampNeg) ?_ N _ _ ⟨0, by omega, rfl, f5, w3, fun i => by rw [if_neg (by omega)]⟩ (by rw [n0]; omega)
    rintro self2 _ t ⟨j, hj, rfl, ft, t3, ht⟩ ih2
    unfold Du_removePlayerN_B60
    rw [t3]
    refine t_if (fun h2 => ?_) (fun h2 => ?_)
    · have hj2 : j = n - 1 := by
        rw [nle (by omega) (by omega)] at h2
        omega
      refine t_some ⟨ft, t3, fun i => ?_⟩
      rw [ht, hj2]
      by_cases hin : i < n - 1
      · rw [if_pos hin, if_pos hin, q5, if_neg (by omega)]
        by_cases hia : i < a
        · rw [if_neg (by omega), if_pos hia]
        · rw [if_pos (by omega), if_neg hia]
      · rw [if_neg hin, if_neg hin, q5]
        by_cases he : i = n - 1
        · rw [if_pos he, if_pos he]
        · rw [if_neg he, if_neg he, if_neg (by omega)]
    · have hjn : j < n - 1 := by
        rw [nle (by omega) (by omega)] at h2
        omega
      have g : inb (nI j) 8 = true := inb_nI (by omega) (by decide)
      refine t_gd g (t_gd g (t_gd g ?_))
      rw [nI_clamp (by omega), nadd1, cut_e (by rw [ht, if_neg (by omega)]; exact r5 j) (by omega)]
      refine t_let (fun u eu => ih2 _ _ ⟨j + 1, by omega, rfl, by rw [eu]; exact fr_t ft (fr_sI (by decide)), by rw [eu, gI_sI, if_neg (by decide)]; exact t3, fun i => ?_⟩ ?_)
      · rw [eu, gI_sI, if_pos rfl, upd_ap]
        by_cases hij : i = j
        · rw [if_pos hij, if_pos (by omega), ht, if_neg (by omega), hij]
        · rw [if_neg hij, ht]
          by_cases h4 : i < j
          · rw [if_pos h4, if_pos (by omega)]
          · rw [if_neg h4, if_neg (by omega)]
      · rw [nI_clamp (by omega), nI_clamp (by omega)]
        omega
  · have hkn : k < n - 1 := by
      rw [nle (by omega) (by omega)] at h
      omega
    rw [nadd1]
    refine t_gd (inb_nI (by omega) (by decide)) (t_gd (inb_nI (by omega) (by decide)) ?_)
    rw [nI_clamp (by omega), nI_clamp (by omega)]
    refine t_let (fun u eu => ih _ _ ⟨k + 1, by omega, by omega, rfl, by rw [eu]; exact fr_t fs (fr_sI (by decide)), by rw [eu, gI_sI, if_neg (by decide)]; exact s3, fun i => ?_⟩ ?_)
    · rw [eu, gI_sI, if_pos rfl, upd_ap]
      by_cases hij : i = k
      · rw [if_pos hij, if_pos (by omega), hs, if_neg (by omega), hij]
      · rw [if_neg hij, hs]
        by_cases h4 : a ≤ i ∧ i < k
        · rw [if_pos h4, if_pos (by omega)]
        · rw [if_neg h4, if_neg (by omega)]
    · rw [nI_clamp (by omega), nI_clamp (by omega)]
      omega
theorem drop_T {a n : Nat} (ha : a < n) {f g : Nat → Int32} (hT : Tn n f) (hr : ∀ i, i < 8 → rg 0 255 (f i)) (h : ∀ i, i < 8 → g i = if i < n - 1 then t_M_without (if i < a then f i else f (i + 1)) (nI a) else if i = n - 1 then 0 else f i) : Tn (n - 1) g := by
  have h8 := hT.1
  -- a player's elder place
  have gb : ∀ i j, i < n - 1 → j < 32 → bt (g i) j = bt (f (if i < a then i else i + 1)) (if j < a then j else j + 1) := by
    intro i j hi hj
    rw [h i (by omega), if_pos hi]
    by_cases e1 : i < a
    · rw [if_pos e1, if_pos e1, bt_wo (hr _ (by omega)) (by omega) hj]
      by_cases e2 : j < a
      · rw [if_pos e2, if_pos e2]
      · rw [if_neg e2, if_neg e2]
    · rw [if_neg e1, if_neg e1, bt_wo (hr _ (by omega)) (by omega) hj]
      by_cases e2 : j < a
      · rw [if_pos e2, if_pos e2]
      · rw [if_neg e2, if_neg e2]
  refine ⟨by omega, fun i j hi hb => ?_, fun i j hi hj hij => ?_⟩
  · by_cases hj : j < 32
    · by_cases hin : i < n - 1
      · rw [gb i j hin hj] at hb
        have := hT.2.1 _ _ (by split <;> omega) hb
        refine ⟨hin, ?_, fun e => this.2.2 (by rw [e])⟩
        have h2 := this.2.1
        split at h2 <;> omega
      · rw [h i hi, if_neg hin] at hb
        by_cases he : i = n - 1
        · rw [if_pos he, bt_0] at hb; cases hb
        · rw [if_neg he] at hb
          have := hT.2.1 i j hi hb
          omega
    · rw [bt_ge (by omega)] at hb; cases hb
  · rw [gb i j hi (by omega), gb j i hj (by omega)]
    refine hT.2.2 _ _ (by split <;> omega) (by split <;> omega) (fun e => hij ?_)
    split at e <;> split at e <;> omega
theorem st_Rl_drop_c {N : Nat} (hN : 8589934592 ≤ N) {σ μ : Mem} (hR : Rl σ μ) (a : Int32) : ∃ q q2 : Int32 × Mem, f_D_drop N a σ = some (q.1, q.2) ∧ f_M_drop N a μ = some (q2.1, q2.2) ∧ Rl q.2 q2.2 ∧ q.1 = q2.1 := by
  obtain ⟨s1, es1⟩ : ∃ s, s = sI μ 0 0 0 := ⟨_, rfl⟩
  obtain ⟨hR1, k0⟩ := Rl_m0 hR es1
  obtain ⟨n, h8, h3, h1, h13, hT⟩ := Rl_n hR1
  rcases pl_b h8 h3 h1 a with ⟨p1, p2⟩ | ⟨p1, p2, x, hx, rfl⟩
  · refine ⟨(-2, σ), (-2, s1), ?_, ?_, hR1, rfl⟩
    · unfold f_D_drop; rw [if_pos p1]
    · unfold f_M_drop; rw [bnd_e, ← es1, if_pos p2]
  · have d1 : ¬ t_Du_isPlayerN (nI x) σ = 0 := by rw [p1]; decide
    have m1 : ¬ t_M_isPlayer (nI x) s1 = 0 := by rw [p2]; decide
    by_cases hn1 : n = 1
    · have d2 : gI σ 3 0 = 1 := by rw [h3, hn1]; rfl
      have m2 : t_M_many s1 = 1 := by rw [many_e h1, hn1]; rfl
      refine ⟨(-3, σ), (-3, s1), ?_, ?_, hR1, rfl⟩
      · unfold f_D_drop; rw [if_neg d1, if_pos d2]
      · unfold f_M_drop; rw [bnd_e, ← es1, if_neg m1, if_pos m2]
    · have d2 : ¬ gI σ 3 0 = 1 := fun q => hn1 (nI_inj (by omega) (by omega) (by rw [← h3, q]; rfl))
      have m2 : ¬ t_M_many s1 = 1 := fun q => hn1 (nI_inj (by omega) (by omega) (by rw [← many_e h1, q]; rfl))
      obtain ⟨v, s2, t2, e1, e2, e3, k2, w2, hU⟩ := rem_both hN hR1 h8 h3
      have z3 : gI s2 3 0 = nI n := by rw [k2.2.1 3 (by decide)]; exact h3
      have z1 : gI t2 1 0 = nI n := by rw [w2.2.1 1 (by decide)]; exact h1
      obtain ⟨s3, e4, f3, w3, r3⟩ := remove_v hN hx h8 k2.1 z3
      obtain ⟨q2, e5, a2, f4, r4⟩ := M_drop_s hN hx h8 (by omega) w2.1 z1
      have eD : f_D_drop N (nI x) σ = some (nI (n - 1), s3) := by
        unfold f_D_drop
        rw [if_neg d1, if_neg d2, e1, ob_s, e2, ob_s, e4, ob_s, w3]
      have eM : f_M_drop N (nI x) μ = some q2 := by
        unfold f_M_drop
        rw [bnd_e, ← es1, if_neg m1, if_neg m2, e3, ob_s, many_e z1, nsub1' (by omega), bnd_e, e5]
      have iD := of_tot (D_drop_t hN hR.1) eD
      have iM := of_tot (M_drop_t hN hR.2.1) eM
      refine ⟨(nI (n - 1), s3), q2, eD, eM, ?_, a2.symm⟩
      have w4 : gI q2.2 1 0 = nI (n - 1) := by rw [r4, if_pos rfl]
      refine Rl_fin hR1 iD.2.1 iM.1 ?_ ?_ ?_ ?_ ⟨?_, fun i hi => ?_, n - 1, w3, ?_⟩ ?_ ?_
      · show gI s3 1 = _; rw [f3.1 1 (by decide), k2.2.1 1 (by decide)]
      · show gI s3 12 = _; rw [f3.1 12 (by decide), k2.2.1 12 (by decide)]
      · rw [f4.1 7 (by decide), w2.2.1 7 (by decide)]
      · rw [f4.1 6 (by decide), w2.2.1 6 (by decide)]
      · show gI s3 3 0 = _; rw [w3, w4]
      · show _ = gI s3 13 i
        rw [r4, r3, w2.2.1 1 (by decide), k2.2.1 13 (by decide), if_neg (by omega)]
        by_cases c1 : i < n - 1
        · rw [if_pos (by omega), if_pos c1]
          by_cases c2 : i < x
          · rw [if_pos (by omega), if_pos c2, h13 i hi]
          · have : 1 + i + 1 = 1 + (i + 1) := by omega
            rw [if_neg (by omega), if_neg c2, this, h13 (i + 1) (by omega)]
        · rw [if_neg (by omega), if_neg c1]
          by_cases c2 : i = n - 1
          · rw [if_pos (by omega), if_pos c2]
          · rw [if_neg (by omega), if_neg c2, h13 i hi]
      · refine drop_T hx hT (fun i _ => hR.1.r13 i) (fun i hi => ?_)
        show gI s3 13 i = _
        rw [r3, k2.2.1 13 (by decide)]
      · exact RlU_f hU (f3.1 5 (by decide)) (f3.2 15 (by decide)) (f4.1 3 (by decide)) (f4.1 2 (by decide))
      · refine RlK_f hR1.2.2.2.2.2 ?_ ?_ ?_
        · show gJ s3 16 = _; rw [f3.2 16 (by decide), k2.2.2 16 (by decide)]
        · rw [f4.1 5 (by decide), w2.2.1 5 (by decide)]
        · rw [f4.1 4 (by decide), w2.2.1 4 (by decide)]
theorem undoM_v {N : Nat} (hN : 8589934592 ≤ N) {w : Nat} (hw : w < 10) {μ : Mem} (h3 : gI μ 3 0 = nI w) : tot (it2 (M_undo_B37) N (0 : Int32) μ) (fun q => q.1 = nI w ∧ fr [1] [] μ q.2 ∧ ∀ c, c < 9 → gI q.2 1 c = gI μ 2 (9 * w + c)) := by
  refine t_it2 (fun i s => ∃ k, k ≤ 9 ∧ i = nI k ∧ fr [1] [] μ s ∧ ∀ c, c < k → gI s 1 c = gI μ 2 (9 * w + c)) (fun i _ => 9 - i.toNatClampNeg) ?_ _ _ _ ⟨0, by decide, rfl, fr_r _ _ _, fun c hc => by omega⟩ (by rw [n0]; omega)
  rintro self _ t ⟨k, hk, rfl, ft, ht⟩ ih
  have t3 : gI t 3 0 = nI w := by rw [ft.1 3 (by decide)]; exact h3
  unfold M_undo_B37
  refine t_if (fun h => ?_) (fun h => ?_)
  · have : k = 9 := by
      rw [l9, nle (by decide) (by omega)] at h
      omega
    subst this
    exact t_some ⟨t3, ft, ht⟩
  · have hk9 : k < 9 := by
      rw [l9, nle (by decide) (by omega)] at h
      omega
    rw [t3, l9m, nI_add]
    refine t_gd (inb_nI (by omega) (by decide)) (t_gd (inb_nI (by omega) (by decide)) ?_)
    rw [nI_clamp (by omega), nI_clamp (by omega), nadd1]
    refine t_let (fun v ev => ih _ _ ⟨k + 1, by omega, rfl, by rw [ev]; exact fr_t ft (fr_sI (by decide)), fun c hc => ?_⟩ ?_)
    · rw [ev, gI_sI, if_pos rfl, upd_ap]
      by_cases e : c = k
      · rw [if_pos e, e, ft.1 2 (by decide)]
      · rw [if_neg e]; exact ht c (by omega)
    · rw [nI_clamp (by omega), nI_clamp (by omega)]
      omega
/-- the row that lies in g at b has become the round of both -/
theorem RlN_rw {g : Nat → Int32} {b : Nat} {s t : Mem} {m : Nat} (h1 : g b = nI m) (hT : Tn m (fun a => g (b + 1 + a))) (s3 : gI s 3 0 = nI m) (s13 : ∀ a, a < 8 → gI s 13 a = g (b + 1 + a)) (ht : ∀ c, c < 9 → gI t 1 c = g (b + c)) : RlN s t := by
  refine ⟨?_, fun a ha => ?_, m, s3, Tn_c (fun a ha => (s13 a ha).symm) hT⟩
  · rw [s3, ht 0 (by decide), Nat.add_zero, h1]
  · rw [ht (1 + a) (by omega), s13 a ha, ← Nat.add_assoc]
theorem st_Rl_undo_c {N : Nat} (hN : 8589934592 ≤ N) {σ μ : Mem} (hR : Rl σ μ) : ∃ q q2 : Int32 × Mem, f_D_undo N σ = some (q.1, q.2) ∧ f_M_undo N μ = some (q2.1, q2.2) ∧ Rl q.2 q2.2 ∧ q.1 = q2.1 := by
  obtain ⟨s1, es1⟩ : ∃ s, s = sI μ 0 0 0 := ⟨_, rfl⟩
  obtain ⟨hR1, k0⟩ := Rl_m0 hR es1
  obtain ⟨n, h8, h3, h1, h13, hT⟩ := Rl_n hR1
  obtain ⟨u, hu, u5, u3, urow⟩ := hR1.2.2.2.2.1
  by_cases hn0 : n = 0
  · have d2 : gI σ 3 0 = 0 := by rw [h3, hn0]; rfl
    have m2 : t_M_isRound s1 = 0 := (ro_M h8 h1).mpr hn0
    refine ⟨(-2, σ), (-2, s1), ?_, ?_, hR1, rfl⟩
    · unfold f_D_undo; rw [if_pos d2]
    · unfold f_M_undo; rw [bnd_e, ← es1, if_pos m2]
  · have d2 : ¬ gI σ 3 0 = 0 := fun q => hn0 ((eq0_iff h8).mp (by rw [← h3]; exact q))
    have m2 : ¬ t_M_isRound s1 = 0 := fun q => hn0 ((ro_M h8 h1).mp q)
    by_cases hu0 : u = 0
    · have d3 : gI σ 5 0 = 0 := by rw [u5, hu0]; rfl
      have m3 : gI s1 3 0 = 0 := by rw [u3, hu0]; rfl
      refine ⟨(-3, σ), (-3, s1), ?_, ?_, hR1, rfl⟩
      · unfold f_D_undo; rw [if_neg d2, if_pos d3]
      · unfold f_M_undo; rw [bnd_e, ← es1, if_neg m2, if_pos m3]
    · have d3 : ¬ gI σ 5 0 = 0 := fun q => hu0 (nI_inj (by omega) (by omega) (by rw [← u5, q]; rfl))
      have m3 : ¬ gI s1 3 0 = 0 := fun q => hu0 (nI_inj (by omega) (by omega) (by rw [← u3, q]; rfl))
      obtain ⟨m, r1, r2, r3⟩ := urow (u - 1) (by omega)
      -- the tested one
      obtain ⟨s2, es2⟩ : ∃ s, s = sI σ 5 0 (nI (u - 1)) := ⟨_, rfl⟩
      have q5 : gI s2 5 0 = nI (u - 1) := by rw [es2, gI_sI, if_pos rfl, upd_ap, if_pos rfl]
      have et : f_Pa_takeLatest σ = some (gJ s2 15 (u - 1), s2) := by
        unfold f_Pa_takeLatest
        rw [u5, nsub1' (by omega), bnd_e, ← es2, q5, gd_t (inb_nI (by omega) (by decide)), nI_clamp (by omega)]
      have q15 : gJ s2 15 (u - 1) = pk m (fun a => gI s1 2 (9 * (u - 1) + 1 + a)) := by
        rw [es2, gJ_sI]; exact r3
      obtain ⟨s3, e4, f3, w3, w13⟩ := unpackN_s hN r2 s2
      have x5 : gI s3 5 0 = nI (u - 1) := by rw [f3.1 5 (by decide)]; exact q5
      have eD : f_D_undo N σ = some (nI (u - 1), s3) := by
        unfold f_D_undo
        rw [if_neg d2, if_neg d3, et, ob2_s, q15, e4, ob_s, x5]
      -- the reference
      obtain ⟨t2, et2⟩ : ∃ s, s = sI s1 3 0 (nI (u - 1)) := ⟨_, rfl⟩
      have y3 : gI t2 3 0 = nI (u - 1) := by rw [et2, gI_sI, if_pos rfl, upd_ap, if_pos rfl]
      have y2 : gI t2 2 = gI s1 2 := by rw [et2, gI_sI, if_neg (by decide)]
      have ft2 : fr [3] [] s1 t2 := by rw [et2]; exact fr_sI (by decide)
      obtain ⟨q2, e5, a2, f4, r4⟩ := undoM_v hN (by omega) y3
      have eM : f_M_undo N μ = some q2 := by
        unfold f_M_undo
        rw [bnd_e, ← es1, if_neg m2, if_neg m3, u3, nsub1' (by omega), bnd_e, ← et2, e5]
      have iD := of_tot (D_undo_t hN hR.1) eD
      have iM := of_tot (M_undo_t hN hR.2.1) eM
      refine ⟨(nI (u - 1), s3), q2, eD, eM, ?_, a2.symm⟩
      have fs : fr [5] [] σ s2 := by rw [es2]; exact fr_sI (by decide)
      refine Rl_fin hR1 iD.2.1 iM.1 ?_ ?_ ?_ ?_ (RlN_rw r1 r2 w3 w13 (fun c hc => by rw [r4 c hc, y2])) ⟨u - 1, by omega, x5, ?_, fun r hr => ?_⟩ (RlK_f hR1.2.2.2.2.2 ?_ ?_ ?_)
      · show gI s3 1 = _; rw [f3.1 1 (by decide), fs.1 1 (by decide)]
      · show gI s3 12 = _; rw [f3.1 12 (by decide), fs.1 12 (by decide)]
      · rw [f4.1 7 (by decide), ft2.1 7 (by decide)]
      · rw [f4.1 6 (by decide), ft2.1 6 (by decide)]
      · rw [f4.1 3 (by decide)]; exact y3
      · show rw9 (gI q2.2 2) (9 * r) (gJ s3 15 r)
        rw [f4.1 2 (by decide), y2, f3.2 15 (by decide), fs.2 15 (by decide)]
        exact urow r (by omega)
      · show gJ s3 16 = _; rw [f3.2 16 (by decide), fs.2 16 (by decide)]
      · rw [f4.1 5 (by decide), ft2.1 5 (by decide)]
      · rw [f4.1 4 (by decide), ft2.1 4 (by decide)]
theorem keepM_v {N : Nat} (hN : 8589934592 ≤ N) {p : Nat} (hp : p < 2) {μ : Mem} : tot (it2 (M_keep_B26 (nI p)) N (0 : Int32) μ) (fun q => q.1 = 1 ∧ fr [4, 5] [] μ q.2 ∧ (∀ k, gI q.2 5 k = if k = p then 1 else gI μ 5 k) ∧ (∀ c, c < 9 → gI q.2 4 (9 * p + c) = gI μ 1 c) ∧ ∀ j, (j < 9 * p ∨ 9 * p + 9 ≤ j) → gI q.2 4 j = gI μ 4 j) := by
  refine t_it2 (fun i s => ∃ k, k ≤ 9 ∧ i = nI k ∧ fr [4] [] μ s ∧ (∀ c, c < k → gI s 4 (9 * p + c) = gI μ 1 c) ∧ ∀ j, (j < 9 * p ∨ 9 * p + 9 ≤ j) → gI s 4 j = gI μ 4 j) (fun i _ => 9 - i.toNatClampNeg) ?_ _ _ _ ⟨0, by decide, rfl, fr_r _ _ _, fun c hc => by omega, fun _ _ => rfl⟩ (by rw [n0]; omega)
  rintro self _ t ⟨k, hk, rfl, ft, ht, hj⟩ ih
  unfold M_keep_B26
  refine t_if (fun h => ?_) (fun h => ?_)
  · have : k = 9 := by
      rw [l9, nle (by decide) (by omega)] at h
      omega
    subst this
    refine t_gd (inb_nI (by omega) (by decide)) ?_
    rw [nI_clamp (by omega)]
    have e1 : vp_nar .boolean (1 : Int32) = 1 := by decide
    rw [e1]
    refine t_let (fun v ev => t_some ⟨rfl, ?_, fun k => ?_, fun c hc => ?_, fun j q => ?_⟩)
    · rw [ev]; exact fr_t (fr_m ft (by decide) (by decide)) (fr_sI (by decide))
    · show gI v 5 k = _
      rw [ev, gI_sI, if_pos rfl, upd_ap, ft.1 5 (by decide)]
    · show gI v 4 _ = _
      rw [ev, gI_sI, if_neg (by decide)]; exact ht c hc
    · show gI v 4 _ = _
      rw [ev, gI_sI, if_neg (by decide)]; exact hj j q
  · have hk9 : k < 9 := by
      rw [l9, nle (by decide) (by omega)] at h
      omega
    rw [l9m, nI_add]
    refine t_gd (inb_nI (by omega) (by decide)) (t_gd (inb_nI (by omega) (by decide)) ?_)
    rw [nI_clamp (by omega), nI_clamp (by omega), nadd1]
    refine t_let (fun v ev => ih _ _ ⟨k + 1, by omega, rfl, by rw [ev]; exact fr_t ft (fr_sI (by decide)), fun c hc => ?_, fun j q => ?_⟩ ?_)
    · rw [ev, gI_sI, if_pos rfl, upd_ap]
      by_cases e : c = k
      · rw [if_pos (by omega), e, ft.1 1 (by decide)]
      · rw [if_neg (by omega)]; exact ht c (by omega)
    · rw [ev, gI_sI, if_pos rfl, upd_ap, if_neg (by omega)]
      exact hj j q
    · rw [nI_clamp (by omega), nI_clamp (by omega)]
      omega
/-- 0 or 1 -/
theorem in01 (a : Int32) : (t_M_in a.toInt64 (0 : Int64) (1 : Int64) = 0 ∧ (a < 0 ∨ ¬ a < 2)) ∨ (¬ t_M_in a.toInt64 (0 : Int64) (1 : Int64) = 0 ∧ ¬ a < 0 ∧ a < 2 ∧ ∃ p, p < 2 ∧ a = nI p) := by
  have z : (0 : Int64).toInt = 0 := by decide
  have z1 : (1 : Int64).toInt = 1 := by decide
  have y : (0 : Int32).toInt = 0 := by decide
  have y2 : (2 : Int32).toInt = 2 := by decide
  rw [min_iff, i64, z, z1, i_lt, i_lt, y, y2]
  by_cases h : 0 ≤ a.toInt ∧ a.toInt ≤ 1
  · rw [if_pos h]
    obtain ⟨p, e, -, hp, -⟩ := rg_ex (a := 0) (b := 1) (x := a) h (by decide)
    exact Or.inr ⟨by decide, by omega, by omega, p, by omega, e⟩
  · rw [if_neg h]
    exact Or.inl ⟨rfl, by omega⟩
theorem st_Rl_keep_c {N : Nat} (hN : 8589934592 ≤ N) {σ μ : Mem} (hR : Rl σ μ) (a : Int32) : ∃ q q2 : Int32 × Mem, f_D_keep N a σ = some (q.1, q.2) ∧ f_M_keep N a μ = some (q2.1, q2.2) ∧ Rl q.2 q2.2 ∧ q.1 = q2.1 := by
  obtain ⟨s1, es1⟩ : ∃ s, s = sI μ 0 0 0 := ⟨_, rfl⟩
  obtain ⟨hR1, k0⟩ := Rl_m0 hR es1
  obtain ⟨n, h8, h3, h1, h13, hT⟩ := Rl_n hR1
  rcases in01 a with ⟨i1, i2⟩ | ⟨i1, i2, i3, p, hp, rfl⟩
  · refine ⟨(0, σ), (0, s1), ?_, ?_, hR1, rfl⟩
    · unfold f_D_keep
      by_cases c : gI σ 3 0 = 0
      · rw [if_pos c]
      · rw [if_neg c]
        by_cases c2 : a < 0
        · rw [if_pos c2]
        · rw [if_neg c2, if_neg (by rcases i2 with q | q; exact absurd q c2; exact q)]
    · unfold f_M_keep; rw [bnd_e, ← es1, if_pos i1]
  · by_cases hn0 : n = 0
    · have d2 : gI σ 3 0 = 0 := by rw [h3, hn0]; rfl
      have m2 : t_M_isRound s1 = 0 := (ro_M h8 h1).mpr hn0
      refine ⟨(0, σ), (0, s1), ?_, ?_, hR1, rfl⟩
      · unfold f_D_keep; rw [if_pos d2]
      · unfold f_M_keep; rw [bnd_e, ← es1, if_neg i1, if_pos m2]
    · have d2 : ¬ gI σ 3 0 = 0 := fun q => hn0 ((eq0_iff h8).mp (by rw [← h3]; exact q))
      have m2 : ¬ t_M_isRound s1 = 0 := fun q => hn0 ((ro_M h8 h1).mp q)
      obtain ⟨s2, es2⟩ : ∃ s, s = sJ σ 16 p (pk n (gI σ 13)) := ⟨_, rfl⟩
      have eD : f_D_keep N (nI p) σ = some (1, s2) := by
        unfold f_D_keep
        rw [if_neg d2, if_neg i2, if_pos i3, packedN_s hN h8 h3 (fun a _ => rfl), ob_s, gd_t (inb_nI (by omega) (by decide)), nI_clamp (by omega), bnd_e, ← es2]
      obtain ⟨q2, e5, a2, f4, r5, r4, r4'⟩ := keepM_v hN hp (μ := s1)
      have eM : f_M_keep N (nI p) μ = some q2 := by
        unfold f_M_keep
        rw [bnd_e, ← es1, if_neg i1, if_neg m2, e5]
      have iD := of_tot (D_keep_t hN hR.1) eD
      have iM := of_tot (M_keep_t hN hR.2.1) eM
      have fs : fr [] [16] σ s2 := by rw [es2]; exact fr_sJ (by decide)
      refine ⟨(1, s2), q2, eD, eM, ?_, a2.symm⟩
      refine Rl_fin hR1 iD.2.1 iM.1 (fs.1 1 (by decide)) (fs.1 12 (by decide)) (f4.1 7 (by decide)) (f4.1 6 (by decide)) (RlN_f hR1.2.2.2.1 (fs.1 3 (by decide)) (fs.1 13 (by decide)) (f4.1 1 (by decide))) (RlU_f hR1.2.2.2.2.1 (fs.1 5 (by decide)) (fs.2 15 (by decide)) (f4.1 3 (by decide)) (f4.1 2 (by decide))) (fun k hk => ?_)
      show (gI q2.2 5 k = 0 ∧ gJ s2 16 k = 0) ∨ (gI q2.2 5 k = 1 ∧ ¬ gJ s2 16 k = 0 ∧ rw9 (gI q2.2 4) (9 * k) (gJ s2 16 k))
      have z16 : gJ s2 16 k = if k = p then pk n (gI σ 13) else gJ σ 16 k := by rw [es2, gJ_sJ, if_pos rfl]; rfl
      rw [r5, z16]
      by_cases e : k = p
      · rw [if_pos e, if_pos e, e]
        refine Or.inr ⟨rfl, pk_ne h8 (by omega) _, n, ?_, ?_, ?_⟩
        · have := r4 0 (by decide)
          rw [Nat.add_zero] at this
          rw [this, h1]
        · refine Tn_c (fun a ha => ?_) hT
          have := r4 (1 + a) (by omega)
          rw [← Nat.add_assoc] at this
          rw [this, h13 a ha]
        · refine pk_c h8 (fun a ha => ?_)
          have := r4 (1 + a) (by omega)
          rw [← Nat.add_assoc] at this
          rw [this, h13 a ha]
      · rw [if_neg e, if_neg e]
        rcases hR1.2.2.2.2.2 k hk with q | ⟨q1, q2', q3⟩
        · exact Or.inl q
        · refine Or.inr ⟨q1, q2', rw9_c (fun c hc => r4' _ (by omega)) q3⟩
theorem againM_v {N : Nat} (hN : 8589934592 ≤ N) {p : Nat} (hp : p < 2) {μ : Mem} : tot (it2 (M_again_B32 (nI p)) N (0 : Int32) μ) (fun q => q.1 = 1 ∧ fr [1] [] μ q.2 ∧ ∀ c, c < 9 → gI q.2 1 c = gI μ 4 (9 * p + c)) := by
  refine t_it2 (fun i s => ∃ k, k ≤ 9 ∧ i = nI k ∧ fr [1] [] μ s ∧ ∀ c, c < k → gI s 1 c = gI μ 4 (9 * p + c)) (fun i _ => 9 - i.toNatClampNeg) ?_ _ _ _ ⟨0, by decide, rfl, fr_r _ _ _, fun c hc => by omega⟩ (by rw [n0]; omega)
  rintro self _ t ⟨k, hk, rfl, ft, ht⟩ ih
  unfold M_again_B32
  refine t_if (fun h => ?_) (fun h => ?_)
  · have : k = 9 := by
      rw [l9, nle (by decide) (by omega)] at h
      omega
    subst this
    exact t_some ⟨rfl, ft, ht⟩
  · have hk9 : k < 9 := by
      rw [l9, nle (by decide) (by omega)] at h
      omega
    rw [l9m, nI_add]
    refine t_gd (inb_nI (by omega) (by decide)) (t_gd (inb_nI (by omega) (by decide)) ?_)
    rw [nI_clamp (by omega), nI_clamp (by omega), nadd1]
    refine t_let (fun v ev => ih _ _ ⟨k + 1, by omega, rfl, by rw [ev]; exact fr_t ft (fr_sI (by decide)), fun c hc => ?_⟩ ?_)
    · rw [ev, gI_sI, if_pos rfl, upd_ap]
      by_cases e : c = k
      · rw [if_pos e, e, ft.1 4 (by decide)]
      · rw [if_neg e]; exact ht c (by omega)
    · rw [nI_clamp (by omega), nI_clamp (by omega)]
      omega
theorem kept_e {σ μ : Mem} (hK : RlK σ μ) {p : Nat} (hp : p < 2) : (gI μ 5 p = 0 ∧ f_Pa_isKept (nI p) σ = some 0) ∨ (¬ gI μ 5 p = 0 ∧ f_Pa_isKept (nI p) σ = some 1 ∧ rw9 (gI μ 4) (9 * p) (gJ σ 16 p)) := by
  have e : f_Pa_isKept (nI p) σ = if lg_cmp (gJ σ 16 p) 0 = 0 then some 0 else some 1 := by
    unfold f_Pa_isKept
    rw [if_neg (by rw [l0, nlt (by omega) (by decide)]; omega), if_neg (by rw [l2, nle (by decide) (by omega)]; omega), gd_t (inb_nI (by omega) (by decide)), nI_clamp (by omega)]
  rw [e]
  rcases hK p hp with ⟨h1, h2⟩ | ⟨h1, h2, h3⟩
  · rw [if_pos ((lg_eq _ _).mpr h2)]
    exact Or.inl ⟨h1, rfl⟩
  · rw [if_neg (fun q => h2 ((lg_eq _ _).mp q))]
    refine Or.inr ⟨by rw [h1]; decide, rfl, h3⟩
theorem st_Rl_again_c {N : Nat} (hN : 8589934592 ≤ N) {σ μ : Mem} (hR : Rl σ μ) (a : Int32) : ∃ q q2 : Int32 × Mem, f_D_again N a σ = some (q.1, q.2) ∧ f_M_again N a μ = some (q2.1, q2.2) ∧ Rl q.2 q2.2 ∧ q.1 = q2.1 := by
  obtain ⟨s1, es1⟩ : ∃ s, s = sI μ 0 0 0 := ⟨_, rfl⟩
  obtain ⟨hR1, k0⟩ := Rl_m0 hR es1
  obtain ⟨n, h8, h3, h1, h13, hT⟩ := Rl_n hR1
  rcases in01 a with ⟨i1, i2⟩ | ⟨i1, i2, i3, p, hp, rfl⟩
  · refine ⟨(0, σ), (0, s1), ?_, ?_, hR1, rfl⟩
    · have e : f_Pa_isKept a σ = some 0 := by
        unfold f_Pa_isKept
        by_cases c : a < 0
        · rw [if_pos c]
        · have c2 : (2 : Int32) ≤ a := by
            rcases i2 with q | q
            · exact absurd q c
            · exact i_nlt q
          rw [if_neg c, if_pos c2]
      unfold f_D_again
      rw [e, ob_s, if_pos z00]
    · unfold f_M_again; rw [bnd_e, ← es1, if_pos i1]
  · rcases kept_e hR1.2.2.2.2.2 hp with ⟨c1', c2'⟩ | ⟨c1', c2', m, r1, r2, r3⟩
    · refine ⟨(0, σ), (0, s1), ?_, ?_, hR1, rfl⟩
      · unfold f_D_again
        rw [c2', ob_s, if_pos z00]
      · unfold f_M_again
        rw [bnd_e, ← es1, if_neg i1, gd_t (inb_nI (by omega) (by decide)), nI_clamp (by omega), if_pos c1']
    · obtain ⟨v, s2, t2, e1, e2, e3, k2, w2, hU⟩ := rem_both hN hR1 h8 h3
      have q16 : gJ s2 16 p = pk m (fun a => gI s1 4 (9 * p + 1 + a)) := by rw [k2.2.2 16 (by decide)]; exact r3
      obtain ⟨s3, e4, f3, w3, w13⟩ := unpackN_s hN r2 s2
      have eD : f_D_again N (nI p) σ = some (1, s3) := by
        unfold f_D_again
        rw [c2', ob_s, if_neg n10, e1, ob_s, e2, ob_s, gd_t (inb_nI (by omega) (by decide)), nI_clamp (by omega), q16, e4, ob_s]
      obtain ⟨q2, e5, a2, f4, r4⟩ := againM_v hN hp (μ := t2)
      have eM : f_M_again N (nI p) μ = some q2 := by
        unfold f_M_again
        rw [bnd_e, ← es1, if_neg i1, gd_t (inb_nI (by omega) (by decide)), nI_clamp (by omega), if_neg c1', e3, ob_s, e5]
      have iD := of_tot (D_again_t hN hR.1) eD
      have iM := of_tot (M_again_t hN hR.2.1) eM
      refine ⟨(1, s3), q2, eD, eM, ?_, a2.symm⟩
      refine Rl_fin hR1 iD.1 iM.1 ?_ ?_ ?_ ?_ (RlN_rw r1 r2 w3 w13 (fun c hc => by rw [r4 c hc, w2.2.1 4 (by decide)])) (RlU_f hU (f3.1 5 (by decide)) (f3.2 15 (by decide)) (f4.1 3 (by decide)) (f4.1 2 (by decide))) (RlK_f hR1.2.2.2.2.2 ?_ ?_ ?_)
      · show gI s3 1 = _; rw [f3.1 1 (by decide), k2.2.1 1 (by decide)]
      · show gI s3 12 = _; rw [f3.1 12 (by decide), k2.2.1 12 (by decide)]
      · rw [f4.1 7 (by decide), w2.2.1 7 (by decide)]
      · rw [f4.1 6 (by decide), w2.2.1 6 (by decide)]
      · show gJ s3 16 = _; rw [f3.2 16 (by decide), k2.2.2 16 (by decide)]
      · rw [f4.1 5 (by decide), w2.2.1 5 (by decide)]
      · rw [f4.1 4 (by decide), w2.2.1 4 (by decide)]
