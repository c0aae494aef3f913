/-! a proof read and judged, the first of the two -/
def Wdn (s : Mem) (w : Nat) : Prop := gI s 6 0 = nI w ∧ (w : Int) ≤ (gI s 2 0).toInt
def lt8 (s : Mem) (j : Nat) : Prop := rg 0 7 (gI s 24 j)
def ap (s t : Mem) (w : Nat) : Prop := ∀ j, j < w → gI t 24 j = gI s 24 j
theorem ap_r (s : Mem) (w : Nat) : ap s s w := fun _ _ => rfl
theorem ap_t {s t u : Mem} {w w' : Nat} (h1 : ap s t w) (h2 : ap t u w') (h : w ≤ w') : ap s u w := fun j hj => (h2 j (by omega)).trans (h1 j hj)
theorem ap_k {s t : Mem} {S J : List Nat} (h : KD S J s t) (hS : 24 ∉ S) (w : Nat) : ap s t w := fun j _ => by rw [h.2.1 24 hS]
theorem Wdn_k {s t : Mem} {S J : List Nat} {w : Nat} (h : KD S J s t) (hS : 6 ∉ S) (hw : Wdn s w) (hp : (gI s 2 0).toInt ≤ (gI t 2 0).toInt) : Wdn t w := ⟨by rw [h.2.1 6 hS]; exact hw.1, Int.le_trans hw.2 hp⟩
abbrev jS : List Nat := [2, 6, 24]
theorem addWord_s {v : Int32} {s : Mem} (hm : InvD s) {w : Nat} (h6 : gI s 6 0 = nI w) (hw : w < 300) : tot (f_Pr_addWord v s) (fun t => KD [6, 24] [] s t ∧ gI t 6 0 = nI (w + 1) ∧ gI t 24 w = v ∧ ap s t w) := by
  unfold f_Pr_addWord
  rw [h6, l300]
  refine t_if (fun h => ?_) (fun _ => ?_)
  · rw [nle (by decide) (by omega)] at h
    omega
  · refine t_gd (inb_nI hw (by decide)) ?_
    rw [nI_clamp (by omega)]
    refine t_lm (KD [6, 24] [] s) (kd_s (kd_r hm) (by decide) (dS24 hm)) (fun s1 e1 k1 => ?_)
    have q : gI s1 6 0 = nI w := by rw [e1, gI_sI, if_neg (by decide)]; exact h6
    rw [q, nadd1]
    refine t_lm (KD [6, 24] [] s) (kd_s k1 (by decide) (dS6 k1.1 (nI_rg (by omega) (by omega)))) (fun s2 e2 k2 => t_some ⟨k2, ?_, ?_, ?_⟩)
    · rw [e2, gI_sI, if_pos rfl, upd_ap, if_pos rfl]
    · rw [e2, gI_sI, if_neg (by decide), e1, gI_sI, if_pos rfl, upd_ap, if_pos rfl]
    · intro j hj
      rw [e2, gI_sI, if_neg (by decide), e1, gI_sI, if_pos rfl, upd_ap, if_neg (by omega)]
theorem addSign_s {v : Int32} {s : Mem} (hm : InvD s) {w : Nat} (hw : Wdn s w) (f : rg 0 299 (gI s 2 0)) : tot (f_Pr_addSign v s) (fun t => KD jS [] s t ∧ Wdn t (w + 1) ∧ gI t 24 w = v ∧ ap s t w) := by
  unfold f_Pr_addSign
  refine t_lm (KD jS [] s) (at1 (kd_r hm) (by decide) f) (fun s1 e1 k1 => ?_)
  have q2 : gI s1 2 0 = gI s 2 0 + 1 := by rw [e1, gI_sI, if_pos rfl, upd_ap, if_pos rfl]
  have q6 : gI s1 6 0 = nI w := by rw [e1, gI_sI, if_neg (by decide)]; exact hw.1
  have o1 : (1 : Int32).toInt = 1 := by decide
  have f2 := f.2
  have w2 := hw.2
  have q2' : (gI s1 2 0).toInt = (gI s 2 0).toInt + 1 := by rw [q2, i_add (by rw [o1]; omega) (by rw [o1]; omega), o1]
  refine t_ob _ (addWord_s k1.1 q6 (by omega)) (fun s2 ⟨k2, a2, b2, c2⟩ => t_some ⟨kd_t k1 k2 (by decide) (by decide), ⟨a2, ?_⟩, b2, ?_⟩)
  · rw [k2.2.1 2 (by decide), q2']
    omega
  · intro j hj
    rw [c2 j hj, e1, gI_sI, if_neg (by decide)]
theorem readLetter_s {N : Nat} (hN : 8589934592 ≤ N) {s : Mem} (hm : InvD s) {w : Nat} (hw : Wdn s w) : tot (f_Pr_readLetter N s) (fun q => KD jS [] s q.2 ∧ ap s q.2 w ∧ ((q.1 = 0 ∧ Wdn q.2 w) ∨ (q.1 = 1 ∧ Wdn q.2 (w + 1) ∧ lt8 q.2 w))) := by
  unfold f_Pr_readLetter
  refine t_ob2 (fun r t => rg (-1) 7 r ∧ KD [2] [] s t ∧ (¬ r = -1 → rg 0 299 (gI t 2 0)) ∧ (gI s 2 0).toInt ≤ (gI t 2 0).toInt) (Sg_nextLetter_s hN hm) (fun r2 s1 ⟨f2, k1, c1', p1⟩ => ?_)
  have w1 := Wdn_k k1 (by decide) hw p1
  have k1' := kd_t (S := jS) (J := []) (kd_r hm) k1 (by decide) (by decide)
  refine t_if (fun _ => t_some ⟨k1', ap_k k1 (by decide) w, Or.inl ⟨rfl, w1⟩⟩) (fun h => ?_)
  refine t_ob _ (addSign_s (v := r2) k1.1 w1 (c1' h)) (fun s3 ⟨k3, w3, v3, a3⟩ => t_some ⟨kd_t k1' k3 (by decide) (by decide), ap_t (ap_k k1 (by decide) w) a3 (Nat.le_refl _), Or.inr ⟨rfl, w3, ?_⟩⟩)
  show rg 0 7 (gI s3 24 w)
  rw [v3]
  exact rg_m1 h f2
theorem readNumber_s {N : Nat} (hN : 8589934592 ≤ N) {s : Mem} (hm : InvD s) {w : Nat} (hw : Wdn s w) : tot (f_Pr_readNumber N s) (fun q => KD jS [] s q.2 ∧ ap s q.2 w ∧ ((q.1 = 0 ∧ Wdn q.2 w) ∨ (q.1 = 1 ∧ Wdn q.2 (w + 1)))) := by
  unfold f_Pr_readNumber
  refine t_ob2 (fun r t => rg (-1) 9 r ∧ KD [2] [] s t ∧ (¬ r = -1 → rg 0 299 (gI t 2 0)) ∧ (gI s 2 0).toInt ≤ (gI t 2 0).toInt) (Sg_nextDigit_s hN hm) (fun r2 s1 ⟨f2, k1, c1', p1⟩ => ?_)
  have w1 := Wdn_k k1 (by decide) hw p1
  have k1' := kd_t (S := jS) (J := []) (kd_r hm) k1 (by decide) (by decide)
  refine t_if (fun _ => t_some ⟨k1', ap_k k1 (by decide) w, Or.inl ⟨rfl, w1⟩⟩) (fun h => ?_)
  have hK : ∀ y t, KD jS [] s t → ap s t w → gI t 6 0 = nI w → ((w : Int) + 1 ≤ (gI t 2 0).toInt) → tot (Pr_readNumber_K63 y t) (fun q => KD jS [] s q.2 ∧ ap s q.2 w ∧ ((q.1 = 0 ∧ Wdn q.2 w) ∨ (q.1 = 1 ∧ Wdn q.2 (w + 1)))) := by
    intro y t kt at' h6 hp
    unfold Pr_readNumber_K63
    have := (kt.1.r2 0).2
    refine t_ob _ (addWord_s kt.1 h6 (by omega)) (fun u ⟨ku, a2, _, c2⟩ => t_some ⟨kd_t kt ku (by decide) (by decide), ap_t at' c2 (Nat.le_refl _), Or.inr ⟨rfl, a2, ?_⟩⟩)
    show ((w + 1 : Nat) : Int) ≤ (gI u 2 0).toInt
    rw [ku.2.1 2 (by decide)]
    omega
  refine t_it4 (fun i6 _ i8 t => rg 0 3 i8 ∧ KD jS [] s t ∧ ap s t w ∧ gI t 6 0 = nI w ∧ (¬ i6 = -1 → rg 0 299 (gI t 2 0)) ∧ ((w : Int) ≤ (gI t 2 0).toInt) ∧ ((w : Int) + 1 ≤ (gI t 2 0).toInt ∨ (i8 = 0 ∧ ¬ i6 = -1))) (fun _ _ i8 _ => (3 - i8.toInt).toNat) ?_ _ _ _ _ _ ⟨by decide, k1', ap_k k1 (by decide) w, w1.1, c1', w1.2, Or.inr ⟨rfl, h⟩⟩ (ms_u0 hN _ (by decide))
  rintro self i6 i7 i8 t ⟨f8, kt, at', h6, hc, hp, hd⟩ ih
  unfold Pr_readNumber_B19
  refine t_if (fun h3 => ?_) (fun h3 => ?_)
  · refine hK _ t kt at' h6 ?_
    rcases hd with e | ⟨e, -⟩
    · exact e
    · rw [e] at h3
      exact absurd h3 (by decide)
  · refine t_if (fun h4 => ?_) (fun h4 => ?_)
    · refine hK _ t kt at' h6 ?_
      rcases hd with e | ⟨-, e⟩
      · exact e
      · exact absurd h4 e
    · have f8' := rg_ltL (lo := 0) (hi := 2) (i_nle h3) f8 (by decide : rg 3 3 (3 : Int32)) (by decide)
      refine t_bnd ?_
      refine t_lm (KD jS [] s) (at1 kt (by decide) (hc h4)) (fun u eu ku => ?_)
      have q2 : gI u 2 0 = gI t 2 0 + 1 := by rw [eu, gI_sI, if_pos rfl, upd_ap, if_pos rfl]
      have o1 : (1 : Int32).toInt = 1 := by decide
      have hc2 := (hc h4).2
      have q2' : (gI u 2 0).toInt = (gI t 2 0).toInt + 1 := by rw [q2, i_add (by rw [o1]; omega) (by rw [o1]; omega), o1]
      refine t_ob2 (fun r v => rg (-1) 9 r ∧ KD [2] [] u v ∧ (¬ r = -1 → rg 0 299 (gI v 2 0)) ∧ (gI u 2 0).toInt ≤ (gI v 2 0).toInt) (Sg_nextDigit_s hN ku.1) (fun r14 s13 ⟨_, k13, c13, p13⟩ => ?_)
      have apu : ap t u w := fun j _ => by rw [eu, gI_sI, if_neg (by decide)]
      refine ih _ _ _ _ ⟨rg_w (lo := 0) (hi := 3) (rg_add (lo := 1) (hi := 3) f8' (by decide : rg 1 1 (1 : Int32)) (by decide)) (by decide), kd_t ku k13 (by decide) (by decide), ap_t (ap_t at' apu (Nat.le_refl _)) (ap_k k13 (by decide) w) (Nat.le_refl _), ?_, c13, by omega, Or.inl (by omega)⟩ (ms_up f8' (by decide : rg 1 1 (1 : Int32)) (by decide))
      rw [k13.2.1 6 (by decide), eu, gI_sI, if_neg (by decide)]
      exact h6
theorem lt8_ap {s t : Mem} {w j : Nat} (h : ap s t w) (hj : j < w) (hl : lt8 s j) : lt8 t j := by
  unfold lt8
  rw [h j hj]
  exact hl
theorem readMore_s {N : Nat} (hN : 8589934592 ≤ N) {a : Nat} (ha : a ≤ 300) {s : Mem} (hm : InvD s) {w : Nat} (hw : Wdn s w) : tot (f_Pr_readMoreLetters N (nI a) s) (fun q => KD jS [] s q.2 ∧ ap s q.2 w ∧ q.1 = 1 ∧ ∃ w', w ≤ w' ∧ w' ≤ w + a ∧ Wdn q.2 w' ∧ ∀ j, w ≤ j → j < w' → lt8 q.2 j) := by
  unfold f_Pr_readMoreLetters
  refine t_it2 (fun i t => KD jS [] s t ∧ ap s t w ∧ ∃ k w', k ≤ a ∧ i = nI k ∧ w ≤ w' ∧ w' ≤ w + k ∧ Wdn t w' ∧ ∀ j, w ≤ j → j < w' → lt8 t j) (fun i _ => 300 - i.toNatClampNeg) ?_ _ _ _ ⟨kd_r hm, ap_r s w, 0, w, by omega, rfl, by omega, by omega, hw, fun j h1 h2 => by omega⟩ (by rw [n0]; omega)
  rintro self _ t ⟨kt, at', k, w', hk, rfl, h1, h2, wt, hl⟩ ih
  unfold Pr_readMoreLetters_B2
  refine t_if (fun _ => t_some ⟨kt, at', rfl, w', h1, by omega, wt, hl⟩) (fun h => ?_)
  have hka : k < a := by
    rw [nle (by omega) (by omega)] at h
    omega
  refine t_ob2 (fun r u => KD jS [] t u ∧ ap t u w' ∧ ((r = 0 ∧ Wdn u w') ∨ (r = 1 ∧ Wdn u (w' + 1) ∧ lt8 u w'))) (readLetter_s hN kt.1 wt) (fun r5 s4 ⟨k4, a4, h4⟩ => ?_)
  have k4' := kd_t (S := jS) (J := []) kt k4 (by decide) (by decide)
  have a4' := ap_t at' a4 h1
  have hl' : ∀ j, w ≤ j → j < w' → lt8 s4 j := fun j q1 q2 => lt8_ap a4 q2 (hl j q1 q2)
  rcases h4 with ⟨e, w4⟩ | ⟨e, w4, l4'⟩
  · rw [e, if_pos rfl]
    exact t_some ⟨k4', a4', rfl, w', h1, by omega, w4, hl'⟩
  · rw [e, if_neg (by decide), nadd1]
    refine ih _ _ ⟨k4', a4', k + 1, w' + 1, by omega, rfl, by omega, by omega, w4, fun j q1 q2 => ?_⟩ ?_
    · by_cases ej : j = w'
      · rw [ej]; exact l4'
      · exact hl' j q1 (by omega)
    · rw [nI_clamp (by omega), nI_clamp (by omega)]
      omega
theorem readWeights_s {N : Nat} (hN : 8589934592 ≤ N) {s : Mem} (hm : InvD s) {w : Nat} (hw : Wdn s w) : tot (f_Pr_readWeights N s) (fun q => KD jS [] s q.2 ∧ ap s q.2 w ∧ ((q.1 = 0 ∧ ∃ w', Wdn q.2 w') ∨ (q.1 = 1 ∧ ∃ m, 1 ≤ m ∧ Wdn q.2 (w + 2 * m) ∧ ∀ j, j < m → lt8 q.2 (w + 2 * j)))) := by
  unfold f_Pr_readWeights
  refine t_it2 (fun i t => KD jS [] s t ∧ ap s t w ∧ rg 0 301 i ∧ ∃ m, (1 ≤ m ∨ i = 0) ∧ Wdn t (w + 2 * m) ∧ ∀ j, j < m → lt8 t (w + 2 * j)) (fun i _ => (301 - i.toInt).toNat) ?_ _ _ _ ⟨kd_r hm, ap_r s w, by decide, 0, Or.inr rfl, hw, fun j h => by omega⟩ (ms_u0 hN _ (by decide))
  rintro self i t ⟨kt, at', fi, m, hm1, wt, hl⟩ ih
  unfold Pr_readWeights_B2
  refine t_if (fun h => ?_) (fun h => ?_)
  · refine t_some ⟨kt, at', Or.inr ⟨rfl, m, ?_, wt, hl⟩⟩
    rcases hm1 with e | e
    · exact e
    · rw [e] at h
      exact absurd h (by decide)
  · have fi' := rg_leL (lo := 0) (hi := 300) (i_nlt h) fi (by decide : rg 300 300 (300 : Int32)) (by decide)
    refine t_ob2 (fun r u => KD jS [] t u ∧ ap t u (w + 2 * m) ∧ ((r = 0 ∧ Wdn u (w + 2 * m)) ∨ (r = 1 ∧ Wdn u (w + 2 * m + 1) ∧ lt8 u (w + 2 * m)))) (readLetter_s hN kt.1 wt) (fun r5 s4 ⟨k4, a4, h4⟩ => ?_)
    have k4' := kd_t (S := jS) (J := []) kt k4 (by decide) (by decide)
    have a4' := ap_t at' a4 (by omega)
    rcases h4 with ⟨e, w4⟩ | ⟨e, w4, l4'⟩
    · rw [e, if_pos rfl]
      exact t_some ⟨k4', a4', Or.inl ⟨rfl, _, w4⟩⟩
    · rw [e, if_neg (by decide)]
      refine t_ob2 (fun r u => KD jS [] s4 u ∧ ap s4 u (w + 2 * m + 1) ∧ ((r = 0 ∧ Wdn u (w + 2 * m + 1)) ∨ (r = 1 ∧ Wdn u (w + 2 * m + 1 + 1)))) (readNumber_s hN k4.1 w4) (fun r7 s6 ⟨k6, a6, h6⟩ => ?_)
      have k6' := kd_t (S := jS) (J := []) k4' k6 (by decide) (by decide)
      have a6' := ap_t a4' a6 (by omega)
      rcases h6 with ⟨e6, w6⟩ | ⟨e6, w6⟩
      · rw [e6, if_pos rfl]
        exact t_some ⟨k6', a6', Or.inl ⟨rfl, _, w6⟩⟩
      · rw [e6, if_neg (by decide)]
        refine t_ob2 (fun r u => rg (-1) 7 r ∧ KD [2] [] s6 u ∧ (¬ r = -1 → rg 0 299 (gI u 2 0)) ∧ (gI s6 2 0).toInt ≤ (gI u 2 0).toInt) (Sg_nextLetter_s hN k6.1) (fun r9 s8 ⟨_, k8, _, p8⟩ => ?_)
        have k8' := kd_t (S := jS) (J := []) k6' k8 (by decide) (by decide)
        have a8' := ap_t a6' (ap_k k8 (by decide) w) (Nat.le_refl _)
        have e2 : w + 2 * m + 1 + 1 = w + 2 * (m + 1) := by omega
        rw [e2] at w6
        have w8 := Wdn_k k8 (by decide) w6 p8
        have l8' : ∀ j, j < m + 1 → lt8 s8 (w + 2 * j) := fun j hj => by
          refine lt8_ap (ap_k k8 (by decide) (w + 2 * m + 1)) (by omega) (lt8_ap a6 (by omega) ?_)
          by_cases ej : j = m
          · rw [ej]; exact l4'
          · exact lt8_ap a4 (by omega) (hl j (by omega))
        refine t_if (fun _ => t_some ⟨k8', a8', Or.inr ⟨rfl, m + 1, by omega, w8, l8'⟩⟩) (fun _ => ?_)
        exact ih _ _ ⟨k8', a8', rg_w (lo := 0) (hi := 301) (rg_add (lo := 1) (hi := 301) fi' (by decide : rg 1 1 (1 : Int32)) (by decide)) (by decide), m + 1, Or.inl (by omega), w8, l8'⟩ (ms_up fi' (by decide : rg 1 1 (1 : Int32)) (by decide))
/-- a line of words, from place b to ahead of e -/
def ln (s : Mem) (b e : Nat) : Prop := b + 2 ≤ e ∧ (gI s 24 b = 107 → ∀ j, b < j → j < e → lt8 s j) ∧ (gI s 24 b = 115 → b + 3 ≤ e ∧ ∀ j, b + 1 < j → j < e → lt8 s j) ∧ (gI s 24 b = 117 → (e = b + 3 ∨ e = b + 4) ∧ ∀ j, b < j → j < e → lt8 s j) ∧ (gI s 24 b = 119 → ∀ j, b + 1 + 2 * j + 1 < e → lt8 s (b + 1 + 2 * j))
theorem ln_ap {s t : Mem} {b e w : Nat} (h : ap s t w) (he : e ≤ w) (hl : ln s b e) : ln t b e := by
  obtain ⟨h0, h1, h2, h3, h4⟩ := hl
  have eb : gI t 24 b = gI s 24 b := h b (by omega)
  refine ⟨h0, fun q j q1 q2 => ?_, fun q => ⟨?_, fun j q1 q2 => ?_⟩, fun q => ⟨?_, fun j q1 q2 => ?_⟩, fun q j q1 => ?_⟩
  · exact lt8_ap h (by omega) (h1 (by rw [← eb]; exact q) j q1 q2)
  · exact (h2 (by rw [← eb]; exact q)).1
  · exact lt8_ap h (by omega) ((h2 (by rw [← eb]; exact q)).2 j q1 q2)
  · exact (h3 (by rw [← eb]; exact q)).1
  · exact lt8_ap h (by omega) ((h3 (by rw [← eb]; exact q)).2 j q1 q2)
  · exact lt8_ap h (by omega) (h4 (by rw [← eb]; exact q) j q1)
theorem readLine_s {N : Nat} (hN : 8589934592 ≤ N) {s : Mem} (hm : InvD s) {w : Nat} (hw : Wdn s w) : tot (f_Pr_readLine N s) (fun q => KD jS [] s q.2 ∧ ap s q.2 w ∧ ((q.1 = 0 ∧ ∃ w', Wdn q.2 w') ∨ (q.1 = 1 ∧ ∃ e, Wdn q.2 e ∧ ln q.2 w e))) := by
  unfold f_Pr_readLine
  refine t_ob2 (fun r t => rg (-1) 65535 r ∧ KD [2] [] s t ∧ (¬ r = -1 → rg 0 299 (gI t 2 0)) ∧ (gI s 2 0).toInt ≤ (gI t 2 0).toInt) (Sg_next_s hN hm) (fun r2 s1 ⟨_, k1, c1', p1⟩ => ?_)
  have w1 := Wdn_k k1 (by decide) hw p1
  have k1' := kd_t (S := jS) (J := []) (kd_r hm) k1 (by decide) (by decide)
  have a1' := ap_k k1 (by decide) w
  -- a letter and more letters
  have two : ∀ {t : Mem} {v : Nat} {a : Nat} (ha : a ≤ 300), KD jS [] s t → ap s t w → w ≤ v → Wdn t v → ∀ (F : Int32 → Mem → Option (Int32 × Mem)), (F = fun r5 s4 => if r5 = (0 : Int32) then (some ((0 : Int32), s4)) else (ob2 (f_Pr_readMoreLetters N (nI a) s4) fun r7 s6 => if r7 = (0 : Int32) then (some ((0 : Int32), s6)) else (some ((1 : Int32), s6)))) → tot (ob2 (f_Pr_readLetter N t) F) (fun q => KD jS [] s q.2 ∧ ap s q.2 w ∧ ap t q.2 v ∧ ((q.1 = 0 ∧ ∃ w', Wdn q.2 w') ∨ (q.1 = 1 ∧ ∃ e, v + 1 ≤ e ∧ e ≤ v + 1 + a ∧ Wdn q.2 e ∧ ∀ j, v ≤ j → j < e → lt8 q.2 j))) := by
    intro t v a ha kt at' hv wt F hF
    rw [hF]
    refine t_ob2 (fun r u => KD jS [] t u ∧ ap t u v ∧ ((r = 0 ∧ Wdn u v) ∨ (r = 1 ∧ Wdn u (v + 1) ∧ lt8 u v))) (readLetter_s hN kt.1 wt) (fun r5 s4 ⟨k4, a4, h4⟩ => ?_)
    have k4' := kd_t (S := jS) (J := []) kt k4 (by decide) (by decide)
    have a4' := ap_t at' a4 hv
    rcases h4 with ⟨e, w4⟩ | ⟨e, w4, l4'⟩
    · rw [e, if_pos rfl]
      exact t_some ⟨k4', a4', a4, Or.inl ⟨rfl, _, w4⟩⟩
    · rw [e, if_neg (by decide)]
      refine t_ob2 (fun r u => KD jS [] s4 u ∧ ap s4 u (v + 1) ∧ r = 1 ∧ ∃ w', v + 1 ≤ w' ∧ w' ≤ v + 1 + a ∧ Wdn u w' ∧ ∀ j, v + 1 ≤ j → j < w' → lt8 u j) (readMore_s hN ha k4.1 w4) (fun r7 s6 ⟨k6, a6, e6, w', h1, h2, w6, l6⟩ => ?_)
      rw [e6, if_neg (by decide)]
      refine t_some ⟨kd_t k4' k6 (by decide) (by decide), ap_t a4' a6 (by omega), ap_t a4 a6 (by omega), Or.inr ⟨rfl, w', h1, h2, w6, fun j q1 q2 => ?_⟩⟩
      by_cases ej : j = v
      · rw [ej]; exact lt8_ap a6 (by omega) l4'
      · exact l6 j (by omega) q2
  have sg : ∀ c : Int32, r2 = c → ¬ c = -1 → tot (f_Pr_addSign r2 s1) (fun t => KD jS [] s1 t ∧ Wdn t (w + 1) ∧ gI t 24 w = r2 ∧ ap s1 t w) := fun c e hc => addSign_s k1.1 w1 (c1' (by rw [e]; exact hc))
  -- kinds whose words are letters alone
  have plain : ∀ c : Int32, r2 = c → ¬ c = -1 → ¬ c = 115 → ¬ c = 117 → ¬ c = 119 → ∀ (G : Mem → Option (Int32 × Mem)), (G = fun s3 => ob2 (f_Pr_readLetter N s3) fun r5 s4 => if r5 = (0 : Int32) then (some ((0 : Int32), s4)) else (ob2 (f_Pr_readMoreLetters N (300 : Int32) s4) fun r7 s6 => if r7 = (0 : Int32) then (some ((0 : Int32), s6)) else (some ((1 : Int32), s6)))) → tot (ob (f_Pr_addSign r2 s1) G) (fun q => KD jS [] s q.2 ∧ ap s q.2 w ∧ ((q.1 = 0 ∧ ∃ w', Wdn q.2 w') ∨ (q.1 = 1 ∧ ∃ e, Wdn q.2 e ∧ ln q.2 w e))) := by
    intro c ec hc n1 n2 n3 G hG
    rw [hG]
    refine t_ob _ (sg c ec hc) (fun s3 ⟨k3, w3, v3, a3⟩ => ?_)
    have k3' := kd_t (S := jS) (J := []) k1' k3 (by decide) (by decide)
    have a3' := ap_t a1' a3 (Nat.le_refl _)
    refine t_mono (two (a := 300) (by decide) k3' a3' (by omega) w3 _ rfl) (fun q ⟨kq, aq, aq2, hq⟩ => ⟨kq, aq, ?_⟩)
    rcases hq with h | ⟨h, e, h1, h2, we, le⟩
    · exact Or.inl h
    · refine Or.inr ⟨h, e, we, by omega, fun _ j q1 q2 => le j (by omega) q2, fun q => ?_, fun q => ?_, fun q => ?_⟩
      · rw [aq2 w (by omega), v3, ec] at q; exact absurd q n1
      · rw [aq2 w (by omega), v3, ec] at q; exact absurd q n2
      · rw [aq2 w (by omega), v3, ec] at q; exact absurd q n3
  refine t_sw1 (fun ec => plain _ ec (by decide) (by decide) (by decide) (by decide) _ rfl) (fun _ => t_sw1 (fun ec => plain _ ec (by decide) (by decide) (by decide) (by decide) _ rfl) (fun _ => t_sw1 (fun ec => plain _ ec (by decide) (by decide) (by decide) (by decide) _ rfl) (fun _ => t_sw1 (fun ec => ?_) (fun _ => t_sw1 (fun ec => ?_) (fun _ => t_sw1 (fun ec => ?_) (fun _ => t_sw0 (t_some ⟨k1', a1', Or.inl ⟨rfl, _, w1⟩⟩)))))))
  · -- an order: a number, then letters
    refine t_ob _ (sg _ ec (by decide)) (fun s3 ⟨k3, w3, v3, a3⟩ => ?_)
    have k3' := kd_t (S := jS) (J := []) k1' k3 (by decide) (by decide)
    have a3' := ap_t a1' a3 (Nat.le_refl _)
    refine t_ob2 (fun r u => KD jS [] s3 u ∧ ap s3 u (w + 1) ∧ ((r = 0 ∧ Wdn u (w + 1)) ∨ (r = 1 ∧ Wdn u (w + 1 + 1)))) (readNumber_s hN k3.1 w3) (fun r7 s6 ⟨k6, a6, h6⟩ => ?_)
    have k6' := kd_t (S := jS) (J := []) k3' k6 (by decide) (by decide)
    have a6' := ap_t a3' a6 (by omega)
    rcases h6 with ⟨e6, w6⟩ | ⟨e6, w6⟩
    · rw [e6, if_pos rfl]
      exact t_some ⟨k6', a6', Or.inl ⟨rfl, _, w6⟩⟩
    · rw [e6, if_neg (by decide)]
      refine t_mono (two (a := 300) (by decide) k6' a6' (by omega) w6 _ rfl) (fun q ⟨kq, aq, aq2, hq⟩ => ⟨kq, aq, ?_⟩)
      rcases hq with h | ⟨h, e, h1, h2, we, le⟩
      · exact Or.inl h
      · have ew : gI q.2 24 w = 115 := by rw [aq2 w (by omega), a6 w (by omega), v3, ec]
        refine Or.inr ⟨h, e, we, by omega, fun q => ?_, fun _ => ⟨by omega, fun j q1 q2 => le j (by omega) q2⟩, fun q => ?_, fun q => ?_⟩
        · rw [ew] at q; exact absurd q (by decide)
        · rw [ew] at q; exact absurd q (by decide)
        · rw [ew] at q; exact absurd q (by decide)
  · -- two letters, perhaps a third
    refine t_ob _ (sg _ ec (by decide)) (fun s3 ⟨k3, w3, v3, a3⟩ => ?_)
    have k3' := kd_t (S := jS) (J := []) k1' k3 (by decide) (by decide)
    have a3' := ap_t a1' a3 (Nat.le_refl _)
    refine t_ob2 (fun r u => KD jS [] s3 u ∧ ap s3 u (w + 1) ∧ ((r = 0 ∧ Wdn u (w + 1)) ∨ (r = 1 ∧ Wdn u (w + 1 + 1) ∧ lt8 u (w + 1)))) (readLetter_s hN k3.1 w3) (fun r7 s6 ⟨k6, a6, h6⟩ => ?_)
    have k6' := kd_t (S := jS) (J := []) k3' k6 (by decide) (by decide)
    have a6' := ap_t a3' a6 (by omega)
    rcases h6 with ⟨e6, w6⟩ | ⟨e6, w6, l6⟩
    · rw [e6, if_pos rfl]
      exact t_some ⟨k6', a6', Or.inl ⟨rfl, _, w6⟩⟩
    · rw [e6, if_neg (by decide)]
      refine t_mono (two (a := 1) (by decide) k6' a6' (by omega) w6 _ rfl) (fun q ⟨kq, aq, aq2, hq⟩ => ⟨kq, aq, ?_⟩)
      rcases hq with h | ⟨h, e, h1, h2, we, le⟩
      · exact Or.inl h
      · have ew : gI q.2 24 w = 117 := by rw [aq2 w (by omega), a6 w (by omega), v3, ec]
        refine Or.inr ⟨h, e, we, by omega, fun q => ?_, fun q => ?_, fun _ => ⟨by omega, fun j q1 q2 => ?_⟩, fun q => ?_⟩
        · rw [ew] at q; exact absurd q (by decide)
        · rw [ew] at q; exact absurd q (by decide)
        · by_cases ej : j = w + 1
          · rw [ej]; exact lt8_ap aq2 (by omega) l6
          · exact le j (by omega) q2
        · rw [ew] at q; exact absurd q (by decide)
  · -- weights
    refine t_ob _ (sg _ ec (by decide)) (fun s3 ⟨k3, w3, v3, a3⟩ => ?_)
    have k3' := kd_t (S := jS) (J := []) k1' k3 (by decide) (by decide)
    have a3' := ap_t a1' a3 (Nat.le_refl _)
    refine t_ob2 (fun r u => KD jS [] s3 u ∧ ap s3 u (w + 1) ∧ ((r = 0 ∧ ∃ w', Wdn u w') ∨ (r = 1 ∧ ∃ m, 1 ≤ m ∧ Wdn u (w + 1 + 2 * m) ∧ ∀ j, j < m → lt8 u (w + 1 + 2 * j)))) (readWeights_s hN k3.1 w3) (fun r7 s6 ⟨k6, a6, h6⟩ => ?_)
    have k6' := kd_t (S := jS) (J := []) k3' k6 (by decide) (by decide)
    have a6' := ap_t a3' a6 (by omega)
    rcases h6 with ⟨e6, w6⟩ | ⟨e6, m, m1, w6, l6⟩
    · rw [e6]
      exact t_gd (by decide) (t_some ⟨k6', a6', Or.inl ⟨rfl, w6⟩⟩)
    · rw [e6]
      have ew : gI s6 24 w = 119 := by rw [a6 w (by omega), v3, ec]
      refine t_gd (by decide) (t_some ⟨k6', a6', Or.inr ⟨rfl, w + 1 + 2 * m, w6, by omega, fun q => ?_, fun q => ?_, fun q => ?_, fun _ j q1 => l6 j (by omega)⟩⟩)
      · rw [ew] at q; exact absurd q (by decide)
      · rw [ew] at q; exact absurd q (by decide)
      · rw [ew] at q; exact absurd q (by decide)
