/-! reading a round, the first of the two -/
theorem Sg_next_s {N : Nat} (hN : 8589934592 ≤ N) {σ : Mem} (hm : InvD σ) : tot (f_Sg_next N σ) (fun q => rg (-1) 65535 q.1 ∧ KD [2] [] σ q.2 ∧ (¬ q.1 = -1 → rg 0 299 (gI q.2 2 0)) ∧ (gI σ 2 0).toInt ≤ (gI q.2 2 0).toInt) := by
  unfold f_Sg_next
  refine t_it1 (fun s => KD [2] [] σ s ∧ (gI σ 2 0).toInt ≤ (gI s 2 0).toInt) (fun s => (300 - (gI s 2 0).toInt).toNat) ?_ _ _ ⟨kd_r hm, Int.le_refl _⟩ (ms_u0 hN _ (by decide))
  rintro self s ⟨ks, hs⟩ ih
  have hK : tot (Sg_next_K38 s) (fun q => rg (-1) 65535 q.1 ∧ KD [2] [] σ q.2 ∧ (¬ q.1 = -1 → rg 0 299 (gI q.2 2 0)) ∧ (gI σ 2 0).toInt ≤ (gI q.2 2 0).toInt) := by
    unfold Sg_next_K38
    refine t_if (fun _ => t_some ⟨(by decide : rg (-1) 65535 (-1 : Int32)), ks, fun h => absurd rfl h, hs⟩) (fun h => ?_)
    have f := rg_ltL (lo := 0) (hi := 299) (i_nle h) (ks.1.r2 0) (ks.1.r1 0) (by decide)
    exact t_gd (inb_rg f (by decide)) (t_some ⟨rg_w (ks.1.r12 _) (by decide), ks, fun _ => f, hs⟩)
  unfold Sg_next_B0
  refine t_if (fun _ => hK) (fun h => ?_)
  have f := rg_ltL (lo := 0) (hi := 299) (i_nle h) (ks.1.r2 0) (ks.1.r1 0) (by decide)
  refine t_gd (inb_rg f (by decide)) (t_if (fun _ => ?_) (fun _ => hK))
  refine t_lm (KD [2] [] σ) (kd_s ks (by decide) (dS2 ks.1 (rg_add f (by decide : rg 1 1 (1 : Int32)) (by decide)))) (fun s4 e4 k4 => ?_)
  have q : gI s4 2 0 = gI s 2 0 + 1 := by rw [e4, gI_sI, if_pos rfl, upd_ap, if_pos rfl]
  have e1 : (1 : Int32).toInt = 1 := by decide
  refine ih _ ⟨k4, ?_⟩ ?_
  · rw [q, i_add (by rw [e1]; omega) (by rw [e1]; omega)]
    omega
  · rw [q]
    exact ms_up f (by decide : rg 1 1 (1 : Int32)) (by decide)
theorem Sg_nextLetter_s {N : Nat} (hN : 8589934592 ≤ N) {σ : Mem} (hm : InvD σ) : tot (f_Sg_nextLetter N σ) (fun q => rg (-1) 7 q.1 ∧ KD [2] [] σ q.2 ∧ (¬ q.1 = -1 → rg 0 299 (gI q.2 2 0)) ∧ (gI σ 2 0).toInt ≤ (gI q.2 2 0).toInt) := by
  unfold f_Sg_nextLetter
  refine t_ob2 (fun r s => rg (-1) 65535 r ∧ KD [2] [] σ s ∧ (¬ r = -1 → rg 0 299 (gI s 2 0)) ∧ (gI σ 2 0).toInt ≤ (gI s 2 0).toInt) (Sg_next_s hN hm) (fun r s ⟨fr', ks, hc, hs⟩ => ?_)
  refine t_if (fun _ => t_some ⟨(by decide : rg (-1) 7 (-1 : Int32)), ks, fun h => absurd rfl h, hs⟩) (fun h1 => t_if (fun _ => t_some ⟨(by decide : rg (-1) 7 (-1 : Int32)), ks, fun h => absurd rfl h, hs⟩) (fun h2 => ?_))
  have f1 := rg_leR (lo := 97) (hi := 65535) (i_nlt h1) (by decide : rg 97 97 (97 : Int32)) fr' (by decide)
  have f2 := rg_ltL (lo := 97) (hi := 104) (i_nle h2) f1 (by decide : rg 105 105 (105 : Int32)) (by decide)
  refine t_some ⟨rg_w (rg_sub (lo := 0) (hi := 7) f2 (by decide : rg 97 97 (97 : Int32)) (by decide)) (by decide), ks, fun _ => hc (fun e => ?_), hs⟩
  rw [e] at f2
  exact absurd f2 (by decide)
theorem Sg_nextDigit_s {N : Nat} (hN : 8589934592 ≤ N) {σ : Mem} (hm : InvD σ) : tot (f_Sg_nextDigit N σ) (fun q => rg (-1) 9 q.1 ∧ KD [2] [] σ q.2 ∧ (¬ q.1 = -1 → rg 0 299 (gI q.2 2 0)) ∧ (gI σ 2 0).toInt ≤ (gI q.2 2 0).toInt) := by
  unfold f_Sg_nextDigit
  refine t_ob2 (fun r s => rg (-1) 65535 r ∧ KD [2] [] σ s ∧ (¬ r = -1 → rg 0 299 (gI s 2 0)) ∧ (gI σ 2 0).toInt ≤ (gI s 2 0).toInt) (Sg_next_s hN hm) (fun r s ⟨fr', ks, hc, hs⟩ => ?_)
  refine t_if (fun _ => t_some ⟨(by decide : rg (-1) 9 (-1 : Int32)), ks, fun h => absurd rfl h, hs⟩) (fun h1 => t_if (fun _ => t_some ⟨(by decide : rg (-1) 9 (-1 : Int32)), ks, fun h => absurd rfl h, hs⟩) (fun h2 => ?_))
  have f1 := rg_leR (lo := 48) (hi := 65535) (i_nlt h1) (by decide : rg 48 48 (48 : Int32)) fr' (by decide)
  have f2 := rg_leL (lo := 48) (hi := 57) (i_nlt h2) f1 (by decide : rg 57 57 (57 : Int32)) (by decide)
  refine t_some ⟨rg_w (rg_sub (lo := 0) (hi := 9) f2 (by decide : rg 48 48 (48 : Int32)) (by decide)) (by decide), ks, fun _ => hc (fun e => ?_), hs⟩
  rw [e] at f2
  exact absurd f2 (by decide)
theorem rg_m1 {b : Int} {x : Int32} (h : ¬ x = -1) (hx : rg (-1) b x) : rg 0 b x := rg_neL h hx (by decide : rg (-1) (-1) (-1 : Int32)) (Or.inl ⟨rfl, by decide, Int.le_refl _⟩)
theorem at1 {S J : List Nat} {σ s : Mem} (ks : KD S J σ s) (hS : 2 ∈ S) (f : rg 0 299 (gI s 2 0)) : KD S J σ (sI s 2 0 (gI s 2 0 + 1)) := kd_s ks hS (dS2 ks.1 (rg_add f (by decide : rg 1 1 (1 : Int32)) (by decide)))
abbrev rS : List Nat := [2, 4, 14]
theorem D_readPair_t {N : Nat} (hN : 8589934592 ≤ N) {σ : Mem} (hm : InvD σ) : tot (f_D_readPair N σ) (fun q => rg 0 1 q.1 ∧ KD rS [] σ q.2) := by
  have z0 : rg 0 1 (0 : Int32) := by decide
  unfold f_D_readPair
  refine t_ob2 (fun r s => rg (-1) 7 r ∧ KD [2] [] σ s ∧ (¬ r = -1 → rg 0 299 (gI s 2 0)) ∧ (gI σ 2 0).toInt ≤ (gI s 2 0).toInt) (Sg_nextLetter_s hN hm) (fun r2 s1 ⟨f2, k1, c1', _⟩ => ?_)
  have k1' := kd_t (S := rS) (J := []) (kd_r hm) k1 (by decide) (by decide)
  refine t_if (fun _ => t_some ⟨z0, k1'⟩) (fun h1 => ?_)
  refine t_lm (KD rS [] σ) (at1 k1' (by decide) (c1' h1)) (fun s3 e3 k3 => ?_)
  refine t_ob2 (fun r s => rg (-1) 65535 r ∧ KD [2] [] s3 s ∧ (¬ r = -1 → rg 0 299 (gI s 2 0)) ∧ (gI s3 2 0).toInt ≤ (gI s 2 0).toInt) (Sg_next_s hN k3.1) (fun r5 s4 ⟨f5, k4, c4, _⟩ => ?_)
  have k4' := kd_t (S := rS) (J := []) k3 k4 (by decide) (by decide)
  refine t_if (fun h5 => ?_) (fun _ => t_some ⟨z0, k4'⟩)
  refine t_lm (KD rS [] σ) (at1 k4' (by decide) (c4 (by rw [h5]; decide))) (fun s6 e6 k6 => ?_)
  refine t_ob2 (fun r s => rg (-1) 7 r ∧ KD [2] [] s6 s ∧ (¬ r = -1 → rg 0 299 (gI s 2 0)) ∧ (gI s6 2 0).toInt ≤ (gI s 2 0).toInt) (Sg_nextLetter_s hN k6.1) (fun r8 s7 ⟨f8, k7, c7, _⟩ => ?_)
  have k7' := kd_t (S := rS) (J := []) k6 k7 (by decide) (by decide)
  refine t_if (fun _ => t_some ⟨z0, k7'⟩) (fun h8 => t_if (fun _ => t_some ⟨z0, k7'⟩) (fun h9 => ?_))
  have g2 := rg_m1 h1 f2
  have g8 := rg_m1 h8 f8
  refine t_ob _ (Du_isToldS_t g2 g8 k7.1) (fun r9 _ => t_if (fun _ => ?_) (fun _ => t_some ⟨z0, k7'⟩))
  refine t_lm (KD rS [] σ) (at1 k7' (by decide) (c7 h8)) (fun s10 e10 k10 => ?_)
  refine t_ob _ (Du_letBeatS_t g2 g8 k10.1) (fun s11 k11 => ?_)
  have k11' := kd_t (S := rS) (J := []) k10 k11 (by decide) (by decide)
  have fm : rg 1 8 ((if r2 < r8 then r8 else r2) + (1 : Int32)) := rg_add (rg_ite (lo := 0) (hi := 7) (fun _ => g8) (fun _ => g2)) (by decide : rg 1 1 (1 : Int32)) (by decide)
  refine t_lm (KD rS [] σ) (kd_s k11' (by decide) (dS4 k11'.1 (rg_ite (fun _ => rg_w fm (by decide)) (fun _ => k11'.1.r4 0)))) (fun s12 e12 k12 => t_some ⟨(by decide : rg 0 1 (1 : Int32)), k12⟩)
theorem D_faultOfRound_t {N : Nat} (hN : 8589934592 ≤ N) {σ : Mem} (hm : InvD σ) : tot (f_D_faultOfRound N σ) (fun q => KD rS [] σ q.2) := by
  unfold f_D_faultOfRound
  refine t_ob _ (Du_clearS_t hN hm) (fun s1 k1 => ?_)
  have k1' := kd_t (S := rS) (J := []) (kd_r hm) k1 (by decide) (by decide)
  refine t_lm (KD rS [] σ) (kd_s k1' (by decide) (dS2 k1'.1 (by decide))) (fun s2 e2 k2 => ?_)
  have hK : ∀ s, KD rS [] σ s → tot (D_faultOfRound_K73 N s) (fun q => KD rS [] σ q.2) := by
    intro s ks
    unfold D_faultOfRound_K73
    refine t_ob2 (fun r u => rg (-1) 65535 r ∧ KD [2] [] s u ∧ (¬ r = -1 → rg 0 299 (gI u 2 0)) ∧ (gI s 2 0).toInt ≤ (gI u 2 0).toInt) (Sg_next_s hN ks.1) (fun r5 s4 ⟨_, k4, _, _⟩ => ?_)
    have k4' := kd_t (S := rS) (J := []) ks k4 (by decide) (by decide)
    refine t_if (fun _ => ?_) (fun _ => t_some k4')
    exact t_ob _ (Du_arrowsToldS_t hN k4.1) (fun _ _ => t_if (fun _ => t_some k4') (fun _ => t_some k4'))
  refine t_it2 (fun i s => rg 0 301 i ∧ KD rS [] σ s) (fun i _ => (301 - i.toInt).toNat) ?_ _ _ _ ⟨by decide, k2⟩ (ms_u0 hN _ (by decide))
  rintro self i s ⟨fi, ks⟩ ih
  unfold D_faultOfRound_B17
  refine t_if (fun _ => hK s ks) (fun h => ?_)
  have fi' := rg_leL (lo := 0) (hi := 300) (i_nlt h) fi (by decide : rg 300 300 (300 : Int32)) (by decide)
  refine t_ob2 (fun r u => rg 0 1 r ∧ KD rS [] s u) (D_readPair_t hN ks.1) (fun r12 s11 ⟨_, k11⟩ => ?_)
  have k11' := kd_t (S := rS) (J := []) ks k11 (by decide) (by decide)
  refine t_if (fun _ => t_some k11') (fun _ => ?_)
  refine t_ob2 (fun r u => rg (-1) 65535 r ∧ KD [2] [] s11 u ∧ (¬ r = -1 → rg 0 299 (gI u 2 0)) ∧ (gI s11 2 0).toInt ≤ (gI u 2 0).toInt) (Sg_next_s hN k11.1) (fun r14 s13 ⟨_, k13, c13, _⟩ => ?_)
  have k13' := kd_t (S := rS) (J := []) k11' k13 (by decide) (by decide)
  refine t_if (fun h14 => ?_) (fun _ => ?_)
  · refine t_lm (KD rS [] σ) (at1 k13' (by decide) (c13 (by rw [h14]; decide))) (fun s15 e15 k15 => ?_)
    exact ih _ _ ⟨rg_w (lo := 0) (hi := 301) (rg_add (lo := 1) (hi := 301) fi' (by decide : rg 1 1 (1 : Int32)) (by decide)) (by decide), k15⟩ (ms_up fi' (by decide : rg 1 1 (1 : Int32)) (by decide))
  · unfold D_faultOfRound_K51
    exact hK _ k13'
theorem cut0 {σ : Mem} (hm : InvD σ) : f_Sg_cutTo 0 σ = some (1, sI σ 1 0 0) := by
  unfold f_Sg_cutTo
  rw [if_neg (by decide), if_pos (rg_yeG (by decide : rg 0 0 (0 : Int32)) (hm.r1 0) (by decide))]
  rfl
theorem D_round_t {N : Nat} (hN : 8589934592 ≤ N) {σ : Mem} (hm : InvD σ) : tot (f_D_round N σ) (fun q => KD [1, 2, 3, 4, 5, 13, 14] [16] σ q.2 ∧ gI q.2 1 0 = 0) := by
  unfold f_D_round
  refine t_ob2 (fun _ s => KD rS [] σ s) (D_faultOfRound_t hN hm) (fun r2 s1 k1 => ?_)
  rw [cut0 k1.1, ob2_s]
  have k1' := kd_t (S := [1, 2, 3, 4, 5, 13, 14]) (J := [16]) (kd_r hm) k1 (by decide) (by decide)
  have k3 : KD [1, 2, 3, 4, 5, 13, 14] [16] σ (sI s1 1 0 0) := kd_s k1' (by decide) (dS1 k1.1 (by decide))
  have q3 : gI (sI s1 1 0 0) 1 0 = 0 := by rw [gI_sI, if_pos rfl, upd_ap, if_pos rfl]
  refine t_if (fun _ => ?_) (fun _ => t_some ⟨k3, q3⟩)
  refine t_ob2 (fun _ s => KD [3, 5, 13] [16] (sI s1 1 0 0) s) (t_mono (D_startWithSpare_t hN k3.1) (fun q h => h.2)) (fun r6 s5 k5 => ?_)
  refine t_some ⟨kd_t k3 k5 (by decide) (by decide), ?_⟩
  show gI s5 1 0 = 0
  rw [k5.2.1 1 (by decide)]
  exact q3
