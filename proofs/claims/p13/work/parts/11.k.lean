/-! totality by ranges, written by wip/gen/mkauto.py -/
theorem Pa_isKept_t {a1 : Int32} {σ : Mem} (hm : InvD σ) : tot (f_Pa_isKept a1 σ) (fun r => rg 0 1 r) := by
  unfold f_Pa_isKept
  refine t_if (fun h1 => ?_) (fun h1 => ?_)
  · have f2 := (rg_ltL (lo := (-2147483648)) (hi := (-1)) h1 (rg_f _) (by decide : rg 0 0 (0 : Int32)) (by decide))
    exact t_some (rg_w (lo := 0) (hi := 1) (by decide : rg 0 0 (0 : Int32)) (by decide))
  · have f3 := (rg_leR (lo := 0) (hi := 2147483647) (i_nlt h1) (by decide : rg 0 0 (0 : Int32)) (rg_f _) (by decide))
    refine t_if (fun h4 => ?_) (fun h4 => ?_)
    · have f5 := (rg_leR (lo := 2) (hi := 2147483647) h4 (by decide : rg 2 2 (2 : Int32)) f3 (by decide))
      exact t_some (rg_w (lo := 0) (hi := 1) (by decide : rg 0 0 (0 : Int32)) (by decide))
    · have f6 := (rg_ltL (lo := 0) (hi := 1) (i_nle h4) f3 (by decide : rg 2 2 (2 : Int32)) (by decide))
      refine t_gd (inb_rg f6 (by decide)) ?_
      refine t_if (fun h7 => ?_) (fun h7 => ?_)
      · have f8 := (rg_eqL (lo := 0) (hi := 0) h7 (by decide : rg 0 0 (0 : Int32)) (by decide))
        exact t_some (rg_w (lo := 0) (hi := 1) (by decide : rg 0 0 (0 : Int32)) (by decide))
      · exact t_some (rg_w (lo := 0) (hi := 1) (by decide : rg 1 1 (1 : Int32)) (by decide))
theorem Du_packedN_t {N : Nat} (hN : 8589934592 ≤ N) {σ : Mem} (hm : InvD σ) : tot (f_Du_packedN N σ) (fun r => jok r) := by
  unfold f_Du_packedN
  refine t_it2 (fun l1 i2 => rg 0 8 i2) (fun l1 i2 => (8 - i2.toInt).toNat) ?_ _ _ _ (rg_w (lo := 0) (hi := 8) (by decide : rg 0 0 (0 : Int32)) (by decide)) (ms_u0 hN _ (by decide))
  rintro self6 l1 i2 f3 ih5
  unfold Du_packedN_B4
  refine t_if (fun h7 => ?_) (fun h7 => ?_)
  · exact t_some (jok_pk (hm.r3 _))
  · have f8 := (rg_ltL (lo := 0) (hi := 7) (i_nle h7) f3 (hm.r3 _) (by decide))
    have f9 := (rg_ltR (lo := 1) (hi := 8) (i_nle h7) f3 (hm.r3 _) (by decide))
    refine t_le 1 8 (rg_add (lo := 1) (hi := 8) f8 (by decide : rg 1 1 (1 : Int32)) (by decide)) (fun x10 e12 f11 => ?_)
    refine t_it2 (fun l13 i14 => rg 1 8 i14) (fun l13 i14 => (8 - i14.toInt).toNat) ?_ _ _ _ f11 (ms_u0 hN _ (by decide))
    rintro self18 l13 i14 f15 ih17
    unfold Du_packedN_B17
    refine t_if (fun h19 => ?_) (fun h19 => ?_)
    · exact ih5 _ _ (rg_w (lo := 0) (hi := 8) (rg_add (lo := 1) (hi := 8) f8 (by decide : rg 1 1 (1 : Int32)) (by decide)) (by decide)) (ms_up f8 (by decide : rg 1 1 (1 : Int32)) (by decide))
    · have f20 := (rg_ltL (lo := 1) (hi := 7) (i_nle h19) f15 f9 (by decide))
      have f21 := (rg_ltR (lo := 2) (hi := 8) (i_nle h19) f15 f9 (by decide))
      refine t_gd (inb_rg f8 (by decide)) ?_
      refine t_l64 (fun l22 => ?_)
      exact ih17 _ _ (rg_w (lo := 1) (hi := 8) (rg_add (lo := 2) (hi := 8) f20 (by decide : rg 1 1 (1 : Int32)) (by decide)) (by decide)) (ms_up f20 (by decide : rg 1 1 (1 : Int32)) (by decide))
theorem Pa_remember_t {a1 : Int64} (h_a1 : jok a1) {σ : Mem} (hm : InvD σ) : tot (f_Pa_remember a1 σ) (fun s => KD [5] [15] σ s) := by
  unfold f_Pa_remember
  refine t_if (fun h1 => ?_) (fun h1 => ?_)
  · have f2 := (rg_eqL (lo := 10) (hi := 10) h1 (by decide : rg 10 10 (10 : Int32)) (by decide))
    refine t_lm (KD [5] [15] σ) (kd_c (kd_r hm) (by decide) (dC15 hm)) (fun s3 e5 k4 => ?_)
    refine t_lm (KD [5] [15] σ) (kd_s k4 (by decide) (dS5 k4.1 (rg_w (lo := 0) (hi := 10) (rg_sub (lo := 9) (hi := 9) (tr_c e5 f2) (by decide : rg 1 1 (1 : Int32)) (by decide)) (by decide)))) (fun s6 e8 k7 => ?_)
    unfold Pa_remember_J34
    refine t_gd (inb_rg (tr_e e8 (rg_sub (lo := 9) (hi := 9) (tr_c e5 f2) (by decide : rg 1 1 (1 : Int32)) (by decide))) (by decide)) ?_
    refine t_lm (KD [5] [15] σ) (kd_j k7 (by decide) (dJ15 k7.1 h_a1)) (fun s9 e11 k10 => ?_)
    refine t_lm (KD [5] [15] σ) (kd_s k10 (by decide) (dS5 k10.1 (rg_w (lo := 0) (hi := 10) (rg_add (lo := 10) (hi := 10) (tr_j e11 (tr_e e8 (rg_sub (lo := 9) (hi := 9) (tr_c e5 f2) (by decide : rg 1 1 (1 : Int32)) (by decide)))) (by decide : rg 1 1 (1 : Int32)) (by decide)) (by decide)))) (fun s12 e14 k13 => ?_)
    exact t_some k13
  · have f15 := (rg_neL (lo := 0) (hi := 9) h1 (hm.r5 _) (by decide : rg 10 10 (10 : Int32)) (by decide))
    unfold Pa_remember_J34
    refine t_gd (inb_rg f15 (by decide)) ?_
    refine t_lm (KD [5] [15] σ) (kd_j (kd_r hm) (by decide) (dJ15 hm h_a1)) (fun s16 e18 k17 => ?_)
    refine t_lm (KD [5] [15] σ) (kd_s k17 (by decide) (dS5 k17.1 (rg_w (lo := 0) (hi := 10) (rg_add (lo := 1) (hi := 10) (tr_j e18 f15) (by decide : rg 1 1 (1 : Int32)) (by decide)) (by decide)))) (fun s19 e21 k20 => ?_)
    exact t_some k20
theorem Du_clearN_t {N : Nat} (hN : 8589934592 ≤ N) {σ : Mem} (hm : InvD σ) : tot (f_Du_clearN N σ) (fun s => KD [3, 13] [] σ s) := by
  unfold f_Du_clearN
  refine t_lm (KD [3, 13] [] σ) (kd_s (kd_r hm) (by decide) (dS3 hm (rg_w (lo := 0) (hi := 8) (by decide : rg 0 0 (0 : Int32)) (by decide)))) (fun s1 e3 k2 => ?_)
  refine t_it2 (fun i4 s6 => rg 0 8 i4 ∧ KD [3, 13] [] σ s6) (fun i4 s6 => (8 - i4.toInt).toNat) ?_ _ _ _ ⟨(rg_w (lo := 0) (hi := 8) (by decide : rg 0 0 (0 : Int32)) (by decide)), k2⟩ (ms_u0 hN _ (by decide))
  rintro self10 i4 s6 ⟨f5, k7⟩ ih9
  unfold Du_clearN_B7
  refine t_if (fun h11 => ?_) (fun h11 => ?_)
  · have f12 := (rg_leR (lo := 8) (hi := 8) h11 (by decide : rg 8 8 (8 : Int32)) f5 (by decide))
    exact t_some k7
  · have f13 := (rg_ltL (lo := 0) (hi := 7) (i_nle h11) f5 (by decide : rg 8 8 (8 : Int32)) (by decide))
    refine t_gd (inb_rg f13 (by decide)) ?_
    refine t_lm (KD [3, 13] [] σ) (kd_s k7 (by decide) (dS13 k7.1 (rg_w (lo := 0) (hi := 255) (by decide : rg 0 0 (0 : Int32)) (by decide)))) (fun s14 e16 k15 => ?_)
    exact ih9 _ _ ⟨(rg_w (lo := 0) (hi := 8) (rg_add (lo := 1) (hi := 8) f13 (by decide : rg 1 1 (1 : Int32)) (by decide)) (by decide)), k15⟩ (ms_up f13 (by decide : rg 1 1 (1 : Int32)) (by decide))
theorem Du_letBeatN_t {a1 : Int32} (h_a1 : rg 0 7 a1) {a2 : Int32} (h_a2 : rg 0 7 a2) {σ : Mem} (hm : InvD σ) : tot (f_Du_letBeatN a1 a2 σ) (fun s => KD [13] [] σ s) := by
  unfold f_Du_letBeatN
  refine t_gd (inb_rg h_a1 (by decide)) ?_
  refine t_gd (inb_rg h_a1 (by decide)) ?_
  refine t_lm (KD [13] [] σ) (kd_s (kd_r hm) (by decide) (dS13 hm (rg_or (lo := 0) (hi := 255) 8 (hm.r13 _) (rg_w (lo := 0) (hi := 128) (rg_shl1 (lo := 1) (hi := 128) 7 h_a2 (by decide)) (by decide)) (by decide)))) (fun s1 e3 k2 => ?_)
  refine t_gd (inb_rg h_a2 (by decide)) ?_
  refine t_gd (inb_rg h_a2 (by decide)) ?_
  refine t_lm (KD [13] [] σ) (kd_s k2 (by decide) (dS13 k2.1 (rg_andl (lo := 0) (hi := 255) _ (k2.1.r13 _) (by decide)))) (fun s4 e6 k5 => ?_)
  exact t_some k5
theorem Du_unpackN_t {N : Nat} (hN : 8589934592 ≤ N) {a1 : Int64} (h_a1 : jok a1) {σ : Mem} (hm : InvD σ) : tot (f_Du_unpackN N a1 σ) (fun s => KD [3, 13] [] σ s) := by
  unfold f_Du_unpackN
  refine t_ob _ (Du_clearN_t hN hm) (fun s1 k2 => ?_)
  have k3 := kd_t (S := [3, 13]) (J := []) (kd_r hm) k2 (by decide) (by decide)
  refine t_le 0 8 h_a1 (fun x4 e6 f5 => ?_)
  refine t_l64 (fun l7 => ?_)
  refine t_le (-1) 7 (rg_sub (lo := (-1)) (hi := 7) f5 (by decide : rg 1 1 (1 : Int32)) (by decide)) (fun x8 e10 f9 => ?_)
  refine t_it3 (fun l11 i12 s14 => rg (-1) 7 i12 ∧ KD [3, 13] [] σ s14) (fun l11 i12 s14 => (i12.toInt - (-1)).toNat) ?_ _ _ _ _ ⟨f9, k3⟩ (ms_d0 hN _ (by decide))
  rintro self18 l11 i12 s14 ⟨f13, k15⟩ ih17
  unfold Du_unpackN_B21
  refine t_if (fun h19 => ?_) (fun h19 => ?_)
  · have f20 := (rg_ltL (lo := (-1)) (hi := (-1)) h19 f13 (by decide : rg 0 0 (0 : Int32)) (by decide))
    unfold Du_unpackN_K84
    refine t_lm (KD [3, 13] [] σ) (kd_s k15 (by decide) (dS3 k15.1 f5)) (fun s21 e23 k22 => ?_)
    exact t_some k22
  · have f24 := (rg_leR (lo := 0) (hi := 7) (i_nlt h19) (by decide : rg 0 0 (0 : Int32)) f13 (by decide))
    refine t_le (-1) 7 (rg_sub (lo := (-1)) (hi := 7) f5 (by decide : rg 1 1 (1 : Int32)) (by decide)) (fun x25 e27 f26 => ?_)
    refine t_it3 (fun l28 i29 s31 => rg (-1) 7 i29 ∧ KD [3, 13] [] σ s31) (fun l28 i29 s31 => (i29.toInt - 0).toNat) ?_ _ _ _ _ ⟨f26, k15⟩ (ms_d0 hN _ (by decide))
    rintro self35 l28 i29 s31 ⟨f30, k32⟩ ih34
    unfold Du_unpackN_B31
    refine t_if (fun h36 => ?_) (fun h36 => ?_)
    · exact ih17 _ _ _ ⟨(rg_w (lo := (-1)) (hi := 7) (rg_add (lo := (-1)) (hi := 6) f24 (by decide : rg (-1) (-1) (-1 : Int32)) (by decide)) (by decide)), k32⟩ (ms_dn f24 (by decide : rg (-1) (-1) (-1 : Int32)) (by decide))
    · have f37 := (rg_ltL (lo := 0) (hi := 6) (i_nle h36) f24 f30 (by decide))
      have f38 := (rg_ltR (lo := 1) (hi := 7) (i_nle h36) f24 f30 (by decide))
      refine t_if (fun h39 => ?_) (fun h39 => ?_)
      · have f40 := (rg_eqL (lo := 0) (hi := 0) h39 (by decide : rg 0 0 (0 : Int32)) (by decide))
        refine t_ob _ (Du_letBeatN_t (rg_w (lo := 0) (hi := 7) f37 (by decide)) (rg_w (lo := 0) (hi := 7) f38 (by decide)) k32.1) (fun s41 k42 => ?_)
        have k43 := kd_t (S := [3, 13]) (J := []) k32 k42 (by decide) (by decide)
        refine t_l64 (fun l44 => ?_)
        exact ih34 _ _ _ ⟨(rg_w (lo := (-1)) (hi := 7) (rg_add (lo := 0) (hi := 6) f38 (by decide : rg (-1) (-1) (-1 : Int32)) (by decide)) (by decide)), k43⟩ (ms_dn f38 (by decide : rg (-1) (-1) (-1 : Int32)) (by decide))
      · refine t_ob _ (Du_letBeatN_t (rg_w (lo := 0) (hi := 7) f38 (by decide)) (rg_w (lo := 0) (hi := 7) f37 (by decide)) k32.1) (fun s45 k46 => ?_)
        have k47 := kd_t (S := [3, 13]) (J := []) k32 k46 (by decide) (by decide)
        refine t_l64 (fun l48 => ?_)
        exact ih34 _ _ _ ⟨(rg_w (lo := (-1)) (hi := 7) (rg_add (lo := 0) (hi := 6) f38 (by decide : rg (-1) (-1) (-1 : Int32)) (by decide)) (by decide)), k47⟩ (ms_dn f38 (by decide : rg (-1) (-1) (-1 : Int32)) (by decide))
theorem Du_clearS_t {N : Nat} (hN : 8589934592 ≤ N) {σ : Mem} (hm : InvD σ) : tot (f_Du_clearS N σ) (fun s => KD [4, 14] [] σ s) := by
  unfold f_Du_clearS
  refine t_lm (KD [4, 14] [] σ) (kd_s (kd_r hm) (by decide) (dS4 hm (rg_w (lo := 0) (hi := 8) (by decide : rg 0 0 (0 : Int32)) (by decide)))) (fun s1 e3 k2 => ?_)
  refine t_it2 (fun i4 s6 => rg 0 8 i4 ∧ KD [4, 14] [] σ s6) (fun i4 s6 => (8 - i4.toInt).toNat) ?_ _ _ _ ⟨(rg_w (lo := 0) (hi := 8) (by decide : rg 0 0 (0 : Int32)) (by decide)), k2⟩ (ms_u0 hN _ (by decide))
  rintro self10 i4 s6 ⟨f5, k7⟩ ih9
  unfold Du_clearS_B7
  refine t_if (fun h11 => ?_) (fun h11 => ?_)
  · have f12 := (rg_leR (lo := 8) (hi := 8) h11 (by decide : rg 8 8 (8 : Int32)) f5 (by decide))
    exact t_some k7
  · have f13 := (rg_ltL (lo := 0) (hi := 7) (i_nle h11) f5 (by decide : rg 8 8 (8 : Int32)) (by decide))
    refine t_gd (inb_rg f13 (by decide)) ?_
    refine t_lm (KD [4, 14] [] σ) (kd_s k7 (by decide) (dS14 k7.1 (rg_w (lo := 0) (hi := 255) (by decide : rg 0 0 (0 : Int32)) (by decide)))) (fun s14 e16 k15 => ?_)
    exact ih9 _ _ ⟨(rg_w (lo := 0) (hi := 8) (rg_add (lo := 1) (hi := 8) f13 (by decide : rg 1 1 (1 : Int32)) (by decide)) (by decide)), k15⟩ (ms_up f13 (by decide : rg 1 1 (1 : Int32)) (by decide))
theorem Du_letBeatS_t {a1 : Int32} (h_a1 : rg 0 7 a1) {a2 : Int32} (h_a2 : rg 0 7 a2) {σ : Mem} (hm : InvD σ) : tot (f_Du_letBeatS a1 a2 σ) (fun s => KD [14] [] σ s) := by
  unfold f_Du_letBeatS
  refine t_gd (inb_rg h_a1 (by decide)) ?_
  refine t_gd (inb_rg h_a1 (by decide)) ?_
  refine t_lm (KD [14] [] σ) (kd_s (kd_r hm) (by decide) (dS14 hm (rg_or (lo := 0) (hi := 255) 8 (hm.r14 _) (rg_w (lo := 0) (hi := 128) (rg_shl1 (lo := 1) (hi := 128) 7 h_a2 (by decide)) (by decide)) (by decide)))) (fun s1 e3 k2 => ?_)
  refine t_gd (inb_rg h_a2 (by decide)) ?_
  refine t_gd (inb_rg h_a2 (by decide)) ?_
  refine t_lm (KD [14] [] σ) (kd_s k2 (by decide) (dS14 k2.1 (rg_andl (lo := 0) (hi := 255) _ (k2.1.r14 _) (by decide)))) (fun s4 e6 k5 => ?_)
  exact t_some k5
theorem Du_unpackS_t {N : Nat} (hN : 8589934592 ≤ N) {a1 : Int64} (h_a1 : jok a1) {σ : Mem} (hm : InvD σ) : tot (f_Du_unpackS N a1 σ) (fun s => KD [4, 14] [] σ s) := by
  unfold f_Du_unpackS
  refine t_ob _ (Du_clearS_t hN hm) (fun s1 k2 => ?_)
  have k3 := kd_t (S := [4, 14]) (J := []) (kd_r hm) k2 (by decide) (by decide)
  refine t_le 0 8 h_a1 (fun x4 e6 f5 => ?_)
  refine t_l64 (fun l7 => ?_)
  refine t_le (-1) 7 (rg_sub (lo := (-1)) (hi := 7) f5 (by decide : rg 1 1 (1 : Int32)) (by decide)) (fun x8 e10 f9 => ?_)
  refine t_it3 (fun l11 i12 s14 => rg (-1) 7 i12 ∧ KD [4, 14] [] σ s14) (fun l11 i12 s14 => (i12.toInt - (-1)).toNat) ?_ _ _ _ _ ⟨f9, k3⟩ (ms_d0 hN _ (by decide))
  rintro self18 l11 i12 s14 ⟨f13, k15⟩ ih17
  unfold Du_unpackS_B21
  refine t_if (fun h19 => ?_) (fun h19 => ?_)
  · have f20 := (rg_ltL (lo := (-1)) (hi := (-1)) h19 f13 (by decide : rg 0 0 (0 : Int32)) (by decide))
    unfold Du_unpackS_K84
    refine t_lm (KD [4, 14] [] σ) (kd_s k15 (by decide) (dS4 k15.1 f5)) (fun s21 e23 k22 => ?_)
    exact t_some k22
  · have f24 := (rg_leR (lo := 0) (hi := 7) (i_nlt h19) (by decide : rg 0 0 (0 : Int32)) f13 (by decide))
    refine t_le (-1) 7 (rg_sub (lo := (-1)) (hi := 7) f5 (by decide : rg 1 1 (1 : Int32)) (by decide)) (fun x25 e27 f26 => ?_)
    refine t_it3 (fun l28 i29 s31 => rg (-1) 7 i29 ∧ KD [4, 14] [] σ s31) (fun l28 i29 s31 => (i29.toInt - 0).toNat) ?_ _ _ _ _ ⟨f26, k15⟩ (ms_d0 hN _ (by decide))
    rintro self35 l28 i29 s31 ⟨f30, k32⟩ ih34
    unfold Du_unpackS_B31
    refine t_if (fun h36 => ?_) (fun h36 => ?_)
    · exact ih17 _ _ _ ⟨(rg_w (lo := (-1)) (hi := 7) (rg_add (lo := (-1)) (hi := 6) f24 (by decide : rg (-1) (-1) (-1 : Int32)) (by decide)) (by decide)), k32⟩ (ms_dn f24 (by decide : rg (-1) (-1) (-1 : Int32)) (by decide))
    · have f37 := (rg_ltL (lo := 0) (hi := 6) (i_nle h36) f24 f30 (by decide))
      have f38 := (rg_ltR (lo := 1) (hi := 7) (i_nle h36) f24 f30 (by decide))
      refine t_if (fun h39 => ?_) (fun h39 => ?_)
      · have f40 := (rg_eqL (lo := 0) (hi := 0) h39 (by decide : rg 0 0 (0 : Int32)) (by decide))
        refine t_ob _ (Du_letBeatS_t (rg_w (lo := 0) (hi := 7) f37 (by decide)) (rg_w (lo := 0) (hi := 7) f38 (by decide)) k32.1) (fun s41 k42 => ?_)
        have k43 := kd_t (S := [4, 14]) (J := []) k32 k42 (by decide) (by decide)
        refine t_l64 (fun l44 => ?_)
        exact ih34 _ _ _ ⟨(rg_w (lo := (-1)) (hi := 7) (rg_add (lo := 0) (hi := 6) f38 (by decide : rg (-1) (-1) (-1 : Int32)) (by decide)) (by decide)), k43⟩ (ms_dn f38 (by decide : rg (-1) (-1) (-1 : Int32)) (by decide))
      · refine t_ob _ (Du_letBeatS_t (rg_w (lo := 0) (hi := 7) f38 (by decide)) (rg_w (lo := 0) (hi := 7) f37 (by decide)) k32.1) (fun s45 k46 => ?_)
        have k47 := kd_t (S := [4, 14]) (J := []) k32 k46 (by decide) (by decide)
        refine t_l64 (fun l48 => ?_)
        exact ih34 _ _ _ ⟨(rg_w (lo := (-1)) (hi := 7) (rg_add (lo := 0) (hi := 6) f38 (by decide : rg (-1) (-1) (-1 : Int32)) (by decide)) (by decide)), k47⟩ (ms_dn f38 (by decide : rg (-1) (-1) (-1 : Int32)) (by decide))
theorem Du_isBeatingN_t {a1 : Int32} (h_a1 : rg 0 7 a1) {a2 : Int32} {σ : Mem} (hm : InvD σ) : tot (f_Du_isBeatingN a1 a2 σ) (fun r => rg 0 1 r) := by
  unfold f_Du_isBeatingN
  refine t_gd (inb_rg h_a1 (by decide)) ?_
  refine t_if (fun h1 => ?_) (fun h1 => ?_)
  · have f2 := (rg_eqL (lo := 1) (hi := 1) h1 (by decide : rg 1 1 (1 : Int32)) (by decide))
    exact t_some (rg_w (lo := 0) (hi := 1) (by decide : rg 1 1 (1 : Int32)) (by decide))
  · have f3 := (rg_neL (lo := 0) (hi := 0) h1 (rg_andr (lo := 0) (hi := 1) _ (rg_w (lo := 0) (hi := 1) (by decide : rg 1 1 (1 : Int32)) (by decide)) (by decide)) (by decide : rg 1 1 (1 : Int32)) (by decide))
    exact t_some (rg_w (lo := 0) (hi := 1) (by decide : rg 0 0 (0 : Int32)) (by decide))
theorem Du_isBeatingS_t {a1 : Int32} (h_a1 : rg 0 7 a1) {a2 : Int32} (h_a2 : rg 0 7 a2) {σ : Mem} (hm : InvD σ) : tot (f_Du_isBeatingS a1 a2 σ) (fun r => rg 0 1 r) := by
  unfold f_Du_isBeatingS
  refine t_gd (inb_rg h_a1 (by decide)) ?_
  refine t_if (fun h1 => ?_) (fun h1 => ?_)
  · have f2 := (rg_eqL (lo := 1) (hi := 1) h1 (by decide : rg 1 1 (1 : Int32)) (by decide))
    exact t_some (rg_w (lo := 0) (hi := 1) (by decide : rg 1 1 (1 : Int32)) (by decide))
  · have f3 := (rg_neL (lo := 0) (hi := 0) h1 (rg_andr (lo := 0) (hi := 1) _ (rg_w (lo := 0) (hi := 1) (by decide : rg 1 1 (1 : Int32)) (by decide)) (by decide)) (by decide : rg 1 1 (1 : Int32)) (by decide))
    exact t_some (rg_w (lo := 0) (hi := 1) (by decide : rg 0 0 (0 : Int32)) (by decide))
theorem Na_isFittingNS_t {N : Nat} (hN : 8589934592 ≤ N) {a1 : Int32} (h_a1 : rg 0 7 a1) {a2 : Int32} (h_a2 : rg 0 7 a2) {σ : Mem} (hm : InvD σ) : tot (f_Na_isFittingNS N a1 a2 σ) (fun r => rg 0 1 r) := by
  unfold f_Na_isFittingNS
  refine t_it1 (fun i1 => rg 0 7 i1) (fun i1 => (7 - i1.toInt).toNat) ?_ _ _ (rg_w (lo := 0) (hi := 7) (by decide : rg 0 0 (0 : Int32)) (by decide)) (ms_u0 hN _ (by decide))
  rintro self5 i1 f2 ih4
  unfold Na_isFittingNS_B3
  refine t_if (fun h6 => ?_) (fun h6 => ?_)
  · exact t_some (rg_w (lo := 0) (hi := 1) (by decide : rg 1 1 (1 : Int32)) (by decide))
  · have f7 := (rg_ltL (lo := 0) (hi := 6) (i_nle h6) f2 h_a1 (by decide))
    have f8 := (rg_ltR (lo := 1) (hi := 7) (i_nle h6) f2 h_a1 (by decide))
    refine t_ob _ (Du_isBeatingN_t (rg_w (lo := 0) (hi := 7) f8 (by decide)) hm) (fun x9 f10 => ?_)
    refine t_gd (inb_rg f7 (by decide)) ?_
    refine t_ob _ (Du_isBeatingS_t h_a2 (hm.r27 _) hm) (fun x11 f12 => ?_)
    refine t_if (fun h13 => ?_) (fun h13 => ?_)
    · exact ih4 _ (rg_w (lo := 0) (hi := 7) (rg_add (lo := 1) (hi := 7) f7 (by decide : rg 1 1 (1 : Int32)) (by decide)) (by decide)) (ms_up f7 (by decide : rg 1 1 (1 : Int32)) (by decide))
    · exact t_some (rg_w (lo := 0) (hi := 1) (by decide : rg 0 0 (0 : Int32)) (by decide))
theorem Na_waysFromNS_t {N : Nat} (hN : 8589934592 ≤ N) {a1 : Int32} (h_a1 : rg 0 0 a1) {a2 : Int32} (h_a2 : rg 0 0 a2) {σ : Mem} (hm : InvD σ) : tot (f_Na_waysFromNS N 10 a1 a2 σ) (fun q => rg (-2147483648) 2147483647 q.1 ∧ KD [27] [] σ q.2) := by
  unfold f_Na_waysFromNS
  refine t_it3 (fun i1 i3 s5 => rg 0 8 i1 ∧ rg 0 255 i3 ∧ KD [27] [] σ s5) (fun i1 i3 s5 => (8 - i1.toInt).toNat) ?_ _ _ _ _ ⟨(rg_w (lo := 0) (hi := 8) h_a1 (by decide)), (rg_w (lo := 0) (hi := 255) h_a2 (by decide)), (kd_r hm)⟩ (ms_fu h_a1 (by decide))
  rintro self9 i1 i3 s5 ⟨f2, f4, k6⟩ ih8
  unfold Na_waysFromNS_R
  refine t_if (fun h10 => ?_) (fun h10 => ?_)
  · have f11 := (rg_ltL (lo := 0) (hi := 7) h10 f2 (k6.1.r3 _) (by decide))
    have f12 := (rg_ltR (lo := 1) (hi := 8) h10 f2 (k6.1.r3 _) (by decide))
    refine t_it3 (fun i13 i14 s16 => rg 0 8 i14 ∧ KD [27] [] σ s16) (fun i13 i14 s16 => (8 - i14.toInt).toNat) ?_ _ _ _ _ ⟨(rg_w (lo := 0) (hi := 8) (by decide : rg 0 0 (0 : Int32)) (by decide)), k6⟩ (ms_u0 hN _ (by decide))
    rintro self20 i13 i14 s16 ⟨f15, k17⟩ ih19
    unfold Na_waysFromNS_B16
    refine t_if (fun h21 => ?_) (fun h21 => ?_)
    · exact t_some ⟨(rg_f _), k17⟩
    · have f22 := (rg_ltL (lo := 0) (hi := 7) (i_nle h21) f15 (k17.1.r4 _) (by decide))
      have f23 := (rg_ltR (lo := 1) (hi := 8) (i_nle h21) f15 (k17.1.r4 _) (by decide))
      refine t_if (fun h24 => ?_) (fun h24 => ?_)
      · refine t_ob _ (Na_isFittingNS_t hN f11 f22 k17.1) (fun x25 f26 => ?_)
        refine t_if (fun h27 => ?_) (fun h27 => ?_)
        · have f28 := (rg_eqL (lo := 0) (hi := 0) h27 (by decide : rg 0 0 (0 : Int32)) (by decide))
          exact ih19 _ _ _ ⟨(rg_w (lo := 0) (hi := 8) (rg_add (lo := 1) (hi := 8) f22 (by decide : rg 1 1 (1 : Int32)) (by decide)) (by decide)), k17⟩ (ms_up f22 (by decide : rg 1 1 (1 : Int32)) (by decide))
        · have f29 := (rg_neL (lo := 1) (hi := 1) h27 f26 (by decide : rg 0 0 (0 : Int32)) (by decide))
          refine t_gd (inb_rg f11 (by decide)) ?_
          refine t_lm (KD [27] [] σ) (kd_s k17 (by decide) (dS27 k17.1 f22)) (fun s30 e32 k31 => ?_)
          refine t_ob2 (fun r s => rg (-2147483648) 2147483647 r ∧ KD [27] [] σ s) (ih8 _ _ _ ⟨(rg_w (lo := 0) (hi := 8) (rg_add (lo := 1) (hi := 8) f11 (by decide : rg 1 1 (1 : Int32)) (by decide)) (by decide)), (rg_or (lo := 0) (hi := 255) 8 f4 (rg_w (lo := 0) (hi := 128) (rg_shl1 (lo := 1) (hi := 128) 7 f22 (by decide)) (by decide)) (by decide)), k31⟩ (ms_up f11 (by decide : rg 1 1 (1 : Int32)) (by decide))) (fun x36 s33 ⟨f37, k34⟩ => ?_)
          refine t_le (-2147483648) 2147483647 (rg_f _) (fun x38 e40 f39 => ?_)
          exact ih19 _ _ _ ⟨(rg_w (lo := 0) (hi := 8) (rg_add (lo := 1) (hi := 8) f22 (by decide : rg 1 1 (1 : Int32)) (by decide)) (by decide)), k34⟩ (ms_up f22 (by decide : rg 1 1 (1 : Int32)) (by decide))
      · exact ih19 _ _ _ ⟨(rg_w (lo := 0) (hi := 8) (rg_add (lo := 1) (hi := 8) f22 (by decide : rg 1 1 (1 : Int32)) (by decide)) (by decide)), k17⟩ (ms_up f22 (by decide : rg 1 1 (1 : Int32)) (by decide))
  · exact t_some ⟨(rg_f _), k6⟩
theorem Na_waysToRenameNS_t {N : Nat} (hN : 8589934592 ≤ N) {σ : Mem} (hm : InvD σ) : tot (f_Na_waysToRenameNS N σ) (fun q => rg (-2147483648) 2147483647 q.1 ∧ KD [27] [] σ q.2) := by
  unfold f_Na_waysToRenameNS
  refine t_if (fun h1 => ?_) (fun h1 => ?_)
  · refine t_ob2 (fun r s => rg (-2147483648) 2147483647 r ∧ KD [27] [] σ s) (Na_waysFromNS_t hN (by decide : rg 0 0 (0 : Int32)) (by decide : rg 0 0 (0 : Int32)) hm) (fun x5 s2 ⟨f6, k3⟩ => ?_)
    have k4 := kd_t (S := [27]) (J := []) (kd_r hm) k3 (by decide) (by decide)
    exact t_some ⟨(rg_f _), k4⟩
  · exact t_some ⟨(rg_f _), (kd_r hm)⟩
theorem Du_arrowsUnlikeN_t {N : Nat} (hN : 8589934592 ≤ N) {σ : Mem} (hm : InvD σ) : tot (f_Du_arrowsUnlikeN N σ) (fun r => rg (-2147483648) 2147483647 r) := by
  unfold f_Du_arrowsUnlikeN
  refine t_le 0 255 (rg_sub (lo := 0) (hi := 255) (rg_shl1 (lo := 1) (hi := 256) 8 (rg_ite (lo := 0) (hi := 8) (fun hc4 => (rg_w (lo := 0) (hi := 8) (rg_ltL (lo := 0) (hi := 7) hc4 (hm.r4 _) (hm.r3 _) (by decide)) (by decide))) (fun hc4 => (hm.r3 _))) (by decide)) (by decide : rg 1 1 (1 : Int32)) (by decide)) (fun x1 e3 f2 => ?_)
  refine t_it2 (fun i5 i6 => rg 0 8 i6) (fun i5 i6 => (8 - i6.toInt).toNat) ?_ _ _ _ (rg_w (lo := 0) (hi := 8) (by decide : rg 0 0 (0 : Int32)) (by decide)) (ms_u0 hN _ (by decide))
  rintro self10 i5 i6 f7 ih9
  unfold Du_arrowsUnlikeN_B21
  refine t_if (fun h11 => ?_) (fun h11 => ?_)
  · have f12 := (rg_leR (lo := 8) (hi := 8) h11 (by decide : rg 8 8 (8 : Int32)) f7 (by decide))
    exact t_some (rg_f _)
  · have f13 := (rg_ltL (lo := 0) (hi := 7) (i_nle h11) f7 (by decide : rg 8 8 (8 : Int32)) (by decide))
    refine t_if (fun h14 => ?_) (fun h14 => ?_)
    · have f15 := (rg_eqL (lo := 1) (hi := 1) h14 (by decide : rg 1 1 (1 : Int32)) (by decide))
      refine t_gd (inb_rg f13 (by decide)) ?_
      refine t_gd (inb_rg f13 (by decide)) ?_
      refine t_le (-2147483648) 2147483647 (rg_f _) (fun x16 e18 f17 => ?_)
      exact ih9 _ _ (rg_w (lo := 0) (hi := 8) (rg_add (lo := 1) (hi := 8) f13 (by decide : rg 1 1 (1 : Int32)) (by decide)) (by decide)) (ms_up f13 (by decide : rg 1 1 (1 : Int32)) (by decide))
    · have f19 := (rg_neL (lo := 0) (hi := 0) h14 (rb_bit _ _) (by decide : rg 1 1 (1 : Int32)) (by decide))
      exact ih9 _ _ (rg_w (lo := 0) (hi := 8) (rg_add (lo := 1) (hi := 8) f13 (by decide : rg 1 1 (1 : Int32)) (by decide)) (by decide)) (ms_up f13 (by decide : rg 1 1 (1 : Int32)) (by decide))
theorem D_beaten_t {a1 : Int32} {a2 : Int32} {σ : Mem} (hm : InvD σ) : tot (f_D_beaten a1 a2 σ) (fun r => rg (-1) 255 r) := by
  unfold f_D_beaten
  refine t_if (fun h1 => ?_) (fun h1 => ?_)
  · exact t_some (rg_w (lo := (-1)) (hi := 255) (by decide : rg (-1) (-1) (-1 : Int32)) (by decide))
  · have f2 := (c_pl h1 hm)
    have f3 := (c_pl1 h1 hm)
    refine t_if (fun h4 => ?_) (fun h4 => ?_)
    · exact t_some (rg_w (lo := (-1)) (hi := 255) (by decide : rg (-1) (-1) (-1 : Int32)) (by decide))
    · have f5 := (c_ps h4 hm)
      refine t_gd (inb_rg f2 (by decide)) ?_
      exact t_some (rg_w (lo := (-1)) (hi := 255) (rg_andl (lo := 0) (hi := 255) _ (hm.r13 _) (by decide)) (by decide))
theorem Or_turnedWithFirst_t {a1 : Int32} (h_a1 : rg 0 7 a1) {a2 : Int32} (h_a2 : rg 0 255 a2) {σ : Mem} (hm : InvD σ) : tot (f_Or_turnedWithFirst a1 a2 σ) (fun r => rg (-2147483648) 2147483647 r) := by
  unfold f_Or_turnedWithFirst
  refine t_le 0 255 (rg_andl (lo := 0) (hi := 255) _ h_a2 (by decide)) (fun x1 e3 f2 => ?_)
  refine t_gd (inb_rg f2 (by decide)) ?_
  refine t_gd (inb_rg h_a1 (by decide)) ?_
  exact t_some (rg_f _)
theorem Or_measure_t {N : Nat} (hN : 8589934592 ≤ N) {a1 : Int32} (h_a1 : rg 0 255 a1) {σ : Mem} (hm : InvD σ) : tot (f_Or_measure N a1 σ) (fun s => KD [17, 18] [] σ s) := by
  unfold f_Or_measure
  refine t_lm (KD [17, 18] [] σ) (kd_s (kd_r hm) (by decide) (dS17 hm)) (fun s1 e3 k2 => ?_)
  refine t_lm (KD [17, 18] [] σ) (kd_s k2 (by decide) (dS18 k2.1)) (fun s4 e6 k5 => ?_)
  refine t_it2 (fun i7 s9 => rg 1 256 i7 ∧ KD [17, 18] [] σ s9) (fun i7 s9 => (256 - i7.toInt).toNat) ?_ _ _ _ ⟨(rg_w (lo := 1) (hi := 256) (by decide : rg 1 1 (1 : Int32)) (by decide)), k5⟩ (ms_u0 hN _ (by decide))
  rintro self13 i7 s9 ⟨f8, k10⟩ ih12
  unfold Or_measure_B16
  refine t_if (fun h14 => ?_) (fun h14 => ?_)
  · exact t_some k10
  · have f15 := (rg_leL (lo := 1) (hi := 255) (i_nlt h14) f8 h_a1 (by decide))
    have f16 := (rg_leR (lo := 1) (hi := 255) (i_nlt h14) f8 h_a1 (by decide))
    refine t_if (fun h17 => ?_) (fun h17 => ?_)
    · refine t_gd (inb_rg f15 (by decide)) ?_
      refine t_lm (KD [17, 18] [] σ) (kd_s k10 (by decide) (dS17 k10.1)) (fun s18 e20 k19 => ?_)
      refine t_gd (inb_rg f15 (by decide)) ?_
      refine t_lm (KD [17, 18] [] σ) (kd_s k19 (by decide) (dS18 k19.1)) (fun s21 e23 k22 => ?_)
      refine t_it2 (fun i24 s26 => rg 0 8 i24 ∧ KD [17, 18] [] σ s26) (fun i24 s26 => (8 - i24.toInt).toNat) ?_ _ _ _ ⟨(rg_w (lo := 0) (hi := 8) (by decide : rg 0 0 (0 : Int32)) (by decide)), k22⟩ (ms_u0 hN _ (by decide))
      rintro self30 i24 s26 ⟨f25, k27⟩ ih29
      unfold Or_measure_B49
      refine t_if (fun h31 => ?_) (fun h31 => ?_)
      · exact ih12 _ _ ⟨(rg_w (lo := 1) (hi := 256) (rg_add (lo := 2) (hi := 256) f15 (by decide : rg 1 1 (1 : Int32)) (by decide)) (by decide)), k27⟩ (ms_up f15 (by decide : rg 1 1 (1 : Int32)) (by decide))
      · have f32 := (rg_ltL (lo := 0) (hi := 7) (i_nle h31) f25 (k27.1.r3 _) (by decide))
        have f33 := (rg_ltR (lo := 1) (hi := 8) (i_nle h31) f25 (k27.1.r3 _) (by decide))
        refine t_if (fun h34 => ?_) (fun h34 => ?_)
        · exact ih29 _ _ ⟨(rg_w (lo := 0) (hi := 8) (rg_add (lo := 1) (hi := 8) f32 (by decide : rg 1 1 (1 : Int32)) (by decide)) (by decide)), k27⟩ (ms_up f32 (by decide : rg 1 1 (1 : Int32)) (by decide))
        · refine t_ob _ (Or_turnedWithFirst_t f32 (rg_w (lo := 0) (hi := 255) f15 (by decide)) k27.1) (fun x35 f36 => ?_)
          refine t_gd (inb_rg f15 (by decide)) ?_
          refine t_if (fun h37 => ?_) (fun h37 => ?_)
          · unfold Or_measure_J105
            refine t_gd (inb_rg f15 (by decide)) ?_
            refine t_if (fun h38 => ?_) (fun h38 => ?_)
            · refine t_gd (inb_rg f15 (by decide)) ?_
              refine t_gd (inb_rg (rg_andl (lo := 0) (hi := 255) _ (rg_w (lo := 0) (hi := 255) f15 (by decide)) (by decide)) (by decide)) ?_
              refine t_gd (inb_rg f15 (by decide)) ?_
              refine t_lm (KD [17, 18] [] σ) (kd_s k27 (by decide) (dS18 k27.1)) (fun s39 e41 k40 => ?_)
              exact ih29 _ _ ⟨(rg_w (lo := 0) (hi := 8) (rg_add (lo := 1) (hi := 8) f32 (by decide : rg 1 1 (1 : Int32)) (by decide)) (by decide)), k40⟩ (ms_up f32 (by decide : rg 1 1 (1 : Int32)) (by decide))
            · exact ih29 _ _ ⟨(rg_w (lo := 0) (hi := 8) (rg_add (lo := 1) (hi := 8) f32 (by decide : rg 1 1 (1 : Int32)) (by decide)) (by decide)), k27⟩ (ms_up f32 (by decide : rg 1 1 (1 : Int32)) (by decide))
          · have f42 := (rg_ltL (lo := (-2147483648)) (hi := 2147483646) (i_nle h37) (rg_f _) (rg_f _) (by decide))
            have f43 := (rg_ltR (lo := (-2147483647)) (hi := 2147483647) (i_nle h37) (rg_f _) (rg_f _) (by decide))
            refine t_gd (inb_rg f15 (by decide)) ?_
            refine t_lm (KD [17, 18] [] σ) (kd_s k27 (by decide) (dS17 k27.1)) (fun s44 e46 k45 => ?_)
            refine t_gd (inb_rg f15 (by decide)) ?_
            refine t_lm (KD [17, 18] [] σ) (kd_s k45 (by decide) (dS18 k45.1)) (fun s47 e49 k48 => ?_)
            unfold Or_measure_J105
            refine t_gd (inb_rg f15 (by decide)) ?_
            refine t_if (fun h50 => ?_) (fun h50 => ?_)
            · refine t_gd (inb_rg f15 (by decide)) ?_
              refine t_gd (inb_rg (rg_andl (lo := 0) (hi := 255) _ (rg_w (lo := 0) (hi := 255) f15 (by decide)) (by decide)) (by decide)) ?_
              refine t_gd (inb_rg f15 (by decide)) ?_
              refine t_lm (KD [17, 18] [] σ) (kd_s k48 (by decide) (dS18 k48.1)) (fun s51 e53 k52 => ?_)
              exact ih29 _ _ ⟨(rg_w (lo := 0) (hi := 8) (rg_add (lo := 1) (hi := 8) f32 (by decide : rg 1 1 (1 : Int32)) (by decide)) (by decide)), k52⟩ (ms_up f32 (by decide : rg 1 1 (1 : Int32)) (by decide))
            · exact ih29 _ _ ⟨(rg_w (lo := 0) (hi := 8) (rg_add (lo := 1) (hi := 8) f32 (by decide : rg 1 1 (1 : Int32)) (by decide)) (by decide)), k48⟩ (ms_up f32 (by decide : rg 1 1 (1 : Int32)) (by decide))
    · have f54 := (rg_neL (lo := 1) (hi := 255) h17 (rg_andl (lo := 0) (hi := 255) _ (rg_w (lo := 0) (hi := 255) f15 (by decide)) (by decide)) (by decide : rg 0 0 (0 : Int32)) (by decide))
      exact ih12 _ _ ⟨(rg_w (lo := 1) (hi := 256) (rg_add (lo := 2) (hi := 256) f15 (by decide : rg 1 1 (1 : Int32)) (by decide)) (by decide)), k10⟩ (ms_up f15 (by decide : rg 1 1 (1 : Int32)) (by decide))
theorem Or_fewestTurned_t {N : Nat} (hN : 8589934592 ≤ N) {a1 : Int32} (h_a1 : rg 0 255 a1) {σ : Mem} (hm : InvD σ) : tot (f_Or_fewestTurned N a1 σ) (fun q => rg (-2147483648) 2147483647 q.1 ∧ KD [17, 18] [] σ q.2) := by
  unfold f_Or_fewestTurned
  refine t_ob _ (Or_measure_t hN h_a1 hm) (fun s1 k2 => ?_)
  have k3 := kd_t (S := [17, 18]) (J := []) (kd_r hm) k2 (by decide) (by decide)
  refine t_gd (inb_rg h_a1 (by decide)) ?_
  exact t_some ⟨(rg_f _), k3⟩
theorem Or_howMany_t {N : Nat} (hN : 8589934592 ≤ N) {a1 : Int32} (h_a1 : rg 0 255 a1) {σ : Mem} (hm : InvD σ) : tot (f_Or_howMany N a1 σ) (fun q => rg (-2147483648) 2147483647 q.1 ∧ KD [17, 18] [] σ q.2) := by
  unfold f_Or_howMany
  refine t_ob _ (Or_measure_t hN h_a1 hm) (fun s1 k2 => ?_)
  have k3 := kd_t (S := [17, 18]) (J := []) (kd_r hm) k2 (by decide) (by decide)
  refine t_gd (inb_rg h_a1 (by decide)) ?_
  exact t_some ⟨(rg_f _), k3⟩
theorem Or_isFirstOfBest_t {a1 : Int32} (h_a1 : rg 0 7 a1) {a2 : Int32} (h_a2 : rg 0 255 a2) {σ : Mem} (hm : InvD σ) : tot (f_Or_isFirstOfBest a1 a2 σ) (fun r => rg 0 1 r) := by
  unfold f_Or_isFirstOfBest
  refine t_if (fun h1 => ?_) (fun h1 => ?_)
  · have f2 := (rg_eqL (lo := 1) (hi := 1) h1 (by decide : rg 1 1 (1 : Int32)) (by decide))
    refine t_ob _ (Or_turnedWithFirst_t h_a1 h_a2 hm) (fun x3 f4 => ?_)
    refine t_gd (inb_rg h_a2 (by decide)) ?_
    refine t_if (fun h5 => ?_) (fun h5 => ?_)
    · exact t_some (rg_w (lo := 0) (hi := 1) (by decide : rg 1 1 (1 : Int32)) (by decide))
    · exact t_some (rg_w (lo := 0) (hi := 1) (by decide : rg 0 0 (0 : Int32)) (by decide))
  · have f6 := (rg_neL (lo := 0) (hi := 0) h1 (rb_bit _ _) (by decide : rg 1 1 (1 : Int32)) (by decide))
    exact t_some (rg_w (lo := 0) (hi := 1) (by decide : rg 0 0 (0 : Int32)) (by decide))
theorem Or_leastFirst_t {N : Nat} (hN : 8589934592 ≤ N) {a1 : Int32} (h_a1 : rg 0 255 a1) {σ : Mem} (hm : InvD σ) : tot (f_Or_leastFirst N a1 σ) (fun r => rg (-1) 7 r) := by
  unfold f_Or_leastFirst
  refine t_it1 (fun i1 => rg 0 8 i1) (fun i1 => (8 - i1.toInt).toNat) ?_ _ _ (rg_w (lo := 0) (hi := 8) (by decide : rg 0 0 (0 : Int32)) (by decide)) (ms_u0 hN _ (by decide))
  rintro self5 i1 f2 ih4
  unfold Or_leastFirst_B2
  refine t_if (fun h6 => ?_) (fun h6 => ?_)
  · exact t_some (rg_w (lo := (-1)) (hi := 7) (by decide : rg (-1) (-1) (-1 : Int32)) (by decide))
  · have f7 := (rg_ltL (lo := 0) (hi := 7) (i_nle h6) f2 (hm.r3 _) (by decide))
    have f8 := (rg_ltR (lo := 1) (hi := 8) (i_nle h6) f2 (hm.r3 _) (by decide))
    refine t_ob _ (Or_isFirstOfBest_t f7 h_a1 hm) (fun x9 f10 => ?_)
    refine t_if (fun h11 => ?_) (fun h11 => ?_)
    · have f12 := (rg_eqL (lo := 0) (hi := 0) h11 (by decide : rg 0 0 (0 : Int32)) (by decide))
      exact ih4 _ (rg_w (lo := 0) (hi := 8) (rg_add (lo := 1) (hi := 8) f7 (by decide : rg 1 1 (1 : Int32)) (by decide)) (by decide)) (ms_up f7 (by decide : rg 1 1 (1 : Int32)) (by decide))
    · have f13 := (rg_neL (lo := 1) (hi := 1) h11 f10 (by decide : rg 0 0 (0 : Int32)) (by decide))
      exact t_some (rg_w (lo := (-1)) (hi := 7) f7 (by decide))
theorem Or_placeInLeast_t {N : Nat} (hN : 8589934592 ≤ N) {a1 : Int32} (h_a1 : rg 0 7 a1) {a2 : Int32} (h_a2 : rg 0 255 a2) {σ : Mem} (hm : InvD σ) : tot (f_Or_placeInLeast N a1 a2 σ) (fun q => rg (-1) 7 q.1 ∧ KD [17, 18] [] σ q.2) := by
  unfold f_Or_placeInLeast
  refine t_ob _ (Or_measure_t hN h_a2 hm) (fun s1 k2 => ?_)
  have k3 := kd_t (S := [17, 18]) (J := []) (kd_r hm) k2 (by decide) (by decide)
  refine t_it3 (fun i4 i6 i8 => rg 0 255 i4 ∧ rg (-1) 7 i6 ∧ rg 0 8 i8) (fun i4 i6 i8 => (8 - i8.toInt).toNat) ?_ _ _ _ _ ⟨h_a2, (rg_w (lo := (-1)) (hi := 7) (by decide : rg (-1) (-1) (-1 : Int32)) (by decide)), (rg_w (lo := 0) (hi := 8) (by decide : rg 0 0 (0 : Int32)) (by decide))⟩ (ms_u0 hN _ (by decide))
  rintro self12 i4 i6 i8 ⟨f5, f7, f9⟩ ih11
  unfold Or_placeInLeast_B13
  refine t_if (fun h13 => ?_) (fun h13 => ?_)
  · have f14 := (rg_ltR (lo := 1) (hi := 8) h13 h_a1 f9 (by decide))
    exact t_some ⟨f7, k3⟩
  · have f15 := (rg_leL (lo := 0) (hi := 7) (i_nlt h13) f9 h_a1 (by decide))
    refine t_ob _ (Or_leastFirst_t hN f5 k3.1) (fun x16 f17 => ?_)
    refine t_if (fun h18 => ?_) (fun h18 => ?_)
    · have f19 := (rg_eqL (lo := (-1)) (hi := (-1)) h18 (by decide : rg (-1) (-1) (-1 : Int32)) (by decide))
      exact t_some ⟨(rg_w (lo := (-1)) (hi := 7) (by decide : rg (-1) (-1) (-1 : Int32)) (by decide)), k3⟩
    · have f20 := (rg_neL (lo := 0) (hi := 7) h18 f17 (by decide : rg (-1) (-1) (-1 : Int32)) (by decide))
      refine t_le 0 255 (rg_andl (lo := 0) (hi := 255) _ f5 (by decide)) (fun x21 e23 f22 => ?_)
      exact ih11 _ _ _ ⟨f22, (rg_w (lo := (-1)) (hi := 7) f20 (by decide)), (rg_w (lo := 0) (hi := 8) (rg_add (lo := 1) (hi := 8) f15 (by decide : rg 1 1 (1 : Int32)) (by decide)) (by decide))⟩ (ms_up f15 (by decide : rg 1 1 (1 : Int32)) (by decide))
theorem D_best_t {N : Nat} (hN : 8589934592 ≤ N) {a1 : Int32} {σ : Mem} (hm : InvD σ) : tot (f_D_best N a1 σ) (fun q => rg (-2147483648) 2147483647 q.1 ∧ KD [17, 18] [] σ q.2) := by
  unfold f_D_best
  refine t_if (fun h1 => ?_) (fun h1 => ?_)
  · have f2 := (rg_eqL (lo := 0) (hi := 0) h1 (by decide : rg 0 0 (0 : Int32)) (by decide))
    exact t_some ⟨(rg_f _), (kd_r hm)⟩
  · have f3 := (rg_neL (lo := 1) (hi := 8) h1 (hm.r3 _) (by decide : rg 0 0 (0 : Int32)) (by decide))
    refine t_if (fun h4 => ?_) (fun h4 => ?_)
    · have f5 := (rg_eqL (lo := 0) (hi := 0) h4 (by decide : rg 0 0 (0 : Int32)) (by decide))
      refine t_ob2 (fun r s => rg (-2147483648) 2147483647 r ∧ KD [17, 18] [] σ s) (Or_fewestTurned_t hN (ev_rg hm) hm) (fun x9 s6 ⟨f10, k7⟩ => ?_)
      have k8 := kd_t (S := [17, 18]) (J := []) (kd_r hm) k7 (by decide) (by decide)
      exact t_some ⟨(rg_f _), k8⟩
    · refine t_if (fun h11 => ?_) (fun h11 => ?_)
      · have f12 := (rg_eqL (lo := 1) (hi := 1) h11 (by decide : rg 1 1 (1 : Int32)) (by decide))
        refine t_ob2 (fun r s => rg (-2147483648) 2147483647 r ∧ KD [17, 18] [] σ s) (Or_howMany_t hN (ev_rg hm) hm) (fun x16 s13 ⟨f17, k14⟩ => ?_)
        have k15 := kd_t (S := [17, 18]) (J := []) (kd_r hm) k14 (by decide) (by decide)
        exact t_some ⟨(rg_f _), k15⟩
      · refine t_if (fun h18 => ?_) (fun h18 => ?_)
        · have f19 := (rg_ltL (lo := (-2147483648)) (hi := 9) h18 (rg_f _) (by decide : rg 10 10 (10 : Int32)) (by decide))
          exact t_some ⟨(rg_f _), (kd_r hm)⟩
        · have f20 := (rg_leR (lo := 10) (hi := 2147483647) (i_nlt h18) (by decide : rg 10 10 (10 : Int32)) (rg_f _) (by decide))
          refine t_if (fun h21 => ?_) (fun h21 => ?_)
          · have f22 := (rg_ltL (lo := 10) (hi := 17) h21 f20 (rg_add (lo := 11) (hi := 18) (by decide : rg 10 10 (10 : Int32)) f3 (by decide)) (by decide))
            refine t_ob2 (fun r s => rg (-1) 7 r ∧ KD [17, 18] [] σ s) (Or_placeInLeast_t hN (rg_sub (lo := 0) (hi := 7) f22 (by decide : rg 10 10 (10 : Int32)) (by decide)) (ev_rg hm) hm) (fun x26 s23 ⟨f27, k24⟩ => ?_)
            have k25 := kd_t (S := [17, 18]) (J := []) (kd_r hm) k24 (by decide) (by decide)
            exact t_some ⟨(rg_f _), k25⟩
          · have f28 := (rg_leR (lo := 11) (hi := 2147483647) (i_nlt h21) (rg_add (lo := 11) (hi := 18) (by decide : rg 10 10 (10 : Int32)) f3 (by decide)) f20 (by decide))
            exact t_some ⟨(rg_f _), (kd_r hm)⟩
theorem Du_winnerOfN_t {a1 : Int32} (h_a1 : rg 0 7 a1) {a2 : Int32} (h_a2 : rg 0 7 a2) {σ : Mem} (hm : InvD σ) : tot (f_Du_winnerOfN a1 a2 σ) (fun r => rg 0 7 r) := by
  unfold f_Du_winnerOfN
  refine t_gd (inb_rg h_a1 (by decide)) ?_
  refine t_if (fun h1 => ?_) (fun h1 => ?_)
  · have f2 := (rg_eqL (lo := 1) (hi := 1) h1 (by decide : rg 1 1 (1 : Int32)) (by decide))
    exact t_some h_a1
  · have f3 := (rg_neL (lo := 0) (hi := 0) h1 (rg_andr (lo := 0) (hi := 1) _ (rg_w (lo := 0) (hi := 1) (by decide : rg 1 1 (1 : Int32)) (by decide)) (by decide)) (by decide : rg 1 1 (1 : Int32)) (by decide))
    exact t_some h_a2
theorem Or_turnedByWins_t {N : Nat} (hN : 8589934592 ≤ N) {σ : Mem} (hm : InvD σ) : tot (f_Or_turnedByWins N σ) (fun r => rg (-2147483648) 2147483647 r) := by
  unfold f_Or_turnedByWins
  refine t_it2 (fun i1 i2 => rg 0 8 i2) (fun i1 i2 => (8 - i2.toInt).toNat) ?_ _ _ _ (rg_w (lo := 0) (hi := 8) (by decide : rg 0 0 (0 : Int32)) (by decide)) (ms_u0 hN _ (by decide))
  rintro self6 i1 i2 f3 ih5
  unfold Or_turnedByWins_B4
  refine t_if (fun h7 => ?_) (fun h7 => ?_)
  · exact t_some (rg_f _)
  · have f8 := (rg_ltL (lo := 0) (hi := 7) (i_nle h7) f3 (hm.r3 _) (by decide))
    have f9 := (rg_ltR (lo := 1) (hi := 8) (i_nle h7) f3 (hm.r3 _) (by decide))
    refine t_le 1 8 (rg_add (lo := 1) (hi := 8) f8 (by decide : rg 1 1 (1 : Int32)) (by decide)) (fun x10 e12 f11 => ?_)
    refine t_it2 (fun i13 i14 => rg 1 8 i14) (fun i13 i14 => (8 - i14.toInt).toNat) ?_ _ _ _ f11 (ms_u0 hN _ (by decide))
    rintro self18 i13 i14 f15 ih17
    unfold Or_turnedByWins_B19
    refine t_if (fun h19 => ?_) (fun h19 => ?_)
    · exact ih5 _ _ (rg_w (lo := 0) (hi := 8) (rg_add (lo := 1) (hi := 8) f8 (by decide : rg 1 1 (1 : Int32)) (by decide)) (by decide)) (ms_up f8 (by decide : rg 1 1 (1 : Int32)) (by decide))
    · have f20 := (rg_ltL (lo := 1) (hi := 7) (i_nle h19) f15 f9 (by decide))
      have f21 := (rg_ltR (lo := 2) (hi := 8) (i_nle h19) f15 f9 (by decide))
      refine t_gd (inb_rg f20 (by decide)) ?_
      refine t_gd (inb_rg f8 (by decide)) ?_
      refine t_le (-63) 63 (rg_sub (lo := (-63)) (hi := 63) (rb_cnt _) (rb_cnt _) (by decide)) (fun x22 e24 f23 => ?_)
      refine t_if (fun h25 => ?_) (fun h25 => ?_)
      · have f26 := (rg_leL (lo := (-63)) (hi := 0) h25 f23 (by decide : rg 0 0 (0 : Int32)) (by decide))
        unfold Or_turnedByWins_J67
        refine t_ob _ (Du_winnerOfN_t f8 (rg_w (lo := 0) (hi := 7) f20 (by decide)) hm) (fun x27 f28 => ?_)
        refine t_if (fun h29 => ?_) (fun h29 => ?_)
        · exact ih17 _ _ (rg_w (lo := 1) (hi := 8) (rg_add (lo := 2) (hi := 8) f20 (by decide : rg 1 1 (1 : Int32)) (by decide)) (by decide)) (ms_up f20 (by decide : rg 1 1 (1 : Int32)) (by decide))
        · exact ih17 _ _ (rg_w (lo := 1) (hi := 8) (rg_add (lo := 2) (hi := 8) f20 (by decide : rg 1 1 (1 : Int32)) (by decide)) (by decide)) (ms_up f20 (by decide : rg 1 1 (1 : Int32)) (by decide))
      · have f30 := (rg_ltR (lo := 1) (hi := 63) (i_nle h25) (by decide : rg 0 0 (0 : Int32)) f23 (by decide))
        unfold Or_turnedByWins_J67
        refine t_ob _ (Du_winnerOfN_t f8 (rg_w (lo := 0) (hi := 7) f20 (by decide)) hm) (fun x31 f32 => ?_)
        refine t_if (fun h33 => ?_) (fun h33 => ?_)
        · have f34 := (rg_eqL (lo := 1) (hi := 7) h33 f20 (by decide))
          exact ih17 _ _ (rg_w (lo := 1) (hi := 8) (rg_add (lo := 2) (hi := 8) f20 (by decide : rg 1 1 (1 : Int32)) (by decide)) (by decide)) (ms_up f20 (by decide : rg 1 1 (1 : Int32)) (by decide))
        · exact ih17 _ _ (rg_w (lo := 1) (hi := 8) (rg_add (lo := 2) (hi := 8) f20 (by decide : rg 1 1 (1 : Int32)) (by decide)) (by decide)) (ms_up f20 (by decide : rg 1 1 (1 : Int32)) (by decide))
theorem D_byWins_t {N : Nat} (hN : 8589934592 ≤ N) {a1 : Int32} {σ : Mem} (hm : InvD σ) : tot (f_D_byWins N a1 σ) (fun q => rg (-2147483648) 2147483647 q.1 ∧ KD [17, 18] [] σ q.2) := by
  unfold f_D_byWins
  refine t_if (fun h1 => ?_) (fun h1 => ?_)
  · have f2 := (rg_eqL (lo := 0) (hi := 0) h1 (by decide : rg 0 0 (0 : Int32)) (by decide))
    exact t_some ⟨(rg_f _), (kd_r hm)⟩
  · have f3 := (rg_neL (lo := 1) (hi := 8) h1 (hm.r3 _) (by decide : rg 0 0 (0 : Int32)) (by decide))
    refine t_if (fun h4 => ?_) (fun h4 => ?_)
    · have f5 := (rg_ltL (lo := (-2147483648)) (hi := (-1)) h4 (rg_f _) (by decide : rg 0 0 (0 : Int32)) (by decide))
      exact t_some ⟨(rg_f _), (kd_r hm)⟩
    · have f6 := (rg_leR (lo := 0) (hi := 2147483647) (i_nlt h4) (by decide : rg 0 0 (0 : Int32)) (rg_f _) (by decide))
      refine t_if (fun h7 => ?_) (fun h7 => ?_)
      · have f8 := (rg_leL (lo := 0) (hi := 1) h7 f6 (by decide : rg 1 1 (1 : Int32)) (by decide))
        refine t_ob _ (Or_turnedByWins_t hN hm) (fun x9 f10 => ?_)
        refine t_if (fun h11 => ?_) (fun h11 => ?_)
        · have f12 := (rg_eqL (lo := 0) (hi := 0) h11 (by decide : rg 0 0 (0 : Int32)) (by decide))
          exact t_some ⟨(rg_f _), (kd_r hm)⟩
        · have f13 := (rg_neL (lo := 1) (hi := 1) h11 f8 (by decide : rg 0 0 (0 : Int32)) (by decide))
          refine t_ob2 (fun r s => rg (-2147483648) 2147483647 r ∧ KD [17, 18] [] σ s) (Or_fewestTurned_t hN (ev_rg hm) hm) (fun x17 s14 ⟨f18, k15⟩ => ?_)
          have k16 := kd_t (S := [17, 18]) (J := []) (kd_r hm) k15 (by decide) (by decide)
          exact t_some ⟨(rg_f _), k16⟩
      · have f19 := (rg_ltR (lo := 2) (hi := 2147483647) (i_nle h7) (by decide : rg 1 1 (1 : Int32)) f6 (by decide))
        exact t_some ⟨(rg_f _), (kd_r hm)⟩
theorem Du_beatersOfN_t {a1 : Int32} (h_a1 : rg 0 7 a1) {a2 : Int32} (h_a2 : rg 0 255 a2) {σ : Mem} (hm : InvD σ) : tot (f_Du_beatersOfN a1 a2 σ) (fun r => rg 0 255 r) := by
  unfold f_Du_beatersOfN
  refine t_gd (inb_rg h_a1 (by decide)) ?_
  exact t_some (rg_andl (lo := 0) (hi := 255) _ (rg_andl (lo := 0) (hi := 255) _ h_a2 (by decide)) (by decide))
theorem Se_chainFrom_t {N : Nat} (hN : 8589934592 ≤ N) {a1 : Int32} (h_a1 : rg 1 1 a1) {a2 : Int32} (h_a2 : rg 0 255 a2) {a3 : Int32} (h_a3 : rg 0 255 a3) {σ : Mem} (hm : InvD σ) : tot (f_Se_chainFrom N 10 a1 a2 a3 σ) (fun q => rg 0 8 q.1 ∧ KD [22] [] σ q.2) := by
  unfold f_Se_chainFrom
  refine t_it4 (fun i1 i3 i5 s7 => rg 1 8 i1 ∧ rg 0 255 i3 ∧ rg 0 255 i5 ∧ KD [22] [] σ s7) (fun i1 i3 i5 s7 => (8 - i1.toInt).toNat) ?_ _ _ _ _ _ ⟨(rg_w (lo := 1) (hi := 8) h_a1 (by decide)), h_a2, h_a3, (kd_r hm)⟩ (ms_fu h_a1 (by decide))
  rintro self11 i1 i3 i5 s7 ⟨f2, f4, f6, k8⟩ ih10
  unfold Se_chainFrom_R
  refine t_if (fun h12 => ?_) (fun h12 => ?_)
  · have f13 := (rg_eqL (lo := 0) (hi := 0) h12 (by decide : rg 0 0 (0 : Int32)) (by decide))
    exact t_some ⟨(rg_w (lo := 0) (hi := 8) f2 (by decide)), k8⟩
  · have f14 := (rg_neL (lo := 1) (hi := 255) h12 f6 (by decide : rg 0 0 (0 : Int32)) (by decide))
    refine t_if (fun h15 => ?_) (fun h15 => ?_)
    · have f16 := (rg_ltL (lo := 1) (hi := 7) h15 f2 (by decide : rg 8 8 (8 : Int32)) (by decide))
      refine t_it2 (fun i17 s19 => rg 0 8 i17 ∧ KD [22] [] σ s19) (fun i17 s19 => (8 - i17.toInt).toNat) ?_ _ _ _ ⟨(rg_w (lo := 0) (hi := 8) (by decide : rg 0 0 (0 : Int32)) (by decide)), k8⟩ (ms_u0 hN _ (by decide))
      rintro self23 i17 s19 ⟨f18, k20⟩ ih22
      unfold Se_chainFrom_B17
      refine t_if (fun h24 => ?_) (fun h24 => ?_)
      · exact t_some ⟨(rg_w (lo := 0) (hi := 8) (by decide : rg 0 0 (0 : Int32)) (by decide)), k20⟩
      · have f25 := (rg_ltL (lo := 0) (hi := 7) (i_nle h24) f18 (k20.1.r3 _) (by decide))
        have f26 := (rg_ltR (lo := 1) (hi := 8) (i_nle h24) f18 (k20.1.r3 _) (by decide))
        refine t_if (fun h27 => ?_) (fun h27 => ?_)
        · have f28 := (rg_eqL (lo := 1) (hi := 1) h27 (by decide : rg 1 1 (1 : Int32)) (by decide))
          refine t_gd (inb_rg f16 (by decide)) ?_
          refine t_lm (KD [22] [] σ) (kd_s k20 (by decide) (dS22 k20.1)) (fun s29 e31 k30 => ?_)
          refine t_gd (inb_rg f25 (by decide)) ?_
          refine t_ob _ (Du_beatersOfN_t f25 (rg_w (lo := 0) (hi := 255) f14 (by decide)) k30.1) (fun x32 f33 => ?_)
          refine t_ob2 (fun r s => rg 0 8 r ∧ KD [22] [] σ s) (ih10 _ _ _ _ ⟨(rg_w (lo := 1) (hi := 8) (rg_add (lo := 2) (hi := 8) f16 (by decide : rg 1 1 (1 : Int32)) (by decide)) (by decide)), (rg_andl (lo := 0) (hi := 255) _ f4 (by decide)), f33, k30⟩ (ms_up f16 (by decide : rg 1 1 (1 : Int32)) (by decide))) (fun x37 s34 ⟨f38, k35⟩ => ?_)
          refine t_if (fun h39 => ?_) (fun h39 => ?_)
          · have f40 := (rg_leL (lo := 0) (hi := 0) h39 f38 (by decide : rg 0 0 (0 : Int32)) (by decide))
            exact ih22 _ _ ⟨(rg_w (lo := 0) (hi := 8) (rg_add (lo := 1) (hi := 8) f25 (by decide : rg 1 1 (1 : Int32)) (by decide)) (by decide)), k35⟩ (ms_up f25 (by decide : rg 1 1 (1 : Int32)) (by decide))
          · have f41 := (rg_ltR (lo := 1) (hi := 8) (i_nle h39) (by decide : rg 0 0 (0 : Int32)) f38 (by decide))
            exact t_some ⟨(rg_w (lo := 0) (hi := 8) f41 (by decide)), k35⟩
        · have f42 := (rg_neL (lo := 0) (hi := 0) h27 (rb_bit _ _) (by decide : rg 1 1 (1 : Int32)) (by decide))
          exact ih22 _ _ ⟨(rg_w (lo := 0) (hi := 8) (rg_add (lo := 1) (hi := 8) f25 (by decide : rg 1 1 (1 : Int32)) (by decide)) (by decide)), k20⟩ (ms_up f25 (by decide : rg 1 1 (1 : Int32)) (by decide))
    · have f43 := (rg_leR (lo := 8) (hi := 8) (i_nlt h15) (by decide : rg 8 8 (8 : Int32)) f2 (by decide))
      exact t_some ⟨(rg_w (lo := 0) (hi := 8) (by decide : rg 0 0 (0 : Int32)) (by decide)), k8⟩
theorem Se_leastChain_t {N : Nat} (hN : 8589934592 ≤ N) {a1 : Int32} (h_a1 : rg 0 7 a1) {a2 : Int32} (h_a2 : rg 0 255 a2) {σ : Mem} (hm : InvD σ) : tot (f_Se_leastChain N a1 a2 σ) (fun q => rg 0 8 q.1 ∧ KD [22] [] σ q.2) := by
  unfold f_Se_leastChain
  refine t_lm (KD [22] [] σ) (kd_s (kd_r hm) (by decide) (dS22 hm)) (fun s1 e3 k2 => ?_)
  refine t_gd (inb_rg h_a1 (by decide)) ?_
  refine t_ob _ (Du_beatersOfN_t h_a1 h_a2 k2.1) (fun x4 f5 => ?_)
  refine t_ob2 (fun r s => rg 0 8 r ∧ KD [22] [] s1 s) (Se_chainFrom_t hN (by decide : rg 1 1 (1 : Int32)) (rg_andl (lo := 0) (hi := 255) _ (k2.1.r13 _) (by decide)) f5 k2.1) (fun x9 s6 ⟨f10, k7⟩ => ?_)
  have k8 := kd_t (S := [22]) (J := []) k2 k7 (by decide) (by decide)
  exact t_some ⟨f10, k8⟩
theorem D_chain_t {N : Nat} (hN : 8589934592 ≤ N) {a1 : Int32} {a2 : Int32} {a3 : Int32} {σ : Mem} (hm : InvD σ) : tot (f_D_chain N a1 a2 a3 σ) (fun q => rg (-2147483648) 2147483647 q.1 ∧ KD [22] [] σ q.2) := by
  unfold f_D_chain
  refine t_if (fun h1 => ?_) (fun h1 => ?_)
  · exact t_some ⟨(rg_f _), (kd_r hm)⟩
  · have f2 := (c_pl h1 hm)
    have f3 := (c_pl1 h1 hm)
    refine t_if (fun h4 => ?_) (fun h4 => ?_)
    · exact t_some ⟨(rg_f _), (kd_r hm)⟩
    · have f5 := (c_ps h4 hm)
      refine t_if (fun h6 => ?_) (fun h6 => ?_)
      · exact t_some ⟨(rg_f _), (kd_r hm)⟩
      · refine t_if (fun h7 => ?_) (fun h7 => ?_)
        · have f8 := (rg_leR (lo := (-1)) (hi := 2147483647) h7 (by decide : rg (-1) (-1) (-1 : Int32)) (rg_f _) (by decide))
          refine t_ob2 (fun r s => rg 0 8 r ∧ KD [22] [] σ s) (Se_leastChain_t hN f2 f5 hm) (fun x12 s9 ⟨f13, k10⟩ => ?_)
          have k11 := kd_t (S := [22]) (J := []) (kd_r hm) k10 (by decide) (by decide)
          refine t_if (fun h14 => ?_) (fun h14 => ?_)
          · have f15 := (rg_eqL (lo := 0) (hi := 0) h14 (by decide : rg 0 0 (0 : Int32)) (by decide))
            exact t_some ⟨(rg_f _), k11⟩
          · have f16 := (rg_neL (lo := 1) (hi := 8) h14 f13 (by decide : rg 0 0 (0 : Int32)) (by decide))
            refine t_if (fun h17 => ?_) (fun h17 => ?_)
            · have f18 := (rg_eqL (lo := (-1)) (hi := (-1)) h17 (by decide : rg (-1) (-1) (-1 : Int32)) (by decide))
              exact t_some ⟨(rg_f _), k11⟩
            · have f19 := (rg_neL (lo := 0) (hi := 2147483647) h17 f8 (by decide : rg (-1) (-1) (-1 : Int32)) (by decide))
              refine t_if (fun h20 => ?_) (fun h20 => ?_)
              · have f21 := (rg_leR (lo := 1) (hi := 2147483647) h20 f16 f19 (by decide))
                exact t_some ⟨(rg_f _), k11⟩
              · have f22 := (rg_ltL (lo := 0) (hi := 7) (i_nle h20) f19 f16 (by decide))
                refine t_gd (inb_rg f22 (by decide)) ?_
                exact t_some ⟨(rg_f _), k11⟩
        · have f23 := (rg_ltL (lo := (-2147483648)) (hi := (-2)) (i_nle h7) (rg_f _) (by decide : rg (-1) (-1) (-1 : Int32)) (by decide))
          exact t_some ⟨(rg_f _), (kd_r hm)⟩
theorem Du_unbeatenOfN_t {N : Nat} (hN : 8589934592 ≤ N) {a1 : Int32} (h_a1 : rg 0 255 a1) {σ : Mem} (hm : InvD σ) : tot (f_Du_unbeatenOfN N a1 σ) (fun r => rg 0 128 r) := by
  unfold f_Du_unbeatenOfN
  refine t_it1 (fun i1 => rg 0 8 i1) (fun i1 => (8 - i1.toInt).toNat) ?_ _ _ (rg_w (lo := 0) (hi := 8) (by decide : rg 0 0 (0 : Int32)) (by decide)) (ms_u0 hN _ (by decide))
  rintro self5 i1 f2 ih4
  unfold Du_unbeatenOfN_B2
  refine t_if (fun h6 => ?_) (fun h6 => ?_)
  · exact t_some (rg_w (lo := 0) (hi := 128) (by decide : rg 0 0 (0 : Int32)) (by decide))
  · have f7 := (rg_ltL (lo := 0) (hi := 7) (i_nle h6) f2 (hm.r3 _) (by decide))
    have f8 := (rg_ltR (lo := 1) (hi := 8) (i_nle h6) f2 (hm.r3 _) (by decide))
    refine t_if (fun h9 => ?_) (fun h9 => ?_)
    · have f10 := (rg_eqL (lo := 1) (hi := 1) h9 (by decide : rg 1 1 (1 : Int32)) (by decide))
      refine t_ob _ (Du_beatersOfN_t f7 h_a1 hm) (fun x11 f12 => ?_)
      refine t_if (fun h13 => ?_) (fun h13 => ?_)
      · have f14 := (rg_eqL (lo := 0) (hi := 0) h13 (by decide : rg 0 0 (0 : Int32)) (by decide))
        exact t_some (rg_w (lo := 0) (hi := 128) (rg_shl1 (lo := 1) (hi := 128) 7 f7 (by decide)) (by decide))
      · have f15 := (rg_neL (lo := 1) (hi := 255) h13 f12 (by decide : rg 0 0 (0 : Int32)) (by decide))
        exact ih4 _ (rg_w (lo := 0) (hi := 8) (rg_add (lo := 1) (hi := 8) f7 (by decide : rg 1 1 (1 : Int32)) (by decide)) (by decide)) (ms_up f7 (by decide : rg 1 1 (1 : Int32)) (by decide))
    · have f16 := (rg_neL (lo := 0) (hi := 0) h9 (rb_bit _ _) (by decide : rg 1 1 (1 : Int32)) (by decide))
      exact ih4 _ (rg_w (lo := 0) (hi := 8) (rg_add (lo := 1) (hi := 8) f7 (by decide : rg 1 1 (1 : Int32)) (by decide)) (by decide)) (ms_up f7 (by decide : rg 1 1 (1 : Int32)) (by decide))
theorem Du_cyclesOfThreeN_t {N : Nat} (hN : 8589934592 ≤ N) {σ : Mem} (hm : InvD σ) : tot (f_Du_cyclesOfThreeN N σ) (fun r => rg (-2147483648) 2147483647 r) := by
  unfold f_Du_cyclesOfThreeN
  refine t_it2 (fun i1 i2 => rg 0 8 i2) (fun i1 i2 => (8 - i2.toInt).toNat) ?_ _ _ _ (rg_w (lo := 0) (hi := 8) (by decide : rg 0 0 (0 : Int32)) (by decide)) (ms_u0 hN _ (by decide))
  rintro self6 i1 i2 f3 ih5
  unfold Du_cyclesOfThreeN_B4
  refine t_if (fun h7 => ?_) (fun h7 => ?_)
  · exact t_some (rg_f _)
  · have f8 := (rg_ltL (lo := 0) (hi := 7) (i_nle h7) f3 (hm.r3 _) (by decide))
    have f9 := (rg_ltR (lo := 1) (hi := 8) (i_nle h7) f3 (hm.r3 _) (by decide))
    refine t_le 1 8 (rg_add (lo := 1) (hi := 8) f8 (by decide : rg 1 1 (1 : Int32)) (by decide)) (fun x10 e12 f11 => ?_)
    refine t_it2 (fun i13 i14 => rg 1 8 i14) (fun i13 i14 => (8 - i14.toInt).toNat) ?_ _ _ _ f11 (ms_u0 hN _ (by decide))
    rintro self18 i13 i14 f15 ih17
    unfold Du_cyclesOfThreeN_B16
    refine t_if (fun h19 => ?_) (fun h19 => ?_)
    · exact ih5 _ _ (rg_w (lo := 0) (hi := 8) (rg_add (lo := 1) (hi := 8) f8 (by decide : rg 1 1 (1 : Int32)) (by decide)) (by decide)) (ms_up f8 (by decide : rg 1 1 (1 : Int32)) (by decide))
    · have f20 := (rg_ltL (lo := 1) (hi := 7) (i_nle h19) f15 f9 (by decide))
      have f21 := (rg_ltR (lo := 2) (hi := 8) (i_nle h19) f15 f9 (by decide))
      refine t_ob _ (Du_isBeatingN_t f8 hm) (fun x22 f23 => ?_)
      refine t_if (fun h24 => ?_) (fun h24 => ?_)
      · have f25 := (rg_eqL (lo := 0) (hi := 0) h24 (by decide : rg 0 0 (0 : Int32)) (by decide))
        refine t_gd (inb_rg f8 (by decide)) ?_
        refine t_ob _ (Du_beatersOfN_t (rg_w (lo := 0) (hi := 7) f20 (by decide)) (ev_rg hm) hm) (fun x26 f27 => ?_)
        unfold Du_cyclesOfThreeN_J68
        refine t_le (-2147483648) 2147483647 (rg_f _) (fun x28 e30 f29 => ?_)
        exact ih17 _ _ (rg_w (lo := 1) (hi := 8) (rg_add (lo := 2) (hi := 8) f20 (by decide : rg 1 1 (1 : Int32)) (by decide)) (by decide)) (ms_up f20 (by decide : rg 1 1 (1 : Int32)) (by decide))
      · have f31 := (rg_neL (lo := 1) (hi := 1) h24 f23 (by decide : rg 0 0 (0 : Int32)) (by decide))
        refine t_gd (inb_rg f20 (by decide)) ?_
        refine t_ob _ (Du_beatersOfN_t f8 (ev_rg hm) hm) (fun x32 f33 => ?_)
        unfold Du_cyclesOfThreeN_J68
        refine t_le (-2147483648) 2147483647 (rg_f _) (fun x34 e36 f35 => ?_)
        exact ih17 _ _ (rg_w (lo := 1) (hi := 8) (rg_add (lo := 2) (hi := 8) f20 (by decide : rg 1 1 (1 : Int32)) (by decide)) (by decide)) (ms_up f20 (by decide : rg 1 1 (1 : Int32)) (by decide))
theorem D_count_t {N : Nat} (hN : 8589934592 ≤ N) {a1 : Int32} {σ : Mem} (hm : InvD σ) : tot (f_D_count N a1 σ) (fun r => rg (-2147483648) 2147483647 r) := by
  unfold f_D_count
  refine t_sw1 (fun h1 => ?_) (fun _ => ?_)
  · have f2 := (rg_eqL (lo := 0) (hi := 0) h1 (by decide : rg 0 0 (0 : Int32)) (by decide))
    exact t_some (rg_f _)
  refine t_sw1 (fun h3 => ?_) (fun _ => ?_)
  · have f4 := (rg_eqL (lo := 1) (hi := 1) h3 (by decide : rg 1 1 (1 : Int32)) (by decide))
    exact t_some (rg_f _)
  refine t_sw1 (fun h5 => ?_) (fun _ => ?_)
  · have f6 := (rg_eqL (lo := 2) (hi := 2) h5 (by decide : rg 2 2 (2 : Int32)) (by decide))
    refine t_ob _ (Du_cyclesOfThreeN_t hN hm) (fun x7 f8 => ?_)
    exact t_some (rg_f _)
  refine t_sw1 (fun h9 => ?_) (fun _ => ?_)
  · have f10 := (rg_eqL (lo := 3) (hi := 3) h9 (by decide : rg 3 3 (3 : Int32)) (by decide))
    exact t_some (rg_f _)
  refine t_sw1 (fun h11 => ?_) (fun _ => ?_)
  · have f12 := (rg_eqL (lo := 4) (hi := 4) h11 (by decide : rg 4 4 (4 : Int32)) (by decide))
    exact t_some (rg_f _)
  refine t_sw1 (fun h13 => ?_) (fun _ => ?_)
  · have f14 := (rg_eqL (lo := 5) (hi := 5) h13 (by decide : rg 5 5 (5 : Int32)) (by decide))
    refine t_ob _ (Du_unbeatenOfN_t hN (ev_rg hm) hm) (fun x15 f16 => ?_)
    exact t_some (rg_f _)
  refine t_sw0 ?_
  exact t_some (rg_f _)
theorem Cu_putIntoRow_t {N : Nat} (hN : 8589934592 ≤ N) {a1 : Int32} (h_a1 : rg 0 255 a1) {a2 : Int32} (h_a2 : rg 0 8 a2) {σ : Mem} (hm : InvD σ) : tot (f_Cu_putIntoRow N a1 a2 σ) (fun q => rg 0 8 q.1 ∧ KD [21] [] σ q.2) := by
  unfold f_Cu_putIntoRow
  refine t_it3 (fun i1 i3 s5 => rg 0 8 i1 ∧ rg 0 8 i3 ∧ KD [21] [] σ s5) (fun i1 i3 s5 => (8 - i3.toInt).toNat) ?_ _ _ _ _ ⟨h_a2, (rg_w (lo := 0) (hi := 8) (by decide : rg 0 0 (0 : Int32)) (by decide)), (kd_r hm)⟩ (ms_u0 hN _ (by decide))
  rintro self9 i1 i3 s5 ⟨f2, f4, k6⟩ ih8
  unfold Cu_putIntoRow_B5
  refine t_if (fun h10 => ?_) (fun h10 => ?_)
  · exact t_some ⟨f2, k6⟩
  · have f11 := (rg_ltL (lo := 0) (hi := 7) (i_nle h10) f4 (k6.1.r3 _) (by decide))
    have f12 := (rg_ltR (lo := 1) (hi := 8) (i_nle h10) f4 (k6.1.r3 _) (by decide))
    refine t_if (fun h13 => ?_) (fun h13 => ?_)
    · have f14 := (rg_eqL (lo := 1) (hi := 1) h13 (by decide : rg 1 1 (1 : Int32)) (by decide))
      refine t_if (fun h15 => ?_) (fun h15 => ?_)
      · have f16 := (rg_leR (lo := 8) (hi := 8) h15 (by decide : rg 8 8 (8 : Int32)) f2 (by decide))
        exact ih8 _ _ _ ⟨(rg_w (lo := 0) (hi := 8) f16 (by decide)), (rg_w (lo := 0) (hi := 8) (rg_add (lo := 1) (hi := 8) f11 (by decide : rg 1 1 (1 : Int32)) (by decide)) (by decide)), k6⟩ (ms_up f11 (by decide : rg 1 1 (1 : Int32)) (by decide))
      · have f17 := (rg_ltL (lo := 0) (hi := 7) (i_nle h15) f2 (by decide : rg 8 8 (8 : Int32)) (by decide))
        refine t_gd (inb_rg f17 (by decide)) ?_
        refine t_lm (KD [21] [] σ) (kd_s k6 (by decide) (dS21 k6.1 f11)) (fun s18 e20 k19 => ?_)
        exact ih8 _ _ _ ⟨(rg_w (lo := 0) (hi := 8) (rg_add (lo := 1) (hi := 8) f17 (by decide : rg 1 1 (1 : Int32)) (by decide)) (by decide)), (rg_w (lo := 0) (hi := 8) (rg_add (lo := 1) (hi := 8) f11 (by decide : rg 1 1 (1 : Int32)) (by decide)) (by decide)), k19⟩ (ms_up f11 (by decide : rg 1 1 (1 : Int32)) (by decide))
    · have f21 := (rg_neL (lo := 0) (hi := 0) h13 (rb_bit _ _) (by decide : rg 1 1 (1 : Int32)) (by decide))
      exact ih8 _ _ _ ⟨f2, (rg_w (lo := 0) (hi := 8) (rg_add (lo := 1) (hi := 8) f11 (by decide : rg 1 1 (1 : Int32)) (by decide)) (by decide)), k6⟩ (ms_up f11 (by decide : rg 1 1 (1 : Int32)) (by decide))
theorem Cu_winnerByWay_t {a1 : Int32} (h_a1 : rg 0 2 a1) {σ : Mem} (hm : InvD σ) : tot (f_Cu_winnerByWay a1 σ) (fun r => rg 0 7 r) := by
  unfold f_Cu_winnerByWay
  refine t_if (fun h1 => ?_) (fun h1 => ?_)
  · have f2 := (rg_eqL (lo := 0) (hi := 0) h1 (by decide : rg 0 0 (0 : Int32)) (by decide))
    unfold Cu_winnerByWay_J9
    refine t_if (fun h3 => ?_) (fun h3 => ?_)
    · exact absurd h3 (rg_noE f2 (by decide : rg 2 2 (2 : Int32)) (by decide))
    · unfold Cu_winnerByWay_J20
      refine t_gd (inb_rg (rg_add (lo := 1) (hi := 1) f2 (by decide : rg 1 1 (1 : Int32)) (by decide)) (by decide)) ?_
      refine t_ob _ (Du_winnerOfN_t (hm.r21 _) (hm.r21 _) hm) (fun x4 f5 => ?_)
      refine t_gd (inb_rg (by decide : rg 2 2 (2 : Int32)) (by decide)) ?_
      refine t_gd (inb_rg (by decide : rg 3 3 (3 : Int32)) (by decide)) ?_
      refine t_ob _ (Du_winnerOfN_t (hm.r21 _) (hm.r21 _) hm) (fun x6 f7 => ?_)
      refine t_ob _ (Du_winnerOfN_t f5 f7 hm) (fun x8 f9 => ?_)
      exact t_some f9
  · have f10 := (rg_neL (lo := 1) (hi := 2) h1 h_a1 (by decide : rg 0 0 (0 : Int32)) (by decide))
    unfold Cu_winnerByWay_J9
    refine t_if (fun h11 => ?_) (fun h11 => ?_)
    · have f12 := (rg_eqL (lo := 2) (hi := 2) h11 (by decide : rg 2 2 (2 : Int32)) (by decide))
      unfold Cu_winnerByWay_J20
      refine t_gd (inb_rg (rg_add (lo := 3) (hi := 3) f12 (by decide : rg 1 1 (1 : Int32)) (by decide)) (by decide)) ?_
      refine t_ob _ (Du_winnerOfN_t (hm.r21 _) (hm.r21 _) hm) (fun x13 f14 => ?_)
      refine t_gd (inb_rg (by decide : rg 1 1 (1 : Int32)) (by decide)) ?_
      refine t_gd (inb_rg (by decide : rg 2 2 (2 : Int32)) (by decide)) ?_
      refine t_ob _ (Du_winnerOfN_t (hm.r21 _) (hm.r21 _) hm) (fun x15 f16 => ?_)
      refine t_ob _ (Du_winnerOfN_t f14 f16 hm) (fun x17 f18 => ?_)
      exact t_some f18
    · have f19 := (rg_neL (lo := 1) (hi := 1) h11 f10 (by decide : rg 2 2 (2 : Int32)) (by decide))
      unfold Cu_winnerByWay_J20
      refine t_gd (inb_rg (rg_add (lo := 2) (hi := 2) f19 (by decide : rg 1 1 (1 : Int32)) (by decide)) (by decide)) ?_
      refine t_ob _ (Du_winnerOfN_t (hm.r21 _) (hm.r21 _) hm) (fun x20 f21 => ?_)
      refine t_gd (inb_rg (by decide : rg 1 1 (1 : Int32)) (by decide)) ?_
      refine t_gd (inb_rg (by decide : rg 3 3 (3 : Int32)) (by decide)) ?_
      refine t_ob _ (Du_winnerOfN_t (hm.r21 _) (hm.r21 _) hm) (fun x22 f23 => ?_)
      refine t_ob _ (Du_winnerOfN_t f21 f23 hm) (fun x24 f25 => ?_)
      exact t_some f25
theorem Cu_rowsOfFour_t {N : Nat} (hN : 8589934592 ≤ N) {a1 : Int32} (h_a1 : rg 0 255 a1) {a2 : Int32} (h_a2 : rg 0 255 a2) {σ : Mem} (hm : InvD σ) : tot (f_Cu_rowsOfFour N a1 a2 σ) (fun q => rg (-2147483648) 2147483647 q.1 ∧ KD [21] [] σ q.2) := by
  unfold f_Cu_rowsOfFour
  refine t_ob2 (fun r s => rg 0 8 r ∧ KD [21] [] σ s) (Cu_putIntoRow_t hN h_a1 (rg_w (lo := 0) (hi := 8) (by decide : rg 0 0 (0 : Int32)) (by decide)) hm) (fun x4 s1 ⟨f5, k2⟩ => ?_)
  have k3 := kd_t (S := [21]) (J := []) (kd_r hm) k2 (by decide) (by decide)
  refine t_it2 (fun i6 i7 => rg 0 3 i7) (fun i6 i7 => (3 - i7.toInt).toNat) ?_ _ _ _ (rg_w (lo := 0) (hi := 3) (by decide : rg 0 0 (0 : Int32)) (by decide)) (ms_u0 hN _ (by decide))
  rintro self11 i6 i7 f8 ih10
  unfold Cu_rowsOfFour_B12
  refine t_if (fun h12 => ?_) (fun h12 => ?_)
  · have f13 := (rg_leR (lo := 3) (hi := 3) h12 (by decide : rg 3 3 (3 : Int32)) f8 (by decide))
    exact t_some ⟨(rg_f _), k3⟩
  · have f14 := (rg_ltL (lo := 0) (hi := 2) (i_nle h12) f8 (by decide : rg 3 3 (3 : Int32)) (by decide))
    refine t_ob _ (Cu_winnerByWay_t f14 k3.1) (fun x15 f16 => ?_)
    refine t_le (-2147483648) 2147483647 (rg_f _) (fun x17 e19 f18 => ?_)
    exact ih10 _ _ (rg_w (lo := 0) (hi := 3) (rg_add (lo := 1) (hi := 3) f14 (by decide : rg 1 1 (1 : Int32)) (by decide)) (by decide)) (ms_up f14 (by decide : rg 1 1 (1 : Int32)) (by decide))
theorem Cu_rowsOfEight_t {N : Nat} (hN : 8589934592 ≤ N) {a1 : Int32} (h_a1 : rg 0 255 a1) {a2 : Int32} (h_a2 : rg 0 7 a2) {σ : Mem} (hm : InvD σ) : tot (f_Cu_rowsOfEight N a1 a2 σ) (fun q => rg (-2147483648) 2147483647 q.1 ∧ KD [21] [] σ q.2) := by
  unfold f_Cu_rowsOfEight
  refine t_it3 (fun i1 i2 s4 => rg 1 255 i2 ∧ KD [21] [] σ s4) (fun i1 i2 s4 => (255 - i2.toInt).toNat) ?_ _ _ _ _ ⟨(rg_w (lo := 1) (hi := 255) (by decide : rg 1 1 (1 : Int32)) (by decide)), (kd_r hm)⟩ (ms_u0 hN _ (by decide))
  rintro self8 i1 i2 s4 ⟨f3, k5⟩ ih7
  unfold Cu_rowsOfEight_B5
  refine t_if (fun h9 => ?_) (fun h9 => ?_)
  · exact t_some ⟨(rg_f _), k5⟩
  · have f10 := (rg_ltL (lo := 1) (hi := 254) (i_nle h9) f3 h_a1 (by decide))
    have f11 := (rg_ltR (lo := 2) (hi := 255) (i_nle h9) f3 h_a1 (by decide))
    refine t_if (fun h12 => ?_) (fun h12 => ?_)
    · have f13 := (rg_eqL (lo := 4) (hi := 4) h12 (by decide : rg 4 4 (4 : Int32)) (by decide))
      refine t_if (fun h14 => ?_) (fun h14 => ?_)
      · have f15 := (rg_eqL (lo := 1) (hi := 1) h14 (by decide : rg 1 1 (1 : Int32)) (by decide))
        refine t_ob2 (fun r s => rg (-2147483648) 2147483647 r ∧ KD [21] [] s4 s) (Cu_rowsOfFour_t hN (rg_w (lo := 0) (hi := 255) f10 (by decide)) (rg_w (lo := 0) (hi := 255) (rg_shl1 (lo := 1) (hi := 128) 7 h_a2 (by decide)) (by decide)) k5.1) (fun x19 s16 ⟨f20, k17⟩ => ?_)
        have k18 := kd_t (S := [21]) (J := []) k5 k17 (by decide) (by decide)
        refine t_gd (inb_rg h_a2 (by decide)) ?_
        refine t_ob2 (fun r s => rg (-2147483648) 2147483647 r ∧ KD [21] [] s16 s) (Cu_rowsOfFour_t hN (rg_andl (lo := 0) (hi := 255) _ (rg_w (lo := 0) (hi := 255) f11 (by decide)) (by decide)) (k18.1.r13 _) k18.1) (fun x24 s21 ⟨f25, k22⟩ => ?_)
        have k23 := kd_t (S := [21]) (J := []) k18 k22 (by decide) (by decide)
        refine t_le (-2147483648) 2147483647 (rg_f _) (fun x26 e28 f27 => ?_)
        exact ih7 _ _ _ ⟨(rg_w (lo := 1) (hi := 255) (rg_add (lo := 2) (hi := 255) f10 (by decide : rg 1 1 (1 : Int32)) (by decide)) (by decide)), k23⟩ (ms_up f10 (by decide : rg 1 1 (1 : Int32)) (by decide))
      · have f29 := (rg_neL (lo := 0) (hi := 0) h14 (rb_bit _ _) (by decide : rg 1 1 (1 : Int32)) (by decide))
        exact ih7 _ _ _ ⟨(rg_w (lo := 1) (hi := 255) (rg_add (lo := 2) (hi := 255) f10 (by decide : rg 1 1 (1 : Int32)) (by decide)) (by decide)), k5⟩ (ms_up f10 (by decide : rg 1 1 (1 : Int32)) (by decide))
    · exact ih7 _ _ _ ⟨(rg_w (lo := 1) (hi := 255) (rg_add (lo := 2) (hi := 255) f10 (by decide : rg 1 1 (1 : Int32)) (by decide)) (by decide)), k5⟩ (ms_up f10 (by decide : rg 1 1 (1 : Int32)) (by decide))
theorem Cu_rowsWonBy_t {N : Nat} (hN : 8589934592 ≤ N) {a1 : Int32} (h_a1 : rg 0 7 a1) {σ : Mem} (hm : InvD σ) : tot (f_Cu_rowsWonBy N a1 σ) (fun q => rg (-2147483648) 2147483647 q.1 ∧ KD [21] [] σ q.2) := by
  unfold f_Cu_rowsWonBy
  refine t_le 0 255 (ev_rg hm) (fun x1 e3 f2 => ?_)
  refine t_sw1 (fun h4 => ?_) (fun _ => ?_)
  · have f5 := (rg_eqL (lo := 1) (hi := 1) h4 (by decide : rg 1 1 (1 : Int32)) (by decide))
    exact t_some ⟨(rg_f _), (kd_r hm)⟩
  refine t_sw1 (fun h6 => ?_) (fun _ => ?_)
  · have f7 := (rg_eqL (lo := 2) (hi := 2) h6 (by decide : rg 2 2 (2 : Int32)) (by decide))
    refine t_gd (inb_rg h_a1 (by decide)) ?_
    refine t_if (fun h8 => ?_) (fun h8 => ?_)
    · have f9 := (rg_eqL (lo := 0) (hi := 0) h8 (by decide : rg 0 0 (0 : Int32)) (by decide))
      exact t_some ⟨(rg_f _), (kd_r hm)⟩
    · have f10 := (rg_neL (lo := 1) (hi := 255) h8 (hm.r13 _) (by decide : rg 0 0 (0 : Int32)) (by decide))
      exact t_some ⟨(rg_f _), (kd_r hm)⟩
  refine t_sw1 (fun h11 => ?_) (fun _ => ?_)
  · have f12 := (rg_eqL (lo := 3) (hi := 3) h11 (by decide : rg 3 3 (3 : Int32)) (by decide))
    exact t_some ⟨(rg_f _), (kd_r hm)⟩
  refine t_sw1 (fun h13 => ?_) (fun _ => ?_)
  · have f14 := (rg_eqL (lo := 4) (hi := 4) h13 (by decide : rg 4 4 (4 : Int32)) (by decide))
    refine t_ob2 (fun r s => rg (-2147483648) 2147483647 r ∧ KD [21] [] σ s) (Cu_rowsOfFour_t hN f2 (rg_w (lo := 0) (hi := 255) (rg_shl1 (lo := 1) (hi := 128) 7 h_a1 (by decide)) (by decide)) hm) (fun x18 s15 ⟨f19, k16⟩ => ?_)
    have k17 := kd_t (S := [21]) (J := []) (kd_r hm) k16 (by decide) (by decide)
    exact t_some ⟨(rg_f _), k17⟩
  refine t_sw1 (fun h20 => ?_) (fun _ => ?_)
  · have f21 := (rg_eqL (lo := 5) (hi := 5) h20 (by decide : rg 5 5 (5 : Int32)) (by decide))
    exact t_some ⟨(rg_f _), (kd_r hm)⟩
  refine t_sw1 (fun h22 => ?_) (fun _ => ?_)
  · have f23 := (rg_eqL (lo := 6) (hi := 6) h22 (by decide : rg 6 6 (6 : Int32)) (by decide))
    exact t_some ⟨(rg_f _), (kd_r hm)⟩
  refine t_sw1 (fun h24 => ?_) (fun _ => ?_)
  · have f25 := (rg_eqL (lo := 7) (hi := 7) h24 (by decide : rg 7 7 (7 : Int32)) (by decide))
    exact t_some ⟨(rg_f _), (kd_r hm)⟩
  refine t_sw1 (fun h26 => ?_) (fun _ => ?_)
  · have f27 := (rg_eqL (lo := 8) (hi := 8) h26 (by decide : rg 8 8 (8 : Int32)) (by decide))
    refine t_ob2 (fun r s => rg (-2147483648) 2147483647 r ∧ KD [21] [] σ s) (Cu_rowsOfEight_t hN f2 h_a1 hm) (fun x31 s28 ⟨f32, k29⟩ => ?_)
    have k30 := kd_t (S := [21]) (J := []) (kd_r hm) k29 (by decide) (by decide)
    exact t_some ⟨(rg_f _), k30⟩
  refine t_sw0 ?_
  exact t_some ⟨(rg_f _), (kd_r hm)⟩
theorem Cu_leastRowOfFour_t {N : Nat} (hN : 8589934592 ≤ N) {a1 : Int32} (h_a1 : rg 0 255 a1) {a2 : Int32} (h_a2 : rg 0 255 a2) {σ : Mem} (hm : InvD σ) : tot (f_Cu_leastRowOfFour N a1 a2 σ) (fun q => rg (-2147483648) 2147483647 q.1 ∧ KD [21] [] σ q.2) := by
  unfold f_Cu_leastRowOfFour
  refine t_ob2 (fun r s => rg 0 8 r ∧ KD [21] [] σ s) (Cu_putIntoRow_t hN h_a1 (rg_w (lo := 0) (hi := 8) (by decide : rg 0 0 (0 : Int32)) (by decide)) hm) (fun x4 s1 ⟨f5, k2⟩ => ?_)
  have k3 := kd_t (S := [21]) (J := []) (kd_r hm) k2 (by decide) (by decide)
  refine t_it1 (fun i6 => rg 0 3 i6) (fun i6 => (3 - i6.toInt).toNat) ?_ _ _ (rg_w (lo := 0) (hi := 3) (by decide : rg 0 0 (0 : Int32)) (by decide)) (ms_u0 hN _ (by decide))
  rintro self10 i6 f7 ih9
  unfold Cu_leastRowOfFour_B9
  refine t_if (fun h11 => ?_) (fun h11 => ?_)
  · have f12 := (rg_leR (lo := 3) (hi := 3) h11 (by decide : rg 3 3 (3 : Int32)) f7 (by decide))
    exact t_some ⟨(rg_f _), k3⟩
  · have f13 := (rg_ltL (lo := 0) (hi := 2) (i_nle h11) f7 (by decide : rg 3 3 (3 : Int32)) (by decide))
    refine t_ob _ (Cu_winnerByWay_t f13 k3.1) (fun x14 f15 => ?_)
    refine t_if (fun h16 => ?_) (fun h16 => ?_)
    · have f17 := (rg_eqL (lo := 1) (hi := 1) h16 (by decide : rg 1 1 (1 : Int32)) (by decide))
      unfold Cu_leastRowOfFour_K27
      refine t_if (fun h18 => ?_) (fun h18 => ?_)
      · have f19 := (rg_eqL (lo := 0) (hi := 0) h18 (by decide : rg 0 0 (0 : Int32)) (by decide))
        unfold Cu_leastRowOfFour_J36
        refine t_if (fun h20 => ?_) (fun h20 => ?_)
        · exact absurd h20 (rg_noE f19 (by decide : rg 2 2 (2 : Int32)) (by decide))
        · unfold Cu_leastRowOfFour_J48
          refine t_gd (inb_rg (rg_add (lo := 1) (hi := 1) f19 (by decide : rg 1 1 (1 : Int32)) (by decide)) (by decide)) ?_
          refine t_gd (inb_rg (by decide : rg 2 2 (2 : Int32)) (by decide)) ?_
          refine t_gd (inb_rg (by decide : rg 3 3 (3 : Int32)) (by decide)) ?_
          exact t_some ⟨(rg_f _), k3⟩
      · have f21 := (rg_neL (lo := 1) (hi := 2) h18 f13 (by decide : rg 0 0 (0 : Int32)) (by decide))
        unfold Cu_leastRowOfFour_J36
        refine t_if (fun h22 => ?_) (fun h22 => ?_)
        · have f23 := (rg_eqL (lo := 2) (hi := 2) h22 (by decide : rg 2 2 (2 : Int32)) (by decide))
          unfold Cu_leastRowOfFour_J48
          refine t_gd (inb_rg (rg_add (lo := 3) (hi := 3) f23 (by decide : rg 1 1 (1 : Int32)) (by decide)) (by decide)) ?_
          refine t_gd (inb_rg (by decide : rg 1 1 (1 : Int32)) (by decide)) ?_
          refine t_gd (inb_rg (by decide : rg 2 2 (2 : Int32)) (by decide)) ?_
          exact t_some ⟨(rg_f _), k3⟩
        · have f24 := (rg_neL (lo := 1) (hi := 1) h22 f21 (by decide : rg 2 2 (2 : Int32)) (by decide))
          unfold Cu_leastRowOfFour_J48
          refine t_gd (inb_rg (rg_add (lo := 2) (hi := 2) f24 (by decide : rg 1 1 (1 : Int32)) (by decide)) (by decide)) ?_
          refine t_gd (inb_rg (by decide : rg 1 1 (1 : Int32)) (by decide)) ?_
          refine t_gd (inb_rg (by decide : rg 3 3 (3 : Int32)) (by decide)) ?_
          exact t_some ⟨(rg_f _), k3⟩
    · have f25 := (rg_neL (lo := 0) (hi := 0) h16 (rb_bit _ _) (by decide : rg 1 1 (1 : Int32)) (by decide))
      exact ih9 _ (rg_w (lo := 0) (hi := 3) (rg_add (lo := 1) (hi := 3) f13 (by decide : rg 1 1 (1 : Int32)) (by decide)) (by decide)) (ms_up f13 (by decide : rg 1 1 (1 : Int32)) (by decide))
theorem Cu_leastRowOfEight_t {N : Nat} (hN : 8589934592 ≤ N) {a1 : Int32} (h_a1 : rg 0 255 a1) {a2 : Int32} (h_a2 : rg 0 7 a2) {σ : Mem} (hm : InvD σ) : tot (f_Cu_leastRowOfEight N a1 a2 σ) (fun q => rg (-2147483648) 2147483647 q.1 ∧ KD [21] [] σ q.2) := by
  unfold f_Cu_leastRowOfEight
  refine t_it3 (fun i1 i2 s4 => rg 1 256 i2 ∧ KD [21] [] σ s4) (fun i1 i2 s4 => (255 - i2.toInt).toNat) ?_ _ _ _ _ ⟨(rg_w (lo := 1) (hi := 256) (by decide : rg 1 1 (1 : Int32)) (by decide)), (kd_r hm)⟩ (ms_u0 hN _ (by decide))
  rintro self8 i1 i2 s4 ⟨f3, k5⟩ ih7
  unfold Cu_leastRowOfEight_B5
  refine t_if (fun h9 => ?_) (fun h9 => ?_)
  · exact t_some ⟨(rg_f _), k5⟩
  · have f10 := (rg_ltL (lo := 1) (hi := 254) (i_nle h9) f3 h_a1 (by decide))
    have f11 := (rg_ltR (lo := 2) (hi := 255) (i_nle h9) f3 h_a1 (by decide))
    refine t_if (fun h12 => ?_) (fun h12 => ?_)
    · have f13 := (rg_eqL (lo := 4) (hi := 4) h12 (by decide : rg 4 4 (4 : Int32)) (by decide))
      refine t_if (fun h14 => ?_) (fun h14 => ?_)
      · have f15 := (rg_eqL (lo := 1) (hi := 1) h14 (by decide : rg 1 1 (1 : Int32)) (by decide))
        unfold Cu_leastRowOfEight_J38
        refine t_if (fun h16 => ?_) (fun h16 => ?_)
        · exact absurd h16 (rg_noE (by decide : rg 1 1 (1 : Int32)) (by decide : rg 0 0 (0 : Int32)) (by decide))
        · unfold Cu_leastRowOfEight_J63
          refine t_ob2 (fun r s => rg (-2147483648) 2147483647 r ∧ KD [21] [] s4 s) (Cu_leastRowOfFour_t hN (rg_w (lo := 0) (hi := 255) f10 (by decide)) (rg_w (lo := 0) (hi := 255) (rg_shl1 (lo := 1) (hi := 128) 7 h_a2 (by decide)) (by decide)) k5.1) (fun x20 s17 ⟨f21, k18⟩ => ?_)
          have k19 := kd_t (S := [21]) (J := []) k5 k18 (by decide) (by decide)
          refine t_if (fun h22 => ?_) (fun h22 => ?_)
          · exact absurd h22 (rg_noE (by decide : rg 1 1 (1 : Int32)) (by decide : rg 0 0 (0 : Int32)) (by decide))
          · refine t_gd (inb_rg h_a2 (by decide)) ?_
            unfold Cu_leastRowOfEight_J95
            refine t_ob2 (fun r s => rg (-2147483648) 2147483647 r ∧ KD [21] [] s17 s) (Cu_leastRowOfFour_t hN (rg_andl (lo := 0) (hi := 255) _ (rg_w (lo := 0) (hi := 255) f11 (by decide)) (by decide)) (k19.1.r13 _) k19.1) (fun x26 s23 ⟨f27, k24⟩ => ?_)
            have k25 := kd_t (S := [21]) (J := []) k19 k24 (by decide) (by decide)
            refine t_if (fun h28 => ?_) (fun h28 => ?_)
            · have f29 := (rg_eqL (lo := (-1)) (hi := (-1)) h28 (by decide : rg (-1) (-1) (-1 : Int32)) (by decide))
              exact ih7 _ _ _ ⟨(rg_w (lo := 1) (hi := 256) (rg_add (lo := 3) (hi := 256) f10 (by decide : rg 2 2 (2 : Int32)) (by decide)) (by decide)), k25⟩ (ms_up f10 (by decide : rg 2 2 (2 : Int32)) (by decide))
            · refine t_if (fun h30 => ?_) (fun h30 => ?_)
              · have f31 := (rg_eqL (lo := (-1)) (hi := (-1)) h30 (by decide : rg (-1) (-1) (-1 : Int32)) (by decide))
                exact ih7 _ _ _ ⟨(rg_w (lo := 1) (hi := 256) (rg_add (lo := 3) (hi := 256) f10 (by decide : rg 2 2 (2 : Int32)) (by decide)) (by decide)), k25⟩ (ms_up f10 (by decide : rg 2 2 (2 : Int32)) (by decide))
              · refine t_le (-2147483648) 2147483647 (rg_f _) (fun x32 e34 f33 => ?_)
                refine t_if (fun h35 => ?_) (fun h35 => ?_)
                · have f36 := (rg_eqL (lo := (-1)) (hi := (-1)) h35 (by decide : rg (-1) (-1) (-1 : Int32)) (by decide))
                  exact ih7 _ _ _ ⟨(rg_w (lo := 1) (hi := 256) (rg_add (lo := 3) (hi := 256) f10 (by decide : rg 2 2 (2 : Int32)) (by decide)) (by decide)), k25⟩ (ms_up f10 (by decide : rg 2 2 (2 : Int32)) (by decide))
                · refine t_if (fun h37 => ?_) (fun h37 => ?_)
                  · exact ih7 _ _ _ ⟨(rg_w (lo := 1) (hi := 256) (rg_add (lo := 3) (hi := 256) f10 (by decide : rg 2 2 (2 : Int32)) (by decide)) (by decide)), k25⟩ (ms_up f10 (by decide : rg 2 2 (2 : Int32)) (by decide))
                  · have f38 := (rg_ltL (lo := (-2147483648)) (hi := 2147483646) (i_nle h37) (rg_f _) (rg_f _) (by decide))
                    have f39 := (rg_ltR (lo := (-2147483647)) (hi := 2147483647) (i_nle h37) (rg_f _) (rg_f _) (by decide))
                    exact ih7 _ _ _ ⟨(rg_w (lo := 1) (hi := 256) (rg_add (lo := 3) (hi := 256) f10 (by decide : rg 2 2 (2 : Int32)) (by decide)) (by decide)), k25⟩ (ms_up f10 (by decide : rg 2 2 (2 : Int32)) (by decide))
      · have f40 := (rg_neL (lo := 0) (hi := 0) h14 (rb_bit _ _) (by decide : rg 1 1 (1 : Int32)) (by decide))
        unfold Cu_leastRowOfEight_J38
        refine t_if (fun h41 => ?_) (fun h41 => ?_)
        · refine t_gd (inb_rg h_a2 (by decide)) ?_
          unfold Cu_leastRowOfEight_J63
          refine t_ob2 (fun r s => rg (-2147483648) 2147483647 r ∧ KD [21] [] s4 s) (Cu_leastRowOfFour_t hN (rg_w (lo := 0) (hi := 255) f10 (by decide)) (k5.1.r13 _) k5.1) (fun x45 s42 ⟨f46, k43⟩ => ?_)
          have k44 := kd_t (S := [21]) (J := []) k5 k43 (by decide) (by decide)
          refine t_if (fun h47 => ?_) (fun h47 => ?_)
          · unfold Cu_leastRowOfEight_J95
            refine t_ob2 (fun r s => rg (-2147483648) 2147483647 r ∧ KD [21] [] s42 s) (Cu_leastRowOfFour_t hN (rg_andl (lo := 0) (hi := 255) _ (rg_w (lo := 0) (hi := 255) f11 (by decide)) (by decide)) (rg_w (lo := 0) (hi := 255) (rg_shl1 (lo := 1) (hi := 128) 7 h_a2 (by decide)) (by decide)) k44.1) (fun x51 s48 ⟨f52, k49⟩ => ?_)
            have k50 := kd_t (S := [21]) (J := []) k44 k49 (by decide) (by decide)
            refine t_if (fun h53 => ?_) (fun h53 => ?_)
            · have f54 := (rg_eqL (lo := (-1)) (hi := (-1)) h53 (by decide : rg (-1) (-1) (-1 : Int32)) (by decide))
              exact ih7 _ _ _ ⟨(rg_w (lo := 1) (hi := 256) (rg_add (lo := 3) (hi := 256) f10 (by decide : rg 2 2 (2 : Int32)) (by decide)) (by decide)), k50⟩ (ms_up f10 (by decide : rg 2 2 (2 : Int32)) (by decide))
            · refine t_if (fun h55 => ?_) (fun h55 => ?_)
              · have f56 := (rg_eqL (lo := (-1)) (hi := (-1)) h55 (by decide : rg (-1) (-1) (-1 : Int32)) (by decide))
                exact ih7 _ _ _ ⟨(rg_w (lo := 1) (hi := 256) (rg_add (lo := 3) (hi := 256) f10 (by decide : rg 2 2 (2 : Int32)) (by decide)) (by decide)), k50⟩ (ms_up f10 (by decide : rg 2 2 (2 : Int32)) (by decide))
              · refine t_le (-2147483648) 2147483647 (rg_f _) (fun x57 e59 f58 => ?_)
                refine t_if (fun h60 => ?_) (fun h60 => ?_)
                · have f61 := (rg_eqL (lo := (-1)) (hi := (-1)) h60 (by decide : rg (-1) (-1) (-1 : Int32)) (by decide))
                  exact ih7 _ _ _ ⟨(rg_w (lo := 1) (hi := 256) (rg_add (lo := 3) (hi := 256) f10 (by decide : rg 2 2 (2 : Int32)) (by decide)) (by decide)), k50⟩ (ms_up f10 (by decide : rg 2 2 (2 : Int32)) (by decide))
                · refine t_if (fun h62 => ?_) (fun h62 => ?_)
                  · exact ih7 _ _ _ ⟨(rg_w (lo := 1) (hi := 256) (rg_add (lo := 3) (hi := 256) f10 (by decide : rg 2 2 (2 : Int32)) (by decide)) (by decide)), k50⟩ (ms_up f10 (by decide : rg 2 2 (2 : Int32)) (by decide))
                  · have f63 := (rg_ltL (lo := (-2147483648)) (hi := 2147483646) (i_nle h62) (rg_f _) (rg_f _) (by decide))
                    have f64 := (rg_ltR (lo := (-2147483647)) (hi := 2147483647) (i_nle h62) (rg_f _) (rg_f _) (by decide))
                    exact ih7 _ _ _ ⟨(rg_w (lo := 1) (hi := 256) (rg_add (lo := 3) (hi := 256) f10 (by decide : rg 2 2 (2 : Int32)) (by decide)) (by decide)), k50⟩ (ms_up f10 (by decide : rg 2 2 (2 : Int32)) (by decide))
          · exact absurd (rg_pt (by decide : rg 0 0 (0 : Int32)) (by decide : rg 0 0 (0 : Int32))) h47
        · exact absurd (rg_pt (by decide : rg 0 0 (0 : Int32)) (by decide : rg 0 0 (0 : Int32))) h41
    · exact ih7 _ _ _ ⟨(rg_w (lo := 1) (hi := 256) (rg_add (lo := 3) (hi := 256) f10 (by decide : rg 2 2 (2 : Int32)) (by decide)) (by decide)), k5⟩ (ms_up f10 (by decide : rg 2 2 (2 : Int32)) (by decide))
theorem Cu_leastRowWonBy_t {N : Nat} (hN : 8589934592 ≤ N) {a1 : Int32} (h_a1 : rg 0 7 a1) {σ : Mem} (hm : InvD σ) : tot (f_Cu_leastRowWonBy N a1 σ) (fun q => rg (-2147483648) 2147483647 q.1 ∧ KD [21] [] σ q.2) := by
  unfold f_Cu_leastRowWonBy
  refine t_le 0 255 (ev_rg hm) (fun x1 e3 f2 => ?_)
  refine t_sw1 (fun h4 => ?_) (fun _ => ?_)
  · have f5 := (rg_eqL (lo := 1) (hi := 1) h4 (by decide : rg 1 1 (1 : Int32)) (by decide))
    exact t_some ⟨(rg_f _), (kd_r hm)⟩
  refine t_sw1 (fun h6 => ?_) (fun _ => ?_)
  · have f7 := (rg_eqL (lo := 2) (hi := 2) h6 (by decide : rg 2 2 (2 : Int32)) (by decide))
    refine t_gd (inb_rg h_a1 (by decide)) ?_
    refine t_if (fun h8 => ?_) (fun h8 => ?_)
    · have f9 := (rg_eqL (lo := 0) (hi := 0) h8 (by decide : rg 0 0 (0 : Int32)) (by decide))
      exact t_some ⟨(rg_f _), (kd_r hm)⟩
    · have f10 := (rg_neL (lo := 1) (hi := 255) h8 (hm.r13 _) (by decide : rg 0 0 (0 : Int32)) (by decide))
      exact t_some ⟨(rg_f _), (kd_r hm)⟩
  refine t_sw1 (fun h11 => ?_) (fun _ => ?_)
  · have f12 := (rg_eqL (lo := 3) (hi := 3) h11 (by decide : rg 3 3 (3 : Int32)) (by decide))
    exact t_some ⟨(rg_f _), (kd_r hm)⟩
  refine t_sw1 (fun h13 => ?_) (fun _ => ?_)
  · have f14 := (rg_eqL (lo := 4) (hi := 4) h13 (by decide : rg 4 4 (4 : Int32)) (by decide))
    refine t_ob2 (fun r s => rg (-2147483648) 2147483647 r ∧ KD [21] [] σ s) (Cu_leastRowOfFour_t hN f2 (rg_w (lo := 0) (hi := 255) (rg_shl1 (lo := 1) (hi := 128) 7 h_a1 (by decide)) (by decide)) hm) (fun x18 s15 ⟨f19, k16⟩ => ?_)
    have k17 := kd_t (S := [21]) (J := []) (kd_r hm) k16 (by decide) (by decide)
    exact t_some ⟨(rg_f _), k17⟩
  refine t_sw1 (fun h20 => ?_) (fun _ => ?_)
  · have f21 := (rg_eqL (lo := 5) (hi := 5) h20 (by decide : rg 5 5 (5 : Int32)) (by decide))
    exact t_some ⟨(rg_f _), (kd_r hm)⟩
  refine t_sw1 (fun h22 => ?_) (fun _ => ?_)
  · have f23 := (rg_eqL (lo := 6) (hi := 6) h22 (by decide : rg 6 6 (6 : Int32)) (by decide))
    exact t_some ⟨(rg_f _), (kd_r hm)⟩
  refine t_sw1 (fun h24 => ?_) (fun _ => ?_)
  · have f25 := (rg_eqL (lo := 7) (hi := 7) h24 (by decide : rg 7 7 (7 : Int32)) (by decide))
    exact t_some ⟨(rg_f _), (kd_r hm)⟩
  refine t_sw1 (fun h26 => ?_) (fun _ => ?_)
  · have f27 := (rg_eqL (lo := 8) (hi := 8) h26 (by decide : rg 8 8 (8 : Int32)) (by decide))
    refine t_ob2 (fun r s => rg (-2147483648) 2147483647 r ∧ KD [21] [] σ s) (Cu_leastRowOfEight_t hN f2 h_a1 hm) (fun x31 s28 ⟨f32, k29⟩ => ?_)
    have k30 := kd_t (S := [21]) (J := []) (kd_r hm) k29 (by decide) (by decide)
    exact t_some ⟨(rg_f _), k30⟩
  refine t_sw0 ?_
  exact t_some ⟨(rg_f _), (kd_r hm)⟩
theorem D_cup_t {N : Nat} (hN : 8589934592 ≤ N) {a1 : Int32} {a2 : Int32} {σ : Mem} (hm : InvD σ) : tot (f_D_cup N a1 a2 σ) (fun q => rg (-2147483648) 2147483647 q.1 ∧ KD [21] [] σ q.2) := by
  unfold f_D_cup
  refine t_if (fun h1 => ?_) (fun h1 => ?_)
  · exact t_some ⟨(rg_f _), (kd_r hm)⟩
  · have f2 := (c_pl h1 hm)
    have f3 := (c_pl1 h1 hm)
    refine t_if (fun h4 => ?_) (fun h4 => ?_)
    · have f5 := (rg_ltL (lo := (-2147483648)) (hi := (-2)) h4 (rg_f _) (by decide : rg (-1) (-1) (-1 : Int32)) (by decide))
      exact t_some ⟨(rg_f _), (kd_r hm)⟩
    · have f6 := (rg_leR (lo := (-1)) (hi := 2147483647) (i_nlt h4) (by decide : rg (-1) (-1) (-1 : Int32)) (rg_f _) (by decide))
      refine t_if (fun h7 => ?_) (fun h7 => ?_)
      · have f8 := (rg_ltL (lo := (-1)) (hi := 7) h7 f6 f3 (by decide))
        refine t_if (fun h9 => ?_) (fun h9 => ?_)
        · exact t_some ⟨(rg_f _), (kd_r hm)⟩
        · refine t_if (fun h10 => ?_) (fun h10 => ?_)
          · have f11 := (rg_eqL (lo := (-1)) (hi := (-1)) h10 (by decide : rg (-1) (-1) (-1 : Int32)) (by decide))
            refine t_ob2 (fun r s => rg (-2147483648) 2147483647 r ∧ KD [21] [] σ s) (Cu_rowsWonBy_t hN f2 hm) (fun x15 s12 ⟨f16, k13⟩ => ?_)
            have k14 := kd_t (S := [21]) (J := []) (kd_r hm) k13 (by decide) (by decide)
            exact t_some ⟨(rg_f _), k14⟩
          · have f17 := (rg_neL (lo := 0) (hi := 7) h10 f8 (by decide : rg (-1) (-1) (-1 : Int32)) (by decide))
            refine t_ob2 (fun r s => rg (-2147483648) 2147483647 r ∧ KD [21] [] σ s) (Cu_leastRowWonBy_t hN f2 hm) (fun x21 s18 ⟨f22, k19⟩ => ?_)
            have k20 := kd_t (S := [21]) (J := []) (kd_r hm) k19 (by decide) (by decide)
            refine t_if (fun h23 => ?_) (fun h23 => ?_)
            · have f24 := (rg_eqL (lo := (-1)) (hi := (-1)) h23 (by decide : rg (-1) (-1) (-1 : Int32)) (by decide))
              exact t_some ⟨(rg_f _), k20⟩
            · exact t_some ⟨(rg_f _), k20⟩
      · have f25 := (rg_leR (lo := 1) (hi := 2147483647) (i_nlt h7) f3 f6 (by decide))
        exact t_some ⟨(rg_f _), (kd_r hm)⟩
theorem Du_packedS_t {N : Nat} (hN : 8589934592 ≤ N) {σ : Mem} (hm : InvD σ) : tot (f_Du_packedS N σ) (fun r => jok r) := by
  unfold f_Du_packedS
  refine t_it2 (fun l1 i2 => rg 0 8 i2) (fun l1 i2 => (8 - i2.toInt).toNat) ?_ _ _ _ (rg_w (lo := 0) (hi := 8) (by decide : rg 0 0 (0 : Int32)) (by decide)) (ms_u0 hN _ (by decide))
  rintro self6 l1 i2 f3 ih5
  unfold Du_packedS_B4
  refine t_if (fun h7 => ?_) (fun h7 => ?_)
  · exact t_some (jok_pk (hm.r4 _))
  · have f8 := (rg_ltL (lo := 0) (hi := 7) (i_nle h7) f3 (hm.r4 _) (by decide))
    have f9 := (rg_ltR (lo := 1) (hi := 8) (i_nle h7) f3 (hm.r4 _) (by decide))
    refine t_le 1 8 (rg_add (lo := 1) (hi := 8) f8 (by decide : rg 1 1 (1 : Int32)) (by decide)) (fun x10 e12 f11 => ?_)
    refine t_it2 (fun l13 i14 => rg 1 8 i14) (fun l13 i14 => (8 - i14.toInt).toNat) ?_ _ _ _ f11 (ms_u0 hN _ (by decide))
    rintro self18 l13 i14 f15 ih17
    unfold Du_packedS_B17
    refine t_if (fun h19 => ?_) (fun h19 => ?_)
    · exact ih5 _ _ (rg_w (lo := 0) (hi := 8) (rg_add (lo := 1) (hi := 8) f8 (by decide : rg 1 1 (1 : Int32)) (by decide)) (by decide)) (ms_up f8 (by decide : rg 1 1 (1 : Int32)) (by decide))
    · have f20 := (rg_ltL (lo := 1) (hi := 7) (i_nle h19) f15 f9 (by decide))
      have f21 := (rg_ltR (lo := 2) (hi := 8) (i_nle h19) f15 f9 (by decide))
      refine t_gd (inb_rg f8 (by decide)) ?_
      refine t_l64 (fun l22 => ?_)
      exact ih17 _ _ (rg_w (lo := 1) (hi := 8) (rg_add (lo := 2) (hi := 8) f20 (by decide : rg 1 1 (1 : Int32)) (by decide)) (by decide)) (ms_up f20 (by decide : rg 1 1 (1 : Int32)) (by decide))
theorem Pa_forgetAll_t {N : Nat} (hN : 8589934592 ≤ N) {σ : Mem} (hm : InvD σ) : tot (f_Pa_forgetAll N σ) (fun s => KD [5] [16] σ s) := by
  unfold f_Pa_forgetAll
  refine t_lm (KD [5] [16] σ) (kd_s (kd_r hm) (by decide) (dS5 hm (rg_w (lo := 0) (hi := 10) (by decide : rg 0 0 (0 : Int32)) (by decide)))) (fun s1 e3 k2 => ?_)
  refine t_it2 (fun i4 s6 => rg 0 2 i4 ∧ KD [5] [16] σ s6) (fun i4 s6 => (2 - i4.toInt).toNat) ?_ _ _ _ ⟨(rg_w (lo := 0) (hi := 2) (by decide : rg 0 0 (0 : Int32)) (by decide)), k2⟩ (ms_u0 hN _ (by decide))
  rintro self10 i4 s6 ⟨f5, k7⟩ ih9
  unfold Pa_forgetAll_B7
  refine t_if (fun h11 => ?_) (fun h11 => ?_)
  · have f12 := (rg_leR (lo := 2) (hi := 2) h11 (by decide : rg 2 2 (2 : Int32)) f5 (by decide))
    exact t_some k7
  · have f13 := (rg_ltL (lo := 0) (hi := 1) (i_nle h11) f5 (by decide : rg 2 2 (2 : Int32)) (by decide))
    refine t_gd (inb_rg f13 (by decide)) ?_
    refine t_lm (KD [5] [16] σ) (kd_j k7 (by decide) (dJ16 k7.1 jok_0)) (fun s14 e16 k15 => ?_)
    exact ih9 _ _ ⟨(rg_w (lo := 0) (hi := 2) (rg_add (lo := 1) (hi := 2) f13 (by decide : rg 1 1 (1 : Int32)) (by decide)) (by decide)), k15⟩ (ms_up f13 (by decide : rg 1 1 (1 : Int32)) (by decide))
theorem D_startWithSpare_t {N : Nat} (hN : 8589934592 ≤ N) {σ : Mem} (hm : InvD σ) : tot (f_D_startWithSpare N σ) (fun q => rg 0 8 q.1 ∧ KD [3, 5, 13] [16] σ q.2) := by
  unfold f_D_startWithSpare
  refine t_ob _ (Du_packedS_t hN hm) (fun l1 j2 => ?_)
  refine t_ob _ (Du_unpackN_t hN j2 hm) (fun s3 k4 => ?_)
  have k5 := kd_t (S := [3, 5, 13]) (J := [16]) (kd_r hm) k4 (by decide) (by decide)
  refine t_ob _ (Pa_forgetAll_t hN k5.1) (fun s6 k7 => ?_)
  have k8 := kd_t (S := [3, 5, 13]) (J := [16]) k5 k7 (by decide) (by decide)
  exact t_some ⟨(k8.1.r3 _), k8⟩
theorem D_drawn_t {N : Nat} (hN : 8589934592 ≤ N) {a1 : Int32} {a2 : Int32} {σ : Mem} (hm : InvD σ) : tot (f_D_drawn N a1 a2 σ) (fun q => rg (-1) 8 q.1 ∧ KD [3, 4, 5, 13, 14] [16] σ q.2) := by
  unfold f_D_drawn
  refine t_if (fun h1 => ?_) (fun h1 => ?_)
  · have f2 := (rg_ltL (lo := (-2147483648)) (hi := 0) h1 (rg_f _) (by decide : rg 1 1 (1 : Int32)) (by decide))
    exact t_some ⟨(rg_w (lo := (-1)) (hi := 8) (by decide : rg (-1) (-1) (-1 : Int32)) (by decide)), (kd_r hm)⟩
  · have f3 := (rg_leR (lo := 1) (hi := 2147483647) (i_nlt h1) (by decide : rg 1 1 (1 : Int32)) (rg_f _) (by decide))
    refine t_if (fun h4 => ?_) (fun h4 => ?_)
    · have f5 := (rg_ltR (lo := 9) (hi := 2147483647) h4 (by decide : rg 8 8 (8 : Int32)) f3 (by decide))
      exact t_some ⟨(rg_w (lo := (-1)) (hi := 8) (by decide : rg (-1) (-1) (-1 : Int32)) (by decide)), (kd_r hm)⟩
    · have f6 := (rg_leL (lo := 1) (hi := 8) (i_nlt h4) f3 (by decide : rg 8 8 (8 : Int32)) (by decide))
      refine t_if (fun h7 => ?_) (fun h7 => ?_)
      · have f8 := (rg_ltL (lo := (-2147483648)) (hi := (-1)) h7 (rg_f _) (by decide : rg 0 0 (0 : Int32)) (by decide))
        exact t_some ⟨(rg_w (lo := (-1)) (hi := 8) (by decide : rg (-1) (-1) (-1 : Int32)) (by decide)), (kd_r hm)⟩
      · have f9 := (rg_leR (lo := 0) (hi := 2147483647) (i_nlt h7) (by decide : rg 0 0 (0 : Int32)) (rg_f _) (by decide))
        refine t_if (fun h10 => ?_) (fun h10 => ?_)
        · have f11 := (rg_leL (lo := 0) (hi := 999999) h10 f9 (by decide : rg 999999 999999 (999999 : Int32)) (by decide))
          refine t_ob _ (Du_clearS_t hN hm) (fun s12 k13 => ?_)
          have k14 := kd_t (S := [3, 4, 5, 13, 14]) (J := [16]) (kd_r hm) k13 (by decide) (by decide)
          refine t_lm (KD [3, 4, 5, 13, 14] [16] σ) (kd_s k14 (by decide) (dS4 k14.1 (rg_w (lo := 0) (hi := 8) f6 (by decide)))) (fun s15 e17 k16 => ?_)
          refine t_it3 (fun i18 i20 s22 => rg 0 1000002 i18 ∧ rg 0 8 i20 ∧ KD [3, 4, 5, 13, 14] [16] σ s22) (fun i18 i20 s22 => (8 - i20.toInt).toNat) ?_ _ _ _ _ ⟨(rg_w (lo := 0) (hi := 1000002) f11 (by decide)), (rg_w (lo := 0) (hi := 8) (by decide : rg 0 0 (0 : Int32)) (by decide)), k16⟩ (ms_u0 hN _ (by decide))
          rintro self26 i18 i20 s22 ⟨f19, f21, k23⟩ ih25
          unfold D_drawn_B43
          refine t_if (fun h27 => ?_) (fun h27 => ?_)
          · have f28 := (rg_leR (lo := 1) (hi := 8) h27 f6 f21 (by decide))
            unfold D_drawn_K117
            refine t_ob2 (fun r s => rg 0 8 r ∧ KD [3, 5, 13] [16] s22 s) (D_startWithSpare_t hN k23.1) (fun x32 s29 ⟨f33, k30⟩ => ?_)
            have k31 := kd_t (S := [3, 4, 5, 13, 14]) (J := [16]) k23 k30 (by decide) (by decide)
            exact t_some ⟨(rg_w (lo := (-1)) (hi := 8) f33 (by decide)), k31⟩
          · have f34 := (rg_ltL (lo := 0) (hi := 7) (i_nle h27) f21 f6 (by decide))
            refine t_le 1 8 (rg_add (lo := 1) (hi := 8) f34 (by decide : rg 1 1 (1 : Int32)) (by decide)) (fun x35 e37 f36 => ?_)
            refine t_it3 (fun i38 i40 s42 => rg 0 1000002 i38 ∧ rg 1 8 i40 ∧ KD [3, 4, 5, 13, 14] [16] σ s42) (fun i38 i40 s42 => (8 - i40.toInt).toNat) ?_ _ _ _ _ ⟨f19, f36, k23⟩ (ms_u0 hN _ (by decide))
            rintro self46 i38 i40 s42 ⟨f39, f41, k43⟩ ih45
            unfold D_drawn_B55
            refine t_if (fun h47 => ?_) (fun h47 => ?_)
            · exact ih25 _ _ _ ⟨f39, (rg_w (lo := 0) (hi := 8) (rg_add (lo := 1) (hi := 8) f34 (by decide : rg 1 1 (1 : Int32)) (by decide)) (by decide)), k43⟩ (ms_up f34 (by decide : rg 1 1 (1 : Int32)) (by decide))
            · have f48 := (rg_ltL (lo := 1) (hi := 7) (i_nle h47) f41 f6 (by decide))
              have f49 := (rg_ltR (lo := 2) (hi := 8) (i_nle h47) f41 f6 (by decide))
              refine t_le 0 1000002 (rg_mod (lo := 0) (hi := 1000002) (rg_add (lo := 12345) (hi := 1103014551) (rg_mul (lo := 0) (hi := 1103002206) (by decide : rg 1103 1103 (1103 : Int32)) f39 (by decide)) (by decide : rg 12345 12345 (12345 : Int32)) (by decide)) (by decide : rg 1000003 1000003 (1000003 : Int32)) (by decide)) (fun x50 e52 f51 => ?_)
              refine t_if (fun h53 => ?_) (fun h53 => ?_)
              · have f54 := (rg_eqL (lo := 0) (hi := 0) h53 (by decide : rg 0 0 (0 : Int32)) (by decide))
                refine t_ob _ (Du_letBeatS_t f34 (rg_w (lo := 0) (hi := 7) f48 (by decide)) k43.1) (fun s55 k56 => ?_)
                have k57 := kd_t (S := [3, 4, 5, 13, 14]) (J := [16]) k43 k56 (by decide) (by decide)
                exact ih45 _ _ _ ⟨f51, (rg_w (lo := 1) (hi := 8) (rg_add (lo := 2) (hi := 8) f48 (by decide : rg 1 1 (1 : Int32)) (by decide)) (by decide)), k57⟩ (ms_up f48 (by decide : rg 1 1 (1 : Int32)) (by decide))
              · have f58 := (rg_neL (lo := 1) (hi := 1) h53 (rg_mod (lo := 0) (hi := 1) f51 (by decide : rg 2 2 (2 : Int32)) (by decide)) (by decide : rg 0 0 (0 : Int32)) (by decide))
                refine t_ob _ (Du_letBeatS_t (rg_w (lo := 0) (hi := 7) f48 (by decide)) f34 k43.1) (fun s59 k60 => ?_)
                have k61 := kd_t (S := [3, 4, 5, 13, 14]) (J := [16]) k43 k60 (by decide) (by decide)
                exact ih45 _ _ _ ⟨f51, (rg_w (lo := 1) (hi := 8) (rg_add (lo := 2) (hi := 8) f48 (by decide : rg 1 1 (1 : Int32)) (by decide)) (by decide)), k61⟩ (ms_up f48 (by decide : rg 1 1 (1 : Int32)) (by decide))
        · have f62 := (rg_ltR (lo := 1000000) (hi := 2147483647) (i_nle h10) (by decide : rg 999999 999999 (999999 : Int32)) f9 (by decide))
          exact t_some ⟨(rg_w (lo := (-1)) (hi := 8) (by decide : rg (-1) (-1) (-1 : Int32)) (by decide)), (kd_r hm)⟩
theorem Du_removePlayerN_t {N : Nat} (hN : 8589934592 ≤ N) {a1 : Int32} (h_a1 : rg 0 7 a1) {σ : Mem} (hp3 : rg 1 8 (gI σ 3 0)) (hm : InvD σ) : tot (f_Du_removePlayerN N a1 σ) (fun s => KD [3, 13] [] σ s) := by
  unfold f_Du_removePlayerN
  refine t_it2 (fun i1 s3 => rg 0 7 i1 ∧ KD [3, 13] [] σ s3 ∧ rg 1 8 (gI s3 3 0)) (fun i1 s3 => (7 - i1.toInt).toNat) ?_ _ _ _ ⟨h_a1, (kd_r hm), hp3⟩ (ms_u0 hN _ (by decide))
  rintro self8 i1 s3 ⟨f2, k4, f5⟩ ih7
  unfold Du_removePlayerN_B2
  refine t_if (fun h9 => ?_) (fun h9 => ?_)
  · unfold Du_removePlayerN_K32
    refine t_lm (KD [3, 13] [] σ) (kd_s k4 (by decide) (dS3 k4.1 (rg_w (lo := 0) (hi := 8) (rg_sub (lo := 0) (hi := 7) f5 (by decide : rg 1 1 (1 : Int32)) (by decide)) (by decide)))) (fun s10 e12 k11 => ?_)
    refine t_gd (inb_rg (tr_e e12 (rg_sub (lo := 0) (hi := 7) f5 (by decide : rg 1 1 (1 : Int32)) (by decide))) (by decide)) ?_
    refine t_lm (KD [3, 13] [] σ) (kd_s k11 (by decide) (dS13 k11.1 (rg_w (lo := 0) (hi := 255) (by decide : rg 0 0 (0 : Int32)) (by decide)))) (fun s13 e15 k14 => ?_)
    refine t_le 0 127 (rg_sub (lo := 0) (hi := 127) (rg_shl1 (lo := 1) (hi := 128) 7 h_a1 (by decide)) (by decide : rg 1 1 (1 : Int32)) (by decide)) (fun x16 e18 f17 => ?_)
    refine t_it2 (fun i19 s21 => rg 0 7 i19 ∧ KD [3, 13] [] σ s21 ∧ rg 0 7 (gI s21 3 0)) (fun i19 s21 => (7 - i19.toInt).toNat) ?_ _ _ _ ⟨(rg_w (lo := 0) (hi := 7) (by decide : rg 0 0 (0 : Int32)) (by decide)), k14, (tr_s e15 (by decide) (tr_e e12 (rg_sub (lo := 0) (hi := 7) f5 (by decide : rg 1 1 (1 : Int32)) (by decide))))⟩ (ms_u0 hN _ (by decide))
    rintro self26 i19 s21 ⟨f20, k22, f23⟩ ih25
    unfold Du_removePlayerN_B60
    refine t_if (fun h27 => ?_) (fun h27 => ?_)
    · exact t_some k22
    · have f28 := (rg_ltL (lo := 0) (hi := 6) (i_nle h27) f20 f23 (by decide))
      have f29 := (rg_ltR (lo := 1) (hi := 7) (i_nle h27) f20 f23 (by decide))
      refine t_gd (inb_rg f28 (by decide)) ?_
      refine t_gd (inb_rg f28 (by decide)) ?_
      refine t_gd (inb_rg f28 (by decide)) ?_
      refine t_lm (KD [3, 13] [] σ) (kd_s k22 (by decide) (dS13 k22.1 (rg_or (lo := 0) (hi := 255) 8 (rg_andr (lo := 0) (hi := 127) _ f17 (by decide)) (rg_andl (lo := 0) (hi := 255) _ (rg_shr (lo := 0) (hi := 255) _ (k22.1.r13 _) (by decide)) (by decide)) (by decide)))) (fun s30 e32 k31 => ?_)
      exact ih25 _ _ ⟨(rg_w (lo := 0) (hi := 7) (rg_add (lo := 1) (hi := 7) f28 (by decide : rg 1 1 (1 : Int32)) (by decide)) (by decide)), k31, (rg_w (lo := 0) (hi := 7) (tr_s e32 (by decide) f29) (by decide))⟩ (ms_up f28 (by decide : rg 1 1 (1 : Int32)) (by decide))
  · have f33 := (rg_ltL (lo := 0) (hi := 6) (i_nle h9) f2 (rg_sub (lo := 0) (hi := 7) f5 (by decide : rg 1 1 (1 : Int32)) (by decide)) (by decide))
    have f34 := (rg_ltR (lo := 1) (hi := 7) (i_nle h9) f2 (rg_sub (lo := 0) (hi := 7) f5 (by decide : rg 1 1 (1 : Int32)) (by decide)) (by decide))
    refine t_gd (inb_rg (rg_add (lo := 1) (hi := 7) f33 (by decide : rg 1 1 (1 : Int32)) (by decide)) (by decide)) ?_
    refine t_gd (inb_rg f33 (by decide)) ?_
    refine t_lm (KD [3, 13] [] σ) (kd_s k4 (by decide) (dS13 k4.1 (k4.1.r13 _))) (fun s35 e37 k36 => ?_)
    exact ih7 _ _ ⟨(rg_w (lo := 0) (hi := 7) (rg_add (lo := 1) (hi := 7) f33 (by decide : rg 1 1 (1 : Int32)) (by decide)) (by decide)), k36, (tr_s e37 (by decide) f5)⟩ (ms_up f33 (by decide : rg 1 1 (1 : Int32)) (by decide))
theorem D_drop_t {N : Nat} (hN : 8589934592 ≤ N) {a1 : Int32} {σ : Mem} (hm : InvD σ) : tot (f_D_drop N a1 σ) (fun q => rg (-3) 8 q.1 ∧ KD [3, 5, 13] [15] σ q.2) := by
  unfold f_D_drop
  refine t_if (fun h1 => ?_) (fun h1 => ?_)
  · exact t_some ⟨(rg_w (lo := (-3)) (hi := 8) (by decide : rg (-2) (-2) (-2 : Int32)) (by decide)), (kd_r hm)⟩
  · have f2 := (c_pl h1 hm)
    have f3 := (c_pl1 h1 hm)
    refine t_if (fun h4 => ?_) (fun h4 => ?_)
    · have f5 := (rg_eqL (lo := 1) (hi := 1) h4 (by decide : rg 1 1 (1 : Int32)) (by decide))
      exact t_some ⟨(rg_w (lo := (-3)) (hi := 8) (by decide : rg (-3) (-3) (-3 : Int32)) (by decide)), (kd_r hm)⟩
    · have f6 := (rg_neL (lo := 2) (hi := 8) h4 f3 (by decide : rg 1 1 (1 : Int32)) (by decide))
      refine t_ob _ (Du_packedN_t hN hm) (fun l7 j8 => ?_)
      refine t_ob _ (Pa_remember_t j8 hm) (fun s9 k10 => ?_)
      have k11 := kd_t (S := [3, 5, 13]) (J := [15]) (kd_r hm) k10 (by decide) (by decide)
      refine t_ob _ (Du_removePlayerN_t hN f2 (rg_w (lo := 1) (hi := 8) (tr_d k10 (by decide) f6) (by decide)) k11.1) (fun s12 k13 => ?_)
      have k14 := kd_t (S := [3, 5, 13]) (J := [15]) k11 k13 (by decide) (by decide)
      exact t_some ⟨(rg_w (lo := (-3)) (hi := 8) (k14.1.r3 _) (by decide)), k14⟩
theorem Sg_cutTo_t {a1 : Int32} {σ : Mem} (hm : InvD σ) : tot (f_Sg_cutTo a1 σ) (fun q => rg 0 1 q.1 ∧ KD [1] [] σ q.2) := by
  unfold f_Sg_cutTo
  refine t_if (fun h1 => ?_) (fun h1 => ?_)
  · have f2 := (rg_ltL (lo := (-2147483648)) (hi := (-1)) h1 (rg_f _) (by decide : rg 0 0 (0 : Int32)) (by decide))
    exact t_some ⟨(rg_w (lo := 0) (hi := 1) (by decide : rg 0 0 (0 : Int32)) (by decide)), (kd_r hm)⟩
  · have f3 := (rg_leR (lo := 0) (hi := 2147483647) (i_nlt h1) (by decide : rg 0 0 (0 : Int32)) (rg_f _) (by decide))
    refine t_if (fun h4 => ?_) (fun h4 => ?_)
    · have f5 := (rg_leL (lo := 0) (hi := 300) h4 f3 (hm.r1 _) (by decide))
      refine t_lm (KD [1] [] σ) (kd_s (kd_r hm) (by decide) (dS1 hm f5)) (fun s6 e8 k7 => ?_)
      exact t_some ⟨(rg_w (lo := 0) (hi := 1) (by decide : rg 1 1 (1 : Int32)) (by decide)), k7⟩
    · have f9 := (rg_ltR (lo := 1) (hi := 2147483647) (i_nle h4) (hm.r1 _) f3 (by decide))
      exact t_some ⟨(rg_w (lo := 0) (hi := 1) (by decide : rg 0 0 (0 : Int32)) (by decide)), (kd_r hm)⟩
theorem Se_isCovering_t {a1 : Int32} (h_a1 : rg 0 7 a1) {a2 : Int32} (h_a2 : rg 0 7 a2) {a3 : Int32} (h_a3 : rg 0 255 a3) {σ : Mem} (hm : InvD σ) : tot (f_Se_isCovering a1 a2 a3 σ) (fun r => rg 0 1 r) := by
  unfold f_Se_isCovering
  refine t_gd (inb_rg h_a2 (by decide)) ?_
  refine t_le 0 255 (rg_or (lo := 0) (hi := 255) 8 (rg_andl (lo := 0) (hi := 255) _ (hm.r13 _) (by decide)) (rg_w (lo := 0) (hi := 128) (rg_shl1 (lo := 1) (hi := 128) 7 h_a2 (by decide)) (by decide)) (by decide)) (fun x1 e3 f2 => ?_)
  refine t_gd (inb_rg h_a1 (by decide)) ?_
  refine t_if (fun h4 => ?_) (fun h4 => ?_)
  · exact t_some (rg_w (lo := 0) (hi := 1) (by decide : rg 1 1 (1 : Int32)) (by decide))
  · have f5 := (rg_neL (lo := 1) (hi := 255) h4 (rg_andl (lo := 0) (hi := 255) _ f2 (by decide)) (by decide : rg 0 0 (0 : Int32)) (by decide))
    exact t_some (rg_w (lo := 0) (hi := 1) (by decide : rg 0 0 (0 : Int32)) (by decide))
theorem Se_isCovered_t {N : Nat} (hN : 8589934592 ≤ N) {a1 : Int32} (h_a1 : rg 0 7 a1) {a2 : Int32} (h_a2 : rg 0 255 a2) {σ : Mem} (hm : InvD σ) : tot (f_Se_isCovered N a1 a2 σ) (fun r => rg 0 1 r) := by
  unfold f_Se_isCovered
  refine t_it1 (fun i1 => rg 0 8 i1) (fun i1 => (8 - i1.toInt).toNat) ?_ _ _ (rg_w (lo := 0) (hi := 8) (by decide : rg 0 0 (0 : Int32)) (by decide)) (ms_u0 hN _ (by decide))
  rintro self5 i1 f2 ih4
  unfold Se_isCovered_B2
  refine t_if (fun h6 => ?_) (fun h6 => ?_)
  · exact t_some (rg_w (lo := 0) (hi := 1) (by decide : rg 0 0 (0 : Int32)) (by decide))
  · have f7 := (rg_ltL (lo := 0) (hi := 7) (i_nle h6) f2 (hm.r3 _) (by decide))
    have f8 := (rg_ltR (lo := 1) (hi := 8) (i_nle h6) f2 (hm.r3 _) (by decide))
    refine t_if (fun h9 => ?_) (fun h9 => ?_)
    · have f10 := (rg_eqL (lo := 1) (hi := 1) h9 (by decide : rg 1 1 (1 : Int32)) (by decide))
      refine t_ob _ (Se_isCovering_t f7 h_a1 h_a2 hm) (fun x11 f12 => ?_)
      refine t_if (fun h13 => ?_) (fun h13 => ?_)
      · have f14 := (rg_eqL (lo := 0) (hi := 0) h13 (by decide : rg 0 0 (0 : Int32)) (by decide))
        exact ih4 _ (rg_w (lo := 0) (hi := 8) (rg_add (lo := 1) (hi := 8) f7 (by decide : rg 1 1 (1 : Int32)) (by decide)) (by decide)) (ms_up f7 (by decide : rg 1 1 (1 : Int32)) (by decide))
      · have f15 := (rg_neL (lo := 1) (hi := 1) h13 f12 (by decide : rg 0 0 (0 : Int32)) (by decide))
        exact t_some (rg_w (lo := 0) (hi := 1) (by decide : rg 1 1 (1 : Int32)) (by decide))
    · have f16 := (rg_neL (lo := 0) (hi := 0) h9 (rb_bit _ _) (by decide : rg 1 1 (1 : Int32)) (by decide))
      exact ih4 _ (rg_w (lo := 0) (hi := 8) (rg_add (lo := 1) (hi := 8) f7 (by decide : rg 1 1 (1 : Int32)) (by decide)) (by decide)) (ms_up f7 (by decide : rg 1 1 (1 : Int32)) (by decide))
theorem Or_behindBest_t {N : Nat} (hN : 8589934592 ≤ N) {a1 : Int32} (h_a1 : rg 0 7 a1) {a2 : Int32} (h_a2 : rg 0 255 a2) {σ : Mem} (hm : InvD σ) : tot (f_Or_behindBest N a1 a2 σ) (fun q => rg (-2147483648) 2147483647 q.1 ∧ KD [17, 18] [] σ q.2) := by
  unfold f_Or_behindBest
  refine t_ob _ (Or_measure_t hN h_a2 hm) (fun s1 k2 => ?_)
  have k3 := kd_t (S := [17, 18]) (J := []) (kd_r hm) k2 (by decide) (by decide)
  refine t_ob _ (Or_turnedWithFirst_t h_a1 h_a2 k3.1) (fun x4 f5 => ?_)
  refine t_gd (inb_rg h_a2 (by decide)) ?_
  exact t_some ⟨(rg_f _), k3⟩
theorem D_isTooFar_t {N : Nat} (hN : 8589934592 ≤ N) {a1 : Int32} (h_a1 : rg 0 7 a1) {a2 : Int32} (h_a2 : rg 0 9 a2) {a3 : Int32} (h_a3 : rg 0 2 a3) {σ : Mem} (hm : InvD σ) : tot (f_D_isTooFar N a1 a2 a3 σ) (fun q => rg 0 1 q.1 ∧ KD [17, 18] [] σ q.2) := by
  unfold f_D_isTooFar
  refine t_if (fun h1 => ?_) (fun h1 => ?_)
  · have f2 := (rg_eqL (lo := 0) (hi := 0) h1 (by decide : rg 0 0 (0 : Int32)) (by decide))
    exact t_some ⟨(rg_w (lo := 0) (hi := 1) (by decide : rg 0 0 (0 : Int32)) (by decide)), (kd_r hm)⟩
  · have f3 := (rg_neL (lo := 1) (hi := 9) h1 h_a2 (by decide : rg 0 0 (0 : Int32)) (by decide))
    refine t_if (fun h4 => ?_) (fun h4 => ?_)
    · have f5 := (rg_eqL (lo := 9) (hi := 9) h4 (by decide : rg 9 9 (9 : Int32)) (by decide))
      refine t_gd (inb_rg h_a1 (by decide)) ?_
      refine t_if (fun h6 => ?_) (fun h6 => ?_)
      · have f7 := (rg_leR (lo := 0) (hi := 2147483647) h6 (hm.r3 _) (rg_f _) (by decide))
        exact t_some ⟨(rg_w (lo := 0) (hi := 1) (by decide : rg 0 0 (0 : Int32)) (by decide)), (kd_r hm)⟩
      · have f8 := (rg_ltL (lo := (-2147483648)) (hi := 7) (i_nle h6) (rg_f _) (hm.r3 _) (by decide))
        exact t_some ⟨(rg_w (lo := 0) (hi := 1) (by decide : rg 1 1 (1 : Int32)) (by decide)), (kd_r hm)⟩
    · have f9 := (rg_neL (lo := 1) (hi := 8) h4 f3 (by decide : rg 9 9 (9 : Int32)) (by decide))
      refine t_if (fun h10 => ?_) (fun h10 => ?_)
      · have f11 := (rg_eqL (lo := 0) (hi := 0) h10 (by decide : rg 0 0 (0 : Int32)) (by decide))
        refine t_ob _ (Se_isCovered_t hN h_a1 (ev_rg hm) hm) (fun x12 f13 => ?_)
        refine t_if (fun h14 => ?_) (fun h14 => ?_)
        · have f15 := (rg_eqL (lo := 0) (hi := 0) h14 (by decide : rg 0 0 (0 : Int32)) (by decide))
          unfold D_isTooFar_J68
          refine t_if (fun h16 => ?_) (fun h16 => ?_)
          · have f17 := (rg_eqL (lo := 5) (hi := 5) h16 (by decide : rg 5 5 (5 : Int32)) (by decide))
            refine t_ob2 (fun r s => rg (-2147483648) 2147483647 r ∧ KD [17, 18] [] σ s) (Or_behindBest_t hN h_a1 (ev_rg hm) hm) (fun x21 s18 ⟨f22, k19⟩ => ?_)
            have k20 := kd_t (S := [17, 18]) (J := []) (kd_r hm) k19 (by decide) (by decide)
            refine t_if (fun h23 => ?_) (fun h23 => ?_)
            · have f24 := (rg_leL (lo := (-2147483648)) (hi := 0) h23 (rg_f _) (rg_mul (lo := 0) (hi := 0) (by decide : rg 2 2 (2 : Int32)) f11 (by decide)) (by decide))
              exact t_some ⟨(rg_w (lo := 0) (hi := 1) (by decide : rg 0 0 (0 : Int32)) (by decide)), k20⟩
            · have f25 := (rg_ltR (lo := 1) (hi := 2147483647) (i_nle h23) (rg_mul (lo := 0) (hi := 0) (by decide : rg 2 2 (2 : Int32)) f11 (by decide)) (rg_f _) (by decide))
              exact t_some ⟨(rg_w (lo := 0) (hi := 1) (by decide : rg 1 1 (1 : Int32)) (by decide)), k20⟩
          · exact t_some ⟨(rg_w (lo := 0) (hi := 1) (by decide : rg 0 0 (0 : Int32)) (by decide)), (kd_r hm)⟩
        · have f26 := (rg_neL (lo := 1) (hi := 1) h14 f13 (by decide : rg 0 0 (0 : Int32)) (by decide))
          exact t_some ⟨(rg_w (lo := 0) (hi := 1) (by decide : rg 1 1 (1 : Int32)) (by decide)), (kd_r hm)⟩
      · have f27 := (rg_neL (lo := 1) (hi := 2) h10 h_a3 (by decide : rg 0 0 (0 : Int32)) (by decide))
        unfold D_isTooFar_J68
        refine t_if (fun h28 => ?_) (fun h28 => ?_)
        · have f29 := (rg_eqL (lo := 5) (hi := 5) h28 (by decide : rg 5 5 (5 : Int32)) (by decide))
          refine t_ob2 (fun r s => rg (-2147483648) 2147483647 r ∧ KD [17, 18] [] σ s) (Or_behindBest_t hN h_a1 (ev_rg hm) hm) (fun x33 s30 ⟨f34, k31⟩ => ?_)
          have k32 := kd_t (S := [17, 18]) (J := []) (kd_r hm) k31 (by decide) (by decide)
          refine t_if (fun h35 => ?_) (fun h35 => ?_)
          · have f36 := (rg_leL (lo := (-2147483648)) (hi := 4) h35 (rg_f _) (rg_mul (lo := 0) (hi := 4) (by decide : rg 2 2 (2 : Int32)) f27 (by decide)) (by decide))
            exact t_some ⟨(rg_w (lo := 0) (hi := 1) (by decide : rg 0 0 (0 : Int32)) (by decide)), k32⟩
          · have f37 := (rg_ltR (lo := 1) (hi := 2147483647) (i_nle h35) (rg_mul (lo := 0) (hi := 4) (by decide : rg 2 2 (2 : Int32)) f27 (by decide)) (rg_f _) (by decide))
            exact t_some ⟨(rg_w (lo := 0) (hi := 1) (by decide : rg 1 1 (1 : Int32)) (by decide)), k32⟩
        · exact t_some ⟨(rg_w (lo := 0) (hi := 1) (by decide : rg 0 0 (0 : Int32)) (by decide)), (kd_r hm)⟩
theorem Cu_winnersOfFour_t {N : Nat} (hN : 8589934592 ≤ N) {a1 : Int32} (h_a1 : rg 0 255 a1) {σ : Mem} (hm : InvD σ) : tot (f_Cu_winnersOfFour N a1 σ) (fun q => rg 0 255 q.1 ∧ KD [21] [] σ q.2) := by
  unfold f_Cu_winnersOfFour
  refine t_ob2 (fun r s => rg 0 8 r ∧ KD [21] [] σ s) (Cu_putIntoRow_t hN h_a1 (rg_w (lo := 0) (hi := 8) (by decide : rg 0 0 (0 : Int32)) (by decide)) hm) (fun x4 s1 ⟨f5, k2⟩ => ?_)
  have k3 := kd_t (S := [21]) (J := []) (kd_r hm) k2 (by decide) (by decide)
  refine t_it2 (fun i6 i8 => rg 0 255 i6 ∧ rg 0 3 i8) (fun i6 i8 => (3 - i8.toInt).toNat) ?_ _ _ _ ⟨(rg_w (lo := 0) (hi := 255) (by decide : rg 0 0 (0 : Int32)) (by decide)), (rg_w (lo := 0) (hi := 3) (by decide : rg 0 0 (0 : Int32)) (by decide))⟩ (ms_u0 hN _ (by decide))
  rintro self12 i6 i8 ⟨f7, f9⟩ ih11
  unfold Cu_winnersOfFour_B11
  refine t_if (fun h13 => ?_) (fun h13 => ?_)
  · have f14 := (rg_leR (lo := 3) (hi := 3) h13 (by decide : rg 3 3 (3 : Int32)) f9 (by decide))
    exact t_some ⟨f7, k3⟩
  · have f15 := (rg_ltL (lo := 0) (hi := 2) (i_nle h13) f9 (by decide : rg 3 3 (3 : Int32)) (by decide))
    refine t_ob _ (Cu_winnerByWay_t f15 k3.1) (fun x16 f17 => ?_)
    refine t_le 0 255 (rg_or (lo := 0) (hi := 255) 8 f7 (rg_w (lo := 0) (hi := 128) (rg_shl1 (lo := 1) (hi := 128) 7 f17 (by decide)) (by decide)) (by decide)) (fun x18 e20 f19 => ?_)
    exact ih11 _ _ ⟨f19, (rg_w (lo := 0) (hi := 3) (rg_add (lo := 1) (hi := 3) f15 (by decide : rg 1 1 (1 : Int32)) (by decide)) (by decide))⟩ (ms_up f15 (by decide : rg 1 1 (1 : Int32)) (by decide))
theorem Cu_winnersOver_t {N : Nat} (hN : 8589934592 ≤ N) {a1 : Int32} (h_a1 : rg 0 255 a1) {a2 : Int32} (h_a2 : rg 0 255 a2) {σ : Mem} (hm : InvD σ) : tot (f_Cu_winnersOver N a1 a2 σ) (fun r => rg 0 255 r) := by
  unfold f_Cu_winnersOver
  refine t_it2 (fun i1 i3 => rg 0 255 i1 ∧ rg 0 8 i3) (fun i1 i3 => (8 - i3.toInt).toNat) ?_ _ _ _ ⟨(rg_w (lo := 0) (hi := 255) (by decide : rg 0 0 (0 : Int32)) (by decide)), (rg_w (lo := 0) (hi := 8) (by decide : rg 0 0 (0 : Int32)) (by decide))⟩ (ms_u0 hN _ (by decide))
  rintro self7 i1 i3 ⟨f2, f4⟩ ih6
  unfold Cu_winnersOver_B5
  refine t_if (fun h8 => ?_) (fun h8 => ?_)
  · exact t_some f2
  · have f9 := (rg_ltL (lo := 0) (hi := 7) (i_nle h8) f4 (hm.r3 _) (by decide))
    have f10 := (rg_ltR (lo := 1) (hi := 8) (i_nle h8) f4 (hm.r3 _) (by decide))
    refine t_if (fun h11 => ?_) (fun h11 => ?_)
    · have f12 := (rg_eqL (lo := 1) (hi := 1) h11 (by decide : rg 1 1 (1 : Int32)) (by decide))
      refine t_gd (inb_rg f9 (by decide)) ?_
      refine t_if (fun h13 => ?_) (fun h13 => ?_)
      · have f14 := (rg_eqL (lo := 0) (hi := 0) h13 (by decide : rg 0 0 (0 : Int32)) (by decide))
        exact ih6 _ _ ⟨f2, (rg_w (lo := 0) (hi := 8) (rg_add (lo := 1) (hi := 8) f9 (by decide : rg 1 1 (1 : Int32)) (by decide)) (by decide))⟩ (ms_up f9 (by decide : rg 1 1 (1 : Int32)) (by decide))
      · have f15 := (rg_neL (lo := 1) (hi := 255) h13 (rg_andl (lo := 0) (hi := 255) _ (hm.r13 _) (by decide)) (by decide : rg 0 0 (0 : Int32)) (by decide))
        refine t_le 0 255 (rg_or (lo := 0) (hi := 255) 8 f2 (rg_w (lo := 0) (hi := 128) (rg_shl1 (lo := 1) (hi := 128) 7 f9 (by decide)) (by decide)) (by decide)) (fun x16 e18 f17 => ?_)
        exact ih6 _ _ ⟨f17, (rg_w (lo := 0) (hi := 8) (rg_add (lo := 1) (hi := 8) f9 (by decide : rg 1 1 (1 : Int32)) (by decide)) (by decide))⟩ (ms_up f9 (by decide : rg 1 1 (1 : Int32)) (by decide))
    · have f19 := (rg_neL (lo := 0) (hi := 0) h11 (rb_bit _ _) (by decide : rg 1 1 (1 : Int32)) (by decide))
      exact ih6 _ _ ⟨f2, (rg_w (lo := 0) (hi := 8) (rg_add (lo := 1) (hi := 8) f9 (by decide : rg 1 1 (1 : Int32)) (by decide)) (by decide))⟩ (ms_up f9 (by decide : rg 1 1 (1 : Int32)) (by decide))
theorem Cu_winnersOfEight_t {N : Nat} (hN : 8589934592 ≤ N) {a1 : Int32} (h_a1 : rg 1 255 a1) {σ : Mem} (hm : InvD σ) : tot (f_Cu_winnersOfEight N a1 σ) (fun q => rg 0 255 q.1 ∧ KD [21] [] σ q.2) := by
  unfold f_Cu_winnersOfEight
  refine t_it3 (fun i1 i3 s5 => rg 0 255 i1 ∧ rg 1 256 i3 ∧ KD [21] [] σ s5) (fun i1 i3 s5 => (255 - i3.toInt).toNat) ?_ _ _ _ _ ⟨(rg_w (lo := 0) (hi := 255) (by decide : rg 0 0 (0 : Int32)) (by decide)), (rg_w (lo := 1) (hi := 256) (by decide : rg 1 1 (1 : Int32)) (by decide)), (kd_r hm)⟩ (ms_u0 hN _ (by decide))
  rintro self9 i1 i3 s5 ⟨f2, f4, k6⟩ ih8
  unfold Cu_winnersOfEight_B4
  refine t_if (fun h10 => ?_) (fun h10 => ?_)
  · exact t_some ⟨f2, k6⟩
  · have f11 := (rg_ltL (lo := 1) (hi := 254) (i_nle h10) f4 h_a1 (by decide))
    have f12 := (rg_ltR (lo := 2) (hi := 255) (i_nle h10) f4 h_a1 (by decide))
    refine t_if (fun h13 => ?_) (fun h13 => ?_)
    · have f14 := (rg_eqL (lo := 4) (hi := 4) h13 (by decide : rg 4 4 (4 : Int32)) (by decide))
      refine t_ob2 (fun r s => rg 0 255 r ∧ KD [21] [] s5 s) (Cu_winnersOfFour_t hN (rg_w (lo := 0) (hi := 255) f11 (by decide)) k6.1) (fun x18 s15 ⟨f19, k16⟩ => ?_)
      have k17 := kd_t (S := [21]) (J := []) k6 k16 (by decide) (by decide)
      refine t_ob2 (fun r s => rg 0 255 r ∧ KD [21] [] s15 s) (Cu_winnersOfFour_t hN (rg_andl (lo := 0) (hi := 255) _ (rg_w (lo := 0) (hi := 255) f12 (by decide)) (by decide)) k17.1) (fun x23 s20 ⟨f24, k21⟩ => ?_)
      have k22 := kd_t (S := [21]) (J := []) k17 k21 (by decide) (by decide)
      refine t_ob _ (Cu_winnersOver_t hN f19 f24 k22.1) (fun x25 f26 => ?_)
      refine t_ob _ (Cu_winnersOver_t hN f24 f19 k22.1) (fun x27 f28 => ?_)
      refine t_le 0 255 (rg_or (lo := 0) (hi := 255) 8 f2 (rg_or (lo := 0) (hi := 255) 8 f26 f28 (by decide)) (by decide)) (fun x29 e31 f30 => ?_)
      exact ih8 _ _ _ ⟨f30, (rg_w (lo := 1) (hi := 256) (rg_add (lo := 3) (hi := 256) f11 (by decide : rg 2 2 (2 : Int32)) (by decide)) (by decide)), k22⟩ (ms_up f11 (by decide : rg 2 2 (2 : Int32)) (by decide))
    · exact ih8 _ _ _ ⟨f2, (rg_w (lo := 1) (hi := 256) (rg_add (lo := 3) (hi := 256) f11 (by decide : rg 2 2 (2 : Int32)) (by decide)) (by decide)), k6⟩ (ms_up f11 (by decide : rg 2 2 (2 : Int32)) (by decide))
theorem Cu_winners_t {N : Nat} (hN : 8589934592 ≤ N) {a1 : Int32} (h_a1 : rg 1 255 a1) {σ : Mem} (hm : InvD σ) : tot (f_Cu_winners N a1 σ) (fun q => rg 0 255 q.1 ∧ KD [21] [] σ q.2) := by
  unfold f_Cu_winners
  refine t_sw1 (fun h1 => ?_) (fun _ => ?_)
  · have f2 := (rg_eqL (lo := 1) (hi := 1) h1 (by decide : rg 1 1 (1 : Int32)) (by decide))
    exact t_some ⟨(rg_w (lo := 0) (hi := 255) h_a1 (by decide)), (kd_r hm)⟩
  refine t_sw1 (fun h3 => ?_) (fun _ => ?_)
  · have f4 := (rg_eqL (lo := 2) (hi := 2) h3 (by decide : rg 2 2 (2 : Int32)) (by decide))
    refine t_ob2 (fun r s => rg 0 8 r ∧ KD [21] [] σ s) (Cu_putIntoRow_t hN (rg_w (lo := 0) (hi := 255) h_a1 (by decide)) (rg_w (lo := 0) (hi := 8) (by decide : rg 0 0 (0 : Int32)) (by decide)) hm) (fun x8 s5 ⟨f9, k6⟩ => ?_)
    have k7 := kd_t (S := [21]) (J := []) (kd_r hm) k6 (by decide) (by decide)
    refine t_ob _ (Du_winnerOfN_t (k7.1.r21 _) (k7.1.r21 _) k7.1) (fun x10 f11 => ?_)
    exact t_some ⟨(rg_w (lo := 0) (hi := 255) (rg_shl1 (lo := 1) (hi := 128) 7 f11 (by decide)) (by decide)), k7⟩
  refine t_sw1 (fun h12 => ?_) (fun _ => ?_)
  · have f13 := (rg_eqL (lo := 3) (hi := 3) h12 (by decide : rg 3 3 (3 : Int32)) (by decide))
    exact t_some ⟨(rg_w (lo := 0) (hi := 255) (by decide : rg 0 0 (0 : Int32)) (by decide)), (kd_r hm)⟩
  refine t_sw1 (fun h14 => ?_) (fun _ => ?_)
  · have f15 := (rg_eqL (lo := 4) (hi := 4) h14 (by decide : rg 4 4 (4 : Int32)) (by decide))
    refine t_ob2 (fun r s => rg 0 255 r ∧ KD [21] [] σ s) (Cu_winnersOfFour_t hN (rg_w (lo := 0) (hi := 255) h_a1 (by decide)) hm) (fun x19 s16 ⟨f20, k17⟩ => ?_)
    have k18 := kd_t (S := [21]) (J := []) (kd_r hm) k17 (by decide) (by decide)
    exact t_some ⟨f20, k18⟩
  refine t_sw1 (fun h21 => ?_) (fun _ => ?_)
  · have f22 := (rg_eqL (lo := 5) (hi := 5) h21 (by decide : rg 5 5 (5 : Int32)) (by decide))
    exact t_some ⟨(rg_w (lo := 0) (hi := 255) (by decide : rg 0 0 (0 : Int32)) (by decide)), (kd_r hm)⟩
  refine t_sw1 (fun h23 => ?_) (fun _ => ?_)
  · have f24 := (rg_eqL (lo := 6) (hi := 6) h23 (by decide : rg 6 6 (6 : Int32)) (by decide))
    exact t_some ⟨(rg_w (lo := 0) (hi := 255) (by decide : rg 0 0 (0 : Int32)) (by decide)), (kd_r hm)⟩
  refine t_sw1 (fun h25 => ?_) (fun _ => ?_)
  · have f26 := (rg_eqL (lo := 7) (hi := 7) h25 (by decide : rg 7 7 (7 : Int32)) (by decide))
    exact t_some ⟨(rg_w (lo := 0) (hi := 255) (by decide : rg 0 0 (0 : Int32)) (by decide)), (kd_r hm)⟩
  refine t_sw1 (fun h27 => ?_) (fun _ => ?_)
  · have f28 := (rg_eqL (lo := 8) (hi := 8) h27 (by decide : rg 8 8 (8 : Int32)) (by decide))
    refine t_ob2 (fun r s => rg 0 255 r ∧ KD [21] [] σ s) (Cu_winnersOfEight_t hN h_a1 hm) (fun x32 s29 ⟨f33, k30⟩ => ?_)
    have k31 := kd_t (S := [21]) (J := []) (kd_r hm) k30 (by decide) (by decide)
    exact t_some ⟨f33, k31⟩
  refine t_sw0 ?_
  exact t_some ⟨(rg_w (lo := 0) (hi := 255) (by decide : rg 0 0 (0 : Int32)) (by decide)), (kd_r hm)⟩
theorem Se_closeNeeds_t {N : Nat} (hN : 8589934592 ≤ N) {a1 : Int32} (h_a1 : rg 0 56 a1) {a2 : Int32} (h_a2 : rg 1 255 a2) {σ : Mem} (hm : InvD σ) : tot (f_Se_closeNeeds N a1 a2 σ) (fun s => KD [23] [] σ s) := by
  unfold f_Se_closeNeeds
  refine t_it2 (fun i1 s3 => rg 0 8 i1 ∧ KD [23] [] σ s3) (fun i1 s3 => (8 - i1.toInt).toNat) ?_ _ _ _ ⟨(rg_w (lo := 0) (hi := 8) (by decide : rg 0 0 (0 : Int32)) (by decide)), (kd_r hm)⟩ (ms_u0 hN _ (by decide))
  rintro self7 i1 s3 ⟨f2, k4⟩ ih6
  unfold Se_closeNeeds_B2
  refine t_if (fun h8 => ?_) (fun h8 => ?_)
  · exact t_some k4
  · have f9 := (rg_ltL (lo := 0) (hi := 7) (i_nle h8) f2 (k4.1.r3 _) (by decide))
    have f10 := (rg_ltR (lo := 1) (hi := 8) (i_nle h8) f2 (k4.1.r3 _) (by decide))
    refine t_it2 (fun i11 s13 => rg 0 8 i11 ∧ KD [23] [] σ s13) (fun i11 s13 => (8 - i11.toInt).toNat) ?_ _ _ _ ⟨(rg_w (lo := 0) (hi := 8) (by decide : rg 0 0 (0 : Int32)) (by decide)), k4⟩ (ms_u0 hN _ (by decide))
    rintro self17 i11 s13 ⟨f12, k14⟩ ih16
    unfold Se_closeNeeds_B16
    refine t_if (fun h18 => ?_) (fun h18 => ?_)
    · exact ih6 _ _ ⟨(rg_w (lo := 0) (hi := 8) (rg_add (lo := 1) (hi := 8) f9 (by decide : rg 1 1 (1 : Int32)) (by decide)) (by decide)), k14⟩ (ms_up f9 (by decide : rg 1 1 (1 : Int32)) (by decide))
    · have f19 := (rg_ltL (lo := 0) (hi := 7) (i_nle h18) f12 (k14.1.r3 _) (by decide))
      have f20 := (rg_ltR (lo := 1) (hi := 8) (i_nle h18) f12 (k14.1.r3 _) (by decide))
      refine t_if (fun h21 => ?_) (fun h21 => ?_)
      · have f22 := (rg_eqL (lo := 1) (hi := 1) h21 (by decide : rg 1 1 (1 : Int32)) (by decide))
        refine t_gd (inb_rg (rg_add (lo := 0) (hi := 63) h_a1 f19 (by decide)) (by decide)) ?_
        refine t_if (fun h23 => ?_) (fun h23 => ?_)
        · have f24 := (rg_eqL (lo := 1) (hi := 1) h23 (by decide : rg 1 1 (1 : Int32)) (by decide))
          refine t_gd (inb_rg (rg_add (lo := 0) (hi := 63) h_a1 f19 (by decide)) (by decide)) ?_
          refine t_gd (inb_rg (rg_add (lo := 0) (hi := 63) h_a1 f9 (by decide)) (by decide)) ?_
          refine t_gd (inb_rg (rg_add (lo := 0) (hi := 63) h_a1 f19 (by decide)) (by decide)) ?_
          refine t_lm (KD [23] [] σ) (kd_s k14 (by decide) (dS23 k14.1)) (fun s25 e27 k26 => ?_)
          exact ih16 _ _ ⟨(rg_w (lo := 0) (hi := 8) (rg_add (lo := 1) (hi := 8) f19 (by decide : rg 1 1 (1 : Int32)) (by decide)) (by decide)), k26⟩ (ms_up f19 (by decide : rg 1 1 (1 : Int32)) (by decide))
        · have f28 := (rg_neL (lo := 0) (hi := 0) h23 (rb_bit _ _) (by decide : rg 1 1 (1 : Int32)) (by decide))
          exact ih16 _ _ ⟨(rg_w (lo := 0) (hi := 8) (rg_add (lo := 1) (hi := 8) f19 (by decide : rg 1 1 (1 : Int32)) (by decide)) (by decide)), k14⟩ (ms_up f19 (by decide : rg 1 1 (1 : Int32)) (by decide))
      · have f29 := (rg_neL (lo := 0) (hi := 0) h21 (rb_bit _ _) (by decide : rg 1 1 (1 : Int32)) (by decide))
        exact ih16 _ _ ⟨(rg_w (lo := 0) (hi := 8) (rg_add (lo := 1) (hi := 8) f19 (by decide : rg 1 1 (1 : Int32)) (by decide)) (by decide)), k14⟩ (ms_up f19 (by decide : rg 1 1 (1 : Int32)) (by decide))
theorem Se_leastClosed_t {N : Nat} (hN : 8589934592 ≤ N) {a1 : Int32} (h_a1 : rg 0 56 a1) {a2 : Int32} (h_a2 : rg 1 255 a2) {σ : Mem} (hm : InvD σ) : tot (f_Se_leastClosed N a1 a2 σ) (fun r => rg 0 255 r) := by
  unfold f_Se_leastClosed
  refine t_it2 (fun i1 i3 => rg 0 255 i1 ∧ rg 0 8 i3) (fun i1 i3 => (8 - i3.toInt).toNat) ?_ _ _ _ ⟨(rg_w (lo := 0) (hi := 255) h_a2 (by decide)), (rg_w (lo := 0) (hi := 8) (by decide : rg 0 0 (0 : Int32)) (by decide))⟩ (ms_u0 hN _ (by decide))
  rintro self7 i1 i3 ⟨f2, f4⟩ ih6
  unfold Se_leastClosed_B5
  refine t_if (fun h8 => ?_) (fun h8 => ?_)
  · exact t_some f2
  · have f9 := (rg_ltL (lo := 0) (hi := 7) (i_nle h8) f4 (hm.r3 _) (by decide))
    have f10 := (rg_ltR (lo := 1) (hi := 8) (i_nle h8) f4 (hm.r3 _) (by decide))
    refine t_it2 (fun i11 i13 => rg 0 255 i11 ∧ rg 0 8 i13) (fun i11 i13 => (8 - i13.toInt).toNat) ?_ _ _ _ ⟨f2, (rg_w (lo := 0) (hi := 8) (by decide : rg 0 0 (0 : Int32)) (by decide))⟩ (ms_u0 hN _ (by decide))
    rintro self17 i11 i13 ⟨f12, f14⟩ ih16
    unfold Se_leastClosed_B20
    refine t_if (fun h18 => ?_) (fun h18 => ?_)
    · have f19 := (rg_leR (lo := 1) (hi := 8) h18 f10 f14 (by decide))
      exact ih6 _ _ ⟨f12, (rg_w (lo := 0) (hi := 8) (rg_add (lo := 1) (hi := 8) f9 (by decide : rg 1 1 (1 : Int32)) (by decide)) (by decide))⟩ (ms_up f9 (by decide : rg 1 1 (1 : Int32)) (by decide))
    · have f20 := (rg_ltL (lo := 0) (hi := 7) (i_nle h18) f14 f10 (by decide))
      refine t_if (fun h21 => ?_) (fun h21 => ?_)
      · have f22 := (rg_eqL (lo := 1) (hi := 1) h21 (by decide : rg 1 1 (1 : Int32)) (by decide))
        refine t_gd (inb_rg (rg_add (lo := 0) (hi := 63) h_a1 f9 (by decide)) (by decide)) ?_
        refine t_if (fun h23 => ?_) (fun h23 => ?_)
        · have f24 := (rg_eqL (lo := 1) (hi := 1) h23 (by decide : rg 1 1 (1 : Int32)) (by decide))
          refine t_gd (inb_rg (rg_add (lo := 0) (hi := 63) h_a1 f20 (by decide)) (by decide)) ?_
          refine t_if (fun h25 => ?_) (fun h25 => ?_)
          · refine t_le 0 255 (rg_andl (lo := 0) (hi := 255) _ f12 (by decide)) (fun x26 e28 f27 => ?_)
            exact ih16 _ _ ⟨f27, (rg_w (lo := 0) (hi := 8) (rg_add (lo := 1) (hi := 8) f20 (by decide : rg 1 1 (1 : Int32)) (by decide)) (by decide))⟩ (ms_up f20 (by decide : rg 1 1 (1 : Int32)) (by decide))
          · exact ih16 _ _ ⟨f12, (rg_w (lo := 0) (hi := 8) (rg_add (lo := 1) (hi := 8) f20 (by decide : rg 1 1 (1 : Int32)) (by decide)) (by decide))⟩ (ms_up f20 (by decide : rg 1 1 (1 : Int32)) (by decide))
        · have f29 := (rg_neL (lo := 0) (hi := 0) h23 (rb_bit _ _) (by decide : rg 1 1 (1 : Int32)) (by decide))
          exact ih16 _ _ ⟨f12, (rg_w (lo := 0) (hi := 8) (rg_add (lo := 1) (hi := 8) f20 (by decide : rg 1 1 (1 : Int32)) (by decide)) (by decide))⟩ (ms_up f20 (by decide : rg 1 1 (1 : Int32)) (by decide))
      · have f30 := (rg_neL (lo := 0) (hi := 0) h21 (rb_bit _ _) (by decide : rg 1 1 (1 : Int32)) (by decide))
        exact ih16 _ _ ⟨f12, (rg_w (lo := 0) (hi := 8) (rg_add (lo := 1) (hi := 8) f20 (by decide : rg 1 1 (1 : Int32)) (by decide)) (by decide))⟩ (ms_up f20 (by decide : rg 1 1 (1 : Int32)) (by decide))
theorem Se_keeping_t {N : Nat} (hN : 8589934592 ≤ N) {a1 : Int32} (h_a1 : rg 0 255 a1) {a2 : Int32} (h_a2 : rg 0 0 a2) {σ : Mem} (hm : InvD σ) : tot (f_Se_keeping N 10 a1 a2 σ) (fun q => rg 0 255 q.1 ∧ KD [23] [] σ q.2) := by
  unfold f_Se_keeping
  refine t_it3 (fun i1 i3 s5 => rg 0 255 i1 ∧ rg 0 8 i3 ∧ KD [23] [] σ s5) (fun i1 i3 s5 => (8 - i3.toInt).toNat) ?_ _ _ _ _ ⟨h_a1, (rg_w (lo := 0) (hi := 8) h_a2 (by decide)), (kd_r hm)⟩ (ms_fu h_a2 (by decide))
  rintro self9 i1 i3 s5 ⟨f2, f4, k6⟩ ih8
  unfold Se_keeping_R
  refine t_if (fun h10 => ?_) (fun h10 => ?_)
  · have f11 := (rg_eqL (lo := 0) (hi := 0) h10 (by decide : rg 0 0 (0 : Int32)) (by decide))
    exact t_some ⟨(rg_w (lo := 0) (hi := 255) (by decide : rg 0 0 (0 : Int32)) (by decide)), k6⟩
  · have f12 := (rg_neL (lo := 1) (hi := 255) h10 f2 (by decide : rg 0 0 (0 : Int32)) (by decide))
    refine t_if (fun h13 => ?_) (fun h13 => ?_)
    · have f14 := (rg_ltL (lo := 0) (hi := 7) h13 f4 (by decide : rg 8 8 (8 : Int32)) (by decide))
      refine t_ob _ (Du_unbeatenOfN_t hN (rg_w (lo := 0) (hi := 255) f12 (by decide)) k6.1) (fun x15 f16 => ?_)
      refine t_if (fun h17 => ?_) (fun h17 => ?_)
      · have f18 := (rg_eqL (lo := 0) (hi := 0) h17 (by decide : rg 0 0 (0 : Int32)) (by decide))
        refine t_le 0 56 (rg_mul (lo := 0) (hi := 56) f14 (by decide : rg 8 8 (8 : Int32)) (by decide)) (fun x19 e21 f20 => ?_)
        refine t_it2 (fun i22 s24 => rg 0 8 i22 ∧ KD [23] [] σ s24) (fun i22 s24 => (8 - i22.toInt).toNat) ?_ _ _ _ ⟨(rg_w (lo := 0) (hi := 8) (by decide : rg 0 0 (0 : Int32)) (by decide)), k6⟩ (ms_u0 hN _ (by decide))
        rintro self28 i22 s24 ⟨f23, k25⟩ ih27
        unfold Se_keeping_B36
        refine t_if (fun h29 => ?_) (fun h29 => ?_)
        · unfold Se_keeping_K91
          refine t_ob _ (Se_closeNeeds_t hN f20 f12 k25.1) (fun s30 k31 => ?_)
          have k32 := kd_t (S := [23]) (J := []) k25 k31 (by decide) (by decide)
          refine t_ob _ (Se_leastClosed_t hN f20 f12 k32.1) (fun x33 f34 => ?_)
          exact t_some ⟨f34, k32⟩
        · have f35 := (rg_ltL (lo := 0) (hi := 7) (i_nle h29) f23 (k25.1.r3 _) (by decide))
          have f36 := (rg_ltR (lo := 1) (hi := 8) (i_nle h29) f23 (k25.1.r3 _) (by decide))
          refine t_if (fun h37 => ?_) (fun h37 => ?_)
          · have f38 := (rg_eqL (lo := 1) (hi := 1) h37 (by decide : rg 1 1 (1 : Int32)) (by decide))
            refine t_ob _ (Du_beatersOfN_t f35 (rg_w (lo := 0) (hi := 255) f12 (by decide)) k25.1) (fun x39 f40 => ?_)
            refine t_ob2 (fun r s => rg 0 255 r ∧ KD [23] [] σ s) (ih8 _ _ _ ⟨f40, (rg_w (lo := 0) (hi := 8) (rg_add (lo := 1) (hi := 8) f14 (by decide : rg 1 1 (1 : Int32)) (by decide)) (by decide)), k25⟩ (ms_up f14 (by decide : rg 1 1 (1 : Int32)) (by decide))) (fun x44 s41 ⟨f45, k42⟩ => ?_)
            refine t_gd (inb_rg (rg_add (lo := 0) (hi := 63) f20 f35 (by decide)) (by decide)) ?_
            refine t_lm (KD [23] [] σ) (kd_s k42 (by decide) (dS23 k42.1)) (fun s46 e48 k47 => ?_)
            exact ih27 _ _ ⟨(rg_w (lo := 0) (hi := 8) (rg_add (lo := 1) (hi := 8) f35 (by decide : rg 1 1 (1 : Int32)) (by decide)) (by decide)), k47⟩ (ms_up f35 (by decide : rg 1 1 (1 : Int32)) (by decide))
          · have f49 := (rg_neL (lo := 0) (hi := 0) h37 (rb_bit _ _) (by decide : rg 1 1 (1 : Int32)) (by decide))
            exact ih27 _ _ ⟨(rg_w (lo := 0) (hi := 8) (rg_add (lo := 1) (hi := 8) f35 (by decide : rg 1 1 (1 : Int32)) (by decide)) (by decide)), k25⟩ (ms_up f35 (by decide : rg 1 1 (1 : Int32)) (by decide))
      · have f50 := (rg_neL (lo := 1) (hi := 128) h17 f16 (by decide : rg 0 0 (0 : Int32)) (by decide))
        exact t_some ⟨(rg_w (lo := 0) (hi := 255) f50 (by decide)), k6⟩
    · have f51 := (rg_leR (lo := 8) (hi := 8) (i_nlt h13) (by decide : rg 8 8 (8 : Int32)) f4 (by decide))
      exact t_some ⟨(rg_w (lo := 0) (hi := 255) (by decide : rg 0 0 (0 : Int32)) (by decide)), k6⟩
theorem D_lowestOf_t {N : Nat} (hN : 8589934592 ≤ N) {a1 : Int32} : tot (f_D_lowestOf N a1) (fun r => rg (-1) 7 r) := by
  unfold f_D_lowestOf
  refine t_it1 (fun i1 => rg 0 8 i1) (fun i1 => (8 - i1.toInt).toNat) ?_ _ _ (rg_w (lo := 0) (hi := 8) (by decide : rg 0 0 (0 : Int32)) (by decide)) (ms_u0 hN _ (by decide))
  rintro self5 i1 f2 ih4
  unfold D_lowestOf_B2
  refine t_if (fun h6 => ?_) (fun h6 => ?_)
  · have f7 := (rg_leR (lo := 8) (hi := 8) h6 (by decide : rg 8 8 (8 : Int32)) f2 (by decide))
    exact t_some (rg_w (lo := (-1)) (hi := 7) (by decide : rg (-1) (-1) (-1 : Int32)) (by decide))
  · have f8 := (rg_ltL (lo := 0) (hi := 7) (i_nle h6) f2 (by decide : rg 8 8 (8 : Int32)) (by decide))
    refine t_if (fun h9 => ?_) (fun h9 => ?_)
    · have f10 := (rg_eqL (lo := 1) (hi := 1) h9 (by decide : rg 1 1 (1 : Int32)) (by decide))
      exact t_some (rg_w (lo := (-1)) (hi := 7) f8 (by decide))
    · have f11 := (rg_neL (lo := 0) (hi := 0) h9 (rb_bit _ _) (by decide : rg 1 1 (1 : Int32)) (by decide))
      exact ih4 _ (rg_w (lo := 0) (hi := 8) (rg_add (lo := 1) (hi := 8) f8 (by decide : rg 1 1 (1 : Int32)) (by decide)) (by decide)) (ms_up f8 (by decide : rg 1 1 (1 : Int32)) (by decide))
theorem We_pfaffianOf_t {N : Nat} (hN : 8589934592 ≤ N) {a1 : Int32} (h_a1 : rg 1 255 a1) {σ : Mem} (hm : InvD σ) : tot (f_We_pfaffianOf N a1 σ) (fun r => rg (-2147483648) 2147483647 r) := by
  unfold f_We_pfaffianOf
  refine t_ob _ (D_lowestOf_t hN) (fun x1 f2 => ?_)
  refine t_if (fun h3 => ?_) (fun h3 => ?_)
  · have f4 := (rg_eqL (lo := (-1)) (hi := (-1)) h3 (by decide : rg (-1) (-1) (-1 : Int32)) (by decide))
    exact t_some (rg_f _)
  · have f5 := (rg_neL (lo := 0) (hi := 7) h3 f2 (by decide : rg (-1) (-1) (-1 : Int32)) (by decide))
    refine t_le 0 255 (rg_andl (lo := 0) (hi := 255) _ (rg_w (lo := 0) (hi := 255) h_a1 (by decide)) (by decide)) (fun x6 e8 f7 => ?_)
    refine t_le 1 8 (rg_add (lo := 1) (hi := 8) f5 (by decide : rg 1 1 (1 : Int32)) (by decide)) (fun x9 e11 f10 => ?_)
    refine t_it3 (fun i12 i13 i15 => rg (-1) 1 i13 ∧ rg 1 8 i15) (fun i12 i13 i15 => (8 - i15.toInt).toNat) ?_ _ _ _ _ ⟨(rg_w (lo := (-1)) (hi := 1) (by decide : rg 1 1 (1 : Int32)) (by decide)), f10⟩ (ms_u0 hN _ (by decide))
    rintro self19 i12 i13 i15 ⟨f14, f16⟩ ih18
    unfold We_pfaffianOf_B31
    refine t_if (fun h20 => ?_) (fun h20 => ?_)
    · exact t_some (rg_f _)
    · have f21 := (rg_ltL (lo := 1) (hi := 7) (i_nle h20) f16 (hm.r3 _) (by decide))
      have f22 := (rg_ltR (lo := 2) (hi := 8) (i_nle h20) f16 (hm.r3 _) (by decide))
      refine t_if (fun h23 => ?_) (fun h23 => ?_)
      · have f24 := (rg_eqL (lo := 1) (hi := 1) h23 (by decide : rg 1 1 (1 : Int32)) (by decide))
        refine t_gd (inb_rg (rg_andl (lo := 0) (hi := 255) _ f7 (by decide)) (by decide)) ?_
        refine t_le (-2147483648) 2147483647 (rg_f _) (fun x25 e27 f26 => ?_)
        refine t_ob _ (Du_isBeatingN_t f5 hm) (fun x28 f29 => ?_)
        refine t_if (fun h30 => ?_) (fun h30 => ?_)
        · have f31 := (rg_eqL (lo := 0) (hi := 0) h30 (by decide : rg 0 0 (0 : Int32)) (by decide))
          unfold We_pfaffianOf_J94
          refine t_le (-2147483648) 2147483647 (rg_f _) (fun x32 e34 f33 => ?_)
          refine t_le (-1) 1 (rg_neg (lo := (-1)) (hi := 1) f14 (by decide)) (fun x35 e37 f36 => ?_)
          exact ih18 _ _ _ ⟨f36, (rg_w (lo := 1) (hi := 8) (rg_add (lo := 2) (hi := 8) f21 (by decide : rg 1 1 (1 : Int32)) (by decide)) (by decide))⟩ (ms_up f21 (by decide : rg 1 1 (1 : Int32)) (by decide))
        · have f38 := (rg_neL (lo := 1) (hi := 1) h30 f29 (by decide : rg 0 0 (0 : Int32)) (by decide))
          unfold We_pfaffianOf_J94
          refine t_le (-2147483648) 2147483647 (rg_f _) (fun x39 e41 f40 => ?_)
          refine t_le (-1) 1 (rg_neg (lo := (-1)) (hi := 1) f14 (by decide)) (fun x42 e44 f43 => ?_)
          exact ih18 _ _ _ ⟨f43, (rg_w (lo := 1) (hi := 8) (rg_add (lo := 2) (hi := 8) f21 (by decide : rg 1 1 (1 : Int32)) (by decide)) (by decide))⟩ (ms_up f21 (by decide : rg 1 1 (1 : Int32)) (by decide))
      · have f45 := (rg_neL (lo := 0) (hi := 0) h23 (rb_bit _ _) (by decide : rg 1 1 (1 : Int32)) (by decide))
        exact ih18 _ _ _ ⟨f14, (rg_w (lo := 1) (hi := 8) (rg_add (lo := 2) (hi := 8) f21 (by decide : rg 1 1 (1 : Int32)) (by decide)) (by decide))⟩ (ms_up f21 (by decide : rg 1 1 (1 : Int32)) (by decide))
theorem We_findPfaffians_t {N : Nat} (hN : 8589934592 ≤ N) {a1 : Int32} (h_a1 : rg 0 255 a1) {σ : Mem} (hm : InvD σ) : tot (f_We_findPfaffians N a1 σ) (fun s => KD [20] [] σ s) := by
  unfold f_We_findPfaffians
  refine t_lm (KD [20] [] σ) (kd_s (kd_r hm) (by decide) (dS20 hm)) (fun s1 e3 k2 => ?_)
  refine t_it2 (fun i4 s6 => rg 1 256 i4 ∧ KD [20] [] σ s6) (fun i4 s6 => (256 - i4.toInt).toNat) ?_ _ _ _ ⟨(rg_w (lo := 1) (hi := 256) (by decide : rg 1 1 (1 : Int32)) (by decide)), k2⟩ (ms_u0 hN _ (by decide))
  rintro self10 i4 s6 ⟨f5, k7⟩ ih9
  unfold We_findPfaffians_B9
  refine t_if (fun h11 => ?_) (fun h11 => ?_)
  · exact t_some k7
  · have f12 := (rg_leL (lo := 1) (hi := 255) (i_nlt h11) f5 h_a1 (by decide))
    have f13 := (rg_leR (lo := 1) (hi := 255) (i_nlt h11) f5 h_a1 (by decide))
    refine t_if (fun h14 => ?_) (fun h14 => ?_)
    · refine t_if (fun h15 => ?_) (fun h15 => ?_)
      · have f16 := (rg_eqL (lo := 0) (hi := 0) h15 (by decide : rg 0 0 (0 : Int32)) (by decide))
        refine t_ob _ (We_pfaffianOf_t hN f12 k7.1) (fun x17 f18 => ?_)
        refine t_gd (inb_rg f12 (by decide)) ?_
        refine t_lm (KD [20] [] σ) (kd_s k7 (by decide) (dS20 k7.1)) (fun s19 e21 k20 => ?_)
        exact ih9 _ _ ⟨(rg_w (lo := 1) (hi := 256) (rg_add (lo := 2) (hi := 256) f12 (by decide : rg 1 1 (1 : Int32)) (by decide)) (by decide)), k20⟩ (ms_up f12 (by decide : rg 1 1 (1 : Int32)) (by decide))
      · have f22 := (rg_neL (lo := 1) (hi := 1) h15 (rg_mod (lo := 0) (hi := 1) (rb_cnt _) (by decide : rg 2 2 (2 : Int32)) (by decide)) (by decide : rg 0 0 (0 : Int32)) (by decide))
        exact ih9 _ _ ⟨(rg_w (lo := 1) (hi := 256) (rg_add (lo := 2) (hi := 256) f12 (by decide : rg 1 1 (1 : Int32)) (by decide)) (by decide)), k7⟩ (ms_up f12 (by decide : rg 1 1 (1 : Int32)) (by decide))
    · have f23 := (rg_neL (lo := 1) (hi := 255) h14 (rg_andl (lo := 0) (hi := 255) _ (rg_w (lo := 0) (hi := 255) f12 (by decide)) (by decide)) (by decide : rg 0 0 (0 : Int32)) (by decide))
      exact ih9 _ _ ⟨(rg_w (lo := 1) (hi := 256) (rg_add (lo := 2) (hi := 256) f12 (by decide : rg 1 1 (1 : Int32)) (by decide)) (by decide)), k7⟩ (ms_up f12 (by decide : rg 1 1 (1 : Int32)) (by decide))
theorem We_shareAmong_t {N : Nat} (hN : 8589934592 ≤ N) {a1 : Int32} (h_a1 : rg 1 255 a1) {σ : Mem} (hm : InvD σ) : tot (f_We_shareAmong N a1 σ) (fun q => rg 0 1 q.1 ∧ KD [19] [] σ q.2) := by
  unfold f_We_shareAmong
  refine t_it3 (fun i1 i3 s5 => rg (-1) 1 i1 ∧ rg 0 8 i3 ∧ KD [19] [] σ s5) (fun i1 i3 s5 => (8 - i3.toInt).toNat) ?_ _ _ _ _ ⟨(rg_w (lo := (-1)) (hi := 1) (by decide : rg 0 0 (0 : Int32)) (by decide)), (rg_w (lo := 0) (hi := 8) (by decide : rg 0 0 (0 : Int32)) (by decide)), (kd_r hm)⟩ (ms_u0 hN _ (by decide))
  rintro self9 i1 i3 s5 ⟨f2, f4, k6⟩ ih8
  unfold We_shareAmong_B4
  refine t_if (fun h10 => ?_) (fun h10 => ?_)
  · have f11 := (rg_leR (lo := 8) (hi := 8) h10 (by decide : rg 8 8 (8 : Int32)) f4 (by decide))
    exact t_some ⟨(rg_w (lo := 0) (hi := 1) (by decide : rg 1 1 (1 : Int32)) (by decide)), k6⟩
  · have f12 := (rg_ltL (lo := 0) (hi := 7) (i_nle h10) f4 (by decide : rg 8 8 (8 : Int32)) (by decide))
    refine t_gd (inb_rg f12 (by decide)) ?_
    refine t_lm (KD [19] [] σ) (kd_s k6 (by decide) (dS19 k6.1)) (fun s13 e15 k14 => ?_)
    refine t_if (fun h16 => ?_) (fun h16 => ?_)
    · have f17 := (rg_eqL (lo := 1) (hi := 1) h16 (by decide : rg 1 1 (1 : Int32)) (by decide))
      refine t_gd (inb_rg (rg_andl (lo := 0) (hi := 255) _ (rg_w (lo := 0) (hi := 255) h_a1 (by decide)) (by decide)) (by decide)) ?_
      refine t_le (-2147483648) 2147483647 (rg_f _) (fun x18 e20 f19 => ?_)
      refine t_if (fun h21 => ?_) (fun h21 => ?_)
      · have f22 := (rg_eqL (lo := 0) (hi := 0) h21 (by decide : rg 0 0 (0 : Int32)) (by decide))
        refine t_if (fun h23 => ?_) (fun h23 => ?_)
        · have f24 := (rg_leL (lo := (-2147483648)) (hi := 0) h23 (rg_f _) (by decide : rg 0 0 (0 : Int32)) (by decide))
          unfold We_shareAmong_J55
          refine t_gd (inb_rg f12 (by decide)) ?_
          refine t_lm (KD [19] [] σ) (kd_s k14 (by decide) (dS19 k14.1)) (fun s25 e27 k26 => ?_)
          refine t_gd (inb_rg f12 (by decide)) ?_
          refine t_if (fun h28 => ?_) (fun h28 => ?_)
          · have f29 := (rg_ltR (lo := 1) (hi := 2147483647) h28 (by decide : rg 0 0 (0 : Int32)) (rg_f _) (by decide))
            refine t_le 1 1 (rg_neg (lo := 1) (hi := 1) (by decide : rg (-1) (-1) (-1 : Int32)) (by decide)) (fun x30 e32 f31 => ?_)
            exact ih8 _ _ _ ⟨(rg_w (lo := (-1)) (hi := 1) f31 (by decide)), (rg_w (lo := 0) (hi := 8) (rg_add (lo := 1) (hi := 8) f12 (by decide : rg 1 1 (1 : Int32)) (by decide)) (by decide)), k26⟩ (ms_up f12 (by decide : rg 1 1 (1 : Int32)) (by decide))
          · have f33 := (rg_leL (lo := (-2147483648)) (hi := 0) (i_nlt h28) (rg_f _) (by decide : rg 0 0 (0 : Int32)) (by decide))
            exact t_some ⟨(rg_w (lo := 0) (hi := 1) (by decide : rg 0 0 (0 : Int32)) (by decide)), k26⟩
        · have f34 := (rg_ltR (lo := 1) (hi := 2147483647) (i_nle h23) (by decide : rg 0 0 (0 : Int32)) (rg_f _) (by decide))
          unfold We_shareAmong_J55
          refine t_gd (inb_rg f12 (by decide)) ?_
          refine t_lm (KD [19] [] σ) (kd_s k14 (by decide) (dS19 k14.1)) (fun s35 e37 k36 => ?_)
          refine t_gd (inb_rg f12 (by decide)) ?_
          refine t_if (fun h38 => ?_) (fun h38 => ?_)
          · have f39 := (rg_ltR (lo := 1) (hi := 2147483647) h38 (by decide : rg 0 0 (0 : Int32)) (tr_e e37 (rg_mul (lo := 0) (hi := 2147483647) (by decide : rg 1 1 (1 : Int32)) f34 (by decide))) (by decide))
            refine t_le (-1) (-1) (rg_neg (lo := (-1)) (hi := (-1)) (by decide : rg 1 1 (1 : Int32)) (by decide)) (fun x40 e42 f41 => ?_)
            exact ih8 _ _ _ ⟨(rg_w (lo := (-1)) (hi := 1) f41 (by decide)), (rg_w (lo := 0) (hi := 8) (rg_add (lo := 1) (hi := 8) f12 (by decide : rg 1 1 (1 : Int32)) (by decide)) (by decide)), k36⟩ (ms_up f12 (by decide : rg 1 1 (1 : Int32)) (by decide))
          · have f43 := (rg_leL (lo := 0) (hi := 0) (i_nlt h38) (tr_e e37 (rg_mul (lo := 0) (hi := 2147483647) (by decide : rg 1 1 (1 : Int32)) f34 (by decide))) (by decide : rg 0 0 (0 : Int32)) (by decide))
            exact t_some ⟨(rg_w (lo := 0) (hi := 1) (by decide : rg 0 0 (0 : Int32)) (by decide)), k36⟩
      · unfold We_shareAmong_J55
        refine t_gd (inb_rg f12 (by decide)) ?_
        refine t_lm (KD [19] [] σ) (kd_s k14 (by decide) (dS19 k14.1)) (fun s44 e46 k45 => ?_)
        refine t_gd (inb_rg f12 (by decide)) ?_
        refine t_if (fun h47 => ?_) (fun h47 => ?_)
        · have f48 := (rg_ltR (lo := 1) (hi := 2147483647) h47 (by decide : rg 0 0 (0 : Int32)) (rg_f _) (by decide))
          refine t_le (-1) 1 (rg_neg (lo := (-1)) (hi := 1) f2 (by decide)) (fun x49 e51 f50 => ?_)
          exact ih8 _ _ _ ⟨f50, (rg_w (lo := 0) (hi := 8) (rg_add (lo := 1) (hi := 8) f12 (by decide : rg 1 1 (1 : Int32)) (by decide)) (by decide)), k45⟩ (ms_up f12 (by decide : rg 1 1 (1 : Int32)) (by decide))
        · have f52 := (rg_leL (lo := (-2147483648)) (hi := 0) (i_nlt h47) (rg_f _) (by decide : rg 0 0 (0 : Int32)) (by decide))
          exact t_some ⟨(rg_w (lo := 0) (hi := 1) (by decide : rg 0 0 (0 : Int32)) (by decide)), k45⟩
    · have f53 := (rg_neL (lo := 0) (hi := 0) h16 (rb_bit _ _) (by decide : rg 1 1 (1 : Int32)) (by decide))
      exact ih8 _ _ _ ⟨f2, (rg_w (lo := 0) (hi := 8) (rg_add (lo := 1) (hi := 8) f12 (by decide : rg 1 1 (1 : Int32)) (by decide)) (by decide)), k14⟩ (ms_up f12 (by decide : rg 1 1 (1 : Int32)) (by decide))
theorem We_gainOfS_t {N : Nat} (hN : 8589934592 ≤ N) {a1 : Int32} (h_a1 : rg 0 7 a1) {σ : Mem} (hm : InvD σ) : tot (f_We_gainOfS N a1 σ) (fun r => rg (-2147483648) 2147483647 r) := by
  unfold f_We_gainOfS
  refine t_it2 (fun i1 i2 => rg 0 8 i2) (fun i1 i2 => (8 - i2.toInt).toNat) ?_ _ _ _ (rg_w (lo := 0) (hi := 8) (by decide : rg 0 0 (0 : Int32)) (by decide)) (ms_u0 hN _ (by decide))
  rintro self6 i1 i2 f3 ih5
  unfold We_gainOfS_B5
  refine t_if (fun h7 => ?_) (fun h7 => ?_)
  · exact t_some (rg_f _)
  · have f8 := (rg_ltL (lo := 0) (hi := 7) (i_nle h7) f3 (hm.r3 _) (by decide))
    have f9 := (rg_ltR (lo := 1) (hi := 8) (i_nle h7) f3 (hm.r3 _) (by decide))
    refine t_if (fun h10 => ?_) (fun h10 => ?_)
    · exact ih5 _ _ (rg_w (lo := 0) (hi := 8) (rg_add (lo := 1) (hi := 8) f8 (by decide : rg 1 1 (1 : Int32)) (by decide)) (by decide)) (ms_up f8 (by decide : rg 1 1 (1 : Int32)) (by decide))
    · refine t_ob _ (Du_isBeatingN_t h_a1 hm) (fun x11 f12 => ?_)
      refine t_if (fun h13 => ?_) (fun h13 => ?_)
      · have f14 := (rg_eqL (lo := 0) (hi := 0) h13 (by decide : rg 0 0 (0 : Int32)) (by decide))
        refine t_gd (inb_rg f8 (by decide)) ?_
        refine t_le (-2147483648) 2147483647 (rg_f _) (fun x15 e17 f16 => ?_)
        exact ih5 _ _ (rg_w (lo := 0) (hi := 8) (rg_add (lo := 1) (hi := 8) f8 (by decide : rg 1 1 (1 : Int32)) (by decide)) (by decide)) (ms_up f8 (by decide : rg 1 1 (1 : Int32)) (by decide))
      · have f18 := (rg_neL (lo := 1) (hi := 1) h13 f12 (by decide : rg 0 0 (0 : Int32)) (by decide))
        refine t_gd (inb_rg f8 (by decide)) ?_
        refine t_le (-2147483648) 2147483647 (rg_f _) (fun x19 e21 f20 => ?_)
        exact ih5 _ _ (rg_w (lo := 0) (hi := 8) (rg_add (lo := 1) (hi := 8) f8 (by decide : rg 1 1 (1 : Int32)) (by decide)) (by decide)) (ms_up f8 (by decide : rg 1 1 (1 : Int32)) (by decide))
theorem We_nobodyGainsS_t {N : Nat} (hN : 8589934592 ≤ N) {a1 : Int32} (h_a1 : rg 1 255 a1) {σ : Mem} (hm : InvD σ) : tot (f_We_nobodyGainsS N a1 σ) (fun r => rg 0 1 r) := by
  unfold f_We_nobodyGainsS
  refine t_it1 (fun i1 => rg 0 8 i1) (fun i1 => (8 - i1.toInt).toNat) ?_ _ _ (rg_w (lo := 0) (hi := 8) (by decide : rg 0 0 (0 : Int32)) (by decide)) (ms_u0 hN _ (by decide))
  rintro self5 i1 f2 ih4
  unfold We_nobodyGainsS_B2
  refine t_if (fun h6 => ?_) (fun h6 => ?_)
  · exact t_some (rg_w (lo := 0) (hi := 1) (by decide : rg 1 1 (1 : Int32)) (by decide))
  · have f7 := (rg_ltL (lo := 0) (hi := 7) (i_nle h6) f2 (hm.r3 _) (by decide))
    have f8 := (rg_ltR (lo := 1) (hi := 8) (i_nle h6) f2 (hm.r3 _) (by decide))
    refine t_if (fun h9 => ?_) (fun h9 => ?_)
    · have f10 := (rg_eqL (lo := 1) (hi := 1) h9 (by decide : rg 1 1 (1 : Int32)) (by decide))
      refine t_ob _ (We_gainOfS_t hN f7 hm) (fun x11 f12 => ?_)
      refine t_if (fun h13 => ?_) (fun h13 => ?_)
      · have f14 := (rg_leL (lo := (-2147483648)) (hi := 0) h13 (rg_f _) (by decide : rg 0 0 (0 : Int32)) (by decide))
        exact ih4 _ (rg_w (lo := 0) (hi := 8) (rg_add (lo := 1) (hi := 8) f7 (by decide : rg 1 1 (1 : Int32)) (by decide)) (by decide)) (ms_up f7 (by decide : rg 1 1 (1 : Int32)) (by decide))
      · have f15 := (rg_ltR (lo := 1) (hi := 2147483647) (i_nle h13) (by decide : rg 0 0 (0 : Int32)) (rg_f _) (by decide))
        exact t_some (rg_w (lo := 0) (hi := 1) (by decide : rg 0 0 (0 : Int32)) (by decide))
    · have f16 := (rg_neL (lo := 0) (hi := 0) h9 (rb_bit _ _) (by decide : rg 1 1 (1 : Int32)) (by decide))
      exact ih4 _ (rg_w (lo := 0) (hi := 8) (rg_add (lo := 1) (hi := 8) f7 (by decide : rg 1 1 (1 : Int32)) (by decide)) (by decide)) (ms_up f7 (by decide : rg 1 1 (1 : Int32)) (by decide))
theorem We_commonDivisor_t {N : Nat} (hN : 8589934592 ≤ N) {a1 : Int32} (h_a1 : rg 0 2147483647 a1) {a2 : Int32} : tot (f_We_commonDivisor N a1 a2) (fun r => rg 0 2147483647 r) := by
  unfold f_We_commonDivisor
  refine t_it3 (fun i1 i3 i4 => rg 0 2147483647 i1 ∧ rg 0 100 i4) (fun i1 i3 i4 => (100 - i4.toInt).toNat) ?_ _ _ _ _ ⟨h_a1, (rg_w (lo := 0) (hi := 100) (by decide : rg 0 0 (0 : Int32)) (by decide))⟩ (ms_u0 hN _ (by decide))
  rintro self8 i1 i3 i4 ⟨f2, f5⟩ ih7
  unfold We_commonDivisor_B7
  refine t_if (fun h9 => ?_) (fun h9 => ?_)
  · have f10 := (rg_leR (lo := 100) (hi := 100) h9 (by decide : rg 100 100 (100 : Int32)) f5 (by decide))
    exact t_some f2
  · have f11 := (rg_ltL (lo := 0) (hi := 99) (i_nle h9) f5 (by decide : rg 100 100 (100 : Int32)) (by decide))
    refine t_if (fun h12 => ?_) (fun h12 => ?_)
    · have f13 := (rg_leL (lo := (-2147483648)) (hi := 0) h12 (rg_f _) (by decide : rg 0 0 (0 : Int32)) (by decide))
      exact t_some f2
    · have f14 := (rg_ltR (lo := 1) (hi := 2147483647) (i_nle h12) (by decide : rg 0 0 (0 : Int32)) (rg_f _) (by decide))
      refine t_gd (nz_rg f14 (by decide)) ?_
      refine t_le (-2147483648) 2147483647 (rg_f _) (fun x15 e17 f16 => ?_)
      exact ih7 _ _ _ ⟨(rg_w (lo := 0) (hi := 2147483647) f14 (by decide)), (rg_w (lo := 0) (hi := 100) (rg_add (lo := 1) (hi := 100) f11 (by decide : rg 1 1 (1 : Int32)) (by decide)) (by decide))⟩ (ms_up f11 (by decide : rg 1 1 (1 : Int32)) (by decide))
theorem We_divideShares_t {N : Nat} (hN : 8589934592 ≤ N) {σ : Mem} (hm : InvD σ) : tot (f_We_divideShares N σ) (fun s => KD [19] [] σ s) := by
  unfold f_We_divideShares
  refine t_it2 (fun i1 i3 => rg 0 2147483647 i1 ∧ rg 0 8 i3) (fun i1 i3 => (8 - i3.toInt).toNat) ?_ _ _ _ ⟨(rg_w (lo := 0) (hi := 2147483647) (by decide : rg 0 0 (0 : Int32)) (by decide)), (rg_w (lo := 0) (hi := 8) (by decide : rg 0 0 (0 : Int32)) (by decide))⟩ (ms_u0 hN _ (by decide))
  rintro self7 i1 i3 ⟨f2, f4⟩ ih6
  unfold We_divideShares_B4
  refine t_if (fun h8 => ?_) (fun h8 => ?_)
  · have f9 := (rg_leR (lo := 8) (hi := 8) h8 (by decide : rg 8 8 (8 : Int32)) f4 (by decide))
    unfold We_divideShares_K27
    refine t_if (fun h10 => ?_) (fun h10 => ?_)
    · have f11 := (rg_ltR (lo := 2) (hi := 2147483647) h10 (by decide : rg 1 1 (1 : Int32)) f2 (by decide))
      refine t_it2 (fun i12 s14 => rg 0 8 i12 ∧ KD [19] [] σ s14) (fun i12 s14 => (8 - i12.toInt).toNat) ?_ _ _ _ ⟨(rg_w (lo := 0) (hi := 8) (by decide : rg 0 0 (0 : Int32)) (by decide)), (kd_r hm)⟩ (ms_u0 hN _ (by decide))
      rintro self18 i12 s14 ⟨f13, k15⟩ ih17
      unfold We_divideShares_B35
      refine t_if (fun h19 => ?_) (fun h19 => ?_)
      · have f20 := (rg_leR (lo := 8) (hi := 8) h19 (by decide : rg 8 8 (8 : Int32)) f13 (by decide))
        exact t_some k15
      · have f21 := (rg_ltL (lo := 0) (hi := 7) (i_nle h19) f13 (by decide : rg 8 8 (8 : Int32)) (by decide))
        refine t_gd (inb_rg f21 (by decide)) ?_
        refine t_gd (nz_rg f11 (by decide)) ?_
        refine t_gd (inb_rg f21 (by decide)) ?_
        refine t_lm (KD [19] [] σ) (kd_s k15 (by decide) (dS19 k15.1)) (fun s22 e24 k23 => ?_)
        exact ih17 _ _ ⟨(rg_w (lo := 0) (hi := 8) (rg_add (lo := 1) (hi := 8) f21 (by decide : rg 1 1 (1 : Int32)) (by decide)) (by decide)), k23⟩ (ms_up f21 (by decide : rg 1 1 (1 : Int32)) (by decide))
    · have f25 := (rg_leL (lo := 0) (hi := 1) (i_nlt h10) f2 (by decide : rg 1 1 (1 : Int32)) (by decide))
      exact t_some (kd_r hm)
  · have f26 := (rg_ltL (lo := 0) (hi := 7) (i_nle h8) f4 (by decide : rg 8 8 (8 : Int32)) (by decide))
    refine t_gd (inb_rg f26 (by decide)) ?_
    refine t_ob _ (We_commonDivisor_t hN f2) (fun x27 f28 => ?_)
    exact ih6 _ _ ⟨f28, (rg_w (lo := 0) (hi := 8) (rg_add (lo := 1) (hi := 8) f26 (by decide : rg 1 1 (1 : Int32)) (by decide)) (by decide))⟩ (ms_up f26 (by decide : rg 1 1 (1 : Int32)) (by decide))
theorem We_balance_t {N : Nat} (hN : 8589934592 ≤ N) {a1 : Int32} (h_a1 : rg 0 255 a1) {σ : Mem} (hm : InvD σ) : tot (f_We_balance N a1 σ) (fun q => rg 0 255 q.1 ∧ KD [19, 20] [] σ q.2) := by
  unfold f_We_balance
  refine t_ob _ (We_findPfaffians_t hN h_a1 hm) (fun s1 k2 => ?_)
  have k3 := kd_t (S := [19, 20]) (J := []) (kd_r hm) k2 (by decide) (by decide)
  refine t_it2 (fun i4 s6 => rg 1 256 i4 ∧ KD [19, 20] [] σ s6) (fun i4 s6 => (256 - i4.toInt).toNat) ?_ _ _ _ ⟨(rg_w (lo := 1) (hi := 256) (by decide : rg 1 1 (1 : Int32)) (by decide)), k3⟩ (ms_u0 hN _ (by decide))
  rintro self10 i4 s6 ⟨f5, k7⟩ ih9
  unfold We_balance_B7
  refine t_if (fun h11 => ?_) (fun h11 => ?_)
  · exact t_some ⟨(rg_w (lo := 0) (hi := 255) (by decide : rg 0 0 (0 : Int32)) (by decide)), k7⟩
  · have f12 := (rg_leL (lo := 1) (hi := 255) (i_nlt h11) f5 h_a1 (by decide))
    have f13 := (rg_leR (lo := 1) (hi := 255) (i_nlt h11) f5 h_a1 (by decide))
    refine t_if (fun h14 => ?_) (fun h14 => ?_)
    · refine t_if (fun h15 => ?_) (fun h15 => ?_)
      · have f16 := (rg_eqL (lo := 1) (hi := 1) h15 (by decide : rg 1 1 (1 : Int32)) (by decide))
        refine t_ob2 (fun r s => rg 0 1 r ∧ KD [19] [] s6 s) (We_shareAmong_t hN f12 k7.1) (fun x20 s17 ⟨f21, k18⟩ => ?_)
        have k19 := kd_t (S := [19, 20]) (J := []) k7 k18 (by decide) (by decide)
        refine t_if (fun h22 => ?_) (fun h22 => ?_)
        · have f23 := (rg_eqL (lo := 0) (hi := 0) h22 (by decide : rg 0 0 (0 : Int32)) (by decide))
          exact ih9 _ _ ⟨(rg_w (lo := 1) (hi := 256) (rg_add (lo := 2) (hi := 256) f12 (by decide : rg 1 1 (1 : Int32)) (by decide)) (by decide)), k19⟩ (ms_up f12 (by decide : rg 1 1 (1 : Int32)) (by decide))
        · have f24 := (rg_neL (lo := 1) (hi := 1) h22 f21 (by decide : rg 0 0 (0 : Int32)) (by decide))
          refine t_ob _ (We_nobodyGainsS_t hN f13 k19.1) (fun x25 f26 => ?_)
          refine t_if (fun h27 => ?_) (fun h27 => ?_)
          · have f28 := (rg_eqL (lo := 0) (hi := 0) h27 (by decide : rg 0 0 (0 : Int32)) (by decide))
            exact ih9 _ _ ⟨(rg_w (lo := 1) (hi := 256) (rg_add (lo := 2) (hi := 256) f12 (by decide : rg 1 1 (1 : Int32)) (by decide)) (by decide)), k19⟩ (ms_up f12 (by decide : rg 1 1 (1 : Int32)) (by decide))
          · have f29 := (rg_neL (lo := 1) (hi := 1) h27 f26 (by decide : rg 0 0 (0 : Int32)) (by decide))
            unfold We_balance_K50
            refine t_ob _ (We_divideShares_t hN k19.1) (fun s30 k31 => ?_)
            have k32 := kd_t (S := [19, 20]) (J := []) k19 k31 (by decide) (by decide)
            exact t_some ⟨(rg_w (lo := 0) (hi := 255) f12 (by decide)), k32⟩
      · have f33 := (rg_neL (lo := 0) (hi := 0) h15 (rg_mod (lo := 0) (hi := 1) (rb_cnt _) (by decide : rg 2 2 (2 : Int32)) (by decide)) (by decide : rg 1 1 (1 : Int32)) (by decide))
        exact ih9 _ _ ⟨(rg_w (lo := 1) (hi := 256) (rg_add (lo := 2) (hi := 256) f12 (by decide : rg 1 1 (1 : Int32)) (by decide)) (by decide)), k7⟩ (ms_up f12 (by decide : rg 1 1 (1 : Int32)) (by decide))
    · have f34 := (rg_neL (lo := 1) (hi := 255) h14 (rg_andl (lo := 0) (hi := 255) _ (rg_w (lo := 0) (hi := 255) f12 (by decide)) (by decide)) (by decide : rg 0 0 (0 : Int32)) (by decide))
      exact ih9 _ _ ⟨(rg_w (lo := 1) (hi := 256) (rg_add (lo := 2) (hi := 256) f12 (by decide : rg 1 1 (1 : Int32)) (by decide)) (by decide)), k7⟩ (ms_up f12 (by decide : rg 1 1 (1 : Int32)) (by decide))
theorem Se_isCoveringSet_t {N : Nat} (hN : 8589934592 ≤ N) {a1 : Int32} (h_a1 : rg 0 255 a1) {a2 : Int32} (h_a2 : rg 0 255 a2) {σ : Mem} (hm : InvD σ) : tot (f_Se_isCoveringSet N a1 a2 σ) (fun r => rg 0 1 r) := by
  unfold f_Se_isCoveringSet
  refine t_if (fun h1 => ?_) (fun h1 => ?_)
  · have f2 := (rg_eqL (lo := 0) (hi := 0) h1 (by decide : rg 0 0 (0 : Int32)) (by decide))
    exact t_some (rg_w (lo := 0) (hi := 1) (by decide : rg 0 0 (0 : Int32)) (by decide))
  · have f3 := (rg_neL (lo := 1) (hi := 255) h1 h_a1 (by decide : rg 0 0 (0 : Int32)) (by decide))
    refine t_it1 (fun i4 => rg 0 8 i4) (fun i4 => (8 - i4.toInt).toNat) ?_ _ _ (rg_w (lo := 0) (hi := 8) (by decide : rg 0 0 (0 : Int32)) (by decide)) (ms_u0 hN _ (by decide))
    rintro self8 i4 f5 ih7
    unfold Se_isCoveringSet_B8
    refine t_if (fun h9 => ?_) (fun h9 => ?_)
    · exact t_some (rg_w (lo := 0) (hi := 1) (by decide : rg 1 1 (1 : Int32)) (by decide))
    · have f10 := (rg_ltL (lo := 0) (hi := 7) (i_nle h9) f5 (hm.r3 _) (by decide))
      have f11 := (rg_ltR (lo := 1) (hi := 8) (i_nle h9) f5 (hm.r3 _) (by decide))
      refine t_if (fun h12 => ?_) (fun h12 => ?_)
      · have f13 := (rg_eqL (lo := 1) (hi := 1) h12 (by decide : rg 1 1 (1 : Int32)) (by decide))
        refine t_ob _ (Se_isCovered_t hN f10 (rg_w (lo := 0) (hi := 255) f3 (by decide)) hm) (fun x14 f15 => ?_)
        refine t_if (fun h16 => ?_) (fun h16 => ?_)
        · have f17 := (rg_eqL (lo := 0) (hi := 0) h16 (by decide : rg 0 0 (0 : Int32)) (by decide))
          exact t_some (rg_w (lo := 0) (hi := 1) (by decide : rg 0 0 (0 : Int32)) (by decide))
        · have f18 := (rg_neL (lo := 1) (hi := 1) h16 f15 (by decide : rg 0 0 (0 : Int32)) (by decide))
          exact ih7 _ (rg_w (lo := 0) (hi := 8) (rg_add (lo := 1) (hi := 8) f10 (by decide : rg 1 1 (1 : Int32)) (by decide)) (by decide)) (ms_up f10 (by decide : rg 1 1 (1 : Int32)) (by decide))
      · have f19 := (rg_neL (lo := 0) (hi := 0) h12 (rb_bit _ _) (by decide : rg 1 1 (1 : Int32)) (by decide))
        exact ih7 _ (rg_w (lo := 0) (hi := 8) (rg_add (lo := 1) (hi := 8) f10 (by decide : rg 1 1 (1 : Int32)) (by decide)) (by decide)) (ms_up f10 (by decide : rg 1 1 (1 : Int32)) (by decide))
theorem Se_leastCovering_t {N : Nat} (hN : 8589934592 ≤ N) {a1 : Int32} (h_a1 : rg 1 255 a1) {σ : Mem} (hm : InvD σ) : tot (f_Se_leastCovering N a1 σ) (fun r => rg 1 255 r) := by
  unfold f_Se_leastCovering
  refine t_le 0 63 (rb_cnt _) (fun x1 e3 f2 => ?_)
  refine t_it3 (fun i4 i6 i8 => rg 1 255 i4 ∧ rg 0 63 i6 ∧ rg 1 255 i8) (fun i4 i6 i8 => (255 - i8.toInt).toNat) ?_ _ _ _ _ ⟨h_a1, f2, (rg_w (lo := 1) (hi := 255) (by decide : rg 1 1 (1 : Int32)) (by decide))⟩ (ms_u0 hN _ (by decide))
  rintro self12 i4 i6 i8 ⟨f5, f7, f9⟩ ih11
  unfold Se_leastCovering_B10
  refine t_if (fun h13 => ?_) (fun h13 => ?_)
  · exact t_some f5
  · have f14 := (rg_ltL (lo := 1) (hi := 254) (i_nle h13) f9 h_a1 (by decide))
    have f15 := (rg_ltR (lo := 2) (hi := 255) (i_nle h13) f9 h_a1 (by decide))
    refine t_if (fun h16 => ?_) (fun h16 => ?_)
    · refine t_if (fun h17 => ?_) (fun h17 => ?_)
      · exact ih11 _ _ _ ⟨f5, f7, (rg_w (lo := 1) (hi := 255) (rg_add (lo := 2) (hi := 255) f14 (by decide : rg 1 1 (1 : Int32)) (by decide)) (by decide))⟩ (ms_up f14 (by decide : rg 1 1 (1 : Int32)) (by decide))
      · have f18 := (rg_ltL (lo := 0) (hi := 62) (i_nle h17) (rb_cnt _) f7 (by decide))
        have f19 := (rg_ltR (lo := 1) (hi := 63) (i_nle h17) (rb_cnt _) f7 (by decide))
        refine t_ob _ (Se_isCoveringSet_t hN (rg_w (lo := 0) (hi := 255) f14 (by decide)) (rg_w (lo := 0) (hi := 255) f15 (by decide)) hm) (fun x20 f21 => ?_)
        refine t_if (fun h22 => ?_) (fun h22 => ?_)
        · have f23 := (rg_eqL (lo := 0) (hi := 0) h22 (by decide : rg 0 0 (0 : Int32)) (by decide))
          exact ih11 _ _ _ ⟨f5, (rg_w (lo := 0) (hi := 63) f19 (by decide)), (rg_w (lo := 1) (hi := 255) (rg_add (lo := 2) (hi := 255) f14 (by decide : rg 1 1 (1 : Int32)) (by decide)) (by decide))⟩ (ms_up f14 (by decide : rg 1 1 (1 : Int32)) (by decide))
        · have f24 := (rg_neL (lo := 1) (hi := 1) h22 f21 (by decide : rg 0 0 (0 : Int32)) (by decide))
          refine t_le 0 62 f18 (fun x25 e27 f26 => ?_)
          exact ih11 _ _ _ ⟨(rg_w (lo := 1) (hi := 255) f14 (by decide)), (rg_w (lo := 0) (hi := 63) f26 (by decide)), (rg_w (lo := 1) (hi := 255) (rg_add (lo := 2) (hi := 255) f14 (by decide : rg 1 1 (1 : Int32)) (by decide)) (by decide))⟩ (ms_up f14 (by decide : rg 1 1 (1 : Int32)) (by decide))
    · have f28 := (rg_neL (lo := 1) (hi := 254) h16 (rg_andl (lo := 0) (hi := 254) _ (rg_w (lo := 0) (hi := 254) f14 (by decide)) (by decide)) (by decide : rg 0 0 (0 : Int32)) (by decide))
      exact ih11 _ _ _ ⟨f5, f7, (rg_w (lo := 1) (hi := 255) (rg_add (lo := 2) (hi := 255) f14 (by decide : rg 1 1 (1 : Int32)) (by decide)) (by decide))⟩ (ms_up f14 (by decide : rg 1 1 (1 : Int32)) (by decide))
theorem Or_firsts_t {N : Nat} (hN : 8589934592 ≤ N) {a1 : Int32} (h_a1 : rg 1 255 a1) {σ : Mem} (hm : InvD σ) : tot (f_Or_firsts N a1 σ) (fun q => rg 0 255 q.1 ∧ KD [17, 18] [] σ q.2) := by
  unfold f_Or_firsts
  refine t_ob _ (Or_measure_t hN (rg_w (lo := 0) (hi := 255) h_a1 (by decide)) hm) (fun s1 k2 => ?_)
  have k3 := kd_t (S := [17, 18]) (J := []) (kd_r hm) k2 (by decide) (by decide)
  refine t_it2 (fun i4 i6 => rg 0 255 i4 ∧ rg 0 8 i6) (fun i4 i6 => (8 - i6.toInt).toNat) ?_ _ _ _ ⟨(rg_w (lo := 0) (hi := 255) (by decide : rg 0 0 (0 : Int32)) (by decide)), (rg_w (lo := 0) (hi := 8) (by decide : rg 0 0 (0 : Int32)) (by decide))⟩ (ms_u0 hN _ (by decide))
  rintro self10 i4 i6 ⟨f5, f7⟩ ih9
  unfold Or_firsts_B9
  refine t_if (fun h11 => ?_) (fun h11 => ?_)
  · exact t_some ⟨f5, k3⟩
  · have f12 := (rg_ltL (lo := 0) (hi := 7) (i_nle h11) f7 (k3.1.r3 _) (by decide))
    have f13 := (rg_ltR (lo := 1) (hi := 8) (i_nle h11) f7 (k3.1.r3 _) (by decide))
    refine t_ob _ (Or_isFirstOfBest_t f12 (rg_w (lo := 0) (hi := 255) h_a1 (by decide)) k3.1) (fun x14 f15 => ?_)
    refine t_if (fun h16 => ?_) (fun h16 => ?_)
    · have f17 := (rg_eqL (lo := 0) (hi := 0) h16 (by decide : rg 0 0 (0 : Int32)) (by decide))
      exact ih9 _ _ ⟨f5, (rg_w (lo := 0) (hi := 8) (rg_add (lo := 1) (hi := 8) f12 (by decide : rg 1 1 (1 : Int32)) (by decide)) (by decide))⟩ (ms_up f12 (by decide : rg 1 1 (1 : Int32)) (by decide))
    · have f18 := (rg_neL (lo := 1) (hi := 1) h16 f15 (by decide : rg 0 0 (0 : Int32)) (by decide))
      refine t_le 0 255 (rg_or (lo := 0) (hi := 255) 8 f5 (rg_w (lo := 0) (hi := 128) (rg_shl1 (lo := 1) (hi := 128) 7 f12 (by decide)) (by decide)) (by decide)) (fun x19 e21 f20 => ?_)
      exact ih9 _ _ ⟨f20, (rg_w (lo := 0) (hi := 8) (rg_add (lo := 1) (hi := 8) f12 (by decide : rg 1 1 (1 : Int32)) (by decide)) (by decide))⟩ (ms_up f12 (by decide : rg 1 1 (1 : Int32)) (by decide))
theorem Se_banks_t {N : Nat} (hN : 8589934592 ≤ N) {a1 : Int32} (h_a1 : rg 1 255 a1) {σ : Mem} (hm : InvD σ) : tot (f_Se_banks N a1 σ) (fun q => rg 0 255 q.1 ∧ KD [22] [] σ q.2) := by
  unfold f_Se_banks
  refine t_it3 (fun i1 i3 s5 => rg 0 255 i1 ∧ rg 0 8 i3 ∧ KD [22] [] σ s5) (fun i1 i3 s5 => (8 - i3.toInt).toNat) ?_ _ _ _ _ ⟨(rg_w (lo := 0) (hi := 255) (by decide : rg 0 0 (0 : Int32)) (by decide)), (rg_w (lo := 0) (hi := 8) (by decide : rg 0 0 (0 : Int32)) (by decide)), (kd_r hm)⟩ (ms_u0 hN _ (by decide))
  rintro self9 i1 i3 s5 ⟨f2, f4, k6⟩ ih8
  unfold Se_banks_B4
  refine t_if (fun h10 => ?_) (fun h10 => ?_)
  · exact t_some ⟨f2, k6⟩
  · have f11 := (rg_ltL (lo := 0) (hi := 7) (i_nle h10) f4 (k6.1.r3 _) (by decide))
    have f12 := (rg_ltR (lo := 1) (hi := 8) (i_nle h10) f4 (k6.1.r3 _) (by decide))
    refine t_if (fun h13 => ?_) (fun h13 => ?_)
    · have f14 := (rg_eqL (lo := 1) (hi := 1) h13 (by decide : rg 1 1 (1 : Int32)) (by decide))
      refine t_ob2 (fun r s => rg 0 8 r ∧ KD [22] [] s5 s) (Se_leastChain_t hN f11 (rg_w (lo := 0) (hi := 255) h_a1 (by decide)) k6.1) (fun x18 s15 ⟨f19, k16⟩ => ?_)
      have k17 := kd_t (S := [22]) (J := []) k6 k16 (by decide) (by decide)
      refine t_if (fun h20 => ?_) (fun h20 => ?_)
      · have f21 := (rg_leL (lo := 0) (hi := 0) h20 f19 (by decide : rg 0 0 (0 : Int32)) (by decide))
        exact ih8 _ _ _ ⟨f2, (rg_w (lo := 0) (hi := 8) (rg_add (lo := 1) (hi := 8) f11 (by decide : rg 1 1 (1 : Int32)) (by decide)) (by decide)), k17⟩ (ms_up f11 (by decide : rg 1 1 (1 : Int32)) (by decide))
      · have f22 := (rg_ltR (lo := 1) (hi := 8) (i_nle h20) (by decide : rg 0 0 (0 : Int32)) f19 (by decide))
        refine t_le 0 255 (rg_or (lo := 0) (hi := 255) 8 f2 (rg_w (lo := 0) (hi := 128) (rg_shl1 (lo := 1) (hi := 128) 7 f11 (by decide)) (by decide)) (by decide)) (fun x23 e25 f24 => ?_)
        exact ih8 _ _ _ ⟨f24, (rg_w (lo := 0) (hi := 8) (rg_add (lo := 1) (hi := 8) f11 (by decide : rg 1 1 (1 : Int32)) (by decide)) (by decide)), k17⟩ (ms_up f11 (by decide : rg 1 1 (1 : Int32)) (by decide))
    · have f26 := (rg_neL (lo := 0) (hi := 0) h13 (rb_bit _ _) (by decide : rg 1 1 (1 : Int32)) (by decide))
      exact ih8 _ _ _ ⟨f2, (rg_w (lo := 0) (hi := 8) (rg_add (lo := 1) (hi := 8) f11 (by decide : rg 1 1 (1 : Int32)) (by decide)) (by decide)), k6⟩ (ms_up f11 (by decide : rg 1 1 (1 : Int32)) (by decide))
theorem Se_uncovered_t {N : Nat} (hN : 8589934592 ≤ N) {a1 : Int32} (h_a1 : rg 0 255 a1) {σ : Mem} (hm : InvD σ) : tot (f_Se_uncovered N a1 σ) (fun r => rg 0 255 r) := by
  unfold f_Se_uncovered
  refine t_it2 (fun i1 i3 => rg 0 255 i1 ∧ rg 0 8 i3) (fun i1 i3 => (8 - i3.toInt).toNat) ?_ _ _ _ ⟨(rg_w (lo := 0) (hi := 255) (by decide : rg 0 0 (0 : Int32)) (by decide)), (rg_w (lo := 0) (hi := 8) (by decide : rg 0 0 (0 : Int32)) (by decide))⟩ (ms_u0 hN _ (by decide))
  rintro self7 i1 i3 ⟨f2, f4⟩ ih6
  unfold Se_uncovered_B4
  refine t_if (fun h8 => ?_) (fun h8 => ?_)
  · exact t_some f2
  · have f9 := (rg_ltL (lo := 0) (hi := 7) (i_nle h8) f4 (hm.r3 _) (by decide))
    have f10 := (rg_ltR (lo := 1) (hi := 8) (i_nle h8) f4 (hm.r3 _) (by decide))
    refine t_if (fun h11 => ?_) (fun h11 => ?_)
    · have f12 := (rg_eqL (lo := 1) (hi := 1) h11 (by decide : rg 1 1 (1 : Int32)) (by decide))
      refine t_ob _ (Se_isCovered_t hN f9 h_a1 hm) (fun x13 f14 => ?_)
      refine t_if (fun h15 => ?_) (fun h15 => ?_)
      · have f16 := (rg_eqL (lo := 0) (hi := 0) h15 (by decide : rg 0 0 (0 : Int32)) (by decide))
        refine t_le 0 255 (rg_or (lo := 0) (hi := 255) 8 f2 (rg_w (lo := 0) (hi := 128) (rg_shl1 (lo := 1) (hi := 128) 7 f9 (by decide)) (by decide)) (by decide)) (fun x17 e19 f18 => ?_)
        exact ih6 _ _ ⟨f18, (rg_w (lo := 0) (hi := 8) (rg_add (lo := 1) (hi := 8) f9 (by decide : rg 1 1 (1 : Int32)) (by decide)) (by decide))⟩ (ms_up f9 (by decide : rg 1 1 (1 : Int32)) (by decide))
      · have f20 := (rg_neL (lo := 1) (hi := 1) h15 f14 (by decide : rg 0 0 (0 : Int32)) (by decide))
        exact ih6 _ _ ⟨f2, (rg_w (lo := 0) (hi := 8) (rg_add (lo := 1) (hi := 8) f9 (by decide : rg 1 1 (1 : Int32)) (by decide)) (by decide))⟩ (ms_up f9 (by decide : rg 1 1 (1 : Int32)) (by decide))
    · have f21 := (rg_neL (lo := 0) (hi := 0) h11 (rb_bit _ _) (by decide : rg 1 1 (1 : Int32)) (by decide))
      exact ih6 _ _ ⟨f2, (rg_w (lo := 0) (hi := 8) (rg_add (lo := 1) (hi := 8) f9 (by decide : rg 1 1 (1 : Int32)) (by decide)) (by decide))⟩ (ms_up f9 (by decide : rg 1 1 (1 : Int32)) (by decide))
theorem Se_uncoveredAgain_t {N : Nat} (hN : 8589934592 ≤ N) {a1 : Int32} (h_a1 : rg 1 255 a1) {σ : Mem} (hm : InvD σ) : tot (f_Se_uncoveredAgain N a1 σ) (fun r => rg 0 255 r) := by
  unfold f_Se_uncoveredAgain
  refine t_it2 (fun i1 i3 => rg 0 255 i1 ∧ rg 0 8 i3) (fun i1 i3 => (8 - i3.toInt).toNat) ?_ _ _ _ ⟨(rg_w (lo := 0) (hi := 255) h_a1 (by decide)), (rg_w (lo := 0) (hi := 8) (by decide : rg 0 0 (0 : Int32)) (by decide))⟩ (ms_u0 hN _ (by decide))
  rintro self7 i1 i3 ⟨f2, f4⟩ ih6
  unfold Se_uncoveredAgain_B4
  refine t_if (fun h8 => ?_) (fun h8 => ?_)
  · have f9 := (rg_leR (lo := 8) (hi := 8) h8 (by decide : rg 8 8 (8 : Int32)) f4 (by decide))
    exact t_some f2
  · have f10 := (rg_ltL (lo := 0) (hi := 7) (i_nle h8) f4 (by decide : rg 8 8 (8 : Int32)) (by decide))
    refine t_ob _ (Se_uncovered_t hN f2 hm) (fun x11 f12 => ?_)
    exact ih6 _ _ ⟨f12, (rg_w (lo := 0) (hi := 8) (rg_add (lo := 1) (hi := 8) f10 (by decide : rg 1 1 (1 : Int32)) (by decide)) (by decide))⟩ (ms_up f10 (by decide : rg 1 1 (1 : Int32)) (by decide))
theorem Se_most_t {N : Nat} (hN : 8589934592 ≤ N) {a1 : Int32} (h_a1 : rg 1 255 a1) {σ : Mem} (hm : InvD σ) : tot (f_Se_most N a1 σ) (fun r => rg 0 255 r) := by
  unfold f_Se_most
  refine t_it3 (fun i1 i3 i5 => rg (-1) 63 i1 ∧ rg 0 255 i3 ∧ rg 0 8 i5) (fun i1 i3 i5 => (8 - i5.toInt).toNat) ?_ _ _ _ _ ⟨(rg_w (lo := (-1)) (hi := 63) (by decide : rg (-1) (-1) (-1 : Int32)) (by decide)), (rg_w (lo := 0) (hi := 255) (by decide : rg 0 0 (0 : Int32)) (by decide)), (rg_w (lo := 0) (hi := 8) (by decide : rg 0 0 (0 : Int32)) (by decide))⟩ (ms_u0 hN _ (by decide))
  rintro self9 i1 i3 i5 ⟨f2, f4, f6⟩ ih8
  unfold Se_most_B7
  refine t_if (fun h10 => ?_) (fun h10 => ?_)
  · exact t_some f4
  · have f11 := (rg_ltL (lo := 0) (hi := 7) (i_nle h10) f6 (hm.r3 _) (by decide))
    have f12 := (rg_ltR (lo := 1) (hi := 8) (i_nle h10) f6 (hm.r3 _) (by decide))
    refine t_if (fun h13 => ?_) (fun h13 => ?_)
    · exact ih8 _ _ _ ⟨f2, f4, (rg_w (lo := 0) (hi := 8) (rg_add (lo := 1) (hi := 8) f11 (by decide : rg 1 1 (1 : Int32)) (by decide)) (by decide))⟩ (ms_up f11 (by decide : rg 1 1 (1 : Int32)) (by decide))
    · refine t_gd (inb_rg f11 (by decide)) ?_
      refine t_le 0 63 (rb_cnt _) (fun x14 e16 f15 => ?_)
      refine t_if (fun h17 => ?_) (fun h17 => ?_)
      · have f18 := (rg_leR (lo := 0) (hi := 63) h17 f15 f2 (by decide))
        unfold Se_most_J59
        refine t_if (fun h19 => ?_) (fun h19 => ?_)
        · refine t_le 0 255 (rg_or (lo := 0) (hi := 255) 8 f4 (rg_w (lo := 0) (hi := 128) (rg_shl1 (lo := 1) (hi := 128) 7 f11 (by decide)) (by decide)) (by decide)) (fun x20 e22 f21 => ?_)
          exact ih8 _ _ _ ⟨(rg_w (lo := (-1)) (hi := 63) f18 (by decide)), f21, (rg_w (lo := 0) (hi := 8) (rg_add (lo := 1) (hi := 8) f11 (by decide : rg 1 1 (1 : Int32)) (by decide)) (by decide))⟩ (ms_up f11 (by decide : rg 1 1 (1 : Int32)) (by decide))
        · exact ih8 _ _ _ ⟨(rg_w (lo := (-1)) (hi := 63) f18 (by decide)), f4, (rg_w (lo := 0) (hi := 8) (rg_add (lo := 1) (hi := 8) f11 (by decide : rg 1 1 (1 : Int32)) (by decide)) (by decide))⟩ (ms_up f11 (by decide : rg 1 1 (1 : Int32)) (by decide))
      · have f23 := (rg_ltL (lo := (-1)) (hi := 62) (i_nle h17) f2 f15 (by decide))
        unfold Se_most_J59
        refine t_if (fun h24 => ?_) (fun h24 => ?_)
        · refine t_le 0 255 (rg_or (lo := 0) (hi := 255) 8 (by decide : rg 0 0 (0 : Int32)) (rg_w (lo := 0) (hi := 128) (rg_shl1 (lo := 1) (hi := 128) 7 f11 (by decide)) (by decide)) (by decide)) (fun x25 e27 f26 => ?_)
          exact ih8 _ _ _ ⟨(rg_w (lo := (-1)) (hi := 63) f15 (by decide)), f26, (rg_w (lo := 0) (hi := 8) (rg_add (lo := 1) (hi := 8) f11 (by decide : rg 1 1 (1 : Int32)) (by decide)) (by decide))⟩ (ms_up f11 (by decide : rg 1 1 (1 : Int32)) (by decide))
        · exact ih8 _ _ _ ⟨(rg_w (lo := (-1)) (hi := 63) f15 (by decide)), (rg_w (lo := 0) (hi := 255) (by decide : rg 0 0 (0 : Int32)) (by decide)), (rg_w (lo := 0) (hi := 8) (rg_add (lo := 1) (hi := 8) f11 (by decide : rg 1 1 (1 : Int32)) (by decide)) (by decide))⟩ (ms_up f11 (by decide : rg 1 1 (1 : Int32)) (by decide))
theorem Se_top_t {N : Nat} (hN : 8589934592 ≤ N) {a1 : Int32} (h_a1 : rg 1 255 a1) {σ : Mem} (hm : InvD σ) : tot (f_Se_top N a1 σ) (fun q => rg 0 255 q.1 ∧ KD [23] [] σ q.2) := by
  unfold f_Se_top
  refine t_it2 (fun i1 s3 => rg 0 8 i1 ∧ KD [23] [] σ s3) (fun i1 s3 => (8 - i1.toInt).toNat) ?_ _ _ _ ⟨(rg_w (lo := 0) (hi := 8) (by decide : rg 0 0 (0 : Int32)) (by decide)), (kd_r hm)⟩ (ms_u0 hN _ (by decide))
  rintro self7 i1 s3 ⟨f2, k4⟩ ih6
  unfold Se_top_B2
  refine t_if (fun h8 => ?_) (fun h8 => ?_)
  · unfold Se_top_K43
    refine t_ob _ (Se_closeNeeds_t hN (rg_w (lo := 0) (hi := 56) (by decide : rg 0 0 (0 : Int32)) (by decide)) h_a1 k4.1) (fun s9 k10 => ?_)
    have k11 := kd_t (S := [23]) (J := []) k4 k10 (by decide) (by decide)
    refine t_ob _ (Se_leastClosed_t hN (rg_w (lo := 0) (hi := 56) (by decide : rg 0 0 (0 : Int32)) (by decide)) h_a1 k11.1) (fun x12 f13 => ?_)
    exact t_some ⟨f13, k11⟩
  · have f14 := (rg_ltL (lo := 0) (hi := 7) (i_nle h8) f2 (k4.1.r3 _) (by decide))
    have f15 := (rg_ltR (lo := 1) (hi := 8) (i_nle h8) f2 (k4.1.r3 _) (by decide))
    refine t_if (fun h16 => ?_) (fun h16 => ?_)
    · have f17 := (rg_eqL (lo := 1) (hi := 1) h16 (by decide : rg 1 1 (1 : Int32)) (by decide))
      refine t_ob _ (Du_beatersOfN_t f14 (rg_w (lo := 0) (hi := 255) h_a1 (by decide)) k4.1) (fun x18 f19 => ?_)
      refine t_gd (inb_rg f14 (by decide)) ?_
      refine t_lm (KD [23] [] σ) (kd_s k4 (by decide) (dS23 k4.1)) (fun s20 e22 k21 => ?_)
      exact ih6 _ _ ⟨(rg_w (lo := 0) (hi := 8) (rg_add (lo := 1) (hi := 8) f14 (by decide : rg 1 1 (1 : Int32)) (by decide)) (by decide)), k21⟩ (ms_up f14 (by decide : rg 1 1 (1 : Int32)) (by decide))
    · have f23 := (rg_neL (lo := 0) (hi := 0) h16 (rb_bit _ _) (by decide : rg 1 1 (1 : Int32)) (by decide))
      exact ih6 _ _ ⟨(rg_w (lo := 0) (hi := 8) (rg_add (lo := 1) (hi := 8) f14 (by decide : rg 1 1 (1 : Int32)) (by decide)) (by decide)), k4⟩ (ms_up f14 (by decide : rg 1 1 (1 : Int32)) (by decide))
theorem Se_ofKind_t {N : Nat} (hN : 8589934592 ≤ N) {a1 : Int32} (h_a1 : rg 0 9 a1) {a2 : Int32} (h_a2 : rg 0 255 a2) {σ : Mem} (hm : InvD σ) : tot (f_Se_ofKind N a1 a2 σ) (fun q => rg 0 255 q.1 ∧ KD [17, 18, 19, 20, 21, 22, 23] [] σ q.2) := by
  unfold f_Se_ofKind
  refine t_if (fun h1 => ?_) (fun h1 => ?_)
  · have f2 := (rg_eqL (lo := 0) (hi := 0) h1 (by decide : rg 0 0 (0 : Int32)) (by decide))
    exact t_some ⟨(rg_w (lo := 0) (hi := 255) (by decide : rg 0 0 (0 : Int32)) (by decide)), (kd_r hm)⟩
  · have f3 := (rg_neL (lo := 1) (hi := 255) h1 h_a2 (by decide : rg 0 0 (0 : Int32)) (by decide))
    refine t_sw1 (fun h4 => ?_) (fun _ => ?_)
    · have f5 := (rg_eqL (lo := 0) (hi := 0) h4 (by decide : rg 0 0 (0 : Int32)) (by decide))
      refine t_ob2 (fun r s => rg 0 255 r ∧ KD [23] [] σ s) (Se_top_t hN f3 hm) (fun x9 s6 ⟨f10, k7⟩ => ?_)
      have k8 := kd_t (S := [17, 18, 19, 20, 21, 22, 23]) (J := []) (kd_r hm) k7 (by decide) (by decide)
      exact t_some ⟨f10, k8⟩
    refine t_sw1 (fun h11 => ?_) (fun _ => ?_)
    · have f12 := (rg_eqL (lo := 1) (hi := 1) h11 (by decide : rg 1 1 (1 : Int32)) (by decide))
      refine t_ob _ (Se_most_t hN f3 hm) (fun x13 f14 => ?_)
      exact t_some ⟨f14, (kd_r hm)⟩
    refine t_sw1 (fun h15 => ?_) (fun _ => ?_)
    · have f16 := (rg_eqL (lo := 2) (hi := 2) h15 (by decide : rg 2 2 (2 : Int32)) (by decide))
      refine t_ob _ (Se_uncovered_t hN (rg_w (lo := 0) (hi := 255) f3 (by decide)) hm) (fun x17 f18 => ?_)
      exact t_some ⟨f18, (kd_r hm)⟩
    refine t_sw1 (fun h19 => ?_) (fun _ => ?_)
    · have f20 := (rg_eqL (lo := 3) (hi := 3) h19 (by decide : rg 3 3 (3 : Int32)) (by decide))
      refine t_ob _ (Se_uncoveredAgain_t hN f3 hm) (fun x21 f22 => ?_)
      exact t_some ⟨f22, (kd_r hm)⟩
    refine t_sw1 (fun h23 => ?_) (fun _ => ?_)
    · have f24 := (rg_eqL (lo := 4) (hi := 4) h23 (by decide : rg 4 4 (4 : Int32)) (by decide))
      refine t_ob2 (fun r s => rg 0 255 r ∧ KD [22] [] σ s) (Se_banks_t hN f3 hm) (fun x28 s25 ⟨f29, k26⟩ => ?_)
      have k27 := kd_t (S := [17, 18, 19, 20, 21, 22, 23]) (J := []) (kd_r hm) k26 (by decide) (by decide)
      exact t_some ⟨f29, k27⟩
    refine t_sw1 (fun h30 => ?_) (fun _ => ?_)
    · have f31 := (rg_eqL (lo := 5) (hi := 5) h30 (by decide : rg 5 5 (5 : Int32)) (by decide))
      refine t_ob2 (fun r s => rg 0 255 r ∧ KD [17, 18] [] σ s) (Or_firsts_t hN f3 hm) (fun x35 s32 ⟨f36, k33⟩ => ?_)
      have k34 := kd_t (S := [17, 18, 19, 20, 21, 22, 23]) (J := []) (kd_r hm) k33 (by decide) (by decide)
      exact t_some ⟨f36, k34⟩
    refine t_sw1 (fun h37 => ?_) (fun _ => ?_)
    · have f38 := (rg_eqL (lo := 6) (hi := 6) h37 (by decide : rg 6 6 (6 : Int32)) (by decide))
      refine t_ob _ (Se_leastCovering_t hN f3 hm) (fun x39 f40 => ?_)
      exact t_some ⟨(rg_w (lo := 0) (hi := 255) f40 (by decide)), (kd_r hm)⟩
    refine t_sw1 (fun h41 => ?_) (fun _ => ?_)
    · have f42 := (rg_eqL (lo := 7) (hi := 7) h41 (by decide : rg 7 7 (7 : Int32)) (by decide))
      refine t_ob2 (fun r s => rg 0 255 r ∧ KD [19, 20] [] σ s) (We_balance_t hN (rg_w (lo := 0) (hi := 255) f3 (by decide)) hm) (fun x46 s43 ⟨f47, k44⟩ => ?_)
      have k45 := kd_t (S := [17, 18, 19, 20, 21, 22, 23]) (J := []) (kd_r hm) k44 (by decide) (by decide)
      exact t_some ⟨f47, k45⟩
    refine t_sw1 (fun h48 => ?_) (fun _ => ?_)
    · have f49 := (rg_eqL (lo := 8) (hi := 8) h48 (by decide : rg 8 8 (8 : Int32)) (by decide))
      refine t_ob2 (fun r s => rg 0 255 r ∧ KD [23] [] σ s) (Se_keeping_t hN (rg_w (lo := 0) (hi := 255) f3 (by decide)) (by decide : rg 0 0 (0 : Int32)) hm) (fun x53 s50 ⟨f54, k51⟩ => ?_)
      have k52 := kd_t (S := [17, 18, 19, 20, 21, 22, 23]) (J := []) (kd_r hm) k51 (by decide) (by decide)
      exact t_some ⟨f54, k52⟩
    refine t_sw1 (fun h55 => ?_) (fun _ => ?_)
    · have f56 := (rg_eqL (lo := 9) (hi := 9) h55 (by decide : rg 9 9 (9 : Int32)) (by decide))
      refine t_ob2 (fun r s => rg 0 255 r ∧ KD [21] [] σ s) (Cu_winners_t hN f3 hm) (fun x60 s57 ⟨f61, k58⟩ => ?_)
      have k59 := kd_t (S := [17, 18, 19, 20, 21, 22, 23]) (J := []) (kd_r hm) k58 (by decide) (by decide)
      exact t_some ⟨f61, k59⟩
    refine t_sw0 ?_
    exact t_some ⟨(rg_w (lo := 0) (hi := 255) (by decide : rg 0 0 (0 : Int32)) (by decide)), (kd_r hm)⟩
theorem Du_flipN_t {a1 : Int32} (h_a1 : rg 0 7 a1) {a2 : Int32} (h_a2 : rg 0 7 a2) {σ : Mem} (hm : InvD σ) : tot (f_Du_flipN a1 a2 σ) (fun s => KD [13] [] σ s) := by
  unfold f_Du_flipN
  refine t_gd (inb_rg h_a1 (by decide)) ?_
  refine t_gd (inb_rg h_a1 (by decide)) ?_
  refine t_lm (KD [13] [] σ) (kd_s (kd_r hm) (by decide) (dS13 hm (rg_xor (lo := 0) (hi := 255) 8 (hm.r13 _) (rg_w (lo := 0) (hi := 128) (rg_shl1 (lo := 1) (hi := 128) 7 h_a2 (by decide)) (by decide)) (by decide)))) (fun s1 e3 k2 => ?_)
  refine t_gd (inb_rg h_a2 (by decide)) ?_
  refine t_gd (inb_rg h_a2 (by decide)) ?_
  refine t_lm (KD [13] [] σ) (kd_s k2 (by decide) (dS13 k2.1 (rg_xor (lo := 0) (hi := 255) 8 (k2.1.r13 _) (rg_w (lo := 0) (hi := 128) (rg_shl1 (lo := 1) (hi := 128) 7 h_a1 (by decide)) (by decide)) (by decide)))) (fun s4 e6 k5 => ?_)
  exact t_some k5
theorem Se_isKeepingSet_t {N : Nat} (hN : 8589934592 ≤ N) {a1 : Int32} (h_a1 : rg 0 255 a1) {a2 : Int32} (h_a2 : rg 0 255 a2) {σ : Mem} (hm : InvD σ) : tot (f_Se_isKeepingSet N a1 a2 σ) (fun q => rg 0 1 q.1 ∧ KD [23] [] σ q.2) := by
  unfold f_Se_isKeepingSet
  refine t_it2 (fun i1 s3 => rg 0 8 i1 ∧ KD [23] [] σ s3) (fun i1 s3 => (8 - i1.toInt).toNat) ?_ _ _ _ ⟨(rg_w (lo := 0) (hi := 8) (by decide : rg 0 0 (0 : Int32)) (by decide)), (kd_r hm)⟩ (ms_u0 hN _ (by decide))
  rintro self7 i1 s3 ⟨f2, k4⟩ ih6
  unfold Se_isKeepingSet_B2
  refine t_if (fun h8 => ?_) (fun h8 => ?_)
  · unfold Se_isKeepingSet_K51
    refine t_if (fun h9 => ?_) (fun h9 => ?_)
    · have f10 := (rg_eqL (lo := 0) (hi := 0) h9 (by decide : rg 0 0 (0 : Int32)) (by decide))
      exact t_some ⟨(rg_w (lo := 0) (hi := 1) (by decide : rg 0 0 (0 : Int32)) (by decide)), k4⟩
    · have f11 := (rg_neL (lo := 1) (hi := 255) h9 h_a1 (by decide : rg 0 0 (0 : Int32)) (by decide))
      exact t_some ⟨(rg_w (lo := 0) (hi := 1) (by decide : rg 1 1 (1 : Int32)) (by decide)), k4⟩
  · have f12 := (rg_ltL (lo := 0) (hi := 7) (i_nle h8) f2 (k4.1.r3 _) (by decide))
    have f13 := (rg_ltR (lo := 1) (hi := 8) (i_nle h8) f2 (k4.1.r3 _) (by decide))
    refine t_if (fun h14 => ?_) (fun h14 => ?_)
    · have f15 := (rg_eqL (lo := 1) (hi := 1) h14 (by decide : rg 1 1 (1 : Int32)) (by decide))
      refine t_ob _ (Du_beatersOfN_t f12 h_a2 k4.1) (fun x16 f17 => ?_)
      refine t_ob2 (fun r s => rg 0 255 r ∧ KD [23] [] s3 s) (Se_keeping_t hN f17 (by decide : rg 0 0 (0 : Int32)) k4.1) (fun x21 s18 ⟨f22, k19⟩ => ?_)
      have k20 := kd_t (S := [23]) (J := []) k4 k19 (by decide) (by decide)
      refine t_if (fun h23 => ?_) (fun h23 => ?_)
      · exact ih6 _ _ ⟨(rg_w (lo := 0) (hi := 8) (rg_add (lo := 1) (hi := 8) f12 (by decide : rg 1 1 (1 : Int32)) (by decide)) (by decide)), k20⟩ (ms_up f12 (by decide : rg 1 1 (1 : Int32)) (by decide))
      · have f24 := (rg_neL (lo := 1) (hi := 255) h23 (rg_andl (lo := 0) (hi := 255) _ f22 (by decide)) (by decide : rg 0 0 (0 : Int32)) (by decide))
        exact t_some ⟨(rg_w (lo := 0) (hi := 1) (by decide : rg 0 0 (0 : Int32)) (by decide)), k20⟩
    · have f25 := (rg_neL (lo := 0) (hi := 0) h14 (rb_bit _ _) (by decide : rg 1 1 (1 : Int32)) (by decide))
      exact ih6 _ _ ⟨(rg_w (lo := 0) (hi := 8) (rg_add (lo := 1) (hi := 8) f12 (by decide : rg 1 1 (1 : Int32)) (by decide)) (by decide)), k4⟩ (ms_up f12 (by decide : rg 1 1 (1 : Int32)) (by decide))
theorem D_is_t {N : Nat} (hN : 8589934592 ≤ N) {a1 : Int32} {a2 : Int32} {σ : Mem} (hm : InvD σ) : tot (f_D_is N a1 a2 σ) (fun q => rg (-1) 1 q.1 ∧ KD [23] [] σ q.2) := by
  unfold f_D_is
  refine t_if (fun h1 => ?_) (fun h1 => ?_)
  · have f2 := (rg_eqL (lo := 0) (hi := 0) h1 (by decide : rg 0 0 (0 : Int32)) (by decide))
    exact t_some ⟨(rg_w (lo := (-1)) (hi := 1) (by decide : rg (-1) (-1) (-1 : Int32)) (by decide)), (kd_r hm)⟩
  · have f3 := (rg_neL (lo := 1) (hi := 8) h1 (hm.r3 _) (by decide : rg 0 0 (0 : Int32)) (by decide))
    refine t_if (fun h4 => ?_) (fun h4 => ?_)
    · exact t_some ⟨(rg_w (lo := (-1)) (hi := 1) (by decide : rg (-1) (-1) (-1 : Int32)) (by decide)), (kd_r hm)⟩
    · have f5 := (c_ps h4 hm)
      refine t_if (fun h6 => ?_) (fun h6 => ?_)
      · have f7 := (rg_ltL (lo := (-2147483648)) (hi := (-1)) h6 (rg_f _) (by decide : rg 0 0 (0 : Int32)) (by decide))
        exact t_some ⟨(rg_w (lo := (-1)) (hi := 1) (by decide : rg (-1) (-1) (-1 : Int32)) (by decide)), (kd_r hm)⟩
      · have f8 := (rg_leR (lo := 0) (hi := 2147483647) (i_nlt h6) (by decide : rg 0 0 (0 : Int32)) (rg_f _) (by decide))
        refine t_if (fun h9 => ?_) (fun h9 => ?_)
        · have f10 := (rg_leL (lo := 0) (hi := 1) h9 f8 (by decide : rg 1 1 (1 : Int32)) (by decide))
          refine t_if (fun h11 => ?_) (fun h11 => ?_)
          · have f12 := (rg_eqL (lo := 0) (hi := 0) h11 (by decide : rg 0 0 (0 : Int32)) (by decide))
            refine t_ob _ (Se_isCoveringSet_t hN f5 (ev_rg hm) hm) (fun x13 f14 => ?_)
            unfold D_is_J69
            refine t_if (fun h15 => ?_) (fun h15 => ?_)
            · have f16 := (rg_eqL (lo := 0) (hi := 0) h15 (by decide : rg 0 0 (0 : Int32)) (by decide))
              exact t_some ⟨(rg_w (lo := (-1)) (hi := 1) (by decide : rg 0 0 (0 : Int32)) (by decide)), (kd_r hm)⟩
            · have f17 := (rg_neL (lo := 1) (hi := 1) h15 f14 (by decide : rg 0 0 (0 : Int32)) (by decide))
              exact t_some ⟨(rg_w (lo := (-1)) (hi := 1) (by decide : rg 1 1 (1 : Int32)) (by decide)), (kd_r hm)⟩
          · have f18 := (rg_neL (lo := 1) (hi := 1) h11 f10 (by decide : rg 0 0 (0 : Int32)) (by decide))
            refine t_ob2 (fun r s => rg 0 1 r ∧ KD [23] [] σ s) (Se_isKeepingSet_t hN f5 (ev_rg hm) hm) (fun x22 s19 ⟨f23, k20⟩ => ?_)
            have k21 := kd_t (S := [23]) (J := []) (kd_r hm) k20 (by decide) (by decide)
            unfold D_is_J69
            refine t_if (fun h24 => ?_) (fun h24 => ?_)
            · have f25 := (rg_eqL (lo := 0) (hi := 0) h24 (by decide : rg 0 0 (0 : Int32)) (by decide))
              exact t_some ⟨(rg_w (lo := (-1)) (hi := 1) (by decide : rg 0 0 (0 : Int32)) (by decide)), k21⟩
            · have f26 := (rg_neL (lo := 1) (hi := 1) h24 f23 (by decide : rg 0 0 (0 : Int32)) (by decide))
              exact t_some ⟨(rg_w (lo := (-1)) (hi := 1) (by decide : rg 1 1 (1 : Int32)) (by decide)), k21⟩
        · have f27 := (rg_ltR (lo := 2) (hi := 2147483647) (i_nle h9) (by decide : rg 1 1 (1 : Int32)) f8 (by decide))
          exact t_some ⟨(rg_w (lo := (-1)) (hi := 1) (by decide : rg (-1) (-1) (-1 : Int32)) (by decide)), (kd_r hm)⟩
theorem Du_addPlayerN_t {N : Nat} (hN : 8589934592 ≤ N) {a1 : Int32} (h_a1 : rg 0 255 a1) {σ : Mem} (hp3 : rg 0 7 (gI σ 3 0)) (hm : InvD σ) : tot (f_Du_addPlayerN N a1 σ) (fun s => KD [3, 13] [] σ s) := by
  unfold f_Du_addPlayerN
  refine t_le 0 7 hp3 (fun x1 e3 f2 => ?_)
  refine t_it2 (fun i4 s6 => rg 0 7 i4 ∧ KD [3, 13] [] σ s6 ∧ rg 0 7 (gI s6 3 0)) (fun i4 s6 => (7 - i4.toInt).toNat) ?_ _ _ _ ⟨(rg_w (lo := 0) (hi := 7) (by decide : rg 0 0 (0 : Int32)) (by decide)), (kd_r hm), hp3⟩ (ms_u0 hN _ (by decide))
  rintro self11 i4 s6 ⟨f5, k7, f8⟩ ih10
  unfold Du_addPlayerN_B7
  refine t_if (fun h12 => ?_) (fun h12 => ?_)
  · unfold Du_addPlayerN_K38
    refine t_gd (inb_rg f2 (by decide)) ?_
    refine t_lm (KD [3, 13] [] σ) (kd_s k7 (by decide) (dS13 k7.1 h_a1)) (fun s13 e15 k14 => ?_)
    refine t_lm (KD [3, 13] [] σ) (kd_s k14 (by decide) (dS3 k14.1 (rg_w (lo := 0) (hi := 8) (rg_add (lo := 1) (hi := 8) (tr_s e15 (by decide) f8) (by decide : rg 1 1 (1 : Int32)) (by decide)) (by decide)))) (fun s16 e18 k17 => ?_)
    exact t_some k17
  · have f19 := (rg_ltL (lo := 0) (hi := 6) (i_nle h12) f5 f2 (by decide))
    have f20 := (rg_ltR (lo := 1) (hi := 7) (i_nle h12) f5 f2 (by decide))
    refine t_if (fun h21 => ?_) (fun h21 => ?_)
    · refine t_gd (inb_rg f19 (by decide)) ?_
      refine t_gd (inb_rg f19 (by decide)) ?_
      refine t_lm (KD [3, 13] [] σ) (kd_s k7 (by decide) (dS13 k7.1 (rg_or (lo := 0) (hi := 255) 8 (k7.1.r13 _) (rg_w (lo := 0) (hi := 128) (rg_shl1 (lo := 1) (hi := 128) 7 (rg_w (lo := 0) (hi := 7) f20 (by decide)) (by decide)) (by decide)) (by decide)))) (fun s22 e24 k23 => ?_)
      exact ih10 _ _ ⟨(rg_w (lo := 0) (hi := 7) (rg_add (lo := 1) (hi := 7) f19 (by decide : rg 1 1 (1 : Int32)) (by decide)) (by decide)), k23, (tr_s e24 (by decide) f8)⟩ (ms_up f19 (by decide : rg 1 1 (1 : Int32)) (by decide))
    · exact ih10 _ _ ⟨(rg_w (lo := 0) (hi := 7) (rg_add (lo := 1) (hi := 7) f19 (by decide : rg 1 1 (1 : Int32)) (by decide)) (by decide)), k7, f8⟩ (ms_up f19 (by decide : rg 1 1 (1 : Int32)) (by decide))
theorem D_join_t {N : Nat} (hN : 8589934592 ≤ N) {a1 : Int32} {σ : Mem} (hm : InvD σ) : tot (f_D_join N a1 σ) (fun q => rg (-3) 8 q.1 ∧ KD [3, 5, 13] [15] σ q.2) := by
  unfold f_D_join
  refine t_if (fun h1 => ?_) (fun h1 => ?_)
  · exact t_some ⟨(rg_w (lo := (-3)) (hi := 8) (by decide : rg (-1) (-1) (-1 : Int32)) (by decide)), (kd_r hm)⟩
  · have f2 := (c_ps h1 hm)
    refine t_if (fun h3 => ?_) (fun h3 => ?_)
    · have f4 := (rg_eqL (lo := 0) (hi := 0) h3 (by decide : rg 0 0 (0 : Int32)) (by decide))
      exact t_some ⟨(rg_w (lo := (-3)) (hi := 8) (by decide : rg (-2) (-2) (-2 : Int32)) (by decide)), (kd_r hm)⟩
    · have f5 := (rg_neL (lo := 1) (hi := 8) h3 (hm.r3 _) (by decide : rg 0 0 (0 : Int32)) (by decide))
      refine t_if (fun h6 => ?_) (fun h6 => ?_)
      · have f7 := (rg_ltL (lo := 1) (hi := 7) h6 f5 (by decide : rg 8 8 (8 : Int32)) (by decide))
        refine t_ob _ (Du_packedN_t hN hm) (fun l8 j9 => ?_)
        refine t_ob _ (Pa_remember_t j9 hm) (fun s10 k11 => ?_)
        have k12 := kd_t (S := [3, 5, 13]) (J := [15]) (kd_r hm) k11 (by decide) (by decide)
        refine t_ob _ (Du_addPlayerN_t hN f2 (rg_w (lo := 0) (hi := 7) (tr_d k11 (by decide) f7) (by decide)) k12.1) (fun s13 k14 => ?_)
        have k15 := kd_t (S := [3, 5, 13]) (J := [15]) k12 k14 (by decide) (by decide)
        exact t_some ⟨(rg_w (lo := (-3)) (hi := 8) (k15.1.r3 _) (by decide)), k15⟩
      · have f16 := (rg_leR (lo := 8) (hi := 8) (i_nlt h6) (by decide : rg 8 8 (8 : Int32)) f5 (by decide))
        exact t_some ⟨(rg_w (lo := (-3)) (hi := 8) (by decide : rg (-3) (-3) (-3 : Int32)) (by decide)), (kd_r hm)⟩
theorem Pr_lettersOf_t {N : Nat} (hN : 8589934592 ≤ N) {a1 : Int32} (h_a1 : rg 0 301 a1) {a2 : Int32} (h_a2 : rg 0 300 a2) {σ : Mem} (hm : InvD σ) : tot (f_Pr_lettersOf N a1 a2 σ) (fun r => rg (-2147483648) 2147483647 r) := by
  unfold f_Pr_lettersOf
  refine t_it2 (fun i1 i2 => rg 0 301 i2) (fun i1 i2 => (300 - i2.toInt).toNat) ?_ _ _ _ h_a1 (ms_u0 hN _ (by decide))
  rintro self6 i1 i2 f3 ih5
  unfold Pr_lettersOf_B5
  refine t_if (fun h7 => ?_) (fun h7 => ?_)
  · exact t_some (rg_f _)
  · have f8 := (rg_ltL (lo := 0) (hi := 299) (i_nle h7) f3 h_a2 (by decide))
    have f9 := (rg_ltR (lo := 1) (hi := 300) (i_nle h7) f3 h_a2 (by decide))
    refine t_gd (inb_rg f8 (by decide)) ?_
    refine t_if (fun h10 => ?_) (fun h10 => ?_)
    · have f11 := (rg_leR (lo := 8) (hi := 2147483647) h10 (by decide : rg 8 8 (8 : Int32)) (rg_f _) (by decide))
      exact ih5 _ _ (rg_w (lo := 0) (hi := 301) (rg_add (lo := 1) (hi := 300) f8 (by decide : rg 1 1 (1 : Int32)) (by decide)) (by decide)) (ms_up f8 (by decide : rg 1 1 (1 : Int32)) (by decide))
    · have f12 := (rg_ltL (lo := (-2147483648)) (hi := 7) (i_nle h10) (rg_f _) (by decide : rg 8 8 (8 : Int32)) (by decide))
      refine t_gd (inb_rg f8 (by decide)) ?_
      refine t_le (-2147483648) 2147483647 (rg_f _) (fun x13 e15 f14 => ?_)
      exact ih5 _ _ (rg_w (lo := 0) (hi := 301) (rg_add (lo := 1) (hi := 300) f8 (by decide : rg 1 1 (1 : Int32)) (by decide)) (by decide)) (ms_up f8 (by decide : rg 1 1 (1 : Int32)) (by decide))
theorem Pr_countLetters_t {N : Nat} (hN : 8589934592 ≤ N) {a1 : Int32} (h_a1 : rg 0 301 a1) {a2 : Int32} (h_a2 : rg 0 300 a2) {σ : Mem} (hm : InvD σ) : tot (f_Pr_countLetters N a1 a2 σ) (fun r => rg (-2147483648) 2147483647 r) := by
  unfold f_Pr_countLetters
  refine t_it2 (fun i1 i2 => rg 0 301 i2) (fun i1 i2 => (300 - i2.toInt).toNat) ?_ _ _ _ h_a1 (ms_u0 hN _ (by decide))
  rintro self6 i1 i2 f3 ih5
  unfold Pr_countLetters_B5
  refine t_if (fun h7 => ?_) (fun h7 => ?_)
  · exact t_some (rg_f _)
  · have f8 := (rg_ltL (lo := 0) (hi := 299) (i_nle h7) f3 h_a2 (by decide))
    have f9 := (rg_ltR (lo := 1) (hi := 300) (i_nle h7) f3 h_a2 (by decide))
    refine t_gd (inb_rg f8 (by decide)) ?_
    refine t_if (fun h10 => ?_) (fun h10 => ?_)
    · have f11 := (rg_leR (lo := 8) (hi := 2147483647) h10 (by decide : rg 8 8 (8 : Int32)) (rg_f _) (by decide))
      exact ih5 _ _ (rg_w (lo := 0) (hi := 301) (rg_add (lo := 1) (hi := 300) f8 (by decide : rg 1 1 (1 : Int32)) (by decide)) (by decide)) (ms_up f8 (by decide : rg 1 1 (1 : Int32)) (by decide))
    · have f12 := (rg_ltL (lo := (-2147483648)) (hi := 7) (i_nle h10) (rg_f _) (by decide : rg 8 8 (8 : Int32)) (by decide))
      exact ih5 _ _ (rg_w (lo := 0) (hi := 301) (rg_add (lo := 1) (hi := 300) f8 (by decide : rg 1 1 (1 : Int32)) (by decide)) (by decide)) (ms_up f8 (by decide : rg 1 1 (1 : Int32)) (by decide))
theorem We_gainOfG_t {N : Nat} (hN : 8589934592 ≤ N) {a1 : Int32} (h_a1 : rg 0 7 a1) {σ : Mem} (hm : InvD σ) : tot (f_We_gainOfG N a1 σ) (fun r => rg (-2147483648) 2147483647 r) := by
  unfold f_We_gainOfG
  refine t_it2 (fun i1 i2 => rg 0 8 i2) (fun i1 i2 => (8 - i2.toInt).toNat) ?_ _ _ _ (rg_w (lo := 0) (hi := 8) (by decide : rg 0 0 (0 : Int32)) (by decide)) (ms_u0 hN _ (by decide))
  rintro self6 i1 i2 f3 ih5
  unfold We_gainOfG_B5
  refine t_if (fun h7 => ?_) (fun h7 => ?_)
  · exact t_some (rg_f _)
  · have f8 := (rg_ltL (lo := 0) (hi := 7) (i_nle h7) f3 (hm.r3 _) (by decide))
    have f9 := (rg_ltR (lo := 1) (hi := 8) (i_nle h7) f3 (hm.r3 _) (by decide))
    refine t_if (fun h10 => ?_) (fun h10 => ?_)
    · exact ih5 _ _ (rg_w (lo := 0) (hi := 8) (rg_add (lo := 1) (hi := 8) f8 (by decide : rg 1 1 (1 : Int32)) (by decide)) (by decide)) (ms_up f8 (by decide : rg 1 1 (1 : Int32)) (by decide))
    · refine t_ob _ (Du_isBeatingN_t h_a1 hm) (fun x11 f12 => ?_)
      refine t_if (fun h13 => ?_) (fun h13 => ?_)
      · have f14 := (rg_eqL (lo := 0) (hi := 0) h13 (by decide : rg 0 0 (0 : Int32)) (by decide))
        refine t_gd (inb_rg f8 (by decide)) ?_
        refine t_le (-2147483648) 2147483647 (rg_f _) (fun x15 e17 f16 => ?_)
        exact ih5 _ _ (rg_w (lo := 0) (hi := 8) (rg_add (lo := 1) (hi := 8) f8 (by decide : rg 1 1 (1 : Int32)) (by decide)) (by decide)) (ms_up f8 (by decide : rg 1 1 (1 : Int32)) (by decide))
      · have f18 := (rg_neL (lo := 1) (hi := 1) h13 f12 (by decide : rg 0 0 (0 : Int32)) (by decide))
        refine t_gd (inb_rg f8 (by decide)) ?_
        refine t_le (-2147483648) 2147483647 (rg_f _) (fun x19 e21 f20 => ?_)
        exact ih5 _ _ (rg_w (lo := 0) (hi := 8) (rg_add (lo := 1) (hi := 8) f8 (by decide : rg 1 1 (1 : Int32)) (by decide)) (by decide)) (ms_up f8 (by decide : rg 1 1 (1 : Int32)) (by decide))
theorem We_nobodyGainsG_t {N : Nat} (hN : 8589934592 ≤ N) {a1 : Int32} (h_a1 : rg 0 255 a1) {σ : Mem} (hm : InvD σ) : tot (f_We_nobodyGainsG N a1 σ) (fun r => rg 0 1 r) := by
  unfold f_We_nobodyGainsG
  refine t_it1 (fun i1 => rg 0 8 i1) (fun i1 => (8 - i1.toInt).toNat) ?_ _ _ (rg_w (lo := 0) (hi := 8) (by decide : rg 0 0 (0 : Int32)) (by decide)) (ms_u0 hN _ (by decide))
  rintro self5 i1 f2 ih4
  unfold We_nobodyGainsG_B2
  refine t_if (fun h6 => ?_) (fun h6 => ?_)
  · exact t_some (rg_w (lo := 0) (hi := 1) (by decide : rg 1 1 (1 : Int32)) (by decide))
  · have f7 := (rg_ltL (lo := 0) (hi := 7) (i_nle h6) f2 (hm.r3 _) (by decide))
    have f8 := (rg_ltR (lo := 1) (hi := 8) (i_nle h6) f2 (hm.r3 _) (by decide))
    refine t_if (fun h9 => ?_) (fun h9 => ?_)
    · have f10 := (rg_eqL (lo := 1) (hi := 1) h9 (by decide : rg 1 1 (1 : Int32)) (by decide))
      refine t_ob _ (We_gainOfG_t hN f7 hm) (fun x11 f12 => ?_)
      refine t_if (fun h13 => ?_) (fun h13 => ?_)
      · have f14 := (rg_leL (lo := (-2147483648)) (hi := 0) h13 (rg_f _) (by decide : rg 0 0 (0 : Int32)) (by decide))
        exact ih4 _ (rg_w (lo := 0) (hi := 8) (rg_add (lo := 1) (hi := 8) f7 (by decide : rg 1 1 (1 : Int32)) (by decide)) (by decide)) (ms_up f7 (by decide : rg 1 1 (1 : Int32)) (by decide))
      · have f15 := (rg_ltR (lo := 1) (hi := 2147483647) (i_nle h13) (by decide : rg 0 0 (0 : Int32)) (rg_f _) (by decide))
        exact t_some (rg_w (lo := 0) (hi := 1) (by decide : rg 0 0 (0 : Int32)) (by decide))
    · have f16 := (rg_neL (lo := 0) (hi := 0) h9 (rb_bit _ _) (by decide : rg 1 1 (1 : Int32)) (by decide))
      exact ih4 _ (rg_w (lo := 0) (hi := 8) (rg_add (lo := 1) (hi := 8) f7 (by decide : rg 1 1 (1 : Int32)) (by decide)) (by decide)) (ms_up f7 (by decide : rg 1 1 (1 : Int32)) (by decide))
theorem D_keep_t {N : Nat} (hN : 8589934592 ≤ N) {a1 : Int32} {σ : Mem} (hm : InvD σ) : tot (f_D_keep N a1 σ) (fun q => rg 0 1 q.1 ∧ KD [] [16] σ q.2) := by
  unfold f_D_keep
  refine t_if (fun h1 => ?_) (fun h1 => ?_)
  · have f2 := (rg_eqL (lo := 0) (hi := 0) h1 (by decide : rg 0 0 (0 : Int32)) (by decide))
    exact t_some ⟨(rg_w (lo := 0) (hi := 1) (by decide : rg 0 0 (0 : Int32)) (by decide)), (kd_r hm)⟩
  · have f3 := (rg_neL (lo := 1) (hi := 8) h1 (hm.r3 _) (by decide : rg 0 0 (0 : Int32)) (by decide))
    refine t_if (fun h4 => ?_) (fun h4 => ?_)
    · have f5 := (rg_ltL (lo := (-2147483648)) (hi := (-1)) h4 (rg_f _) (by decide : rg 0 0 (0 : Int32)) (by decide))
      exact t_some ⟨(rg_w (lo := 0) (hi := 1) (by decide : rg 0 0 (0 : Int32)) (by decide)), (kd_r hm)⟩
    · have f6 := (rg_leR (lo := 0) (hi := 2147483647) (i_nlt h4) (by decide : rg 0 0 (0 : Int32)) (rg_f _) (by decide))
      refine t_if (fun h7 => ?_) (fun h7 => ?_)
      · have f8 := (rg_ltL (lo := 0) (hi := 1) h7 f6 (by decide : rg 2 2 (2 : Int32)) (by decide))
        refine t_ob _ (Du_packedN_t hN hm) (fun l9 j10 => ?_)
        refine t_gd (inb_rg f8 (by decide)) ?_
        refine t_lm (KD [] [16] σ) (kd_j (kd_r hm) (by decide) (dJ16 hm j10)) (fun s11 e13 k12 => ?_)
        exact t_some ⟨(rg_w (lo := 0) (hi := 1) (by decide : rg 1 1 (1 : Int32)) (by decide)), k12⟩
      · have f14 := (rg_leR (lo := 2) (hi := 2147483647) (i_nlt h7) (by decide : rg 2 2 (2 : Int32)) f6 (by decide))
        exact t_some ⟨(rg_w (lo := 0) (hi := 1) (by decide : rg 0 0 (0 : Int32)) (by decide)), (kd_r hm)⟩
theorem D_keeps_t {N : Nat} (hN : 8589934592 ≤ N) {a1 : Int32} {a2 : Int32} {σ : Mem} (hm : InvD σ) : tot (f_D_keeps N a1 a2 σ) (fun q => rg (-1) 255 q.1 ∧ KD [17, 18, 19, 20, 21, 22, 23] [] σ q.2) := by
  unfold f_D_keeps
  refine t_if (fun h1 => ?_) (fun h1 => ?_)
  · exact t_some ⟨(rg_w (lo := (-1)) (hi := 255) (by decide : rg (-1) (-1) (-1 : Int32)) (by decide)), (kd_r hm)⟩
  · have f2 := (c_pl h1 hm)
    have f3 := (c_pl1 h1 hm)
    refine t_if (fun h4 => ?_) (fun h4 => ?_)
    · exact t_some ⟨(rg_w (lo := (-1)) (hi := 255) (by decide : rg (-1) (-1) (-1 : Int32)) (by decide)), (kd_r hm)⟩
    · have f5 := (c_ps h4 hm)
      refine t_ob _ (Du_beatersOfN_t f2 f5 hm) (fun x6 f7 => ?_)
      refine t_ob2 (fun r s => rg 0 255 r ∧ KD [17, 18, 19, 20, 21, 22, 23] [] σ s) (Se_ofKind_t hN (rg_w (lo := 0) (hi := 9) (by decide : rg 8 8 (8 : Int32)) (by decide)) f7 hm) (fun x11 s8 ⟨f12, k9⟩ => ?_)
      have k10 := kd_t (S := [17, 18, 19, 20, 21, 22, 23]) (J := []) (kd_r hm) k9 (by decide) (by decide)
      exact t_some ⟨(rg_w (lo := (-1)) (hi := 255) f12 (by decide)), k10⟩
theorem D_praised_t {N : Nat} (hN : 8589934592 ≤ N) {a1 : Int32} {a2 : Int32} {σ : Mem} (hm : InvD σ) : tot (f_D_praised N a1 a2 σ) (fun q => rg (-2147483648) 2147483647 q.1 ∧ KD [17, 18, 19, 20, 21, 22, 23] [] σ q.2) := by
  unfold f_D_praised
  refine t_if (fun h1 => ?_) (fun h1 => ?_)
  · exact t_some ⟨(rg_f _), (kd_r hm)⟩
  · have f2 := (c_pl h1 hm)
    have f3 := (c_pl1 h1 hm)
    refine t_if (fun h4 => ?_) (fun h4 => ?_)
    · have f5 := (rg_ltL (lo := (-2147483648)) (hi := (-2)) h4 (rg_f _) (by decide : rg (-1) (-1) (-1 : Int32)) (by decide))
      exact t_some ⟨(rg_f _), (kd_r hm)⟩
    · have f6 := (rg_leR (lo := (-1)) (hi := 2147483647) (i_nlt h4) (by decide : rg (-1) (-1) (-1 : Int32)) (rg_f _) (by decide))
      refine t_if (fun h7 => ?_) (fun h7 => ?_)
      · have f8 := (rg_ltL (lo := (-1)) (hi := 8) h7 f6 (by decide : rg 9 9 (9 : Int32)) (by decide))
        refine t_if (fun h9 => ?_) (fun h9 => ?_)
        · have f10 := (rg_eqL (lo := (-1)) (hi := (-1)) h9 (by decide : rg (-1) (-1) (-1 : Int32)) (by decide))
          refine t_it3 (fun i11 i12 s14 => rg 0 9 i12 ∧ KD [17, 18, 19, 20, 21, 22, 23] [] σ s14) (fun i11 i12 s14 => (9 - i12.toInt).toNat) ?_ _ _ _ _ ⟨(rg_w (lo := 0) (hi := 9) (by decide : rg 0 0 (0 : Int32)) (by decide)), (kd_r hm)⟩ (ms_u0 hN _ (by decide))
          rintro self18 i11 i12 s14 ⟨f13, k15⟩ ih17
          unfold D_praised_B54
          refine t_if (fun h19 => ?_) (fun h19 => ?_)
          · have f20 := (rg_leR (lo := 9) (hi := 9) h19 (by decide : rg 9 9 (9 : Int32)) f13 (by decide))
            exact t_some ⟨(rg_f _), k15⟩
          · have f21 := (rg_ltL (lo := 0) (hi := 8) (i_nle h19) f13 (by decide : rg 9 9 (9 : Int32)) (by decide))
            refine t_ob2 (fun r s => rg 0 255 r ∧ KD [17, 18, 19, 20, 21, 22, 23] [] s14 s) (Se_ofKind_t hN (rg_w (lo := 0) (hi := 9) f21 (by decide)) (ev_rg k15.1) k15.1) (fun x25 s22 ⟨f26, k23⟩ => ?_)
            have k24 := kd_t (S := [17, 18, 19, 20, 21, 22, 23]) (J := []) k15 k23 (by decide) (by decide)
            refine t_le (-2147483648) 2147483647 (rg_f _) (fun x27 e29 f28 => ?_)
            exact ih17 _ _ _ ⟨(rg_w (lo := 0) (hi := 9) (rg_add (lo := 1) (hi := 9) f21 (by decide : rg 1 1 (1 : Int32)) (by decide)) (by decide)), k24⟩ (ms_up f21 (by decide : rg 1 1 (1 : Int32)) (by decide))
        · have f30 := (rg_neL (lo := 0) (hi := 8) h9 f8 (by decide : rg (-1) (-1) (-1 : Int32)) (by decide))
          refine t_ob2 (fun r s => rg 0 255 r ∧ KD [17, 18, 19, 20, 21, 22, 23] [] σ s) (Se_ofKind_t hN (rg_w (lo := 0) (hi := 9) f30 (by decide)) (ev_rg hm) hm) (fun x34 s31 ⟨f35, k32⟩ => ?_)
          have k33 := kd_t (S := [17, 18, 19, 20, 21, 22, 23]) (J := []) (kd_r hm) k32 (by decide) (by decide)
          exact t_some ⟨(rg_f _), k33⟩
      · have f36 := (rg_leR (lo := 9) (hi := 2147483647) (i_nlt h7) (by decide : rg 9 9 (9 : Int32)) f6 (by decide))
        exact t_some ⟨(rg_f _), (kd_r hm)⟩
theorem Du_isToldS_t {a1 : Int32} (h_a1 : rg 0 7 a1) {a2 : Int32} (h_a2 : rg 0 7 a2) {σ : Mem} (hm : InvD σ) : tot (f_Du_isToldS a1 a2 σ) (fun r => rg 0 1 r) := by
  unfold f_Du_isToldS
  refine t_ob _ (Du_isBeatingS_t h_a1 h_a2 hm) (fun x1 f2 => ?_)
  refine t_if (fun h3 => ?_) (fun h3 => ?_)
  · have f4 := (rg_eqL (lo := 0) (hi := 0) h3 (by decide : rg 0 0 (0 : Int32)) (by decide))
    refine t_ob _ (Du_isBeatingS_t h_a2 h_a1 hm) (fun x5 f6 => ?_)
    refine t_if (fun h7 => ?_) (fun h7 => ?_)
    · have f8 := (rg_eqL (lo := 0) (hi := 0) h7 (by decide : rg 0 0 (0 : Int32)) (by decide))
      exact t_some (rg_w (lo := 0) (hi := 1) (by decide : rg 0 0 (0 : Int32)) (by decide))
    · have f9 := (rg_neL (lo := 1) (hi := 1) h7 f6 (by decide : rg 0 0 (0 : Int32)) (by decide))
      exact t_some (rg_w (lo := 0) (hi := 1) (by decide : rg 1 1 (1 : Int32)) (by decide))
  · have f10 := (rg_neL (lo := 1) (hi := 1) h3 f2 (by decide : rg 0 0 (0 : Int32)) (by decide))
    exact t_some (rg_w (lo := 0) (hi := 1) (by decide : rg 1 1 (1 : Int32)) (by decide))
theorem Du_arrowsToldS_t {N : Nat} (hN : 8589934592 ≤ N) {σ : Mem} (hm : InvD σ) : tot (f_Du_arrowsToldS N σ) (fun r => rg (-2147483648) 2147483647 r) := by
  unfold f_Du_arrowsToldS
  refine t_it2 (fun i1 i2 => rg 0 8 i2) (fun i1 i2 => (8 - i2.toInt).toNat) ?_ _ _ _ (rg_w (lo := 0) (hi := 8) (by decide : rg 0 0 (0 : Int32)) (by decide)) (ms_u0 hN _ (by decide))
  rintro self6 i1 i2 f3 ih5
  unfold Du_arrowsToldS_B4
  refine t_if (fun h7 => ?_) (fun h7 => ?_)
  · have f8 := (rg_leR (lo := 8) (hi := 8) h7 (by decide : rg 8 8 (8 : Int32)) f3 (by decide))
    exact t_some (rg_f _)
  · have f9 := (rg_ltL (lo := 0) (hi := 7) (i_nle h7) f3 (by decide : rg 8 8 (8 : Int32)) (by decide))
    refine t_gd (inb_rg f9 (by decide)) ?_
    refine t_le (-2147483648) 2147483647 (rg_f _) (fun x10 e12 f11 => ?_)
    exact ih5 _ _ (rg_w (lo := 0) (hi := 8) (rg_add (lo := 1) (hi := 8) f9 (by decide : rg 1 1 (1 : Int32)) (by decide)) (by decide)) (ms_up f9 (by decide : rg 1 1 (1 : Int32)) (by decide))
theorem Na_isFittingNN_t {N : Nat} (hN : 8589934592 ≤ N) {a1 : Int32} (h_a1 : rg 0 7 a1) {a2 : Int32} (h_a2 : rg 0 7 a2) {σ : Mem} (hm : InvD σ) : tot (f_Na_isFittingNN N a1 a2 σ) (fun r => rg 0 1 r) := by
  unfold f_Na_isFittingNN
  refine t_it1 (fun i1 => rg 0 7 i1) (fun i1 => (7 - i1.toInt).toNat) ?_ _ _ (rg_w (lo := 0) (hi := 7) (by decide : rg 0 0 (0 : Int32)) (by decide)) (ms_u0 hN _ (by decide))
  rintro self5 i1 f2 ih4
  unfold Na_isFittingNN_B3
  refine t_if (fun h6 => ?_) (fun h6 => ?_)
  · exact t_some (rg_w (lo := 0) (hi := 1) (by decide : rg 1 1 (1 : Int32)) (by decide))
  · have f7 := (rg_ltL (lo := 0) (hi := 6) (i_nle h6) f2 h_a1 (by decide))
    have f8 := (rg_ltR (lo := 1) (hi := 7) (i_nle h6) f2 h_a1 (by decide))
    refine t_ob _ (Du_isBeatingN_t (rg_w (lo := 0) (hi := 7) f8 (by decide)) hm) (fun x9 f10 => ?_)
    refine t_gd (inb_rg f7 (by decide)) ?_
    refine t_ob _ (Du_isBeatingN_t h_a2 hm) (fun x11 f12 => ?_)
    refine t_if (fun h13 => ?_) (fun h13 => ?_)
    · exact ih4 _ (rg_w (lo := 0) (hi := 7) (rg_add (lo := 1) (hi := 7) f7 (by decide : rg 1 1 (1 : Int32)) (by decide)) (by decide)) (ms_up f7 (by decide : rg 1 1 (1 : Int32)) (by decide))
    · exact t_some (rg_w (lo := 0) (hi := 1) (by decide : rg 0 0 (0 : Int32)) (by decide))
theorem Na_waysFromNN_t {N : Nat} (hN : 8589934592 ≤ N) {a1 : Int32} (h_a1 : rg 0 0 a1) {a2 : Int32} (h_a2 : rg 0 0 a2) {σ : Mem} (hm : InvD σ) : tot (f_Na_waysFromNN N 10 a1 a2 σ) (fun q => rg (-2147483648) 2147483647 q.1 ∧ KD [27] [] σ q.2) := by
  unfold f_Na_waysFromNN
  refine t_it3 (fun i1 i3 s5 => rg 0 8 i1 ∧ rg 0 255 i3 ∧ KD [27] [] σ s5) (fun i1 i3 s5 => (8 - i1.toInt).toNat) ?_ _ _ _ _ ⟨(rg_w (lo := 0) (hi := 8) h_a1 (by decide)), (rg_w (lo := 0) (hi := 255) h_a2 (by decide)), (kd_r hm)⟩ (ms_fu h_a1 (by decide))
  rintro self9 i1 i3 s5 ⟨f2, f4, k6⟩ ih8
  unfold Na_waysFromNN_R
  refine t_if (fun h10 => ?_) (fun h10 => ?_)
  · have f11 := (rg_ltL (lo := 0) (hi := 7) h10 f2 (k6.1.r3 _) (by decide))
    have f12 := (rg_ltR (lo := 1) (hi := 8) h10 f2 (k6.1.r3 _) (by decide))
    refine t_it3 (fun i13 i14 s16 => rg 0 8 i14 ∧ KD [27] [] σ s16) (fun i13 i14 s16 => (8 - i14.toInt).toNat) ?_ _ _ _ _ ⟨(rg_w (lo := 0) (hi := 8) (by decide : rg 0 0 (0 : Int32)) (by decide)), k6⟩ (ms_u0 hN _ (by decide))
    rintro self20 i13 i14 s16 ⟨f15, k17⟩ ih19
    unfold Na_waysFromNN_B16
    refine t_if (fun h21 => ?_) (fun h21 => ?_)
    · exact t_some ⟨(rg_f _), k17⟩
    · have f22 := (rg_ltL (lo := 0) (hi := 7) (i_nle h21) f15 (k17.1.r3 _) (by decide))
      have f23 := (rg_ltR (lo := 1) (hi := 8) (i_nle h21) f15 (k17.1.r3 _) (by decide))
      refine t_if (fun h24 => ?_) (fun h24 => ?_)
      · refine t_ob _ (Na_isFittingNN_t hN f11 f22 k17.1) (fun x25 f26 => ?_)
        refine t_if (fun h27 => ?_) (fun h27 => ?_)
        · have f28 := (rg_eqL (lo := 0) (hi := 0) h27 (by decide : rg 0 0 (0 : Int32)) (by decide))
          exact ih19 _ _ _ ⟨(rg_w (lo := 0) (hi := 8) (rg_add (lo := 1) (hi := 8) f22 (by decide : rg 1 1 (1 : Int32)) (by decide)) (by decide)), k17⟩ (ms_up f22 (by decide : rg 1 1 (1 : Int32)) (by decide))
        · have f29 := (rg_neL (lo := 1) (hi := 1) h27 f26 (by decide : rg 0 0 (0 : Int32)) (by decide))
          refine t_gd (inb_rg f11 (by decide)) ?_
          refine t_lm (KD [27] [] σ) (kd_s k17 (by decide) (dS27 k17.1 f22)) (fun s30 e32 k31 => ?_)
          refine t_ob2 (fun r s => rg (-2147483648) 2147483647 r ∧ KD [27] [] σ s) (ih8 _ _ _ ⟨(rg_w (lo := 0) (hi := 8) (rg_add (lo := 1) (hi := 8) f11 (by decide : rg 1 1 (1 : Int32)) (by decide)) (by decide)), (rg_or (lo := 0) (hi := 255) 8 f4 (rg_w (lo := 0) (hi := 128) (rg_shl1 (lo := 1) (hi := 128) 7 f22 (by decide)) (by decide)) (by decide)), k31⟩ (ms_up f11 (by decide : rg 1 1 (1 : Int32)) (by decide))) (fun x36 s33 ⟨f37, k34⟩ => ?_)
          refine t_le (-2147483648) 2147483647 (rg_f _) (fun x38 e40 f39 => ?_)
          exact ih19 _ _ _ ⟨(rg_w (lo := 0) (hi := 8) (rg_add (lo := 1) (hi := 8) f22 (by decide : rg 1 1 (1 : Int32)) (by decide)) (by decide)), k34⟩ (ms_up f22 (by decide : rg 1 1 (1 : Int32)) (by decide))
      · exact ih19 _ _ _ ⟨(rg_w (lo := 0) (hi := 8) (rg_add (lo := 1) (hi := 8) f22 (by decide : rg 1 1 (1 : Int32)) (by decide)) (by decide)), k17⟩ (ms_up f22 (by decide : rg 1 1 (1 : Int32)) (by decide))
  · exact t_some ⟨(rg_f _), k6⟩
theorem Na_waysToRenameNN_t {N : Nat} (hN : 8589934592 ≤ N) {σ : Mem} (hm : InvD σ) : tot (f_Na_waysToRenameNN N σ) (fun q => rg (-2147483648) 2147483647 q.1 ∧ KD [27] [] σ q.2) := by
  unfold f_Na_waysToRenameNN
  refine t_if (fun h1 => ?_) (fun h1 => ?_)
  · refine t_ob2 (fun r s => rg (-2147483648) 2147483647 r ∧ KD [27] [] σ s) (Na_waysFromNN_t hN (by decide : rg 0 0 (0 : Int32)) (by decide : rg 0 0 (0 : Int32)) hm) (fun x5 s2 ⟨f6, k3⟩ => ?_)
    have k4 := kd_t (S := [27]) (J := []) (kd_r hm) k3 (by decide) (by decide)
    exact t_some ⟨(rg_f _), k4⟩
  · exact t_some ⟨(rg_f _), (kd_r hm)⟩
theorem D_selves_t {N : Nat} (hN : 8589934592 ≤ N) {σ : Mem} (hm : InvD σ) : tot (f_D_selves N σ) (fun q => rg (-2147483648) 2147483647 q.1 ∧ KD [27] [] σ q.2) := by
  unfold f_D_selves
  refine t_if (fun h1 => ?_) (fun h1 => ?_)
  · have f2 := (rg_eqL (lo := 0) (hi := 0) h1 (by decide : rg 0 0 (0 : Int32)) (by decide))
    exact t_some ⟨(rg_f _), (kd_r hm)⟩
  · have f3 := (rg_neL (lo := 1) (hi := 8) h1 (hm.r3 _) (by decide : rg 0 0 (0 : Int32)) (by decide))
    refine t_ob2 (fun r s => rg (-2147483648) 2147483647 r ∧ KD [27] [] σ s) (Na_waysToRenameNN_t hN hm) (fun x7 s4 ⟨f8, k5⟩ => ?_)
    have k6 := kd_t (S := [27]) (J := []) (kd_r hm) k5 (by decide) (by decide)
    exact t_some ⟨(rg_f _), k6⟩
theorem D_set_t {N : Nat} (hN : 8589934592 ≤ N) {a1 : Int32} {a2 : Int32} {σ : Mem} (hm : InvD σ) : tot (f_D_set N a1 a2 σ) (fun q => rg (-1) 255 q.1 ∧ KD [17, 18, 19, 20, 21, 22, 23] [] σ q.2) := by
  unfold f_D_set
  refine t_if (fun h1 => ?_) (fun h1 => ?_)
  · have f2 := (rg_eqL (lo := 0) (hi := 0) h1 (by decide : rg 0 0 (0 : Int32)) (by decide))
    exact t_some ⟨(rg_w (lo := (-1)) (hi := 255) (by decide : rg (-1) (-1) (-1 : Int32)) (by decide)), (kd_r hm)⟩
  · have f3 := (rg_neL (lo := 1) (hi := 8) h1 (hm.r3 _) (by decide : rg 0 0 (0 : Int32)) (by decide))
    refine t_if (fun h4 => ?_) (fun h4 => ?_)
    · exact t_some ⟨(rg_w (lo := (-1)) (hi := 255) (by decide : rg (-1) (-1) (-1 : Int32)) (by decide)), (kd_r hm)⟩
    · have f5 := (c_kind h4)
      refine t_if (fun h6 => ?_) (fun h6 => ?_)
      · exact t_some ⟨(rg_w (lo := (-1)) (hi := 255) (by decide : rg (-1) (-1) (-1 : Int32)) (by decide)), (kd_r hm)⟩
      · have f7 := (c_ps h6 hm)
        refine t_ob2 (fun r s => rg 0 255 r ∧ KD [17, 18, 19, 20, 21, 22, 23] [] σ s) (Se_ofKind_t hN f5 f7 hm) (fun x11 s8 ⟨f12, k9⟩ => ?_)
        have k10 := kd_t (S := [17, 18, 19, 20, 21, 22, 23]) (J := []) (kd_r hm) k9 (by decide) (by decide)
        exact t_some ⟨(rg_w (lo := (-1)) (hi := 255) f12 (by decide)), k10⟩
theorem D_turn_t {N : Nat} (hN : 8589934592 ≤ N) {a1 : Int32} {a2 : Int32} {σ : Mem} (hm : InvD σ) : tot (f_D_turn N a1 a2 σ) (fun q => rg (-2) 7 q.1 ∧ KD [5, 13] [15] σ q.2) := by
  unfold f_D_turn
  refine t_if (fun h1 => ?_) (fun h1 => ?_)
  · exact t_some ⟨(rg_w (lo := (-2)) (hi := 7) (by decide : rg (-1) (-1) (-1 : Int32)) (by decide)), (kd_r hm)⟩
  · refine t_if (fun h2 => ?_) (fun h2 => ?_)
    · exact t_some ⟨(rg_w (lo := (-2)) (hi := 7) (by decide : rg (-2) (-2) (-2 : Int32)) (by decide)), (kd_r hm)⟩
    · have f3 := (c_pl h2 hm)
      have f4 := (c_pl1 h2 hm)
      refine t_if (fun h5 => ?_) (fun h5 => ?_)
      · exact t_some ⟨(rg_w (lo := (-2)) (hi := 7) (by decide : rg (-2) (-2) (-2 : Int32)) (by decide)), (kd_r hm)⟩
      · have f6 := (c_pl h5 hm)
        refine t_ob _ (Du_packedN_t hN hm) (fun l7 j8 => ?_)
        refine t_ob _ (Pa_remember_t j8 hm) (fun s9 k10 => ?_)
        have k11 := kd_t (S := [5, 13]) (J := [15]) (kd_r hm) k10 (by decide) (by decide)
        refine t_ob _ (Du_flipN_t f3 f6 k11.1) (fun s12 k13 => ?_)
        have k14 := kd_t (S := [5, 13]) (J := [15]) k11 k13 (by decide) (by decide)
        refine t_ob _ (Du_winnerOfN_t f3 f6 k14.1) (fun x15 f16 => ?_)
        exact t_some ⟨(rg_w (lo := (-2)) (hi := 7) f16 (by decide)), k14⟩
theorem Pa_takeLatest_t {σ : Mem} (hp5 : rg 1 10 (gI σ 5 0)) (hm : InvD σ) : tot (f_Pa_takeLatest σ) (fun q => jok q.1 ∧ KD [5] [] σ q.2) := by
  unfold f_Pa_takeLatest
  refine t_lm (KD [5] [] σ) (kd_s (kd_r hm) (by decide) (dS5 hm (rg_w (lo := 0) (hi := 10) (rg_sub (lo := 0) (hi := 9) hp5 (by decide : rg 1 1 (1 : Int32)) (by decide)) (by decide)))) (fun s1 e3 k2 => ?_)
  refine t_gd (inb_rg (tr_e e3 (rg_sub (lo := 0) (hi := 9) hp5 (by decide : rg 1 1 (1 : Int32)) (by decide))) (by decide)) ?_
  exact t_some ⟨(k2.1.j15 _), k2⟩
theorem D_undo_t {N : Nat} (hN : 8589934592 ≤ N) {σ : Mem} (hm : InvD σ) : tot (f_D_undo N σ) (fun q => rg (-3) 10 q.1 ∧ KD [3, 5, 13] [] σ q.2) := by
  unfold f_D_undo
  refine t_if (fun h1 => ?_) (fun h1 => ?_)
  · have f2 := (rg_eqL (lo := 0) (hi := 0) h1 (by decide : rg 0 0 (0 : Int32)) (by decide))
    exact t_some ⟨(rg_w (lo := (-3)) (hi := 10) (by decide : rg (-2) (-2) (-2 : Int32)) (by decide)), (kd_r hm)⟩
  · have f3 := (rg_neL (lo := 1) (hi := 8) h1 (hm.r3 _) (by decide : rg 0 0 (0 : Int32)) (by decide))
    refine t_if (fun h4 => ?_) (fun h4 => ?_)
    · have f5 := (rg_eqL (lo := 0) (hi := 0) h4 (by decide : rg 0 0 (0 : Int32)) (by decide))
      exact t_some ⟨(rg_w (lo := (-3)) (hi := 10) (by decide : rg (-3) (-3) (-3 : Int32)) (by decide)), (kd_r hm)⟩
    · have f6 := (rg_neL (lo := 1) (hi := 10) h4 (hm.r5 _) (by decide : rg 0 0 (0 : Int32)) (by decide))
      refine t_ob2 (fun r s => jok r ∧ KD [5] [] σ s) (Pa_takeLatest_t f6 hm) (fun l10 s7 ⟨j11, k8⟩ => ?_)
      have k9 := kd_t (S := [3, 5, 13]) (J := []) (kd_r hm) k8 (by decide) (by decide)
      refine t_ob _ (Du_unpackN_t hN j11 k9.1) (fun s12 k13 => ?_)
      have k14 := kd_t (S := [3, 5, 13]) (J := []) k9 k13 (by decide) (by decide)
      exact t_some ⟨(rg_w (lo := (-3)) (hi := 10) (k14.1.r5 _) (by decide)), k14⟩
theorem D_weight_t {N : Nat} (hN : 8589934592 ≤ N) {a1 : Int32} {a2 : Int32} {σ : Mem} (hm : InvD σ) : tot (f_D_weight N a1 a2 σ) (fun q => rg (-2147483648) 2147483647 q.1 ∧ KD [19, 20] [] σ q.2) := by
  unfold f_D_weight
  refine t_if (fun h1 => ?_) (fun h1 => ?_)
  · exact t_some ⟨(rg_f _), (kd_r hm)⟩
  · have f2 := (c_pl h1 hm)
    have f3 := (c_pl1 h1 hm)
    refine t_if (fun h4 => ?_) (fun h4 => ?_)
    · have f5 := (rg_ltL (lo := (-2147483648)) (hi := (-1)) h4 (rg_f _) (by decide : rg 0 0 (0 : Int32)) (by decide))
      exact t_some ⟨(rg_f _), (kd_r hm)⟩
    · have f6 := (rg_leR (lo := 0) (hi := 2147483647) (i_nlt h4) (by decide : rg 0 0 (0 : Int32)) (rg_f _) (by decide))
      refine t_if (fun h7 => ?_) (fun h7 => ?_)
      · have f8 := (rg_leL (lo := 0) (hi := 1) h7 f6 (by decide : rg 1 1 (1 : Int32)) (by decide))
        refine t_ob2 (fun r s => rg 0 255 r ∧ KD [19, 20] [] σ s) (We_balance_t hN (ev_rg hm) hm) (fun x12 s9 ⟨f13, k10⟩ => ?_)
        have k11 := kd_t (S := [19, 20]) (J := []) (kd_r hm) k10 (by decide) (by decide)
        refine t_if (fun h14 => ?_) (fun h14 => ?_)
        · have f15 := (rg_eqL (lo := 0) (hi := 0) h14 (by decide : rg 0 0 (0 : Int32)) (by decide))
          refine t_gd (inb_rg f2 (by decide)) ?_
          exact t_some ⟨(rg_f _), k11⟩
        · have f16 := (rg_neL (lo := 1) (hi := 1) h14 f8 (by decide : rg 0 0 (0 : Int32)) (by decide))
          refine t_ob _ (We_gainOfS_t hN f2 k11.1) (fun x17 f18 => ?_)
          exact t_some ⟨(rg_f _), k11⟩
      · have f19 := (rg_ltR (lo := 2) (hi := 2147483647) (i_nle h7) (by decide : rg 1 1 (1 : Int32)) f6 (by decide))
        exact t_some ⟨(rg_f _), (kd_r hm)⟩
theorem Cu_playWithFirst_t {N : Nat} (hN : 8589934592 ≤ N) {a1 : Int32} (h_a1 : rg 0 255 a1) {σ : Mem} (hm : InvD σ) : tot (f_Cu_playWithFirst N a1 σ) (fun q => rg 0 7 q.1 ∧ KD [21] [] σ q.2) := by
  unfold f_Cu_playWithFirst
  refine t_ob2 (fun r s => rg 0 8 r ∧ KD [21] [] σ s) (Cu_putIntoRow_t hN h_a1 (rg_w (lo := 0) (hi := 8) (by decide : rg 0 0 (0 : Int32)) (by decide)) hm) (fun x4 s1 ⟨f5, k2⟩ => ?_)
  have k3 := kd_t (S := [21]) (J := []) (kd_r hm) k2 (by decide) (by decide)
  refine t_ob2 (fun r s => rg 0 8 r ∧ KD [21] [] s1 s) (Cu_putIntoRow_t hN (rg_andl (lo := 0) (hi := 255) _ (ev_rg k3.1) (by decide)) f5 k3.1) (fun x9 s6 ⟨f10, k7⟩ => ?_)
  have k8 := kd_t (S := [21]) (J := []) k3 k7 (by decide) (by decide)
  refine t_le 0 4 (rg_div (lo := 0) (hi := 4) (k8.1.r3 _) (by decide : rg 2 2 (2 : Int32)) (by decide)) (fun x11 e13 f12 => ?_)
  refine t_it2 (fun i14 s16 => rg 0 4 i14 ∧ KD [21] [] σ s16) (fun i14 s16 => (i14.toInt - 0).toNat) ?_ _ _ _ ⟨f12, k8⟩ (ms_d0 hN _ (by decide))
  rintro self20 i14 s16 ⟨f15, k17⟩ ih19
  unfold Cu_playWithFirst_B34
  refine t_if (fun h21 => ?_) (fun h21 => ?_)
  · have f22 := (rg_ltL (lo := 0) (hi := 0) h21 f15 (by decide : rg 1 1 (1 : Int32)) (by decide))
    unfold Cu_playWithFirst_K95
    exact t_some ⟨(k17.1.r21 _), k17⟩
  · have f23 := (rg_leR (lo := 1) (hi := 4) (i_nlt h21) (by decide : rg 1 1 (1 : Int32)) f15 (by decide))
    refine t_it2 (fun i24 s26 => rg 0 4 i24 ∧ KD [21] [] σ s26) (fun i24 s26 => (4 - i24.toInt).toNat) ?_ _ _ _ ⟨(rg_w (lo := 0) (hi := 4) (by decide : rg 0 0 (0 : Int32)) (by decide)), k17⟩ (ms_u0 hN _ (by decide))
    rintro self30 i24 s26 ⟨f25, k27⟩ ih29
    unfold Cu_playWithFirst_B42
    refine t_if (fun h31 => ?_) (fun h31 => ?_)
    · have f32 := (rg_leR (lo := 1) (hi := 4) h31 f23 f25 (by decide))
      refine t_le 0 2 (rg_div (lo := 0) (hi := 2) f23 (by decide : rg 2 2 (2 : Int32)) (by decide)) (fun x33 e35 f34 => ?_)
      exact ih19 _ _ ⟨(rg_w (lo := 0) (hi := 4) f34 (by decide)), k27⟩ (by rw [e35]; exact (ms_dv f23 (by decide : rg 2 2 (2 : Int32)) (by decide)))
    · have f36 := (rg_ltL (lo := 0) (hi := 3) (i_nle h31) f25 f23 (by decide))
      refine t_gd (inb_rg (rg_mul (lo := 0) (hi := 6) (by decide : rg 2 2 (2 : Int32)) f36 (by decide)) (by decide)) ?_
      refine t_gd (inb_rg (rg_add (lo := 1) (hi := 7) (rg_mul (lo := 0) (hi := 6) (by decide : rg 2 2 (2 : Int32)) f36 (by decide)) (by decide : rg 1 1 (1 : Int32)) (by decide)) (by decide)) ?_
      refine t_ob _ (Du_winnerOfN_t (k27.1.r21 _) (k27.1.r21 _) k27.1) (fun x37 f38 => ?_)
      refine t_gd (inb_rg f36 (by decide)) ?_
      refine t_lm (KD [21] [] σ) (kd_s k27 (by decide) (dS21 k27.1 f38)) (fun s39 e41 k40 => ?_)
      exact ih29 _ _ ⟨(rg_w (lo := 0) (hi := 4) (rg_add (lo := 1) (hi := 4) f36 (by decide : rg 1 1 (1 : Int32)) (by decide)) (by decide)), k40⟩ (ms_up f36 (by decide : rg 1 1 (1 : Int32)) (by decide))
theorem D_winner_t {N : Nat} (hN : 8589934592 ≤ N) {a1 : Int32} {σ : Mem} (hm : InvD σ) : tot (f_D_winner N a1 σ) (fun q => rg (-3) 7 q.1 ∧ KD [21] [] σ q.2) := by
  unfold f_D_winner
  refine t_if (fun h1 => ?_) (fun h1 => ?_)
  · have f2 := (rg_eqL (lo := 0) (hi := 0) h1 (by decide : rg 0 0 (0 : Int32)) (by decide))
    exact t_some ⟨(rg_w (lo := (-3)) (hi := 7) (by decide : rg (-1) (-1) (-1 : Int32)) (by decide)), (kd_r hm)⟩
  · have f3 := (rg_neL (lo := 1) (hi := 8) h1 (hm.r3 _) (by decide : rg 0 0 (0 : Int32)) (by decide))
    refine t_if (fun h4 => ?_) (fun h4 => ?_)
    · exact t_some ⟨(rg_w (lo := (-3)) (hi := 7) (by decide : rg (-1) (-1) (-1 : Int32)) (by decide)), (kd_r hm)⟩
    · have f5 := (c_ps h4 hm)
      refine t_if (fun h6 => ?_) (fun h6 => ?_)
      · exact t_some ⟨(rg_w (lo := (-3)) (hi := 7) (by decide : rg (-3) (-3) (-3 : Int32)) (by decide)), (kd_r hm)⟩
      · refine t_ob2 (fun r s => rg 0 7 r ∧ KD [21] [] σ s) (Cu_playWithFirst_t hN f5 hm) (fun x10 s7 ⟨f11, k8⟩ => ?_)
        have k9 := kd_t (S := [21]) (J := []) (kd_r hm) k8 (by decide) (by decide)
        exact t_some ⟨(rg_w (lo := (-3)) (hi := 7) f11 (by decide)), k9⟩
theorem D_countWithin_t {N : Nat} (hN : 8589934592 ≤ N) {σ : Mem} (hm : InvD σ) : tot (f_D_countWithin N σ) (fun r => rg (-2147483648) 2147483647 r) := by
  unfold f_D_countWithin
  refine t_it2 (fun i1 i2 => rg 0 9 i2) (fun i1 i2 => (9 - i2.toInt).toNat) ?_ _ _ _ (rg_w (lo := 0) (hi := 9) (by decide : rg 0 0 (0 : Int32)) (by decide)) (ms_u0 hN _ (by decide))
  rintro self6 i1 i2 f3 ih5
  unfold D_countWithin_B4
  refine t_if (fun h7 => ?_) (fun h7 => ?_)
  · have f8 := (rg_leR (lo := 9) (hi := 9) h7 (by decide : rg 9 9 (9 : Int32)) f3 (by decide))
    exact t_some (rg_f _)
  · have f9 := (rg_ltL (lo := 0) (hi := 8) (i_nle h7) f3 (by decide : rg 9 9 (9 : Int32)) (by decide))
    refine t_it2 (fun i10 i11 => rg 0 9 i11) (fun i10 i11 => (9 - i11.toInt).toNat) ?_ _ _ _ (rg_w (lo := 0) (hi := 9) (by decide : rg 0 0 (0 : Int32)) (by decide)) (ms_u0 hN _ (by decide))
    rintro self15 i10 i11 f12 ih14
    unfold D_countWithin_B12
    refine t_if (fun h16 => ?_) (fun h16 => ?_)
    · have f17 := (rg_leR (lo := 9) (hi := 9) h16 (by decide : rg 9 9 (9 : Int32)) f12 (by decide))
      exact ih5 _ _ (rg_w (lo := 0) (hi := 9) (rg_add (lo := 1) (hi := 9) f9 (by decide : rg 1 1 (1 : Int32)) (by decide)) (by decide)) (ms_up f9 (by decide : rg 1 1 (1 : Int32)) (by decide))
    · have f18 := (rg_ltL (lo := 0) (hi := 8) (i_nle h16) f12 (by decide : rg 9 9 (9 : Int32)) (by decide))
      refine t_if (fun h19 => ?_) (fun h19 => ?_)
      · exact ih14 _ _ (rg_w (lo := 0) (hi := 9) (rg_add (lo := 1) (hi := 9) f18 (by decide : rg 1 1 (1 : Int32)) (by decide)) (by decide)) (ms_up f18 (by decide : rg 1 1 (1 : Int32)) (by decide))
      · refine t_gd (inb_rg f9 (by decide)) ?_
        refine t_gd (inb_rg f18 (by decide)) ?_
        refine t_if (fun h20 => ?_) (fun h20 => ?_)
        · exact ih14 _ _ (rg_w (lo := 0) (hi := 9) (rg_add (lo := 1) (hi := 9) f18 (by decide : rg 1 1 (1 : Int32)) (by decide)) (by decide)) (ms_up f18 (by decide : rg 1 1 (1 : Int32)) (by decide))
        · exact ih14 _ _ (rg_w (lo := 0) (hi := 9) (rg_add (lo := 1) (hi := 9) f18 (by decide : rg 1 1 (1 : Int32)) (by decide)) (by decide)) (ms_up f18 (by decide : rg 1 1 (1 : Int32)) (by decide))
theorem D_firstLessWithin_t {N : Nat} (hN : 8589934592 ≤ N) {σ : Mem} (hm : InvD σ) : tot (f_D_firstLessWithin N σ) (fun r => rg (-1) 99 r) := by
  unfold f_D_firstLessWithin
  refine t_it1 (fun i1 => rg 0 9 i1) (fun i1 => (9 - i1.toInt).toNat) ?_ _ _ (rg_w (lo := 0) (hi := 9) (by decide : rg 0 0 (0 : Int32)) (by decide)) (ms_u0 hN _ (by decide))
  rintro self5 i1 f2 ih4
  unfold D_firstLessWithin_B2
  refine t_if (fun h6 => ?_) (fun h6 => ?_)
  · have f7 := (rg_leR (lo := 9) (hi := 9) h6 (by decide : rg 9 9 (9 : Int32)) f2 (by decide))
    exact t_some (rg_w (lo := (-1)) (hi := 99) (by decide : rg (-1) (-1) (-1 : Int32)) (by decide))
  · have f8 := (rg_ltL (lo := 0) (hi := 8) (i_nle h6) f2 (by decide : rg 9 9 (9 : Int32)) (by decide))
    refine t_it1 (fun i9 => rg 0 9 i9) (fun i9 => (9 - i9.toInt).toNat) ?_ _ _ (rg_w (lo := 0) (hi := 9) (by decide : rg 0 0 (0 : Int32)) (by decide)) (ms_u0 hN _ (by decide))
    rintro self13 i9 f10 ih12
    unfold D_firstLessWithin_B10
    refine t_if (fun h14 => ?_) (fun h14 => ?_)
    · have f15 := (rg_leR (lo := 9) (hi := 9) h14 (by decide : rg 9 9 (9 : Int32)) f10 (by decide))
      exact ih4 _ (rg_w (lo := 0) (hi := 9) (rg_add (lo := 1) (hi := 9) f8 (by decide : rg 1 1 (1 : Int32)) (by decide)) (by decide)) (ms_up f8 (by decide : rg 1 1 (1 : Int32)) (by decide))
    · have f16 := (rg_ltL (lo := 0) (hi := 8) (i_nle h14) f10 (by decide : rg 9 9 (9 : Int32)) (by decide))
      refine t_gd (inb_rg f8 (by decide)) ?_
      refine t_gd (inb_rg f16 (by decide)) ?_
      refine t_if (fun h17 => ?_) (fun h17 => ?_)
      · exact ih12 _ (rg_w (lo := 0) (hi := 9) (rg_add (lo := 1) (hi := 9) f16 (by decide : rg 1 1 (1 : Int32)) (by decide)) (by decide)) (ms_up f16 (by decide : rg 1 1 (1 : Int32)) (by decide))
      · refine t_gd (inb_rg f8 (by decide)) ?_
        refine t_gd (inb_rg f16 (by decide)) ?_
        refine t_if (fun h18 => ?_) (fun h18 => ?_)
        · exact t_some (rg_w (lo := (-1)) (hi := 99) (rg_add (lo := 0) (hi := 88) (rg_mul (lo := 0) (hi := 80) (by decide : rg 10 10 (10 : Int32)) f8 (by decide)) f16 (by decide)) (by decide))
        · exact ih12 _ (rg_w (lo := 0) (hi := 9) (rg_add (lo := 1) (hi := 9) f16 (by decide : rg 1 1 (1 : Int32)) (by decide)) (by decide)) (ms_up f16 (by decide : rg 1 1 (1 : Int32)) (by decide))
theorem D_within_t {N : Nat} (hN : 8589934592 ≤ N) {a1 : Int32} {σ : Mem} (hm : InvD σ) : tot (f_D_within N a1 σ) (fun q => rg (-2147483648) 2147483647 q.1 ∧ KD [11, 17, 18, 19, 20, 21, 22, 23] [] σ q.2) := by
  unfold f_D_within
  refine t_if (fun h1 => ?_) (fun h1 => ?_)
  · have f2 := (rg_eqL (lo := 0) (hi := 0) h1 (by decide : rg 0 0 (0 : Int32)) (by decide))
    exact t_some ⟨(rg_f _), (kd_r hm)⟩
  · have f3 := (rg_neL (lo := 1) (hi := 8) h1 (hm.r3 _) (by decide : rg 0 0 (0 : Int32)) (by decide))
    refine t_if (fun h4 => ?_) (fun h4 => ?_)
    · have f5 := (rg_ltL (lo := (-2147483648)) (hi := (-1)) h4 (rg_f _) (by decide : rg 0 0 (0 : Int32)) (by decide))
      exact t_some ⟨(rg_f _), (kd_r hm)⟩
    · have f6 := (rg_leR (lo := 0) (hi := 2147483647) (i_nlt h4) (by decide : rg 0 0 (0 : Int32)) (rg_f _) (by decide))
      refine t_if (fun h7 => ?_) (fun h7 => ?_)
      · have f8 := (rg_leL (lo := 0) (hi := 1) h7 f6 (by decide : rg 1 1 (1 : Int32)) (by decide))
        refine t_it2 (fun i9 s11 => rg 0 9 i9 ∧ KD [11, 17, 18, 19, 20, 21, 22, 23] [] σ s11) (fun i9 s11 => (9 - i9.toInt).toNat) ?_ _ _ _ ⟨(rg_w (lo := 0) (hi := 9) (by decide : rg 0 0 (0 : Int32)) (by decide)), (kd_r hm)⟩ (ms_u0 hN _ (by decide))
        rintro self15 i9 s11 ⟨f10, k12⟩ ih14
        unfold D_within_B23
        refine t_if (fun h16 => ?_) (fun h16 => ?_)
        · have f17 := (rg_leR (lo := 9) (hi := 9) h16 (by decide : rg 9 9 (9 : Int32)) f10 (by decide))
          unfold D_within_K56
          refine t_if (fun h18 => ?_) (fun h18 => ?_)
          · have f19 := (rg_eqL (lo := 0) (hi := 0) h18 (by decide : rg 0 0 (0 : Int32)) (by decide))
            refine t_ob _ (D_countWithin_t hN k12.1) (fun x20 f21 => ?_)
            exact t_some ⟨(rg_f _), k12⟩
          · have f22 := (rg_neL (lo := 1) (hi := 1) h18 f8 (by decide : rg 0 0 (0 : Int32)) (by decide))
            refine t_ob _ (D_firstLessWithin_t hN k12.1) (fun x23 f24 => ?_)
            exact t_some ⟨(rg_f _), k12⟩
        · have f25 := (rg_ltL (lo := 0) (hi := 8) (i_nle h16) f10 (by decide : rg 9 9 (9 : Int32)) (by decide))
          refine t_ob2 (fun r s => rg 0 255 r ∧ KD [17, 18, 19, 20, 21, 22, 23] [] s11 s) (Se_ofKind_t hN (rg_w (lo := 0) (hi := 9) f25 (by decide)) (ev_rg k12.1) k12.1) (fun x29 s26 ⟨f30, k27⟩ => ?_)
          have k28 := kd_t (S := [11, 17, 18, 19, 20, 21, 22, 23]) (J := []) k12 k27 (by decide) (by decide)
          refine t_gd (inb_rg f25 (by decide)) ?_
          refine t_lm (KD [11, 17, 18, 19, 20, 21, 22, 23] [] σ) (kd_s k28 (by decide) (dS11 k28.1)) (fun s31 e33 k32 => ?_)
          exact ih14 _ _ ⟨(rg_w (lo := 0) (hi := 9) (rg_add (lo := 1) (hi := 9) f25 (by decide : rg 1 1 (1 : Int32)) (by decide)) (by decide)), k32⟩ (ms_up f25 (by decide : rg 1 1 (1 : Int32)) (by decide))
      · have f34 := (rg_ltR (lo := 2) (hi := 2147483647) (i_nle h7) (by decide : rg 1 1 (1 : Int32)) f6 (by decide))
        exact t_some ⟨(rg_f _), (kd_r hm)⟩
theorem M_firstOrder_t {N : Nat} (hN : 8589934592 ≤ N) {σ : Mem} (hm : InvM σ) : tot (f_M_firstOrder N σ) (fun s => KM [26] [] σ s) := by
  unfold f_M_firstOrder
  refine t_it2 (fun i1 s3 => rg 0 8 i1 ∧ KM [26] [] σ s3) (fun i1 s3 => (8 - i1.toInt).toNat) ?_ _ _ _ ⟨(rg_w (lo := 0) (hi := 8) (by decide : rg 0 0 (0 : Int32)) (by decide)), (km_r hm)⟩ (ms_u0 hN _ (by decide))
  rintro self7 i1 s3 ⟨f2, k4⟩ ih6
  unfold M_firstOrder_B2
  refine t_if (fun h8 => ?_) (fun h8 => ?_)
  · have f9 := (rg_leR (lo := 8) (hi := 8) h8 (by decide : rg 8 8 (8 : Int32)) f2 (by decide))
    exact t_some k4
  · have f10 := (rg_ltL (lo := 0) (hi := 7) (i_nle h8) f2 (by decide : rg 8 8 (8 : Int32)) (by decide))
    refine t_gd (inb_rg f10 (by decide)) ?_
    refine t_lm (KM [26] [] σ) (km_s k4 (by decide) (mS26 k4.1 f10)) (fun s11 e13 k12 => ?_)
    exact ih6 _ _ ⟨(rg_w (lo := 0) (hi := 8) (rg_add (lo := 1) (hi := 8) f10 (by decide : rg 1 1 (1 : Int32)) (by decide)) (by decide)), k12⟩ (ms_up f10 (by decide : rg 1 1 (1 : Int32)) (by decide))
theorem M_beats_t {a1 : Int32} (h_a1 : rg (-1) 7 a1) {σ : Mem} (hm : InvM σ) : tot (f_M_beats a1 σ) (fun r => rg 0 255 r) := by
  unfold f_M_beats
  refine t_gd (inb_rg (rg_add (lo := 0) (hi := 8) (by decide : rg 1 1 (1 : Int32)) h_a1 (by decide)) (by decide)) ?_
  exact t_some (hm.r1 _)
theorem M_areNamesK_t {N : Nat} (hN : 8589934592 ≤ N) {a1 : Int32} (h_a1 : rg 1 10 a1) {σ : Mem} (hm : InvM σ) : tot (f_M_areNamesK N a1 σ) (fun r => rg 0 1 r) := by
  unfold f_M_areNamesK
  refine t_le 0 8 hm.n1 (fun x1 e3 f2 => ?_)
  refine t_it1 (fun i4 => rg 0 8 i4) (fun i4 => (8 - i4.toInt).toNat) ?_ _ _ (rg_w (lo := 0) (hi := 8) (by decide : rg 0 0 (0 : Int32)) (by decide)) (ms_u0 hN _ (by decide))
  rintro self8 i4 f5 ih7
  unfold M_areNamesK_B8
  refine t_if (fun h9 => ?_) (fun h9 => ?_)
  · exact t_some (rg_w (lo := 0) (hi := 1) (by decide : rg 1 1 (1 : Int32)) (by decide))
  · have f10 := (rg_ltL (lo := 0) (hi := 7) (i_nle h9) f5 f2 (by decide))
    have f11 := (rg_ltR (lo := 1) (hi := 8) (i_nle h9) f5 f2 (by decide))
    refine t_le 1 8 (rg_add (lo := 1) (hi := 8) f10 (by decide : rg 1 1 (1 : Int32)) (by decide)) (fun x12 e14 f13 => ?_)
    refine t_it1 (fun i15 => rg 1 8 i15) (fun i15 => (8 - i15.toInt).toNat) ?_ _ _ f13 (ms_u0 hN _ (by decide))
    rintro self19 i15 f16 ih18
    unfold M_areNamesK_B20
    refine t_if (fun h20 => ?_) (fun h20 => ?_)
    · exact ih7 _ (rg_w (lo := 0) (hi := 8) (rg_add (lo := 1) (hi := 8) f10 (by decide : rg 1 1 (1 : Int32)) (by decide)) (by decide)) (ms_up f10 (by decide : rg 1 1 (1 : Int32)) (by decide))
    · have f21 := (rg_ltL (lo := 1) (hi := 7) (i_nle h20) f16 f11 (by decide))
      have f22 := (rg_ltR (lo := 2) (hi := 8) (i_nle h20) f16 f11 (by decide))
      refine t_ob _ (M_beats_t (rg_w (lo := (-1)) (hi := 7) f10 (by decide)) hm) (fun x23 f24 => ?_)
      refine t_gd (inb_rg f10 (by decide)) ?_
      refine t_gd (inb_rg (rg_add (lo := 1) (hi := 17) h_a1 (hm.r26 _) (by decide)) (by decide)) ?_
      refine t_gd (inb_rg f21 (by decide)) ?_
      refine t_if (fun h25 => ?_) (fun h25 => ?_)
      · exact ih18 _ (rg_w (lo := 1) (hi := 8) (rg_add (lo := 2) (hi := 8) f21 (by decide : rg 1 1 (1 : Int32)) (by decide)) (by decide)) (ms_up f21 (by decide : rg 1 1 (1 : Int32)) (by decide))
      · exact t_some (rg_w (lo := 0) (hi := 1) (by decide : rg 0 0 (0 : Int32)) (by decide))
theorem M_swap_t {a1 : Int32} (h_a1 : rg 0 7 a1) {a2 : Int32} (h_a2 : rg 0 7 a2) {σ : Mem} (hm : InvM σ) : tot (f_M_swap a1 a2 σ) (fun s => KM [26] [] σ s) := by
  unfold f_M_swap
  refine t_gd (inb_rg h_a1 (by decide)) ?_
  refine t_le 0 7 (hm.r26 _) (fun x1 e3 f2 => ?_)
  refine t_gd (inb_rg h_a2 (by decide)) ?_
  refine t_gd (inb_rg h_a1 (by decide)) ?_
  refine t_lm (KM [26] [] σ) (km_s (km_r hm) (by decide) (mS26 hm (hm.r26 _))) (fun s4 e6 k5 => ?_)
  refine t_gd (inb_rg h_a2 (by decide)) ?_
  refine t_lm (KM [26] [] σ) (km_s k5 (by decide) (mS26 k5.1 f2)) (fun s7 e9 k8 => ?_)
  exact t_some k8
theorem M_beaten_t {a1 : Int32} {a2 : Int32} {σ : Mem} (hm : InvM σ) : tot (f_M_beaten a1 a2 σ) (fun q => rg (-1) 255 q.1 ∧ KM [0] [] σ q.2) := by
  unfold f_M_beaten
  refine t_lm (KM [0] [] σ) (km_s (km_r hm) (by decide) (mS0 hm)) (fun s1 e3 k2 => ?_)
  refine t_if (fun h4 => ?_) (fun h4 => ?_)
  · exact t_some ⟨(rg_w (lo := (-1)) (hi := 255) (by decide : rg (-1) (-1) (-1 : Int32)) (by decide)), k2⟩
  · have f5 := (c_mpl h4 k2.1)
    refine t_if (fun h6 => ?_) (fun h6 => ?_)
    · exact t_some ⟨(rg_w (lo := (-1)) (hi := 255) (by decide : rg (-1) (-1) (-1 : Int32)) (by decide)), k2⟩
    · have f7 := (c_mso h6 k2.1)
      refine t_ob _ (M_beats_t (rg_w (lo := (-1)) (hi := 7) f5 (by decide)) k2.1) (fun x8 f9 => ?_)
      exact t_some ⟨(rg_w (lo := (-1)) (hi := 255) (rg_andl (lo := 0) (hi := 255) _ f9 (by decide)) (by decide)), k2⟩
theorem M_over_t {a1 : Int32} (h_a1 : rg 0 7 a1) {σ : Mem} (hm : InvM σ) : tot (f_M_over a1 σ) (fun r => rg 0 255 r) := by
  unfold f_M_over
  refine t_gd (inb_rg (rg_add (lo := 1) (hi := 8) (by decide : rg 1 1 (1 : Int32)) h_a1 (by decide)) (by decide)) ?_
  exact t_some (rg_andl (lo := 0) (hi := 255) _ (rg_andl (lo := 0) (hi := 255) _ (al_rg hm) (by decide)) (by decide))
theorem M_turnedBy_t {N : Nat} (hN : 8589934592 ≤ N) {a1 : Int32} (h_a1 : rg 0 7 a1) {a2 : Int32} (h_a2 : rg 0 255 a2) {σ : Mem} (hm : InvM σ) : tot (f_M_turnedBy N a1 a2 σ) (fun r => rg (-2147483648) 2147483647 r) := by
  unfold f_M_turnedBy
  refine t_ob _ (M_over_t h_a1 hm) (fun x1 f2 => ?_)
  refine t_ob _ (M_sizeOf_t hN) (fun x3 f4 => ?_)
  refine t_gd (inb_rg (rg_andl (lo := 0) (hi := 255) _ h_a2 (by decide)) (by decide)) ?_
  exact t_some (rg_f _)
theorem M_layOrders_t {N : Nat} (hN : 8589934592 ≤ N) {σ : Mem} (hm : InvM σ) : tot (f_M_layOrders N σ) (fun s => KM [18, 19] [] σ s) := by
  unfold f_M_layOrders
  refine t_lm (KM [18, 19] [] σ) (km_s (km_r hm) (by decide) (mS18 hm)) (fun s1 e3 k2 => ?_)
  refine t_lm (KM [18, 19] [] σ) (km_s k2 (by decide) (mS19 k2.1)) (fun s4 e6 k5 => ?_)
  refine t_it2 (fun i7 s9 => rg 1 256 i7 ∧ KM [18, 19] [] σ s9) (fun i7 s9 => (256 - i7.toInt).toNat) ?_ _ _ _ ⟨(rg_w (lo := 1) (hi := 256) (by decide : rg 1 1 (1 : Int32)) (by decide)), k5⟩ (ms_u0 hN _ (by decide))
  rintro self13 i7 s9 ⟨f8, k10⟩ ih12
  unfold M_layOrders_B16
  refine t_if (fun h14 => ?_) (fun h14 => ?_)
  · exact t_some k10
  · have f15 := (rg_leL (lo := 1) (hi := 255) (i_nlt h14) f8 (al_rg k10.1) (by decide))
    have f16 := (rg_leR (lo := 1) (hi := 255) (i_nlt h14) f8 (al_rg k10.1) (by decide))
    refine t_gd (inb_rg f15 (by decide)) ?_
    refine t_lm (KM [18, 19] [] σ) (km_s k10 (by decide) (mS18 k10.1)) (fun s17 e19 k18 => ?_)
    refine t_gd (inb_rg f15 (by decide)) ?_
    refine t_lm (KM [18, 19] [] σ) (km_s k18 (by decide) (mS19 k18.1)) (fun s20 e22 k21 => ?_)
    refine t_it2 (fun i23 s25 => rg 0 8 i23 ∧ KM [18, 19] [] σ s25) (fun i23 s25 => (8 - i23.toInt).toNat) ?_ _ _ _ ⟨(rg_w (lo := 0) (hi := 8) (by decide : rg 0 0 (0 : Int32)) (by decide)), k21⟩ (ms_u0 hN _ (by decide))
    rintro self29 i23 s25 ⟨f24, k26⟩ ih28
    unfold M_layOrders_B41
    refine t_if (fun h30 => ?_) (fun h30 => ?_)
    · exact ih12 _ _ ⟨(rg_w (lo := 1) (hi := 256) (rg_add (lo := 2) (hi := 256) f15 (by decide : rg 1 1 (1 : Int32)) (by decide)) (by decide)), k26⟩ (ms_up f15 (by decide : rg 1 1 (1 : Int32)) (by decide))
    · have f31 := (rg_ltL (lo := 0) (hi := 7) (i_nle h30) f24 k26.1.n1 (by decide))
      have f32 := (rg_ltR (lo := 1) (hi := 8) (i_nle h30) f24 k26.1.n1 (by decide))
      refine t_if (fun h33 => ?_) (fun h33 => ?_)
      · exact ih28 _ _ ⟨(rg_w (lo := 0) (hi := 8) (rg_add (lo := 1) (hi := 8) f31 (by decide : rg 1 1 (1 : Int32)) (by decide)) (by decide)), k26⟩ (ms_up f31 (by decide : rg 1 1 (1 : Int32)) (by decide))
      · refine t_ob _ (M_turnedBy_t hN f31 (rg_w (lo := 0) (hi := 255) f15 (by decide)) k26.1) (fun x34 f35 => ?_)
        refine t_gd (inb_rg f15 (by decide)) ?_
        refine t_if (fun h36 => ?_) (fun h36 => ?_)
        · have f37 := (rg_ltL (lo := (-2147483648)) (hi := 2147483646) h36 (rg_f _) (rg_f _) (by decide))
          have f38 := (rg_ltR (lo := (-2147483647)) (hi := 2147483647) h36 (rg_f _) (rg_f _) (by decide))
          exact ih28 _ _ ⟨(rg_w (lo := 0) (hi := 8) (rg_add (lo := 1) (hi := 8) f31 (by decide : rg 1 1 (1 : Int32)) (by decide)) (by decide)), k26⟩ (ms_up f31 (by decide : rg 1 1 (1 : Int32)) (by decide))
        · refine t_ob _ (M_turnedBy_t hN f31 (rg_w (lo := 0) (hi := 255) f15 (by decide)) k26.1) (fun x39 f40 => ?_)
          refine t_gd (inb_rg f15 (by decide)) ?_
          refine t_if (fun h41 => ?_) (fun h41 => ?_)
          · refine t_gd (inb_rg f15 (by decide)) ?_
            unfold M_layOrders_J102
            refine t_gd (inb_rg f15 (by decide)) ?_
            refine t_lm (KM [18, 19] [] σ) (km_s k26 (by decide) (mS19 k26.1)) (fun s42 e44 k43 => ?_)
            refine t_ob _ (M_turnedBy_t hN f31 (rg_w (lo := 0) (hi := 255) f15 (by decide)) k43.1) (fun x45 f46 => ?_)
            refine t_gd (inb_rg f15 (by decide)) ?_
            refine t_lm (KM [18, 19] [] σ) (km_s k43 (by decide) (mS18 k43.1)) (fun s47 e49 k48 => ?_)
            refine t_gd (inb_rg f15 (by decide)) ?_
            refine t_gd (inb_rg (rg_andl (lo := 0) (hi := 255) _ (rg_w (lo := 0) (hi := 255) f15 (by decide)) (by decide)) (by decide)) ?_
            refine t_gd (inb_rg f15 (by decide)) ?_
            refine t_lm (KM [18, 19] [] σ) (km_s k48 (by decide) (mS19 k48.1)) (fun s50 e52 k51 => ?_)
            exact ih28 _ _ ⟨(rg_w (lo := 0) (hi := 8) (rg_add (lo := 1) (hi := 8) f31 (by decide : rg 1 1 (1 : Int32)) (by decide)) (by decide)), k51⟩ (ms_up f31 (by decide : rg 1 1 (1 : Int32)) (by decide))
          · have f53 := (rg_ltL (lo := (-2147483648)) (hi := 2147483646) (i_nle h41) (rg_f _) (rg_f _) (by decide))
            have f54 := (rg_ltR (lo := (-2147483647)) (hi := 2147483647) (i_nle h41) (rg_f _) (rg_f _) (by decide))
            unfold M_layOrders_J102
            refine t_gd (inb_rg f15 (by decide)) ?_
            refine t_lm (KM [18, 19] [] σ) (km_s k26 (by decide) (mS19 k26.1)) (fun s55 e57 k56 => ?_)
            refine t_ob _ (M_turnedBy_t hN f31 (rg_w (lo := 0) (hi := 255) f15 (by decide)) k56.1) (fun x58 f59 => ?_)
            refine t_gd (inb_rg f15 (by decide)) ?_
            refine t_lm (KM [18, 19] [] σ) (km_s k56 (by decide) (mS18 k56.1)) (fun s60 e62 k61 => ?_)
            refine t_gd (inb_rg f15 (by decide)) ?_
            refine t_gd (inb_rg (rg_andl (lo := 0) (hi := 255) _ (rg_w (lo := 0) (hi := 255) f15 (by decide)) (by decide)) (by decide)) ?_
            refine t_gd (inb_rg f15 (by decide)) ?_
            refine t_lm (KM [18, 19] [] σ) (km_s k61 (by decide) (mS19 k61.1)) (fun s63 e65 k64 => ?_)
            exact ih28 _ _ ⟨(rg_w (lo := 0) (hi := 8) (rg_add (lo := 1) (hi := 8) f31 (by decide : rg 1 1 (1 : Int32)) (by decide)) (by decide)), k64⟩ (ms_up f31 (by decide : rg 1 1 (1 : Int32)) (by decide))
theorem M_winsOf_t {N : Nat} (hN : 8589934592 ≤ N) {a1 : Int32} (h_a1 : rg 0 7 a1) {a2 : Int32} (h_a2 : rg 0 255 a2) {σ : Mem} (hm : InvM σ) : tot (f_M_winsOf N a1 a2 σ) (fun r => rg (-2147483648) 2147483647 r) := by
  unfold f_M_winsOf
  refine t_ob _ (M_beats_t (rg_w (lo := (-1)) (hi := 7) h_a1 (by decide)) hm) (fun x1 f2 => ?_)
  refine t_ob _ (M_sizeOf_t hN) (fun x3 f4 => ?_)
  exact t_some (rg_f _)
theorem M_byWins_t {N : Nat} (hN : 8589934592 ≤ N) {a1 : Int32} {σ : Mem} (hm : InvM σ) : tot (f_M_byWins N a1 σ) (fun q => rg (-2147483648) 2147483647 q.1 ∧ KM [0, 18, 19] [] σ q.2) := by
  unfold f_M_byWins
  refine t_lm (KM [0, 18, 19] [] σ) (km_s (km_r hm) (by decide) (mS0 hm)) (fun s1 e3 k2 => ?_)
  refine t_if (fun h4 => ?_) (fun h4 => ?_)
  · exact t_some ⟨(rg_f _), k2⟩
  · have f5 := (c_mro h4 k2.1)
    refine t_if (fun h6 => ?_) (fun h6 => ?_)
    · exact t_some ⟨(rg_f _), k2⟩
    · have f7 := (c_in (lo := 0) (hi := 1) h6 (by decide))
      refine t_it2 (fun i8 i9 => rg 0 8 i9) (fun i8 i9 => (8 - i9.toInt).toNat) ?_ _ _ _ (rg_w (lo := 0) (hi := 8) (by decide : rg 0 0 (0 : Int32)) (by decide)) (ms_u0 hN _ (by decide))
      rintro self13 i8 i9 f10 ih12
      unfold M_byWins_B28
      refine t_if (fun h14 => ?_) (fun h14 => ?_)
      · have f15 := (rg_leR (lo := 1) (hi := 8) h14 f5 f10 (by decide))
        unfold M_byWins_K131
        refine t_ob _ (M_layOrders_t hN k2.1) (fun s16 k17 => ?_)
        have k18 := km_t (S := [0, 18, 19]) (J := []) k2 k17 (by decide) (by decide)
        refine t_if (fun h19 => ?_) (fun h19 => ?_)
        · have f20 := (rg_eqL (lo := 0) (hi := 0) h19 (by decide : rg 0 0 (0 : Int32)) (by decide))
          exact t_some ⟨(rg_f _), k18⟩
        · have f21 := (rg_neL (lo := 1) (hi := 1) h19 f7 (by decide : rg 0 0 (0 : Int32)) (by decide))
          refine t_gd (inb_rg (al_rg k18.1) (by decide)) ?_
          exact t_some ⟨(rg_f _), k18⟩
      · have f22 := (rg_ltL (lo := 0) (hi := 7) (i_nle h14) f10 f5 (by decide))
        refine t_it2 (fun i23 i24 => rg 0 8 i24) (fun i23 i24 => (8 - i24.toInt).toNat) ?_ _ _ _ (rg_w (lo := 0) (hi := 8) (by decide : rg 0 0 (0 : Int32)) (by decide)) (ms_u0 hN _ (by decide))
        rintro self28 i23 i24 f25 ih27
        unfold M_byWins_B39
        refine t_if (fun h29 => ?_) (fun h29 => ?_)
        · have f30 := (rg_leR (lo := 1) (hi := 8) h29 f5 f25 (by decide))
          exact ih12 _ _ (rg_w (lo := 0) (hi := 8) (rg_add (lo := 1) (hi := 8) f22 (by decide : rg 1 1 (1 : Int32)) (by decide)) (by decide)) (ms_up f22 (by decide : rg 1 1 (1 : Int32)) (by decide))
        · have f31 := (rg_ltL (lo := 0) (hi := 7) (i_nle h29) f25 f5 (by decide))
          refine t_ob _ (M_winsOf_t hN f22 (al_rg k2.1) k2.1) (fun x32 f33 => ?_)
          refine t_ob _ (M_winsOf_t hN f31 (al_rg k2.1) k2.1) (fun x34 f35 => ?_)
          refine t_le (-2147483648) 2147483647 (rg_f _) (fun x36 e38 f37 => ?_)
          refine t_if (fun h39 => ?_) (fun h39 => ?_)
          · have f40 := (rg_ltR (lo := 1) (hi := 2147483647) h39 (by decide : rg 0 0 (0 : Int32)) (rg_f _) (by decide))
            unfold M_byWins_J86
            unfold M_byWins_J91
            refine t_if (fun h41 => ?_) (fun h41 => ?_)
            · exact absurd h41 (rg_noE (by decide : rg 1 1 (1 : Int32)) (by decide : rg 0 0 (0 : Int32)) (by decide))
            · refine t_ob _ (M_beats_t (rg_w (lo := (-1)) (hi := 7) f31 (by decide)) k2.1) (fun x42 f43 => ?_)
              refine t_if (fun h44 => ?_) (fun h44 => ?_)
              · refine t_le (-2147483648) 2147483647 (rg_add (lo := (-2147483648)) (hi := 2147483647) (rg_f _) (by decide : rg 0 0 (0 : Int32)) (by decide)) (fun x45 e47 f46 => ?_)
                exact ih27 _ _ (rg_w (lo := 0) (hi := 8) (rg_add (lo := 1) (hi := 8) f31 (by decide : rg 1 1 (1 : Int32)) (by decide)) (by decide)) (ms_up f31 (by decide : rg 1 1 (1 : Int32)) (by decide))
              · refine t_le (-2147483648) 2147483647 (rg_f _) (fun x48 e50 f49 => ?_)
                exact ih27 _ _ (rg_w (lo := 0) (hi := 8) (rg_add (lo := 1) (hi := 8) f31 (by decide : rg 1 1 (1 : Int32)) (by decide)) (by decide)) (ms_up f31 (by decide : rg 1 1 (1 : Int32)) (by decide))
          · have f51 := (rg_leL (lo := (-2147483648)) (hi := 0) (i_nlt h39) (rg_f _) (by decide : rg 0 0 (0 : Int32)) (by decide))
            refine t_if (fun h52 => ?_) (fun h52 => ?_)
            · have f53 := (rg_eqL (lo := 0) (hi := 0) h52 (by decide : rg 0 0 (0 : Int32)) (by decide))
              refine t_if (fun h54 => ?_) (fun h54 => ?_)
              · unfold M_byWins_J91
                refine t_if (fun h55 => ?_) (fun h55 => ?_)
                · refine t_le (-2147483648) 2147483647 (rg_add (lo := (-2147483648)) (hi := 2147483647) (rg_f _) (by decide : rg 0 0 (0 : Int32)) (by decide)) (fun x56 e58 f57 => ?_)
                  exact ih27 _ _ (rg_w (lo := 0) (hi := 8) (rg_add (lo := 1) (hi := 8) f31 (by decide : rg 1 1 (1 : Int32)) (by decide)) (by decide)) (ms_up f31 (by decide : rg 1 1 (1 : Int32)) (by decide))
                · exact absurd (rg_pt (by decide : rg 0 0 (0 : Int32)) (by decide : rg 0 0 (0 : Int32))) h55
              · have f59 := (rg_ltL (lo := 0) (hi := 6) (i_nle h54) f22 f31 (by decide))
                have f60 := (rg_ltR (lo := 1) (hi := 7) (i_nle h54) f22 f31 (by decide))
                unfold M_byWins_J86
                unfold M_byWins_J91
                refine t_if (fun h61 => ?_) (fun h61 => ?_)
                · exact absurd h61 (rg_noE (by decide : rg 1 1 (1 : Int32)) (by decide : rg 0 0 (0 : Int32)) (by decide))
                · refine t_ob _ (M_beats_t (rg_w (lo := (-1)) (hi := 7) f60 (by decide)) k2.1) (fun x62 f63 => ?_)
                  refine t_if (fun h64 => ?_) (fun h64 => ?_)
                  · refine t_le (-2147483648) 2147483647 (rg_add (lo := (-2147483648)) (hi := 2147483647) (rg_f _) (by decide : rg 0 0 (0 : Int32)) (by decide)) (fun x65 e67 f66 => ?_)
                    exact ih27 _ _ (rg_w (lo := 0) (hi := 8) (rg_add (lo := 2) (hi := 8) f60 (by decide : rg 1 1 (1 : Int32)) (by decide)) (by decide)) (ms_up f60 (by decide : rg 1 1 (1 : Int32)) (by decide))
                  · refine t_le (-2147483648) 2147483647 (rg_f _) (fun x68 e70 f69 => ?_)
                    exact ih27 _ _ (rg_w (lo := 0) (hi := 8) (rg_add (lo := 2) (hi := 8) f60 (by decide : rg 1 1 (1 : Int32)) (by decide)) (by decide)) (ms_up f60 (by decide : rg 1 1 (1 : Int32)) (by decide))
            · have f71 := (rg_neL (lo := (-2147483648)) (hi := (-1)) h52 f51 (by decide : rg 0 0 (0 : Int32)) (by decide))
              unfold M_byWins_J91
              refine t_if (fun h72 => ?_) (fun h72 => ?_)
              · refine t_le (-2147483648) 2147483647 (rg_add (lo := (-2147483648)) (hi := 2147483647) (rg_f _) (by decide : rg 0 0 (0 : Int32)) (by decide)) (fun x73 e75 f74 => ?_)
                exact ih27 _ _ (rg_w (lo := 0) (hi := 8) (rg_add (lo := 1) (hi := 8) f31 (by decide : rg 1 1 (1 : Int32)) (by decide)) (by decide)) (ms_up f31 (by decide : rg 1 1 (1 : Int32)) (by decide))
              · exact absurd (rg_pt (by decide : rg 0 0 (0 : Int32)) (by decide : rg 0 0 (0 : Int32))) h72
theorem M_first_t {N : Nat} (hN : 8589934592 ≤ N) {a1 : Int32} : tot (f_M_first N a1) (fun r => rg (-1) 7 r) := by
  unfold f_M_first
  refine t_it1 (fun i1 => rg 0 8 i1) (fun i1 => (8 - i1.toInt).toNat) ?_ _ _ (rg_w (lo := 0) (hi := 8) (by decide : rg 0 0 (0 : Int32)) (by decide)) (ms_u0 hN _ (by decide))
  rintro self5 i1 f2 ih4
  unfold M_first_B2
  refine t_if (fun h6 => ?_) (fun h6 => ?_)
  · have f7 := (rg_leR (lo := 8) (hi := 8) h6 (by decide : rg 8 8 (8 : Int32)) f2 (by decide))
    unfold M_first_K22
    refine t_if (fun h8 => ?_) (fun h8 => ?_)
    · exact t_some (rg_w (lo := (-1)) (hi := 7) (by decide : rg (-1) (-1) (-1 : Int32)) (by decide))
    · exact absurd (rg_yeG (by decide : rg 8 8 (8 : Int32)) f7 (by decide)) h8
  · have f9 := (rg_ltL (lo := 0) (hi := 7) (i_nle h6) f2 (by decide : rg 8 8 (8 : Int32)) (by decide))
    refine t_if (fun h10 => ?_) (fun h10 => ?_)
    · exact ih4 _ (rg_w (lo := 0) (hi := 8) (rg_add (lo := 1) (hi := 8) f9 (by decide : rg 1 1 (1 : Int32)) (by decide)) (by decide)) (ms_up f9 (by decide : rg 1 1 (1 : Int32)) (by decide))
    · unfold M_first_K22
      refine t_if (fun h11 => ?_) (fun h11 => ?_)
      · exact absurd h11 (rg_noG (by decide : rg 8 8 (8 : Int32)) f9 (by decide))
      · exact t_some (rg_w (lo := (-1)) (hi := 7) f9 (by decide))
theorem M_cycles_t {N : Nat} (hN : 8589934592 ≤ N) {σ : Mem} (hm : InvM σ) : tot (f_M_cycles N σ) (fun r => rg (-2147483648) 2147483647 r) := by
  unfold f_M_cycles
  refine t_it2 (fun i1 i2 => rg 0 8 i2) (fun i1 i2 => (8 - i2.toInt).toNat) ?_ _ _ _ (rg_w (lo := 0) (hi := 8) (by decide : rg 0 0 (0 : Int32)) (by decide)) (ms_u0 hN _ (by decide))
  rintro self6 i1 i2 f3 ih5
  unfold M_cycles_B4
  refine t_if (fun h7 => ?_) (fun h7 => ?_)
  · exact t_some (rg_f _)
  · have f8 := (rg_ltL (lo := 0) (hi := 7) (i_nle h7) f3 hm.n1 (by decide))
    have f9 := (rg_ltR (lo := 1) (hi := 8) (i_nle h7) f3 hm.n1 (by decide))
    refine t_it2 (fun i10 i11 => rg 0 8 i11) (fun i10 i11 => (8 - i11.toInt).toNat) ?_ _ _ _ (rg_w (lo := 0) (hi := 8) (by decide : rg 0 0 (0 : Int32)) (by decide)) (ms_u0 hN _ (by decide))
    rintro self15 i10 i11 f12 ih14
    unfold M_cycles_B14
    refine t_if (fun h16 => ?_) (fun h16 => ?_)
    · have f17 := (rg_leR (lo := 1) (hi := 8) h16 f9 f12 (by decide))
      exact ih5 _ _ (rg_w (lo := 0) (hi := 8) (rg_add (lo := 1) (hi := 8) f8 (by decide : rg 1 1 (1 : Int32)) (by decide)) (by decide)) (ms_up f8 (by decide : rg 1 1 (1 : Int32)) (by decide))
    · have f18 := (rg_ltL (lo := 0) (hi := 7) (i_nle h16) f12 f9 (by decide))
      refine t_ob _ (M_beats_t (rg_w (lo := (-1)) (hi := 7) f8 (by decide)) hm) (fun x19 f20 => ?_)
      refine t_if (fun h21 => ?_) (fun h21 => ?_)
      · refine t_le (-2147483648) 2147483647 (rg_add (lo := (-2147483648)) (hi := 2147483647) (rg_f _) (by decide : rg 0 0 (0 : Int32)) (by decide)) (fun x22 e24 f23 => ?_)
        exact ih14 _ _ (rg_w (lo := 0) (hi := 8) (rg_add (lo := 1) (hi := 8) f18 (by decide : rg 1 1 (1 : Int32)) (by decide)) (by decide)) (ms_up f18 (by decide : rg 1 1 (1 : Int32)) (by decide))
      · refine t_ob _ (M_beats_t (rg_w (lo := (-1)) (hi := 7) f18 (by decide)) hm) (fun x25 f26 => ?_)
        refine t_ob _ (M_over_t f8 hm) (fun x27 f28 => ?_)
        refine t_ob _ (M_sizeOf_t hN) (fun x29 f30 => ?_)
        refine t_le (-2147483648) 2147483647 (rg_f _) (fun x31 e33 f32 => ?_)
        exact ih14 _ _ (rg_w (lo := 0) (hi := 8) (rg_add (lo := 1) (hi := 8) f18 (by decide : rg 1 1 (1 : Int32)) (by decide)) (by decide)) (ms_up f18 (by decide : rg 1 1 (1 : Int32)) (by decide))
theorem M_count_t {N : Nat} (hN : 8589934592 ≤ N) {a1 : Int32} {σ : Mem} (hm : InvM σ) : tot (f_M_count N a1 σ) (fun q => rg (-2147483648) 2147483647 q.1 ∧ KM [0] [] σ q.2) := by
  unfold f_M_count
  refine t_lm (KM [0] [] σ) (km_s (km_r hm) (by decide) (mS0 hm)) (fun s1 e3 k2 => ?_)
  refine t_sw1 (fun h4 => ?_) (fun _ => ?_)
  · have f5 := (rg_eqL (lo := 0) (hi := 0) h4 (by decide : rg 0 0 (0 : Int32)) (by decide))
    exact t_some ⟨(rg_f _), k2⟩
  refine t_sw1 (fun h6 => ?_) (fun _ => ?_)
  · have f7 := (rg_eqL (lo := 1) (hi := 1) h6 (by decide : rg 1 1 (1 : Int32)) (by decide))
    exact t_some ⟨(rg_f _), k2⟩
  refine t_sw1 (fun h8 => ?_) (fun _ => ?_)
  · have f9 := (rg_eqL (lo := 2) (hi := 2) h8 (by decide : rg 2 2 (2 : Int32)) (by decide))
    refine t_ob _ (M_cycles_t hN k2.1) (fun x10 f11 => ?_)
    exact t_some ⟨(rg_f _), k2⟩
  refine t_sw1 (fun h12 => ?_) (fun _ => ?_)
  · have f13 := (rg_eqL (lo := 3) (hi := 3) h12 (by decide : rg 3 3 (3 : Int32)) (by decide))
    exact t_some ⟨(rg_f _), k2⟩
  refine t_sw1 (fun h14 => ?_) (fun _ => ?_)
  · have f15 := (rg_eqL (lo := 4) (hi := 4) h14 (by decide : rg 4 4 (4 : Int32)) (by decide))
    exact t_some ⟨(rg_f _), k2⟩
  refine t_sw1 (fun h16 => ?_) (fun _ => ?_)
  · have f17 := (rg_eqL (lo := 5) (hi := 5) h16 (by decide : rg 5 5 (5 : Int32)) (by decide))
    refine t_it2 (fun i18 i20 => rg 0 255 i18 ∧ rg 0 8 i20) (fun i18 i20 => (8 - i20.toInt).toNat) ?_ _ _ _ ⟨(rg_w (lo := 0) (hi := 255) (by decide : rg 0 0 (0 : Int32)) (by decide)), (rg_w (lo := 0) (hi := 8) (by decide : rg 0 0 (0 : Int32)) (by decide))⟩ (ms_u0 hN _ (by decide))
    rintro self24 i18 i20 ⟨f19, f21⟩ ih23
    unfold M_count_B82
    refine t_if (fun h25 => ?_) (fun h25 => ?_)
    · exact t_some ⟨(rg_f _), k2⟩
    · have f26 := (rg_ltL (lo := 0) (hi := 7) (i_nle h25) f21 k2.1.n1 (by decide))
      have f27 := (rg_ltR (lo := 1) (hi := 8) (i_nle h25) f21 k2.1.n1 (by decide))
      refine t_ob _ (M_over_t f26 k2.1) (fun x28 f29 => ?_)
      refine t_if (fun h30 => ?_) (fun h30 => ?_)
      · have f31 := (rg_eqL (lo := 0) (hi := 0) h30 (by decide : rg 0 0 (0 : Int32)) (by decide))
        refine t_le 0 255 (rg_or (lo := 0) (hi := 255) 8 f19 (rg_w (lo := 0) (hi := 128) (rg_shl1 (lo := 1) (hi := 128) 7 f26 (by decide)) (by decide)) (by decide)) (fun x32 e34 f33 => ?_)
        exact ih23 _ _ ⟨f33, (rg_w (lo := 0) (hi := 8) (rg_add (lo := 1) (hi := 8) f26 (by decide : rg 1 1 (1 : Int32)) (by decide)) (by decide))⟩ (ms_up f26 (by decide : rg 1 1 (1 : Int32)) (by decide))
      · have f35 := (rg_neL (lo := 1) (hi := 255) h30 f29 (by decide : rg 0 0 (0 : Int32)) (by decide))
        refine t_le 0 255 (rg_or (lo := 0) (hi := 255) 8 f19 (by decide : rg 0 0 (0 : Int32)) (by decide)) (fun x36 e38 f37 => ?_)
        exact ih23 _ _ ⟨f37, (rg_w (lo := 0) (hi := 8) (rg_add (lo := 1) (hi := 8) f26 (by decide : rg 1 1 (1 : Int32)) (by decide)) (by decide))⟩ (ms_up f26 (by decide : rg 1 1 (1 : Int32)) (by decide))
  refine t_sw0 ?_
  exact t_some ⟨(rg_f _), k2⟩
theorem M_layHalves_t {N : Nat} (hN : 8589934592 ≤ N) {a1 : Int32} (h_a1 : rg 2 255 a1) {a2 : Int32} (h_a2 : rg 1 254 a2) {σ : Mem} (hm : InvM σ) : tot (f_M_layHalves N a1 a2 σ) (fun s => KM [24] [] σ s) := by
  unfold f_M_layHalves
  refine t_it2 (fun i1 s3 => rg 0 8 i1 ∧ KM [24] [] σ s3) (fun i1 s3 => (8 - i1.toInt).toNat) ?_ _ _ _ ⟨(rg_w (lo := 0) (hi := 8) (by decide : rg 0 0 (0 : Int32)) (by decide)), (km_r hm)⟩ (ms_u0 hN _ (by decide))
  rintro self7 i1 s3 ⟨f2, k4⟩ ih6
  unfold M_layHalves_B2
  refine t_if (fun h8 => ?_) (fun h8 => ?_)
  · exact t_some k4
  · have f9 := (rg_ltL (lo := 0) (hi := 7) (i_nle h8) f2 k4.1.n1 (by decide))
    have f10 := (rg_ltR (lo := 1) (hi := 8) (i_nle h8) f2 k4.1.n1 (by decide))
    refine t_it2 (fun i11 i12 => rg 0 8 i12) (fun i11 i12 => (8 - i12.toInt).toNat) ?_ _ _ _ (rg_w (lo := 0) (hi := 8) (by decide : rg 0 0 (0 : Int32)) (by decide)) (ms_u0 hN _ (by decide))
    rintro self16 i11 i12 f13 ih15
    unfold M_layHalves_B16
    refine t_if (fun h17 => ?_) (fun h17 => ?_)
    · have f18 := (rg_leR (lo := 1) (hi := 8) h17 f10 f13 (by decide))
      unfold M_layHalves_K77
      refine t_gd (inb_rg (rg_add (lo := 0) (hi := 2047) (rg_mul (lo := 0) (hi := 2040) (by decide : rg 8 8 (8 : Int32)) h_a1 (by decide)) f9 (by decide)) (by decide)) ?_
      refine t_gd (inb_rg (rg_add (lo := 0) (hi := 2039) (rg_mul (lo := 0) (hi := 2032) (by decide : rg 8 8 (8 : Int32)) h_a2 (by decide)) f9 (by decide)) (by decide)) ?_
      refine t_gd (inb_rg (rg_add (lo := 0) (hi := 2047) (rg_mul (lo := 0) (hi := 2040) (by decide : rg 8 8 (8 : Int32)) h_a1 (by decide)) f9 (by decide)) (by decide)) ?_
      refine t_lm (KM [24] [] σ) (km_s k4 (by decide) (mS24 k4.1)) (fun s19 e21 k20 => ?_)
      exact ih6 _ _ ⟨(rg_w (lo := 0) (hi := 8) (rg_add (lo := 1) (hi := 8) f9 (by decide : rg 1 1 (1 : Int32)) (by decide)) (by decide)), k20⟩ (ms_up f9 (by decide : rg 1 1 (1 : Int32)) (by decide))
    · have f22 := (rg_ltL (lo := 0) (hi := 7) (i_nle h17) f13 f10 (by decide))
      refine t_if (fun h23 => ?_) (fun h23 => ?_)
      · unfold M_layHalves_K77
        refine t_gd (inb_rg (rg_add (lo := 0) (hi := 2047) (rg_mul (lo := 0) (hi := 2040) (by decide : rg 8 8 (8 : Int32)) h_a1 (by decide)) f9 (by decide)) (by decide)) ?_
        refine t_gd (inb_rg (rg_add (lo := 0) (hi := 2039) (rg_mul (lo := 0) (hi := 2032) (by decide : rg 8 8 (8 : Int32)) h_a2 (by decide)) f9 (by decide)) (by decide)) ?_
        refine t_gd (inb_rg (rg_add (lo := 0) (hi := 2047) (rg_mul (lo := 0) (hi := 2040) (by decide : rg 8 8 (8 : Int32)) h_a1 (by decide)) f9 (by decide)) (by decide)) ?_
        refine t_lm (KM [24] [] σ) (km_s k4 (by decide) (mS24 k4.1)) (fun s24 e26 k25 => ?_)
        exact ih6 _ _ ⟨(rg_w (lo := 0) (hi := 8) (rg_add (lo := 1) (hi := 8) f9 (by decide : rg 1 1 (1 : Int32)) (by decide)) (by decide)), k25⟩ (ms_up f9 (by decide : rg 1 1 (1 : Int32)) (by decide))
      · refine t_ob _ (M_beats_t (rg_w (lo := (-1)) (hi := 7) f9 (by decide)) k4.1) (fun x27 f28 => ?_)
        refine t_if (fun h29 => ?_) (fun h29 => ?_)
        · refine t_le (-2147483648) 2147483647 (rg_add (lo := (-2147483648)) (hi := 2147483647) (rg_f _) (by decide : rg 0 0 (0 : Int32)) (by decide)) (fun x30 e32 f31 => ?_)
          exact ih15 _ _ (rg_w (lo := 0) (hi := 8) (rg_add (lo := 1) (hi := 8) f22 (by decide : rg 1 1 (1 : Int32)) (by decide)) (by decide)) (ms_up f22 (by decide : rg 1 1 (1 : Int32)) (by decide))
        · refine t_gd (inb_rg (rg_add (lo := 0) (hi := 2047) (rg_mul (lo := 0) (hi := 2040) (by decide : rg 8 8 (8 : Int32)) (rg_andl (lo := 0) (hi := 255) _ (rg_w (lo := 0) (hi := 255) h_a1 (by decide)) (by decide)) (by decide)) f22 (by decide)) (by decide)) ?_
          refine t_le (-2147483648) 2147483647 (rg_f _) (fun x33 e35 f34 => ?_)
          exact ih15 _ _ (rg_w (lo := 0) (hi := 8) (rg_add (lo := 1) (hi := 8) f22 (by decide : rg 1 1 (1 : Int32)) (by decide)) (by decide)) (ms_up f22 (by decide : rg 1 1 (1 : Int32)) (by decide))
theorem M_layCups_t {N : Nat} (hN : 8589934592 ≤ N) {σ : Mem} (hm : InvM σ) : tot (f_M_layCups N σ) (fun s => KM [24] [] σ s) := by
  unfold f_M_layCups
  refine t_it2 (fun i1 s3 => rg 1 256 i1 ∧ KM [24] [] σ s3) (fun i1 s3 => (256 - i1.toInt).toNat) ?_ _ _ _ ⟨(rg_w (lo := 1) (hi := 256) (by decide : rg 1 1 (1 : Int32)) (by decide)), (km_r hm)⟩ (ms_u0 hN _ (by decide))
  rintro self7 i1 s3 ⟨f2, k4⟩ ih6
  unfold M_layCups_B2
  refine t_if (fun h8 => ?_) (fun h8 => ?_)
  · exact t_some k4
  · have f9 := (rg_leL (lo := 1) (hi := 255) (i_nlt h8) f2 (al_rg k4.1) (by decide))
    have f10 := (rg_leR (lo := 1) (hi := 255) (i_nlt h8) f2 (al_rg k4.1) (by decide))
    refine t_ob _ (M_sizeOf_t hN) (fun x11 f12 => ?_)
    refine t_it2 (fun i13 s15 => rg 0 8 i13 ∧ KM [24] [] σ s15) (fun i13 s15 => (8 - i13.toInt).toNat) ?_ _ _ _ ⟨(rg_w (lo := 0) (hi := 8) (by decide : rg 0 0 (0 : Int32)) (by decide)), k4⟩ (ms_u0 hN _ (by decide))
    rintro self19 i13 s15 ⟨f14, k16⟩ ih18
    unfold M_layCups_B17
    refine t_if (fun h20 => ?_) (fun h20 => ?_)
    · have f21 := (rg_leR (lo := 8) (hi := 8) h20 (by decide : rg 8 8 (8 : Int32)) f14 (by decide))
      unfold M_layCups_K58
      refine t_it2 (fun i22 s24 => rg 1 255 i22 ∧ KM [24] [] σ s24) (fun i22 s24 => (255 - i22.toInt).toNat) ?_ _ _ _ ⟨(rg_w (lo := 1) (hi := 255) (by decide : rg 1 1 (1 : Int32)) (by decide)), k16⟩ (ms_u0 hN _ (by decide))
      rintro self28 i22 s24 ⟨f23, k25⟩ ih27
      unfold M_layCups_B60
      refine t_if (fun h29 => ?_) (fun h29 => ?_)
      · exact ih6 _ _ ⟨(rg_w (lo := 1) (hi := 256) (rg_add (lo := 2) (hi := 256) f9 (by decide : rg 1 1 (1 : Int32)) (by decide)) (by decide)), k25⟩ (ms_up f9 (by decide : rg 1 1 (1 : Int32)) (by decide))
      · have f30 := (rg_ltL (lo := 1) (hi := 254) (i_nle h29) f23 f9 (by decide))
        have f31 := (rg_ltR (lo := 2) (hi := 255) (i_nle h29) f23 f9 (by decide))
        refine t_if (fun h32 => ?_) (fun h32 => ?_)
        · have f33 := (rg_eqL (lo := 2) (hi := 2) h32 (by decide : rg 2 2 (2 : Int32)) (by decide))
          unfold M_layCups_J81
          refine t_if (fun h34 => ?_) (fun h34 => ?_)
          · exact ih27 _ _ ⟨(rg_w (lo := 1) (hi := 255) (rg_add (lo := 2) (hi := 255) f30 (by decide : rg 1 1 (1 : Int32)) (by decide)) (by decide)), k25⟩ (ms_up f30 (by decide : rg 1 1 (1 : Int32)) (by decide))
          · refine t_ob _ (M_sizeOf_t hN) (fun x35 f36 => ?_)
            refine t_if (fun h37 => ?_) (fun h37 => ?_)
            · have f38 := (rg_eqL (lo := 2) (hi := 2) h37 f33 (by decide))
              refine t_ob _ (M_layHalves_t hN f31 f30 k25.1) (fun s39 k40 => ?_)
              have k41 := km_t (S := [24]) (J := []) k25 k40 (by decide) (by decide)
              exact ih27 _ _ ⟨(rg_w (lo := 1) (hi := 255) (rg_add (lo := 2) (hi := 255) f30 (by decide : rg 1 1 (1 : Int32)) (by decide)) (by decide)), k41⟩ (ms_up f30 (by decide : rg 1 1 (1 : Int32)) (by decide))
            · exact ih27 _ _ ⟨(rg_w (lo := 1) (hi := 255) (rg_add (lo := 2) (hi := 255) f30 (by decide : rg 1 1 (1 : Int32)) (by decide)) (by decide)), k25⟩ (ms_up f30 (by decide : rg 1 1 (1 : Int32)) (by decide))
        · refine t_if (fun h42 => ?_) (fun h42 => ?_)
          · have f43 := (rg_eqL (lo := 4) (hi := 4) h42 (by decide : rg 4 4 (4 : Int32)) (by decide))
            unfold M_layCups_J81
            refine t_if (fun h44 => ?_) (fun h44 => ?_)
            · exact ih27 _ _ ⟨(rg_w (lo := 1) (hi := 255) (rg_add (lo := 2) (hi := 255) f30 (by decide : rg 1 1 (1 : Int32)) (by decide)) (by decide)), k25⟩ (ms_up f30 (by decide : rg 1 1 (1 : Int32)) (by decide))
            · refine t_ob _ (M_sizeOf_t hN) (fun x45 f46 => ?_)
              refine t_if (fun h47 => ?_) (fun h47 => ?_)
              · have f48 := (rg_eqL (lo := 4) (hi := 4) h47 f43 (by decide))
                refine t_ob _ (M_layHalves_t hN f31 f30 k25.1) (fun s49 k50 => ?_)
                have k51 := km_t (S := [24]) (J := []) k25 k50 (by decide) (by decide)
                exact ih27 _ _ ⟨(rg_w (lo := 1) (hi := 255) (rg_add (lo := 2) (hi := 255) f30 (by decide : rg 1 1 (1 : Int32)) (by decide)) (by decide)), k51⟩ (ms_up f30 (by decide : rg 1 1 (1 : Int32)) (by decide))
              · exact ih27 _ _ ⟨(rg_w (lo := 1) (hi := 255) (rg_add (lo := 2) (hi := 255) f30 (by decide : rg 1 1 (1 : Int32)) (by decide)) (by decide)), k25⟩ (ms_up f30 (by decide : rg 1 1 (1 : Int32)) (by decide))
          · refine t_if (fun h52 => ?_) (fun h52 => ?_)
            · have f53 := (rg_eqL (lo := 8) (hi := 8) h52 (by decide : rg 8 8 (8 : Int32)) (by decide))
              unfold M_layCups_J81
              refine t_if (fun h54 => ?_) (fun h54 => ?_)
              · exact ih27 _ _ ⟨(rg_w (lo := 1) (hi := 255) (rg_add (lo := 2) (hi := 255) f30 (by decide : rg 1 1 (1 : Int32)) (by decide)) (by decide)), k25⟩ (ms_up f30 (by decide : rg 1 1 (1 : Int32)) (by decide))
              · refine t_ob _ (M_sizeOf_t hN) (fun x55 f56 => ?_)
                refine t_if (fun h57 => ?_) (fun h57 => ?_)
                · have f58 := (rg_eqL (lo := 8) (hi := 8) h57 f53 (by decide))
                  refine t_ob _ (M_layHalves_t hN f31 f30 k25.1) (fun s59 k60 => ?_)
                  have k61 := km_t (S := [24]) (J := []) k25 k60 (by decide) (by decide)
                  exact ih27 _ _ ⟨(rg_w (lo := 1) (hi := 255) (rg_add (lo := 2) (hi := 255) f30 (by decide : rg 1 1 (1 : Int32)) (by decide)) (by decide)), k61⟩ (ms_up f30 (by decide : rg 1 1 (1 : Int32)) (by decide))
                · exact ih27 _ _ ⟨(rg_w (lo := 1) (hi := 255) (rg_add (lo := 2) (hi := 255) f30 (by decide : rg 1 1 (1 : Int32)) (by decide)) (by decide)), k25⟩ (ms_up f30 (by decide : rg 1 1 (1 : Int32)) (by decide))
            · exact ih6 _ _ ⟨(rg_w (lo := 1) (hi := 256) (rg_add (lo := 3) (hi := 256) f31 (by decide : rg 1 1 (1 : Int32)) (by decide)) (by decide)), k25⟩ (ms_up f31 (by decide : rg 1 1 (1 : Int32)) (by decide))
    · have f62 := (rg_ltL (lo := 0) (hi := 7) (i_nle h20) f14 (by decide : rg 8 8 (8 : Int32)) (by decide))
      refine t_if (fun h63 => ?_) (fun h63 => ?_)
      · have f64 := (rg_eqL (lo := 1) (hi := 1) h63 (by decide : rg 1 1 (1 : Int32)) (by decide))
        refine t_if (fun h65 => ?_) (fun h65 => ?_)
        · unfold M_layCups_J50
          unfold M_layCups_J51
          refine t_gd (inb_rg (rg_add (lo := 0) (hi := 2047) (rg_mul (lo := 0) (hi := 2040) (by decide : rg 8 8 (8 : Int32)) f9 (by decide)) f62 (by decide)) (by decide)) ?_
          refine t_lm (KM [24] [] σ) (km_s k16 (by decide) (mS24 k16.1)) (fun s66 e68 k67 => ?_)
          exact ih18 _ _ ⟨(rg_w (lo := 0) (hi := 8) (rg_add (lo := 1) (hi := 8) f62 (by decide : rg 1 1 (1 : Int32)) (by decide)) (by decide)), k67⟩ (ms_up f62 (by decide : rg 1 1 (1 : Int32)) (by decide))
        · unfold M_layCups_J51
          refine t_gd (inb_rg (rg_add (lo := 0) (hi := 2047) (rg_mul (lo := 0) (hi := 2040) (by decide : rg 8 8 (8 : Int32)) f9 (by decide)) f62 (by decide)) (by decide)) ?_
          refine t_lm (KM [24] [] σ) (km_s k16 (by decide) (mS24 k16.1)) (fun s69 e71 k70 => ?_)
          exact ih18 _ _ ⟨(rg_w (lo := 0) (hi := 8) (rg_add (lo := 1) (hi := 8) f62 (by decide : rg 1 1 (1 : Int32)) (by decide)) (by decide)), k70⟩ (ms_up f62 (by decide : rg 1 1 (1 : Int32)) (by decide))
      · unfold M_layCups_J50
        unfold M_layCups_J51
        refine t_gd (inb_rg (rg_add (lo := 0) (hi := 2047) (rg_mul (lo := 0) (hi := 2040) (by decide : rg 8 8 (8 : Int32)) f9 (by decide)) f62 (by decide)) (by decide)) ?_
        refine t_lm (KM [24] [] σ) (km_s k16 (by decide) (mS24 k16.1)) (fun s72 e74 k73 => ?_)
        exact ih18 _ _ ⟨(rg_w (lo := 0) (hi := 8) (rg_add (lo := 1) (hi := 8) f62 (by decide : rg 1 1 (1 : Int32)) (by decide)) (by decide)), k73⟩ (ms_up f62 (by decide : rg 1 1 (1 : Int32)) (by decide))
theorem M_wins_t {N : Nat} (hN : 8589934592 ≤ N) {σ : Mem} (hm : InvM σ) : tot (f_M_wins N σ) (fun q => rg 0 7 q.1 ∧ KM [27] [] σ q.2) := by
  unfold f_M_wins
  refine t_le 0 8 hm.n1 (fun x1 e3 f2 => ?_)
  refine t_it2 (fun i4 s6 => rg 0 8 i4 ∧ KM [27] [] σ s6) (fun i4 s6 => (8 - i4.toInt).toNat) ?_ _ _ _ ⟨(rg_w (lo := 0) (hi := 8) (by decide : rg 0 0 (0 : Int32)) (by decide)), (km_r hm)⟩ (ms_u0 hN _ (by decide))
  rintro self10 i4 s6 ⟨f5, k7⟩ ih9
  unfold M_wins_B7
  refine t_if (fun h11 => ?_) (fun h11 => ?_)
  · unfold M_wins_K30
    refine t_it2 (fun i12 s14 => rg 0 8 i12 ∧ KM [27] [] σ s14) (fun i12 s14 => (i12.toInt - 0).toNat) ?_ _ _ _ ⟨f2, k7⟩ (ms_d0 hN _ (by decide))
    rintro self18 i12 s14 ⟨f13, k15⟩ ih17
    unfold M_wins_B30
    refine t_if (fun h19 => ?_) (fun h19 => ?_)
    · have f20 := (rg_leL (lo := 0) (hi := 1) h19 f13 (by decide : rg 1 1 (1 : Int32)) (by decide))
      unfold M_wins_K101
      exact t_some ⟨(k15.1.r27 _), k15⟩
    · have f21 := (rg_ltR (lo := 2) (hi := 8) (i_nle h19) (by decide : rg 1 1 (1 : Int32)) f13 (by decide))
      refine t_le 1 4 (rg_div (lo := 1) (hi := 4) f21 (by decide : rg 2 2 (2 : Int32)) (by decide)) (fun x22 e24 f23 => ?_)
      refine t_it2 (fun i25 s27 => rg 0 4 i25 ∧ KM [27] [] σ s27) (fun i25 s27 => (4 - i25.toInt).toNat) ?_ _ _ _ ⟨(rg_w (lo := 0) (hi := 4) (by decide : rg 0 0 (0 : Int32)) (by decide)), k15⟩ (ms_u0 hN _ (by decide))
      rintro self31 i25 s27 ⟨f26, k28⟩ ih30
      unfold M_wins_B41
      refine t_if (fun h32 => ?_) (fun h32 => ?_)
      · have f33 := (rg_leR (lo := 1) (hi := 4) h32 f23 f26 (by decide))
        exact ih17 _ _ ⟨(rg_w (lo := 0) (hi := 8) f23 (by decide)), k28⟩ (by rw [e24]; exact (ms_dv f21 (by decide : rg 2 2 (2 : Int32)) (by decide)))
      · have f34 := (rg_ltL (lo := 0) (hi := 3) (i_nle h32) f26 f23 (by decide))
        refine t_gd (inb_rg (rg_mul (lo := 0) (hi := 6) (by decide : rg 2 2 (2 : Int32)) f34 (by decide)) (by decide)) ?_
        refine t_le 0 7 (k28.1.r27 _) (fun x35 e37 f36 => ?_)
        refine t_gd (inb_rg (rg_add (lo := 1) (hi := 7) (rg_mul (lo := 0) (hi := 6) (by decide : rg 2 2 (2 : Int32)) f34 (by decide)) (by decide : rg 1 1 (1 : Int32)) (by decide)) (by decide)) ?_
        refine t_le 0 7 (k28.1.r27 _) (fun x38 e40 f39 => ?_)
        refine t_ob _ (M_beats_t (rg_w (lo := (-1)) (hi := 7) f36 (by decide)) k28.1) (fun x41 f42 => ?_)
        refine t_if (fun h43 => ?_) (fun h43 => ?_)
        · unfold M_wins_J91
          refine t_gd (inb_rg f34 (by decide)) ?_
          refine t_lm (KM [27] [] σ) (km_s k28 (by decide) (mS27 k28.1 f39)) (fun s44 e46 k45 => ?_)
          exact ih30 _ _ ⟨(rg_w (lo := 0) (hi := 4) (rg_add (lo := 1) (hi := 4) f34 (by decide : rg 1 1 (1 : Int32)) (by decide)) (by decide)), k45⟩ (ms_up f34 (by decide : rg 1 1 (1 : Int32)) (by decide))
        · unfold M_wins_J91
          refine t_gd (inb_rg f34 (by decide)) ?_
          refine t_lm (KM [27] [] σ) (km_s k28 (by decide) (mS27 k28.1 f36)) (fun s47 e49 k48 => ?_)
          exact ih30 _ _ ⟨(rg_w (lo := 0) (hi := 4) (rg_add (lo := 1) (hi := 4) f34 (by decide : rg 1 1 (1 : Int32)) (by decide)) (by decide)), k48⟩ (ms_up f34 (by decide : rg 1 1 (1 : Int32)) (by decide))
  · have f50 := (rg_ltL (lo := 0) (hi := 7) (i_nle h11) f5 f2 (by decide))
    have f51 := (rg_ltR (lo := 1) (hi := 8) (i_nle h11) f5 f2 (by decide))
    refine t_gd (inb_rg f50 (by decide)) ?_
    refine t_gd (inb_rg f50 (by decide)) ?_
    refine t_lm (KM [27] [] σ) (km_s k7 (by decide) (mS27 k7.1 (k7.1.r26 _))) (fun s52 e54 k53 => ?_)
    exact ih9 _ _ ⟨(rg_w (lo := 0) (hi := 8) (rg_add (lo := 1) (hi := 8) f50 (by decide : rg 1 1 (1 : Int32)) (by decide)) (by decide)), k53⟩ (ms_up f50 (by decide : rg 1 1 (1 : Int32)) (by decide))
theorem M_covers_t {a1 : Int32} (h_a1 : rg 0 7 a1) {a2 : Int32} (h_a2 : rg 0 7 a2) {a3 : Int32} (h_a3 : rg 0 255 a3) {σ : Mem} (hm : InvM σ) : tot (f_M_covers a1 a2 a3 σ) (fun r => rg 0 1 r) := by
  unfold f_M_covers
  refine t_ob _ (M_beats_t (rg_w (lo := (-1)) (hi := 7) h_a1 (by decide)) hm) (fun x1 f2 => ?_)
  refine t_if (fun h3 => ?_) (fun h3 => ?_)
  · exact t_some (rg_w (lo := 0) (hi := 1) (by decide : rg 0 0 (0 : Int32)) (by decide))
  · refine t_ob _ (M_beats_t (rg_w (lo := (-1)) (hi := 7) h_a2 (by decide)) hm) (fun x4 f5 => ?_)
    refine t_ob _ (M_beats_t (rg_w (lo := (-1)) (hi := 7) h_a1 (by decide)) hm) (fun x6 f7 => ?_)
    refine t_if (fun h8 => ?_) (fun h8 => ?_)
    · exact t_some (rg_w (lo := 0) (hi := 1) (by decide : rg 0 0 (0 : Int32)) (by decide))
    · exact t_some (rg_w (lo := 0) (hi := 1) (by decide : rg 1 1 (1 : Int32)) (by decide))
theorem M_duel_t {N : Nat} (hN : 8589934592 ≤ N) {a1 : Int32} {a2 : Int32} {a3 : Int32} {σ : Mem} (hm : InvM σ) : tot (f_M_duel N a1 a2 a3 σ) (fun q => rg (-1) 7 q.1 ∧ KM [0] [] σ q.2) := by
  unfold f_M_duel
  refine t_if (fun h1 => ?_) (fun h1 => ?_)
  · unfold M_duel_J26
    unfold M_duel_J27
    refine t_lm (KM [0] [] σ) (km_s (km_r hm) (by decide) (mS0 hm)) (fun s2 e4 k3 => ?_)
    refine t_if (fun h5 => ?_) (fun h5 => ?_)
    · exact t_some ⟨(rg_w (lo := (-1)) (hi := 7) (by decide : rg 0 0 (0 : Int32)) (by decide)), k3⟩
    · exact absurd (rg_pt (tr_e e4 (by decide : rg 1 1 (1 : Int32))) (by decide : rg 1 1 (1 : Int32))) h5
  · have f6 := (c_mpl h1 hm)
    refine t_if (fun h7 => ?_) (fun h7 => ?_)
    · unfold M_duel_J26
      unfold M_duel_J27
      refine t_lm (KM [0] [] σ) (km_s (km_r hm) (by decide) (mS0 hm)) (fun s8 e10 k9 => ?_)
      refine t_if (fun h11 => ?_) (fun h11 => ?_)
      · exact t_some ⟨(rg_w (lo := (-1)) (hi := 7) (by decide : rg 0 0 (0 : Int32)) (by decide)), k9⟩
      · exact absurd (rg_pt (tr_e e10 (by decide : rg 1 1 (1 : Int32))) (by decide : rg 1 1 (1 : Int32))) h11
    · have f12 := (c_mpl h7 hm)
      refine t_if (fun h13 => ?_) (fun h13 => ?_)
      · unfold M_duel_J26
        unfold M_duel_J27
        refine t_lm (KM [0] [] σ) (km_s (km_r hm) (by decide) (mS0 hm)) (fun s14 e16 k15 => ?_)
        refine t_if (fun h17 => ?_) (fun h17 => ?_)
        · exact t_some ⟨(rg_w (lo := (-1)) (hi := 7) (by decide : rg 0 0 (0 : Int32)) (by decide)), k15⟩
        · exact absurd (rg_pt (tr_e e16 (by decide : rg 1 1 (1 : Int32))) (by decide : rg 1 1 (1 : Int32))) h17
      · unfold M_duel_J27
        refine t_lm (KM [0] [] σ) (km_s (km_r hm) (by decide) (mS0 hm)) (fun s18 e20 k19 => ?_)
        refine t_if (fun h21 => ?_) (fun h21 => ?_)
        · exact absurd h21 (rg_noE (tr_e e20 (by decide : rg 0 0 (0 : Int32))) (by decide : rg 1 1 (1 : Int32)) (by decide))
        · refine t_sw1 (fun h22 => ?_) (fun _ => ?_)
          · have f23 := (rg_eqL (lo := 0) (hi := 0) h22 (by decide : rg 0 0 (0 : Int32)) (by decide))
            refine t_ob _ (M_beats_t (rg_w (lo := (-1)) (hi := 7) f6 (by decide)) k19.1) (fun x24 f25 => ?_)
            refine t_if (fun h26 => ?_) (fun h26 => ?_)
            · exact t_some ⟨(rg_w (lo := (-1)) (hi := 7) (by decide : rg 0 0 (0 : Int32)) (by decide)), k19⟩
            · exact t_some ⟨(rg_w (lo := (-1)) (hi := 7) (by decide : rg 1 1 (1 : Int32)) (by decide)), k19⟩
          refine t_sw1 (fun h27 => ?_) (fun _ => ?_)
          · have f28 := (rg_eqL (lo := 1) (hi := 1) h27 (by decide : rg 1 1 (1 : Int32)) (by decide))
            refine t_ob _ (M_covers_t f6 f12 (al_rg k19.1) k19.1) (fun x29 f30 => ?_)
            refine t_if (fun h31 => ?_) (fun h31 => ?_)
            · have f32 := (rg_eqL (lo := 0) (hi := 0) h31 (by decide : rg 0 0 (0 : Int32)) (by decide))
              exact t_some ⟨(rg_w (lo := (-1)) (hi := 7) (by decide : rg 0 0 (0 : Int32)) (by decide)), k19⟩
            · have f33 := (rg_neL (lo := 1) (hi := 1) h31 f30 (by decide : rg 0 0 (0 : Int32)) (by decide))
              exact t_some ⟨(rg_w (lo := (-1)) (hi := 7) (by decide : rg 1 1 (1 : Int32)) (by decide)), k19⟩
          refine t_sw1 (fun h34 => ?_) (fun _ => ?_)
          · have f35 := (rg_eqL (lo := 2) (hi := 2) h34 (by decide : rg 2 2 (2 : Int32)) (by decide))
            refine t_ob _ (M_beats_t (rg_w (lo := (-1)) (hi := 7) f6 (by decide)) k19.1) (fun x36 f37 => ?_)
            refine t_ob _ (M_over_t f12 k19.1) (fun x38 f39 => ?_)
            refine t_ob _ (M_first_t hN) (fun x40 f41 => ?_)
            exact t_some ⟨f41, k19⟩
          refine t_sw0 ?_
          exact t_some ⟨(rg_w (lo := (-1)) (hi := 7) (by decide : rg (-1) (-1) (-1 : Int32)) (by decide)), k19⟩
theorem M_cupOf_t {N : Nat} (hN : 8589934592 ≤ N) {a1 : Int32} (h_a1 : rg 1 255 a1) {σ : Mem} (hm : InvM σ) : tot (f_M_cupOf N a1 σ) (fun q => rg 0 255 q.1 ∧ KM [24] [] σ q.2) := by
  unfold f_M_cupOf
  refine t_ob _ (M_sizeOf_t hN) (fun x1 f2 => ?_)
  refine t_if (fun h3 => ?_) (fun h3 => ?_)
  · exact t_some ⟨(rg_w (lo := 0) (hi := 255) (by decide : rg 0 0 (0 : Int32)) (by decide)), (km_r hm)⟩
  · refine t_ob _ (M_layCups_t hN hm) (fun s4 k5 => ?_)
    have k6 := km_t (S := [24]) (J := []) (km_r hm) k5 (by decide) (by decide)
    refine t_it2 (fun i7 i9 => rg 0 255 i7 ∧ rg 0 8 i9) (fun i7 i9 => (8 - i9.toInt).toNat) ?_ _ _ _ ⟨(rg_w (lo := 0) (hi := 255) (by decide : rg 0 0 (0 : Int32)) (by decide)), (rg_w (lo := 0) (hi := 8) (by decide : rg 0 0 (0 : Int32)) (by decide))⟩ (ms_u0 hN _ (by decide))
    rintro self13 i7 i9 ⟨f8, f10⟩ ih12
    unfold M_cupOf_B20
    refine t_if (fun h14 => ?_) (fun h14 => ?_)
    · exact t_some ⟨f8, k6⟩
    · have f15 := (rg_ltL (lo := 0) (hi := 7) (i_nle h14) f10 k6.1.n1 (by decide))
      have f16 := (rg_ltR (lo := 1) (hi := 8) (i_nle h14) f10 k6.1.n1 (by decide))
      refine t_gd (inb_rg (rg_add (lo := 0) (hi := 2047) (rg_mul (lo := 0) (hi := 2040) (by decide : rg 8 8 (8 : Int32)) h_a1 (by decide)) f15 (by decide)) (by decide)) ?_
      refine t_if (fun h17 => ?_) (fun h17 => ?_)
      · have f18 := (rg_leL (lo := (-2147483648)) (hi := 0) h17 (rg_f _) (by decide : rg 0 0 (0 : Int32)) (by decide))
        refine t_le 0 255 (rg_or (lo := 0) (hi := 255) 8 f8 (by decide : rg 0 0 (0 : Int32)) (by decide)) (fun x19 e21 f20 => ?_)
        exact ih12 _ _ ⟨f20, (rg_w (lo := 0) (hi := 8) (rg_add (lo := 1) (hi := 8) f15 (by decide : rg 1 1 (1 : Int32)) (by decide)) (by decide))⟩ (ms_up f15 (by decide : rg 1 1 (1 : Int32)) (by decide))
      · have f22 := (rg_ltR (lo := 1) (hi := 2147483647) (i_nle h17) (by decide : rg 0 0 (0 : Int32)) (rg_f _) (by decide))
        refine t_le 0 255 (rg_or (lo := 0) (hi := 255) 8 f8 (rg_w (lo := 0) (hi := 128) (rg_shl1 (lo := 1) (hi := 128) 7 f15 (by decide)) (by decide)) (by decide)) (fun x23 e25 f24 => ?_)
        exact ih12 _ _ ⟨f24, (rg_w (lo := 0) (hi := 8) (rg_add (lo := 1) (hi := 8) f15 (by decide : rg 1 1 (1 : Int32)) (by decide)) (by decide))⟩ (ms_up f15 (by decide : rg 1 1 (1 : Int32)) (by decide))
theorem M_against_t {a1 : Int32} (h_a1 : rg (-1) 7 a1) {a2 : Int32} (h_a2 : rg 0 7 a2) {σ : Mem} (hm : InvM σ) : tot (f_M_against a1 a2 σ) (fun r => rg (-1) 1 r) := by
  unfold f_M_against
  refine t_ob _ (M_beats_t h_a1 hm) (fun x1 f2 => ?_)
  refine t_if (fun h3 => ?_) (fun h3 => ?_)
  · exact t_some (rg_w (lo := (-1)) (hi := 1) (by decide : rg (-1) (-1) (-1 : Int32)) (by decide))
  · exact t_some (rg_w (lo := (-1)) (hi := 1) (by decide : rg 1 1 (1 : Int32)) (by decide))
theorem M_layPairings_t {N : Nat} (hN : 8589934592 ≤ N) {σ : Mem} (hm : InvM σ) : tot (f_M_layPairings N σ) (fun s => KM [20] [] σ s) := by
  unfold f_M_layPairings
  refine t_lm (KM [20] [] σ) (km_s (km_r hm) (by decide) (mS20 hm)) (fun s1 e3 k2 => ?_)
  refine t_it2 (fun i4 s6 => rg 1 256 i4 ∧ KM [20] [] σ s6) (fun i4 s6 => (256 - i4.toInt).toNat) ?_ _ _ _ ⟨(rg_w (lo := 1) (hi := 256) (by decide : rg 1 1 (1 : Int32)) (by decide)), k2⟩ (ms_u0 hN _ (by decide))
  rintro self10 i4 s6 ⟨f5, k7⟩ ih9
  unfold M_layPairings_B9
  refine t_if (fun h11 => ?_) (fun h11 => ?_)
  · exact t_some k7
  · have f12 := (rg_leL (lo := 1) (hi := 255) (i_nlt h11) f5 (al_rg k7.1) (by decide))
    have f13 := (rg_leR (lo := 1) (hi := 255) (i_nlt h11) f5 (al_rg k7.1) (by decide))
    refine t_gd (inb_rg f12 (by decide)) ?_
    refine t_lm (KM [20] [] σ) (km_s k7 (by decide) (mS20 k7.1)) (fun s14 e16 k15 => ?_)
    refine t_ob _ (M_first_t hN) (fun x17 f18 => ?_)
    refine t_le 0 255 (rg_andl (lo := 0) (hi := 255) _ (rg_w (lo := 0) (hi := 255) f12 (by decide)) (by decide)) (fun x19 e21 f20 => ?_)
    refine t_it3 (fun i22 i24 s26 => rg (-1) 1 i22 ∧ rg 0 8 i24 ∧ KM [20] [] σ s26) (fun i22 i24 s26 => (8 - i24.toInt).toNat) ?_ _ _ _ _ ⟨(rg_w (lo := (-1)) (hi := 1) (by decide : rg 1 1 (1 : Int32)) (by decide)), (rg_w (lo := 0) (hi := 8) (by decide : rg 0 0 (0 : Int32)) (by decide)), k15⟩ (ms_u0 hN _ (by decide))
    rintro self30 i22 i24 s26 ⟨f23, f25, k27⟩ ih29
    unfold M_layPairings_B43
    refine t_if (fun h31 => ?_) (fun h31 => ?_)
    · exact ih9 _ _ ⟨(rg_w (lo := 1) (hi := 256) (rg_add (lo := 2) (hi := 256) f12 (by decide : rg 1 1 (1 : Int32)) (by decide)) (by decide)), k27⟩ (ms_up f12 (by decide : rg 1 1 (1 : Int32)) (by decide))
    · have f32 := (rg_ltL (lo := 0) (hi := 7) (i_nle h31) f25 k27.1.n1 (by decide))
      have f33 := (rg_ltR (lo := 1) (hi := 8) (i_nle h31) f25 k27.1.n1 (by decide))
      refine t_ob _ (M_sizeOf_t hN) (fun x34 f35 => ?_)
      refine t_if (fun h36 => ?_) (fun h36 => ?_)
      · have f37 := (rg_eqL (lo := 0) (hi := 0) h36 (by decide : rg 0 0 (0 : Int32)) (by decide))
        refine t_if (fun h38 => ?_) (fun h38 => ?_)
        · exact ih29 _ _ _ ⟨f23, (rg_w (lo := 0) (hi := 8) (rg_add (lo := 1) (hi := 8) f32 (by decide : rg 1 1 (1 : Int32)) (by decide)) (by decide)), k27⟩ (ms_up f32 (by decide : rg 1 1 (1 : Int32)) (by decide))
        · refine t_gd (inb_rg f12 (by decide)) ?_
          refine t_ob _ (M_against_t f18 f32 k27.1) (fun x39 f40 => ?_)
          refine t_gd (inb_rg (rg_andl (lo := 0) (hi := 255) _ f20 (by decide)) (by decide)) ?_
          refine t_gd (inb_rg f12 (by decide)) ?_
          refine t_lm (KM [20] [] σ) (km_s k27 (by decide) (mS20 k27.1)) (fun s41 e43 k42 => ?_)
          refine t_le (-1) 1 (rg_neg (lo := (-1)) (hi := 1) f23 (by decide)) (fun x44 e46 f45 => ?_)
          exact ih29 _ _ _ ⟨f45, (rg_w (lo := 0) (hi := 8) (rg_add (lo := 1) (hi := 8) f32 (by decide : rg 1 1 (1 : Int32)) (by decide)) (by decide)), k42⟩ (ms_up f32 (by decide : rg 1 1 (1 : Int32)) (by decide))
      · exact ih9 _ _ ⟨(rg_w (lo := 1) (hi := 256) (rg_add (lo := 2) (hi := 256) f12 (by decide : rg 1 1 (1 : Int32)) (by decide)) (by decide)), k27⟩ (ms_up f12 (by decide : rg 1 1 (1 : Int32)) (by decide))
theorem M_gains_t {N : Nat} (hN : 8589934592 ≤ N) {a1 : Int32} (h_a1 : rg 0 7 a1) {σ : Mem} (hm : InvM σ) : tot (f_M_gains N a1 σ) (fun r => rg (-2147483648) 2147483647 r) := by
  unfold f_M_gains
  refine t_it2 (fun i1 i2 => rg 0 8 i2) (fun i1 i2 => (8 - i2.toInt).toNat) ?_ _ _ _ (rg_w (lo := 0) (hi := 8) (by decide : rg 0 0 (0 : Int32)) (by decide)) (ms_u0 hN _ (by decide))
  rintro self6 i1 i2 f3 ih5
  unfold M_gains_B4
  refine t_if (fun h7 => ?_) (fun h7 => ?_)
  · exact t_some (rg_f _)
  · have f8 := (rg_ltL (lo := 0) (hi := 7) (i_nle h7) f3 hm.n1 (by decide))
    have f9 := (rg_ltR (lo := 1) (hi := 8) (i_nle h7) f3 hm.n1 (by decide))
    refine t_if (fun h10 => ?_) (fun h10 => ?_)
    · refine t_le (-2147483648) 2147483647 (rg_add (lo := (-2147483648)) (hi := 2147483647) (rg_f _) (by decide : rg 0 0 (0 : Int32)) (by decide)) (fun x11 e13 f12 => ?_)
      exact ih5 _ _ (rg_w (lo := 0) (hi := 8) (rg_add (lo := 1) (hi := 8) f8 (by decide : rg 1 1 (1 : Int32)) (by decide)) (by decide)) (ms_up f8 (by decide : rg 1 1 (1 : Int32)) (by decide))
    · refine t_ob _ (M_against_t (rg_w (lo := (-1)) (hi := 7) h_a1 (by decide)) f8 hm) (fun x14 f15 => ?_)
      refine t_gd (inb_rg f8 (by decide)) ?_
      refine t_le (-2147483648) 2147483647 (rg_f _) (fun x16 e18 f17 => ?_)
      exact ih5 _ _ (rg_w (lo := 0) (hi := 8) (rg_add (lo := 1) (hi := 8) f8 (by decide : rg 1 1 (1 : Int32)) (by decide)) (by decide)) (ms_up f8 (by decide : rg 1 1 (1 : Int32)) (by decide))
theorem M_nobodyGains_t {N : Nat} (hN : 8589934592 ≤ N) {a1 : Int32} (h_a1 : rg 0 255 a1) {σ : Mem} (hm : InvM σ) : tot (f_M_nobodyGains N a1 σ) (fun r => rg 0 1 r) := by
  unfold f_M_nobodyGains
  refine t_it2 (fun i1 i3 => rg 0 1 i1 ∧ rg 0 8 i3) (fun i1 i3 => (8 - i3.toInt).toNat) ?_ _ _ _ ⟨(rg_w (lo := 0) (hi := 1) (by decide : rg 1 1 (1 : Int32)) (by decide)), (rg_w (lo := 0) (hi := 8) (by decide : rg 0 0 (0 : Int32)) (by decide))⟩ (ms_u0 hN _ (by decide))
  rintro self7 i1 i3 ⟨f2, f4⟩ ih6
  unfold M_nobodyGains_B4
  refine t_if (fun h8 => ?_) (fun h8 => ?_)
  · refine t_gd (isb_rg f2) ?_
    exact t_some f2
  · have f9 := (rg_ltL (lo := 0) (hi := 7) (i_nle h8) f4 hm.n1 (by decide))
    have f10 := (rg_ltR (lo := 1) (hi := 8) (i_nle h8) f4 hm.n1 (by decide))
    refine t_if (fun h11 => ?_) (fun h11 => ?_)
    · have f12 := (rg_eqL (lo := 0) (hi := 0) h11 (by decide : rg 0 0 (0 : Int32)) (by decide))
      exact ih6 _ _ ⟨(rg_w (lo := 0) (hi := 1) (by decide : rg 0 0 (0 : Int32)) (by decide)), (rg_w (lo := 0) (hi := 8) (rg_add (lo := 1) (hi := 8) f9 (by decide : rg 1 1 (1 : Int32)) (by decide)) (by decide))⟩ (ms_up f9 (by decide : rg 1 1 (1 : Int32)) (by decide))
    · have f13 := (rg_neL (lo := 1) (hi := 1) h11 f2 (by decide : rg 0 0 (0 : Int32)) (by decide))
      refine t_if (fun h14 => ?_) (fun h14 => ?_)
      · exact ih6 _ _ ⟨(rg_w (lo := 0) (hi := 1) (by decide : rg 1 1 (1 : Int32)) (by decide)), (rg_w (lo := 0) (hi := 8) (rg_add (lo := 1) (hi := 8) f9 (by decide : rg 1 1 (1 : Int32)) (by decide)) (by decide))⟩ (ms_up f9 (by decide : rg 1 1 (1 : Int32)) (by decide))
      · refine t_ob _ (M_gains_t hN f9 hm) (fun x15 f16 => ?_)
        refine t_if (fun h17 => ?_) (fun h17 => ?_)
        · have f18 := (rg_ltR (lo := 1) (hi := 2147483647) h17 (by decide : rg 0 0 (0 : Int32)) (rg_f _) (by decide))
          exact ih6 _ _ ⟨(rg_w (lo := 0) (hi := 1) (by decide : rg 0 0 (0 : Int32)) (by decide)), (rg_w (lo := 0) (hi := 8) (rg_add (lo := 1) (hi := 8) f9 (by decide : rg 1 1 (1 : Int32)) (by decide)) (by decide))⟩ (ms_up f9 (by decide : rg 1 1 (1 : Int32)) (by decide))
        · have f19 := (rg_leL (lo := (-2147483648)) (hi := 0) (i_nlt h17) (rg_f _) (by decide : rg 0 0 (0 : Int32)) (by decide))
          exact ih6 _ _ ⟨(rg_w (lo := 0) (hi := 1) (by decide : rg 1 1 (1 : Int32)) (by decide)), (rg_w (lo := 0) (hi := 8) (rg_add (lo := 1) (hi := 8) f9 (by decide : rg 1 1 (1 : Int32)) (by decide)) (by decide))⟩ (ms_up f9 (by decide : rg 1 1 (1 : Int32)) (by decide))
theorem M_isCovering_t {N : Nat} (hN : 8589934592 ≤ N) {a1 : Int32} (h_a1 : rg 0 255 a1) {a2 : Int32} (h_a2 : rg 0 255 a2) {σ : Mem} (hm : InvM σ) : tot (f_M_isCovering N a1 a2 σ) (fun r => rg 0 1 r) := by
  unfold f_M_isCovering
  refine t_if (fun h1 => ?_) (fun h1 => ?_)
  · have f2 := (rg_eqL (lo := 0) (hi := 0) h1 (by decide : rg 0 0 (0 : Int32)) (by decide))
    unfold M_isCovering_J9
    refine t_it2 (fun i3 i5 => rg 0 1 i3 ∧ rg 0 8 i5) (fun i3 i5 => (8 - i5.toInt).toNat) ?_ _ _ _ ⟨(rg_w (lo := 0) (hi := 1) (by decide : rg 0 0 (0 : Int32)) (by decide)), (rg_w (lo := 0) (hi := 8) (by decide : rg 0 0 (0 : Int32)) (by decide))⟩ (ms_u0 hN _ (by decide))
    rintro self9 i3 i5 ⟨f4, f6⟩ ih8
    unfold M_isCovering_B13
    refine t_if (fun h10 => ?_) (fun h10 => ?_)
    · refine t_gd (isb_rg f4) ?_
      exact t_some f4
    · have f11 := (rg_ltL (lo := 0) (hi := 7) (i_nle h10) f6 hm.n1 (by decide))
      have f12 := (rg_ltR (lo := 1) (hi := 8) (i_nle h10) f6 hm.n1 (by decide))
      refine t_if (fun h13 => ?_) (fun h13 => ?_)
      · have f14 := (rg_eqL (lo := 0) (hi := 0) h13 (by decide : rg 0 0 (0 : Int32)) (by decide))
        refine t_gd (isb_rg (rg_w (lo := 0) (hi := 1) f14 (by decide))) ?_
        exact t_some (rg_w (lo := 0) (hi := 1) f14 (by decide))
      · have f15 := (rg_neL (lo := 1) (hi := 1) h13 f4 (by decide : rg 0 0 (0 : Int32)) (by decide))
        refine t_if (fun h16 => ?_) (fun h16 => ?_)
        · exact ih8 _ _ ⟨(rg_w (lo := 0) (hi := 1) f15 (by decide)), (rg_w (lo := 0) (hi := 8) (rg_add (lo := 1) (hi := 8) f11 (by decide : rg 1 1 (1 : Int32)) (by decide)) (by decide))⟩ (ms_up f11 (by decide : rg 1 1 (1 : Int32)) (by decide))
        · refine t_it2 (fun i17 i19 => rg 0 1 i17 ∧ rg 0 8 i19) (fun i17 i19 => (8 - i19.toInt).toNat) ?_ _ _ _ ⟨(rg_w (lo := 0) (hi := 1) (by decide : rg 0 0 (0 : Int32)) (by decide)), (rg_w (lo := 0) (hi := 8) (by decide : rg 0 0 (0 : Int32)) (by decide))⟩ (ms_u0 hN _ (by decide))
          rintro self23 i17 i19 ⟨f18, f20⟩ ih22
          unfold M_isCovering_B45
          refine t_if (fun h24 => ?_) (fun h24 => ?_)
          · have f25 := (rg_leR (lo := 1) (hi := 8) h24 f12 f20 (by decide))
            exact ih8 _ _ ⟨f18, (rg_w (lo := 0) (hi := 8) (rg_add (lo := 1) (hi := 8) f11 (by decide : rg 1 1 (1 : Int32)) (by decide)) (by decide))⟩ (ms_up f11 (by decide : rg 1 1 (1 : Int32)) (by decide))
          · have f26 := (rg_ltL (lo := 0) (hi := 7) (i_nle h24) f20 f12 (by decide))
            refine t_if (fun h27 => ?_) (fun h27 => ?_)
            · have f28 := (rg_eqL (lo := 0) (hi := 0) h27 (by decide : rg 0 0 (0 : Int32)) (by decide))
              refine t_if (fun h29 => ?_) (fun h29 => ?_)
              · exact ih22 _ _ ⟨(rg_w (lo := 0) (hi := 1) (by decide : rg 0 0 (0 : Int32)) (by decide)), (rg_w (lo := 0) (hi := 8) (rg_add (lo := 1) (hi := 8) f26 (by decide : rg 1 1 (1 : Int32)) (by decide)) (by decide))⟩ (ms_up f26 (by decide : rg 1 1 (1 : Int32)) (by decide))
              · refine t_ob _ (M_covers_t f26 f11 (rg_w (lo := 0) (hi := 255) f2 (by decide)) hm) (fun x30 f31 => ?_)
                refine t_if (fun h32 => ?_) (fun h32 => ?_)
                · have f33 := (rg_eqL (lo := 0) (hi := 0) h32 (by decide : rg 0 0 (0 : Int32)) (by decide))
                  exact ih22 _ _ ⟨(rg_w (lo := 0) (hi := 1) (by decide : rg 0 0 (0 : Int32)) (by decide)), (rg_w (lo := 0) (hi := 8) (rg_add (lo := 1) (hi := 8) f26 (by decide : rg 1 1 (1 : Int32)) (by decide)) (by decide))⟩ (ms_up f26 (by decide : rg 1 1 (1 : Int32)) (by decide))
                · have f34 := (rg_neL (lo := 1) (hi := 1) h32 f31 (by decide : rg 0 0 (0 : Int32)) (by decide))
                  exact ih22 _ _ ⟨(rg_w (lo := 0) (hi := 1) (by decide : rg 1 1 (1 : Int32)) (by decide)), (rg_w (lo := 0) (hi := 8) (rg_add (lo := 1) (hi := 8) f26 (by decide : rg 1 1 (1 : Int32)) (by decide)) (by decide))⟩ (ms_up f26 (by decide : rg 1 1 (1 : Int32)) (by decide))
            · have f35 := (rg_neL (lo := 1) (hi := 1) h27 f18 (by decide : rg 0 0 (0 : Int32)) (by decide))
              exact ih22 _ _ ⟨(rg_w (lo := 0) (hi := 1) (by decide : rg 1 1 (1 : Int32)) (by decide)), (rg_w (lo := 0) (hi := 8) (rg_add (lo := 1) (hi := 8) f26 (by decide : rg 1 1 (1 : Int32)) (by decide)) (by decide))⟩ (ms_up f26 (by decide : rg 1 1 (1 : Int32)) (by decide))
  · have f36 := (rg_neL (lo := 1) (hi := 255) h1 h_a1 (by decide : rg 0 0 (0 : Int32)) (by decide))
    unfold M_isCovering_J9
    refine t_it2 (fun i37 i39 => rg 0 1 i37 ∧ rg 0 8 i39) (fun i37 i39 => (8 - i39.toInt).toNat) ?_ _ _ _ ⟨(rg_w (lo := 0) (hi := 1) (by decide : rg 1 1 (1 : Int32)) (by decide)), (rg_w (lo := 0) (hi := 8) (by decide : rg 0 0 (0 : Int32)) (by decide))⟩ (ms_u0 hN _ (by decide))
    rintro self43 i37 i39 ⟨f38, f40⟩ ih42
    unfold M_isCovering_B13
    refine t_if (fun h44 => ?_) (fun h44 => ?_)
    · refine t_gd (isb_rg f38) ?_
      exact t_some f38
    · have f45 := (rg_ltL (lo := 0) (hi := 7) (i_nle h44) f40 hm.n1 (by decide))
      have f46 := (rg_ltR (lo := 1) (hi := 8) (i_nle h44) f40 hm.n1 (by decide))
      refine t_if (fun h47 => ?_) (fun h47 => ?_)
      · have f48 := (rg_eqL (lo := 0) (hi := 0) h47 (by decide : rg 0 0 (0 : Int32)) (by decide))
        refine t_gd (isb_rg (rg_w (lo := 0) (hi := 1) f48 (by decide))) ?_
        exact t_some (rg_w (lo := 0) (hi := 1) f48 (by decide))
      · have f49 := (rg_neL (lo := 1) (hi := 1) h47 f38 (by decide : rg 0 0 (0 : Int32)) (by decide))
        refine t_if (fun h50 => ?_) (fun h50 => ?_)
        · exact ih42 _ _ ⟨(rg_w (lo := 0) (hi := 1) f49 (by decide)), (rg_w (lo := 0) (hi := 8) (rg_add (lo := 1) (hi := 8) f45 (by decide : rg 1 1 (1 : Int32)) (by decide)) (by decide))⟩ (ms_up f45 (by decide : rg 1 1 (1 : Int32)) (by decide))
        · refine t_it2 (fun i51 i53 => rg 0 1 i51 ∧ rg 0 8 i53) (fun i51 i53 => (8 - i53.toInt).toNat) ?_ _ _ _ ⟨(rg_w (lo := 0) (hi := 1) (by decide : rg 0 0 (0 : Int32)) (by decide)), (rg_w (lo := 0) (hi := 8) (by decide : rg 0 0 (0 : Int32)) (by decide))⟩ (ms_u0 hN _ (by decide))
          rintro self57 i51 i53 ⟨f52, f54⟩ ih56
          unfold M_isCovering_B45
          refine t_if (fun h58 => ?_) (fun h58 => ?_)
          · have f59 := (rg_leR (lo := 1) (hi := 8) h58 f46 f54 (by decide))
            exact ih42 _ _ ⟨f52, (rg_w (lo := 0) (hi := 8) (rg_add (lo := 1) (hi := 8) f45 (by decide : rg 1 1 (1 : Int32)) (by decide)) (by decide))⟩ (ms_up f45 (by decide : rg 1 1 (1 : Int32)) (by decide))
          · have f60 := (rg_ltL (lo := 0) (hi := 7) (i_nle h58) f54 f46 (by decide))
            refine t_if (fun h61 => ?_) (fun h61 => ?_)
            · have f62 := (rg_eqL (lo := 0) (hi := 0) h61 (by decide : rg 0 0 (0 : Int32)) (by decide))
              refine t_if (fun h63 => ?_) (fun h63 => ?_)
              · exact ih56 _ _ ⟨(rg_w (lo := 0) (hi := 1) (by decide : rg 0 0 (0 : Int32)) (by decide)), (rg_w (lo := 0) (hi := 8) (rg_add (lo := 1) (hi := 8) f60 (by decide : rg 1 1 (1 : Int32)) (by decide)) (by decide))⟩ (ms_up f60 (by decide : rg 1 1 (1 : Int32)) (by decide))
              · refine t_ob _ (M_covers_t f60 f45 (rg_w (lo := 0) (hi := 255) f36 (by decide)) hm) (fun x64 f65 => ?_)
                refine t_if (fun h66 => ?_) (fun h66 => ?_)
                · have f67 := (rg_eqL (lo := 0) (hi := 0) h66 (by decide : rg 0 0 (0 : Int32)) (by decide))
                  exact ih56 _ _ ⟨(rg_w (lo := 0) (hi := 1) (by decide : rg 0 0 (0 : Int32)) (by decide)), (rg_w (lo := 0) (hi := 8) (rg_add (lo := 1) (hi := 8) f60 (by decide : rg 1 1 (1 : Int32)) (by decide)) (by decide))⟩ (ms_up f60 (by decide : rg 1 1 (1 : Int32)) (by decide))
                · have f68 := (rg_neL (lo := 1) (hi := 1) h66 f65 (by decide : rg 0 0 (0 : Int32)) (by decide))
                  exact ih56 _ _ ⟨(rg_w (lo := 0) (hi := 1) (by decide : rg 1 1 (1 : Int32)) (by decide)), (rg_w (lo := 0) (hi := 8) (rg_add (lo := 1) (hi := 8) f60 (by decide : rg 1 1 (1 : Int32)) (by decide)) (by decide))⟩ (ms_up f60 (by decide : rg 1 1 (1 : Int32)) (by decide))
            · have f69 := (rg_neL (lo := 1) (hi := 1) h61 f52 (by decide : rg 0 0 (0 : Int32)) (by decide))
              exact ih56 _ _ ⟨(rg_w (lo := 0) (hi := 1) (by decide : rg 1 1 (1 : Int32)) (by decide)), (rg_w (lo := 0) (hi := 8) (rg_add (lo := 1) (hi := 8) f60 (by decide : rg 1 1 (1 : Int32)) (by decide)) (by decide))⟩ (ms_up f60 (by decide : rg 1 1 (1 : Int32)) (by decide))
theorem M_covering_t {N : Nat} (hN : 8589934592 ≤ N) {a1 : Int32} (h_a1 : rg 1 255 a1) {σ : Mem} (hm : InvM σ) : tot (f_M_covering N a1 σ) (fun r => rg 1 255 r) := by
  unfold f_M_covering
  refine t_it2 (fun i1 i3 => rg 1 255 i1 ∧ rg 1 256 i3) (fun i1 i3 => (256 - i3.toInt).toNat) ?_ _ _ _ ⟨h_a1, (rg_w (lo := 1) (hi := 256) (by decide : rg 1 1 (1 : Int32)) (by decide))⟩ (ms_u0 hN _ (by decide))
  rintro self7 i1 i3 ⟨f2, f4⟩ ih6
  unfold M_covering_B4
  refine t_if (fun h8 => ?_) (fun h8 => ?_)
  · have f9 := (rg_leR (lo := 256) (hi := 256) h8 (by decide : rg 256 256 (256 : Int32)) f4 (by decide))
    exact t_some f2
  · have f10 := (rg_ltL (lo := 1) (hi := 255) (i_nle h8) f4 (by decide : rg 256 256 (256 : Int32)) (by decide))
    refine t_if (fun h11 => ?_) (fun h11 => ?_)
    · exact ih6 _ _ ⟨f2, (rg_w (lo := 1) (hi := 256) (rg_add (lo := 2) (hi := 256) f10 (by decide : rg 1 1 (1 : Int32)) (by decide)) (by decide))⟩ (ms_up f10 (by decide : rg 1 1 (1 : Int32)) (by decide))
    · refine t_ob _ (M_sizeOf_t hN) (fun x12 f13 => ?_)
      refine t_ob _ (M_sizeOf_t hN) (fun x14 f15 => ?_)
      refine t_if (fun h16 => ?_) (fun h16 => ?_)
      · exact ih6 _ _ ⟨f2, (rg_w (lo := 1) (hi := 256) (rg_add (lo := 2) (hi := 256) f10 (by decide : rg 1 1 (1 : Int32)) (by decide)) (by decide))⟩ (ms_up f10 (by decide : rg 1 1 (1 : Int32)) (by decide))
      · have f17 := (rg_ltL (lo := (-2147483648)) (hi := 2147483646) (i_nle h16) (rg_f _) (rg_f _) (by decide))
        have f18 := (rg_ltR (lo := (-2147483647)) (hi := 2147483647) (i_nle h16) (rg_f _) (rg_f _) (by decide))
        refine t_ob _ (M_isCovering_t hN (rg_w (lo := 0) (hi := 255) f10 (by decide)) (rg_w (lo := 0) (hi := 255) h_a1 (by decide)) hm) (fun x19 f20 => ?_)
        refine t_if (fun h21 => ?_) (fun h21 => ?_)
        · have f22 := (rg_eqL (lo := 0) (hi := 0) h21 (by decide : rg 0 0 (0 : Int32)) (by decide))
          exact ih6 _ _ ⟨f2, (rg_w (lo := 1) (hi := 256) (rg_add (lo := 2) (hi := 256) f10 (by decide : rg 1 1 (1 : Int32)) (by decide)) (by decide))⟩ (ms_up f10 (by decide : rg 1 1 (1 : Int32)) (by decide))
        · have f23 := (rg_neL (lo := 1) (hi := 1) h21 f20 (by decide : rg 0 0 (0 : Int32)) (by decide))
          exact ih6 _ _ ⟨f10, (rg_w (lo := 1) (hi := 256) (rg_add (lo := 2) (hi := 256) f10 (by decide : rg 1 1 (1 : Int32)) (by decide)) (by decide))⟩ (ms_up f10 (by decide : rg 1 1 (1 : Int32)) (by decide))
theorem M_slater_t {N : Nat} (hN : 8589934592 ≤ N) {a1 : Int32} (h_a1 : rg 1 255 a1) {σ : Mem} (hm : InvM σ) : tot (f_M_slater N a1 σ) (fun q => rg 0 255 q.1 ∧ KM [18, 19] [] σ q.2) := by
  unfold f_M_slater
  refine t_ob _ (M_layOrders_t hN hm) (fun s1 k2 => ?_)
  have k3 := km_t (S := [18, 19]) (J := []) (km_r hm) k2 (by decide) (by decide)
  refine t_it2 (fun i4 i6 => rg 0 255 i4 ∧ rg 0 8 i6) (fun i4 i6 => (8 - i6.toInt).toNat) ?_ _ _ _ ⟨(rg_w (lo := 0) (hi := 255) (by decide : rg 0 0 (0 : Int32)) (by decide)), (rg_w (lo := 0) (hi := 8) (by decide : rg 0 0 (0 : Int32)) (by decide))⟩ (ms_u0 hN _ (by decide))
  rintro self10 i4 i6 ⟨f5, f7⟩ ih9
  unfold M_slater_B8
  refine t_if (fun h11 => ?_) (fun h11 => ?_)
  · exact t_some ⟨f5, k3⟩
  · have f12 := (rg_ltL (lo := 0) (hi := 7) (i_nle h11) f7 k3.1.n1 (by decide))
    have f13 := (rg_ltR (lo := 1) (hi := 8) (i_nle h11) f7 k3.1.n1 (by decide))
    refine t_if (fun h14 => ?_) (fun h14 => ?_)
    · refine t_le 0 255 (rg_or (lo := 0) (hi := 255) 8 f5 (by decide : rg 0 0 (0 : Int32)) (by decide)) (fun x15 e17 f16 => ?_)
      exact ih9 _ _ ⟨f16, (rg_w (lo := 0) (hi := 8) (rg_add (lo := 1) (hi := 8) f12 (by decide : rg 1 1 (1 : Int32)) (by decide)) (by decide))⟩ (ms_up f12 (by decide : rg 1 1 (1 : Int32)) (by decide))
    · refine t_ob _ (M_turnedBy_t hN f12 (rg_w (lo := 0) (hi := 255) h_a1 (by decide)) k3.1) (fun x18 f19 => ?_)
      refine t_gd (inb_rg h_a1 (by decide)) ?_
      refine t_if (fun h20 => ?_) (fun h20 => ?_)
      · refine t_le 0 255 (rg_or (lo := 0) (hi := 255) 8 f5 (rg_w (lo := 0) (hi := 128) (rg_shl1 (lo := 1) (hi := 128) 7 f12 (by decide)) (by decide)) (by decide)) (fun x21 e23 f22 => ?_)
        exact ih9 _ _ ⟨f22, (rg_w (lo := 0) (hi := 8) (rg_add (lo := 1) (hi := 8) f12 (by decide : rg 1 1 (1 : Int32)) (by decide)) (by decide))⟩ (ms_up f12 (by decide : rg 1 1 (1 : Int32)) (by decide))
      · refine t_le 0 255 (rg_or (lo := 0) (hi := 255) 8 f5 (by decide : rg 0 0 (0 : Int32)) (by decide)) (fun x24 e26 f25 => ?_)
        exact ih9 _ _ ⟨f25, (rg_w (lo := 0) (hi := 8) (rg_add (lo := 1) (hi := 8) f12 (by decide : rg 1 1 (1 : Int32)) (by decide)) (by decide))⟩ (ms_up f12 (by decide : rg 1 1 (1 : Int32)) (by decide))
theorem M_uncovered_t {N : Nat} (hN : 8589934592 ≤ N) {a1 : Int32} (h_a1 : rg 0 255 a1) {σ : Mem} (hm : InvM σ) : tot (f_M_uncovered N a1 σ) (fun r => rg 0 255 r) := by
  unfold f_M_uncovered
  refine t_it2 (fun i1 i3 => rg 0 255 i1 ∧ rg 0 8 i3) (fun i1 i3 => (8 - i3.toInt).toNat) ?_ _ _ _ ⟨h_a1, (rg_w (lo := 0) (hi := 8) (by decide : rg 0 0 (0 : Int32)) (by decide))⟩ (ms_u0 hN _ (by decide))
  rintro self7 i1 i3 ⟨f2, f4⟩ ih6
  unfold M_uncovered_B4
  refine t_if (fun h8 => ?_) (fun h8 => ?_)
  · exact t_some f2
  · have f9 := (rg_ltL (lo := 0) (hi := 7) (i_nle h8) f4 hm.n1 (by decide))
    have f10 := (rg_ltR (lo := 1) (hi := 8) (i_nle h8) f4 hm.n1 (by decide))
    refine t_it2 (fun i11 i13 => rg 0 255 i11 ∧ rg 0 8 i13) (fun i11 i13 => (8 - i13.toInt).toNat) ?_ _ _ _ ⟨f2, (rg_w (lo := 0) (hi := 8) (by decide : rg 0 0 (0 : Int32)) (by decide))⟩ (ms_u0 hN _ (by decide))
    rintro self17 i11 i13 ⟨f12, f14⟩ ih16
    unfold M_uncovered_B15
    refine t_if (fun h18 => ?_) (fun h18 => ?_)
    · have f19 := (rg_leR (lo := 1) (hi := 8) h18 f10 f14 (by decide))
      exact ih6 _ _ ⟨f12, (rg_w (lo := 0) (hi := 8) (rg_add (lo := 1) (hi := 8) f9 (by decide : rg 1 1 (1 : Int32)) (by decide)) (by decide))⟩ (ms_up f9 (by decide : rg 1 1 (1 : Int32)) (by decide))
    · have f20 := (rg_ltL (lo := 0) (hi := 7) (i_nle h18) f14 f10 (by decide))
      refine t_if (fun h21 => ?_) (fun h21 => ?_)
      · refine t_le 0 255 (rg_andl (lo := 0) (hi := 255) _ f12 (by decide)) (fun x22 e24 f23 => ?_)
        exact ih16 _ _ ⟨f23, (rg_w (lo := 0) (hi := 8) (rg_add (lo := 1) (hi := 8) f20 (by decide : rg 1 1 (1 : Int32)) (by decide)) (by decide))⟩ (ms_up f20 (by decide : rg 1 1 (1 : Int32)) (by decide))
      · refine t_if (fun h25 => ?_) (fun h25 => ?_)
        · refine t_le 0 255 (rg_andl (lo := 0) (hi := 255) _ f12 (by decide)) (fun x26 e28 f27 => ?_)
          exact ih16 _ _ ⟨f27, (rg_w (lo := 0) (hi := 8) (rg_add (lo := 1) (hi := 8) f20 (by decide : rg 1 1 (1 : Int32)) (by decide)) (by decide))⟩ (ms_up f20 (by decide : rg 1 1 (1 : Int32)) (by decide))
        · refine t_if (fun h29 => ?_) (fun h29 => ?_)
          · refine t_le 0 255 (rg_andl (lo := 0) (hi := 255) _ f12 (by decide)) (fun x30 e32 f31 => ?_)
            exact ih16 _ _ ⟨f31, (rg_w (lo := 0) (hi := 8) (rg_add (lo := 1) (hi := 8) f20 (by decide : rg 1 1 (1 : Int32)) (by decide)) (by decide))⟩ (ms_up f20 (by decide : rg 1 1 (1 : Int32)) (by decide))
          · refine t_ob _ (M_covers_t f9 f20 h_a1 hm) (fun x33 f34 => ?_)
            refine t_if (fun h35 => ?_) (fun h35 => ?_)
            · have f36 := (rg_eqL (lo := 0) (hi := 0) h35 (by decide : rg 0 0 (0 : Int32)) (by decide))
              refine t_le 0 255 (rg_andl (lo := 0) (hi := 255) _ f12 (by decide)) (fun x37 e39 f38 => ?_)
              exact ih16 _ _ ⟨f38, (rg_w (lo := 0) (hi := 8) (rg_add (lo := 1) (hi := 8) f20 (by decide : rg 1 1 (1 : Int32)) (by decide)) (by decide))⟩ (ms_up f20 (by decide : rg 1 1 (1 : Int32)) (by decide))
            · have f40 := (rg_neL (lo := 1) (hi := 1) h35 f34 (by decide : rg 0 0 (0 : Int32)) (by decide))
              refine t_le 0 255 (rg_andl (lo := 0) (hi := 255) _ f12 (by decide)) (fun x41 e43 f42 => ?_)
              exact ih16 _ _ ⟨f42, (rg_w (lo := 0) (hi := 8) (rg_add (lo := 1) (hi := 8) f20 (by decide : rg 1 1 (1 : Int32)) (by decide)) (by decide))⟩ (ms_up f20 (by decide : rg 1 1 (1 : Int32)) (by decide))
theorem M_most_t {N : Nat} (hN : 8589934592 ≤ N) {a1 : Int32} (h_a1 : rg 1 255 a1) {σ : Mem} (hm : InvM σ) : tot (f_M_most N a1 σ) (fun r => rg 0 255 r) := by
  unfold f_M_most
  refine t_it3 (fun i1 i3 i4 => rg 0 255 i1 ∧ rg 0 8 i4) (fun i1 i3 i4 => (8 - i4.toInt).toNat) ?_ _ _ _ _ ⟨(rg_w (lo := 0) (hi := 255) (by decide : rg 0 0 (0 : Int32)) (by decide)), (rg_w (lo := 0) (hi := 8) (by decide : rg 0 0 (0 : Int32)) (by decide))⟩ (ms_u0 hN _ (by decide))
  rintro self8 i1 i3 i4 ⟨f2, f5⟩ ih7
  unfold M_most_B7
  refine t_if (fun h9 => ?_) (fun h9 => ?_)
  · exact t_some f2
  · have f10 := (rg_ltL (lo := 0) (hi := 7) (i_nle h9) f5 hm.n1 (by decide))
    have f11 := (rg_ltR (lo := 1) (hi := 8) (i_nle h9) f5 hm.n1 (by decide))
    refine t_if (fun h12 => ?_) (fun h12 => ?_)
    · exact ih7 _ _ _ ⟨f2, (rg_w (lo := 0) (hi := 8) (rg_add (lo := 1) (hi := 8) f10 (by decide : rg 1 1 (1 : Int32)) (by decide)) (by decide))⟩ (ms_up f10 (by decide : rg 1 1 (1 : Int32)) (by decide))
    · refine t_ob _ (M_winsOf_t hN f10 (rg_w (lo := 0) (hi := 255) h_a1 (by decide)) hm) (fun x13 f14 => ?_)
      refine t_if (fun h15 => ?_) (fun h15 => ?_)
      · have f16 := (rg_ltL (lo := (-2147483648)) (hi := 2147483646) h15 (rg_f _) (rg_f _) (by decide))
        have f17 := (rg_ltR (lo := (-2147483647)) (hi := 2147483647) h15 (rg_f _) (rg_f _) (by decide))
        exact ih7 _ _ _ ⟨f2, (rg_w (lo := 0) (hi := 8) (rg_add (lo := 1) (hi := 8) f10 (by decide : rg 1 1 (1 : Int32)) (by decide)) (by decide))⟩ (ms_up f10 (by decide : rg 1 1 (1 : Int32)) (by decide))
      · refine t_ob _ (M_winsOf_t hN f10 (rg_w (lo := 0) (hi := 255) h_a1 (by decide)) hm) (fun x18 f19 => ?_)
        refine t_if (fun h20 => ?_) (fun h20 => ?_)
        · unfold M_most_J60
          refine t_ob _ (M_winsOf_t hN f10 (rg_w (lo := 0) (hi := 255) h_a1 (by decide)) hm) (fun x21 f22 => ?_)
          exact ih7 _ _ _ ⟨(rg_or (lo := 0) (hi := 255) 8 f2 (rg_w (lo := 0) (hi := 128) (rg_shl1 (lo := 1) (hi := 128) 7 f10 (by decide)) (by decide)) (by decide)), (rg_w (lo := 0) (hi := 8) (rg_add (lo := 1) (hi := 8) f10 (by decide : rg 1 1 (1 : Int32)) (by decide)) (by decide))⟩ (ms_up f10 (by decide : rg 1 1 (1 : Int32)) (by decide))
        · have f23 := (rg_ltL (lo := (-2147483648)) (hi := 2147483646) (i_nle h20) (rg_f _) (rg_f _) (by decide))
          have f24 := (rg_ltR (lo := (-2147483647)) (hi := 2147483647) (i_nle h20) (rg_f _) (rg_f _) (by decide))
          unfold M_most_J60
          refine t_ob _ (M_winsOf_t hN f10 (rg_w (lo := 0) (hi := 255) h_a1 (by decide)) hm) (fun x25 f26 => ?_)
          exact ih7 _ _ _ ⟨(rg_w (lo := 0) (hi := 255) (rg_shl1 (lo := 1) (hi := 128) 7 f10 (by decide)) (by decide)), (rg_w (lo := 0) (hi := 8) (rg_add (lo := 1) (hi := 8) f10 (by decide : rg 1 1 (1 : Int32)) (by decide)) (by decide))⟩ (ms_up f10 (by decide : rg 1 1 (1 : Int32)) (by decide))
theorem M_top_t {N : Nat} (hN : 8589934592 ≤ N) {a1 : Int32} (h_a1 : rg 1 255 a1) {σ : Mem} (hm : InvM σ) : tot (f_M_top N a1 σ) (fun r => rg 1 255 r) := by
  unfold f_M_top
  refine t_it2 (fun i1 i3 => rg 1 255 i1 ∧ rg 1 256 i3) (fun i1 i3 => (256 - i3.toInt).toNat) ?_ _ _ _ ⟨h_a1, (rg_w (lo := 1) (hi := 256) (by decide : rg 1 1 (1 : Int32)) (by decide))⟩ (ms_u0 hN _ (by decide))
  rintro self7 i1 i3 ⟨f2, f4⟩ ih6
  unfold M_top_B4
  refine t_if (fun h8 => ?_) (fun h8 => ?_)
  · have f9 := (rg_leR (lo := 256) (hi := 256) h8 (by decide : rg 256 256 (256 : Int32)) f4 (by decide))
    exact t_some f2
  · have f10 := (rg_ltL (lo := 1) (hi := 255) (i_nle h8) f4 (by decide : rg 256 256 (256 : Int32)) (by decide))
    refine t_if (fun h11 => ?_) (fun h11 => ?_)
    · unfold M_top_J34
      unfold M_top_J35
      refine t_it2 (fun i12 i14 => rg 0 1 i12 ∧ rg 0 8 i14) (fun i12 i14 => (8 - i14.toInt).toNat) ?_ _ _ _ ⟨(rg_w (lo := 0) (hi := 1) (by decide : rg 0 0 (0 : Int32)) (by decide)), (rg_w (lo := 0) (hi := 8) (by decide : rg 0 0 (0 : Int32)) (by decide))⟩ (ms_u0 hN _ (by decide))
      rintro self18 i12 i14 ⟨f13, f15⟩ ih17
      unfold M_top_B40
      refine t_if (fun h19 => ?_) (fun h19 => ?_)
      · unfold M_top_K93
        refine t_if (fun h20 => ?_) (fun h20 => ?_)
        · have f21 := (rg_eqL (lo := 0) (hi := 0) h20 (by decide : rg 0 0 (0 : Int32)) (by decide))
          exact ih6 _ _ ⟨f2, (rg_w (lo := 1) (hi := 256) (rg_add (lo := 2) (hi := 256) f10 (by decide : rg 1 1 (1 : Int32)) (by decide)) (by decide))⟩ (ms_up f10 (by decide : rg 1 1 (1 : Int32)) (by decide))
        · have f22 := (rg_neL (lo := 1) (hi := 1) h20 f13 (by decide : rg 0 0 (0 : Int32)) (by decide))
          exact ih6 _ _ ⟨f10, (rg_w (lo := 1) (hi := 256) (rg_add (lo := 2) (hi := 256) f10 (by decide : rg 1 1 (1 : Int32)) (by decide)) (by decide))⟩ (ms_up f10 (by decide : rg 1 1 (1 : Int32)) (by decide))
      · have f23 := (rg_ltL (lo := 0) (hi := 7) (i_nle h19) f15 hm.n1 (by decide))
        have f24 := (rg_ltR (lo := 1) (hi := 8) (i_nle h19) f15 hm.n1 (by decide))
        refine t_if (fun h25 => ?_) (fun h25 => ?_)
        · have f26 := (rg_eqL (lo := 0) (hi := 0) h25 (by decide : rg 0 0 (0 : Int32)) (by decide))
          unfold M_top_K93
          refine t_if (fun h27 => ?_) (fun h27 => ?_)
          · exact ih6 _ _ ⟨f2, (rg_w (lo := 1) (hi := 256) (rg_add (lo := 2) (hi := 256) f10 (by decide : rg 1 1 (1 : Int32)) (by decide)) (by decide))⟩ (ms_up f10 (by decide : rg 1 1 (1 : Int32)) (by decide))
          · exact absurd (rg_pt f26 (by decide : rg 0 0 (0 : Int32))) h27
        · have f28 := (rg_neL (lo := 1) (hi := 1) h25 f13 (by decide : rg 0 0 (0 : Int32)) (by decide))
          refine t_if (fun h29 => ?_) (fun h29 => ?_)
          · exact ih17 _ _ ⟨(rg_w (lo := 0) (hi := 1) (by decide : rg 1 1 (1 : Int32)) (by decide)), (rg_w (lo := 0) (hi := 8) (rg_add (lo := 1) (hi := 8) f23 (by decide : rg 1 1 (1 : Int32)) (by decide)) (by decide))⟩ (ms_up f23 (by decide : rg 1 1 (1 : Int32)) (by decide))
          · refine t_ob _ (M_beats_t (rg_w (lo := (-1)) (hi := 7) f23 (by decide)) hm) (fun x30 f31 => ?_)
            refine t_if (fun h32 => ?_) (fun h32 => ?_)
            · exact ih17 _ _ ⟨(rg_w (lo := 0) (hi := 1) (by decide : rg 0 0 (0 : Int32)) (by decide)), (rg_w (lo := 0) (hi := 8) (rg_add (lo := 1) (hi := 8) f23 (by decide : rg 1 1 (1 : Int32)) (by decide)) (by decide))⟩ (ms_up f23 (by decide : rg 1 1 (1 : Int32)) (by decide))
            · exact ih17 _ _ ⟨(rg_w (lo := 0) (hi := 1) (by decide : rg 1 1 (1 : Int32)) (by decide)), (rg_w (lo := 0) (hi := 8) (rg_add (lo := 1) (hi := 8) f23 (by decide : rg 1 1 (1 : Int32)) (by decide)) (by decide))⟩ (ms_up f23 (by decide : rg 1 1 (1 : Int32)) (by decide))
    · refine t_ob _ (M_sizeOf_t hN) (fun x33 f34 => ?_)
      refine t_ob _ (M_sizeOf_t hN) (fun x35 f36 => ?_)
      refine t_if (fun h37 => ?_) (fun h37 => ?_)
      · unfold M_top_J34
        unfold M_top_J35
        refine t_it2 (fun i38 i40 => rg 0 1 i38 ∧ rg 0 8 i40) (fun i38 i40 => (8 - i40.toInt).toNat) ?_ _ _ _ ⟨(rg_w (lo := 0) (hi := 1) (by decide : rg 0 0 (0 : Int32)) (by decide)), (rg_w (lo := 0) (hi := 8) (by decide : rg 0 0 (0 : Int32)) (by decide))⟩ (ms_u0 hN _ (by decide))
        rintro self44 i38 i40 ⟨f39, f41⟩ ih43
        unfold M_top_B40
        refine t_if (fun h45 => ?_) (fun h45 => ?_)
        · unfold M_top_K93
          refine t_if (fun h46 => ?_) (fun h46 => ?_)
          · have f47 := (rg_eqL (lo := 0) (hi := 0) h46 (by decide : rg 0 0 (0 : Int32)) (by decide))
            exact ih6 _ _ ⟨f2, (rg_w (lo := 1) (hi := 256) (rg_add (lo := 2) (hi := 256) f10 (by decide : rg 1 1 (1 : Int32)) (by decide)) (by decide))⟩ (ms_up f10 (by decide : rg 1 1 (1 : Int32)) (by decide))
          · have f48 := (rg_neL (lo := 1) (hi := 1) h46 f39 (by decide : rg 0 0 (0 : Int32)) (by decide))
            exact ih6 _ _ ⟨f10, (rg_w (lo := 1) (hi := 256) (rg_add (lo := 2) (hi := 256) f10 (by decide : rg 1 1 (1 : Int32)) (by decide)) (by decide))⟩ (ms_up f10 (by decide : rg 1 1 (1 : Int32)) (by decide))
        · have f49 := (rg_ltL (lo := 0) (hi := 7) (i_nle h45) f41 hm.n1 (by decide))
          have f50 := (rg_ltR (lo := 1) (hi := 8) (i_nle h45) f41 hm.n1 (by decide))
          refine t_if (fun h51 => ?_) (fun h51 => ?_)
          · have f52 := (rg_eqL (lo := 0) (hi := 0) h51 (by decide : rg 0 0 (0 : Int32)) (by decide))
            unfold M_top_K93
            refine t_if (fun h53 => ?_) (fun h53 => ?_)
            · exact ih6 _ _ ⟨f2, (rg_w (lo := 1) (hi := 256) (rg_add (lo := 2) (hi := 256) f10 (by decide : rg 1 1 (1 : Int32)) (by decide)) (by decide))⟩ (ms_up f10 (by decide : rg 1 1 (1 : Int32)) (by decide))
            · exact absurd (rg_pt f52 (by decide : rg 0 0 (0 : Int32))) h53
          · have f54 := (rg_neL (lo := 1) (hi := 1) h51 f39 (by decide : rg 0 0 (0 : Int32)) (by decide))
            refine t_if (fun h55 => ?_) (fun h55 => ?_)
            · exact ih43 _ _ ⟨(rg_w (lo := 0) (hi := 1) (by decide : rg 1 1 (1 : Int32)) (by decide)), (rg_w (lo := 0) (hi := 8) (rg_add (lo := 1) (hi := 8) f49 (by decide : rg 1 1 (1 : Int32)) (by decide)) (by decide))⟩ (ms_up f49 (by decide : rg 1 1 (1 : Int32)) (by decide))
            · refine t_ob _ (M_beats_t (rg_w (lo := (-1)) (hi := 7) f49 (by decide)) hm) (fun x56 f57 => ?_)
              refine t_if (fun h58 => ?_) (fun h58 => ?_)
              · exact ih43 _ _ ⟨(rg_w (lo := 0) (hi := 1) (by decide : rg 0 0 (0 : Int32)) (by decide)), (rg_w (lo := 0) (hi := 8) (rg_add (lo := 1) (hi := 8) f49 (by decide : rg 1 1 (1 : Int32)) (by decide)) (by decide))⟩ (ms_up f49 (by decide : rg 1 1 (1 : Int32)) (by decide))
              · exact ih43 _ _ ⟨(rg_w (lo := 0) (hi := 1) (by decide : rg 1 1 (1 : Int32)) (by decide)), (rg_w (lo := 0) (hi := 8) (rg_add (lo := 1) (hi := 8) f49 (by decide : rg 1 1 (1 : Int32)) (by decide)) (by decide))⟩ (ms_up f49 (by decide : rg 1 1 (1 : Int32)) (by decide))
      · have f59 := (rg_ltL (lo := (-2147483648)) (hi := 2147483646) (i_nle h37) (rg_f _) (rg_f _) (by decide))
        have f60 := (rg_ltR (lo := (-2147483647)) (hi := 2147483647) (i_nle h37) (rg_f _) (rg_f _) (by decide))
        unfold M_top_J35
        refine t_it2 (fun i61 i63 => rg 0 1 i61 ∧ rg 0 8 i63) (fun i61 i63 => (8 - i63.toInt).toNat) ?_ _ _ _ ⟨(rg_w (lo := 0) (hi := 1) (by decide : rg 1 1 (1 : Int32)) (by decide)), (rg_w (lo := 0) (hi := 8) (by decide : rg 0 0 (0 : Int32)) (by decide))⟩ (ms_u0 hN _ (by decide))
        rintro self67 i61 i63 ⟨f62, f64⟩ ih66
        unfold M_top_B40
        refine t_if (fun h68 => ?_) (fun h68 => ?_)
        · unfold M_top_K93
          refine t_if (fun h69 => ?_) (fun h69 => ?_)
          · have f70 := (rg_eqL (lo := 0) (hi := 0) h69 (by decide : rg 0 0 (0 : Int32)) (by decide))
            exact ih6 _ _ ⟨f2, (rg_w (lo := 1) (hi := 256) (rg_add (lo := 2) (hi := 256) f10 (by decide : rg 1 1 (1 : Int32)) (by decide)) (by decide))⟩ (ms_up f10 (by decide : rg 1 1 (1 : Int32)) (by decide))
          · have f71 := (rg_neL (lo := 1) (hi := 1) h69 f62 (by decide : rg 0 0 (0 : Int32)) (by decide))
            exact ih6 _ _ ⟨f10, (rg_w (lo := 1) (hi := 256) (rg_add (lo := 2) (hi := 256) f10 (by decide : rg 1 1 (1 : Int32)) (by decide)) (by decide))⟩ (ms_up f10 (by decide : rg 1 1 (1 : Int32)) (by decide))
        · have f72 := (rg_ltL (lo := 0) (hi := 7) (i_nle h68) f64 hm.n1 (by decide))
          have f73 := (rg_ltR (lo := 1) (hi := 8) (i_nle h68) f64 hm.n1 (by decide))
          refine t_if (fun h74 => ?_) (fun h74 => ?_)
          · have f75 := (rg_eqL (lo := 0) (hi := 0) h74 (by decide : rg 0 0 (0 : Int32)) (by decide))
            unfold M_top_K93
            refine t_if (fun h76 => ?_) (fun h76 => ?_)
            · exact ih6 _ _ ⟨f2, (rg_w (lo := 1) (hi := 256) (rg_add (lo := 2) (hi := 256) f10 (by decide : rg 1 1 (1 : Int32)) (by decide)) (by decide))⟩ (ms_up f10 (by decide : rg 1 1 (1 : Int32)) (by decide))
            · exact absurd (rg_pt f75 (by decide : rg 0 0 (0 : Int32))) h76
          · have f77 := (rg_neL (lo := 1) (hi := 1) h74 f62 (by decide : rg 0 0 (0 : Int32)) (by decide))
            refine t_if (fun h78 => ?_) (fun h78 => ?_)
            · exact ih66 _ _ ⟨(rg_w (lo := 0) (hi := 1) (by decide : rg 1 1 (1 : Int32)) (by decide)), (rg_w (lo := 0) (hi := 8) (rg_add (lo := 1) (hi := 8) f72 (by decide : rg 1 1 (1 : Int32)) (by decide)) (by decide))⟩ (ms_up f72 (by decide : rg 1 1 (1 : Int32)) (by decide))
            · refine t_ob _ (M_beats_t (rg_w (lo := (-1)) (hi := 7) f72 (by decide)) hm) (fun x79 f80 => ?_)
              refine t_if (fun h81 => ?_) (fun h81 => ?_)
              · exact ih66 _ _ ⟨(rg_w (lo := 0) (hi := 1) (by decide : rg 0 0 (0 : Int32)) (by decide)), (rg_w (lo := 0) (hi := 8) (rg_add (lo := 1) (hi := 8) f72 (by decide : rg 1 1 (1 : Int32)) (by decide)) (by decide))⟩ (ms_up f72 (by decide : rg 1 1 (1 : Int32)) (by decide))
              · exact ih66 _ _ ⟨(rg_w (lo := 0) (hi := 1) (by decide : rg 1 1 (1 : Int32)) (by decide)), (rg_w (lo := 0) (hi := 8) (rg_add (lo := 1) (hi := 8) f72 (by decide : rg 1 1 (1 : Int32)) (by decide)) (by decide))⟩ (ms_up f72 (by decide : rg 1 1 (1 : Int32)) (by decide))
theorem M_isKeeping_t {N : Nat} (hN : 8589934592 ≤ N) {a1 : Int32} (h_a1 : rg 0 255 a1) {σ : Mem} (hm : InvM σ) : tot (f_M_isKeeping N a1 σ) (fun r => rg 0 1 r) := by
  unfold f_M_isKeeping
  refine t_if (fun h1 => ?_) (fun h1 => ?_)
  · have f2 := (rg_eqL (lo := 0) (hi := 0) h1 (by decide : rg 0 0 (0 : Int32)) (by decide))
    unfold M_isKeeping_J9
    refine t_it2 (fun i3 i5 => rg 0 1 i3 ∧ rg 0 8 i5) (fun i3 i5 => (8 - i5.toInt).toNat) ?_ _ _ _ ⟨(rg_w (lo := 0) (hi := 1) (by decide : rg 0 0 (0 : Int32)) (by decide)), (rg_w (lo := 0) (hi := 8) (by decide : rg 0 0 (0 : Int32)) (by decide))⟩ (ms_u0 hN _ (by decide))
    rintro self9 i3 i5 ⟨f4, f6⟩ ih8
    unfold M_isKeeping_B12
    refine t_if (fun h10 => ?_) (fun h10 => ?_)
    · refine t_gd (isb_rg f4) ?_
      exact t_some f4
    · have f11 := (rg_ltL (lo := 0) (hi := 7) (i_nle h10) f6 hm.n1 (by decide))
      have f12 := (rg_ltR (lo := 1) (hi := 8) (i_nle h10) f6 hm.n1 (by decide))
      refine t_if (fun h13 => ?_) (fun h13 => ?_)
      · have f14 := (rg_eqL (lo := 0) (hi := 0) h13 (by decide : rg 0 0 (0 : Int32)) (by decide))
        exact ih8 _ _ ⟨(rg_w (lo := 0) (hi := 1) (by decide : rg 0 0 (0 : Int32)) (by decide)), (rg_w (lo := 0) (hi := 8) (rg_add (lo := 1) (hi := 8) f11 (by decide : rg 1 1 (1 : Int32)) (by decide)) (by decide))⟩ (ms_up f11 (by decide : rg 1 1 (1 : Int32)) (by decide))
      · have f15 := (rg_neL (lo := 1) (hi := 1) h13 f4 (by decide : rg 0 0 (0 : Int32)) (by decide))
        refine t_if (fun h16 => ?_) (fun h16 => ?_)
        · exact ih8 _ _ ⟨(rg_w (lo := 0) (hi := 1) (by decide : rg 1 1 (1 : Int32)) (by decide)), (rg_w (lo := 0) (hi := 8) (rg_add (lo := 1) (hi := 8) f11 (by decide : rg 1 1 (1 : Int32)) (by decide)) (by decide))⟩ (ms_up f11 (by decide : rg 1 1 (1 : Int32)) (by decide))
        · refine t_ob _ (M_over_t f11 hm) (fun x17 f18 => ?_)
          refine t_gd (inb_rg f18 (by decide)) ?_
          refine t_if (fun h19 => ?_) (fun h19 => ?_)
          · exact ih8 _ _ ⟨(rg_w (lo := 0) (hi := 1) (by decide : rg 0 0 (0 : Int32)) (by decide)), (rg_w (lo := 0) (hi := 8) (rg_add (lo := 1) (hi := 8) f11 (by decide : rg 1 1 (1 : Int32)) (by decide)) (by decide))⟩ (ms_up f11 (by decide : rg 1 1 (1 : Int32)) (by decide))
          · have f20 := (c_wi (lo := 0) (hi := 0) h19 f2 (by decide))
            exact ih8 _ _ ⟨(rg_w (lo := 0) (hi := 1) (by decide : rg 1 1 (1 : Int32)) (by decide)), (rg_w (lo := 0) (hi := 8) (rg_add (lo := 1) (hi := 8) f11 (by decide : rg 1 1 (1 : Int32)) (by decide)) (by decide))⟩ (ms_up f11 (by decide : rg 1 1 (1 : Int32)) (by decide))
  · have f21 := (rg_neL (lo := 1) (hi := 255) h1 h_a1 (by decide : rg 0 0 (0 : Int32)) (by decide))
    unfold M_isKeeping_J9
    refine t_it2 (fun i22 i24 => rg 0 1 i22 ∧ rg 0 8 i24) (fun i22 i24 => (8 - i24.toInt).toNat) ?_ _ _ _ ⟨(rg_w (lo := 0) (hi := 1) (by decide : rg 1 1 (1 : Int32)) (by decide)), (rg_w (lo := 0) (hi := 8) (by decide : rg 0 0 (0 : Int32)) (by decide))⟩ (ms_u0 hN _ (by decide))
    rintro self28 i22 i24 ⟨f23, f25⟩ ih27
    unfold M_isKeeping_B12
    refine t_if (fun h29 => ?_) (fun h29 => ?_)
    · refine t_gd (isb_rg f23) ?_
      exact t_some f23
    · have f30 := (rg_ltL (lo := 0) (hi := 7) (i_nle h29) f25 hm.n1 (by decide))
      have f31 := (rg_ltR (lo := 1) (hi := 8) (i_nle h29) f25 hm.n1 (by decide))
      refine t_if (fun h32 => ?_) (fun h32 => ?_)
      · have f33 := (rg_eqL (lo := 0) (hi := 0) h32 (by decide : rg 0 0 (0 : Int32)) (by decide))
        exact ih27 _ _ ⟨(rg_w (lo := 0) (hi := 1) (by decide : rg 0 0 (0 : Int32)) (by decide)), (rg_w (lo := 0) (hi := 8) (rg_add (lo := 1) (hi := 8) f30 (by decide : rg 1 1 (1 : Int32)) (by decide)) (by decide))⟩ (ms_up f30 (by decide : rg 1 1 (1 : Int32)) (by decide))
      · have f34 := (rg_neL (lo := 1) (hi := 1) h32 f23 (by decide : rg 0 0 (0 : Int32)) (by decide))
        refine t_if (fun h35 => ?_) (fun h35 => ?_)
        · exact ih27 _ _ ⟨(rg_w (lo := 0) (hi := 1) (by decide : rg 1 1 (1 : Int32)) (by decide)), (rg_w (lo := 0) (hi := 8) (rg_add (lo := 1) (hi := 8) f30 (by decide : rg 1 1 (1 : Int32)) (by decide)) (by decide))⟩ (ms_up f30 (by decide : rg 1 1 (1 : Int32)) (by decide))
        · refine t_ob _ (M_over_t f30 hm) (fun x36 f37 => ?_)
          refine t_gd (inb_rg f37 (by decide)) ?_
          refine t_if (fun h38 => ?_) (fun h38 => ?_)
          · exact ih27 _ _ ⟨(rg_w (lo := 0) (hi := 1) (by decide : rg 0 0 (0 : Int32)) (by decide)), (rg_w (lo := 0) (hi := 8) (rg_add (lo := 1) (hi := 8) f30 (by decide : rg 1 1 (1 : Int32)) (by decide)) (by decide))⟩ (ms_up f30 (by decide : rg 1 1 (1 : Int32)) (by decide))
          · exact ih27 _ _ ⟨(rg_w (lo := 0) (hi := 1) (by decide : rg 1 1 (1 : Int32)) (by decide)), (rg_w (lo := 0) (hi := 8) (rg_add (lo := 1) (hi := 8) f30 (by decide : rg 1 1 (1 : Int32)) (by decide)) (by decide))⟩ (ms_up f30 (by decide : rg 1 1 (1 : Int32)) (by decide))
theorem M_judged_t {a1 : Int32} {σ : Mem} (hm : InvM σ) : tot (f_M_judged a1 σ) (fun q => rg (-2147483648) 2147483647 q.1 ∧ KM [0] [] σ q.2) := by
  unfold f_M_judged
  refine t_lm (KM [0] [] σ) (km_s (km_r hm) (by decide) (mS0 hm)) (fun s1 e3 k2 => ?_)
  refine t_if (fun h4 => ?_) (fun h4 => ?_)
  · have f5 := (rg_eqL (lo := 0) (hi := 0) h4 (by decide : rg 0 0 (0 : Int32)) (by decide))
    exact t_some ⟨(rg_f _), k2⟩
  · refine t_sw1 (fun h6 => ?_) (fun _ => ?_)
    · have f7 := (rg_eqL (lo := 0) (hi := 0) h6 (by decide : rg 0 0 (0 : Int32)) (by decide))
      exact t_some ⟨(rg_f _), k2⟩
    refine t_sw1 (fun h8 => ?_) (fun _ => ?_)
    · have f9 := (rg_eqL (lo := 1) (hi := 1) h8 (by decide : rg 1 1 (1 : Int32)) (by decide))
      exact t_some ⟨(rg_f _), k2⟩
    refine t_sw1 (fun h10 => ?_) (fun _ => ?_)
    · have f11 := (rg_eqL (lo := 2) (hi := 2) h10 (by decide : rg 2 2 (2 : Int32)) (by decide))
      exact t_some ⟨(rg_f _), k2⟩
    refine t_sw1 (fun h12 => ?_) (fun _ => ?_)
    · have f13 := (rg_eqL (lo := 3) (hi := 3) h12 (by decide : rg 3 3 (3 : Int32)) (by decide))
      exact t_some ⟨(rg_f _), k2⟩
    refine t_sw0 ?_
    exact t_some ⟨(rg_f _), k2⟩
theorem M_isWholeRound_t {N : Nat} (hN : 8589934592 ≤ N) {a1 : Int32} (h_a1 : rg 0 8 a1) {σ : Mem} (hm : InvM σ) : tot (f_M_isWholeRound N a1 σ) (fun r => rg 0 1 r) := by
  unfold f_M_isWholeRound
  refine t_it2 (fun i1 i3 => rg 0 1 i1 ∧ rg 0 8 i3) (fun i1 i3 => (8 - i3.toInt).toNat) ?_ _ _ _ ⟨(rg_w (lo := 0) (hi := 1) (by decide : rg 1 1 (1 : Int32)) (by decide)), (rg_w (lo := 0) (hi := 8) (by decide : rg 0 0 (0 : Int32)) (by decide))⟩ (ms_u0 hN _ (by decide))
  rintro self7 i1 i3 ⟨f2, f4⟩ ih6
  unfold M_isWholeRound_B4
  refine t_if (fun h8 => ?_) (fun h8 => ?_)
  · refine t_gd (isb_rg f2) ?_
    exact t_some f2
  · have f9 := (rg_ltL (lo := 0) (hi := 7) (i_nle h8) f4 h_a1 (by decide))
    have f10 := (rg_ltR (lo := 1) (hi := 8) (i_nle h8) f4 h_a1 (by decide))
    refine t_if (fun h11 => ?_) (fun h11 => ?_)
    · have f12 := (rg_eqL (lo := 0) (hi := 0) h11 (by decide : rg 0 0 (0 : Int32)) (by decide))
      exact ih6 _ _ ⟨(rg_w (lo := 0) (hi := 1) (by decide : rg 0 0 (0 : Int32)) (by decide)), (rg_w (lo := 0) (hi := 8) (rg_add (lo := 1) (hi := 8) f9 (by decide : rg 1 1 (1 : Int32)) (by decide)) (by decide))⟩ (ms_up f9 (by decide : rg 1 1 (1 : Int32)) (by decide))
    · have f13 := (rg_neL (lo := 1) (hi := 1) h11 f2 (by decide : rg 0 0 (0 : Int32)) (by decide))
      refine t_gd (inb_rg f9 (by decide)) ?_
      refine t_if (fun h14 => ?_) (fun h14 => ?_)
      · exact ih6 _ _ ⟨(rg_w (lo := 0) (hi := 1) (by decide : rg 1 1 (1 : Int32)) (by decide)), (rg_w (lo := 0) (hi := 8) (rg_add (lo := 1) (hi := 8) f9 (by decide : rg 1 1 (1 : Int32)) (by decide)) (by decide))⟩ (ms_up f9 (by decide : rg 1 1 (1 : Int32)) (by decide))
      · exact ih6 _ _ ⟨(rg_w (lo := 0) (hi := 1) (by decide : rg 0 0 (0 : Int32)) (by decide)), (rg_w (lo := 0) (hi := 8) (rg_add (lo := 1) (hi := 8) f9 (by decide : rg 1 1 (1 : Int32)) (by decide)) (by decide))⟩ (ms_up f9 (by decide : rg 1 1 (1 : Int32)) (by decide))
theorem M_areNamesR_t {N : Nat} (hN : 8589934592 ≤ N) {a1 : Int32} (h_a1 : rg 1 1 a1) {σ : Mem} (hm : InvM σ) : tot (f_M_areNamesR N a1 σ) (fun r => rg 0 1 r) := by
  unfold f_M_areNamesR
  refine t_le 0 8 hm.n1 (fun x1 e3 f2 => ?_)
  refine t_it1 (fun i4 => rg 0 8 i4) (fun i4 => (8 - i4.toInt).toNat) ?_ _ _ (rg_w (lo := 0) (hi := 8) (by decide : rg 0 0 (0 : Int32)) (by decide)) (ms_u0 hN _ (by decide))
  rintro self8 i4 f5 ih7
  unfold M_areNamesR_B8
  refine t_if (fun h9 => ?_) (fun h9 => ?_)
  · exact t_some (rg_w (lo := 0) (hi := 1) (by decide : rg 1 1 (1 : Int32)) (by decide))
  · have f10 := (rg_ltL (lo := 0) (hi := 7) (i_nle h9) f5 f2 (by decide))
    have f11 := (rg_ltR (lo := 1) (hi := 8) (i_nle h9) f5 f2 (by decide))
    refine t_le 1 8 (rg_add (lo := 1) (hi := 8) f10 (by decide : rg 1 1 (1 : Int32)) (by decide)) (fun x12 e14 f13 => ?_)
    refine t_it1 (fun i15 => rg 1 8 i15) (fun i15 => (8 - i15.toInt).toNat) ?_ _ _ f13 (ms_u0 hN _ (by decide))
    rintro self19 i15 f16 ih18
    unfold M_areNamesR_B20
    refine t_if (fun h20 => ?_) (fun h20 => ?_)
    · exact ih7 _ (rg_w (lo := 0) (hi := 8) (rg_add (lo := 1) (hi := 8) f10 (by decide : rg 1 1 (1 : Int32)) (by decide)) (by decide)) (ms_up f10 (by decide : rg 1 1 (1 : Int32)) (by decide))
    · have f21 := (rg_ltL (lo := 1) (hi := 7) (i_nle h20) f16 f11 (by decide))
      have f22 := (rg_ltR (lo := 2) (hi := 8) (i_nle h20) f16 f11 (by decide))
      refine t_ob _ (M_beats_t (rg_w (lo := (-1)) (hi := 7) f10 (by decide)) hm) (fun x23 f24 => ?_)
      refine t_gd (inb_rg f10 (by decide)) ?_
      refine t_gd (inb_rg (rg_add (lo := 1) (hi := 8) h_a1 (hm.r26 _) (by decide)) (by decide)) ?_
      refine t_gd (inb_rg f21 (by decide)) ?_
      refine t_if (fun h25 => ?_) (fun h25 => ?_)
      · exact ih18 _ (rg_w (lo := 1) (hi := 8) (rg_add (lo := 2) (hi := 8) f21 (by decide : rg 1 1 (1 : Int32)) (by decide)) (by decide)) (ms_up f21 (by decide : rg 1 1 (1 : Int32)) (by decide))
      · exact t_some (rg_w (lo := 0) (hi := 1) (by decide : rg 0 0 (0 : Int32)) (by decide))
