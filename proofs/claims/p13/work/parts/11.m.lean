/-! totality by ranges, written by wip/gen/mkauto.py -/
theorem M_alike_t {N : Nat} (hN : 8589934592 ≤ N) {a1 : Int32} {a2 : Int32} {σ : Mem} (hm : InvM σ) : tot (f_M_alike N a1 a2 σ) (fun q => rg (-2147483648) 2147483647 q.1 ∧ KM [0, 26] [] σ q.2) := by
  unfold f_M_alike
  refine t_lm (KM [0, 26] [] σ) (km_s (km_r hm) (by decide) (mS0 hm)) (fun s1 e3 k2 => ?_)
  refine t_if (fun h4 => ?_) (fun h4 => ?_)
  · exact t_some ⟨(rg_f _), k2⟩
  · have f5 := (c_in (lo := 0) (hi := 1) h4 (by decide))
    refine t_gd (inb_rg f5 (by decide)) ?_
    refine t_if (fun h6 => ?_) (fun h6 => ?_)
    · have f7 := (rg_eqL (lo := 0) (hi := 0) h6 (by decide : rg 0 0 (0 : Int32)) (by decide))
      exact t_some ⟨(rg_f _), k2⟩
    · have f8 := (rg_neL (lo := 1) (hi := 1) h6 (k2.1.r5 _) (by decide : rg 0 0 (0 : Int32)) (by decide))
      refine t_if (fun h9 => ?_) (fun h9 => ?_)
      · exact t_some ⟨(rg_f _), k2⟩
      · have f10 := (c_in (lo := 0) (hi := 1) h9 (by decide))
        refine t_if (fun h11 => ?_) (fun h11 => ?_)
        · have f12 := (rg_eqL (lo := 0) (hi := 0) h11 (by decide : rg 0 0 (0 : Int32)) (by decide))
          refine t_ob2 (fun r s => rg 0 1 r ∧ KM [26] [] s1 s) (M_isAlike_t hN f5 k2.1) (fun x16 s13 ⟨f17, k14⟩ => ?_)
          have k15 := km_t (S := [0, 26]) (J := []) k2 k14 (by decide) (by decide)
          refine t_if (fun h18 => ?_) (fun h18 => ?_)
          · have f19 := (rg_eqL (lo := 0) (hi := 0) h18 (by decide : rg 0 0 (0 : Int32)) (by decide))
            exact t_some ⟨(rg_f _), k15⟩
          · have f20 := (rg_neL (lo := 1) (hi := 1) h18 f17 (by decide : rg 0 0 (0 : Int32)) (by decide))
            exact t_some ⟨(rg_f _), k15⟩
        · have f21 := (rg_neL (lo := 1) (hi := 1) h11 f10 (by decide : rg 0 0 (0 : Int32)) (by decide))
          refine t_gd (inb_rg (rg_mul (lo := 0) (hi := 9) (by decide : rg 9 9 (9 : Int32)) f5 (by decide)) (by decide)) ?_
          refine t_if (fun h22 => ?_) (fun h22 => ?_)
          · unfold M_alike_J88
            refine t_it2 (fun i23 i24 => rg 0 8 i24) (fun i23 i24 => (8 - i24.toInt).toNat) ?_ _ _ _ (rg_w (lo := 0) (hi := 8) (by decide : rg 0 0 (0 : Int32)) (by decide)) (ms_u0 hN _ (by decide))
            rintro self28 i23 i24 f25 ih27
            unfold M_alike_B93
            refine t_if (fun h29 => ?_) (fun h29 => ?_)
            · exact t_some ⟨(rg_f _), k2⟩
            · have f30 := (rg_ltL (lo := 0) (hi := 7) (i_nle h29) f25 k2.1.n1 (by decide))
              have f31 := (rg_ltR (lo := 1) (hi := 8) (i_nle h29) f25 k2.1.n1 (by decide))
              refine t_le 1 8 (rg_add (lo := 1) (hi := 8) f30 (by decide : rg 1 1 (1 : Int32)) (by decide)) (fun x32 e34 f33 => ?_)
              refine t_it2 (fun i35 i36 => rg 1 8 i36) (fun i35 i36 => (8 - i36.toInt).toNat) ?_ _ _ _ f33 (ms_u0 hN _ (by decide))
              rintro self40 i35 i36 f37 ih39
              unfold M_alike_B106
              refine t_if (fun h41 => ?_) (fun h41 => ?_)
              · exact ih27 _ _ (rg_w (lo := 0) (hi := 8) (rg_add (lo := 1) (hi := 8) f30 (by decide : rg 1 1 (1 : Int32)) (by decide)) (by decide)) (ms_up f30 (by decide : rg 1 1 (1 : Int32)) (by decide))
              · have f42 := (rg_ltL (lo := 1) (hi := 7) (i_nle h41) f37 f31 (by decide))
                have f43 := (rg_ltR (lo := 2) (hi := 8) (i_nle h41) f37 f31 (by decide))
                refine t_ob _ (M_beats_t (rg_w (lo := (-1)) (hi := 7) f30 (by decide)) k2.1) (fun x44 f45 => ?_)
                refine t_gd (inb_rg (rg_add (lo := 1) (hi := 17) (rg_add (lo := 1) (hi := 10) (rg_mul (lo := 0) (hi := 9) (by decide : rg 9 9 (9 : Int32)) f5 (by decide)) (by decide : rg 1 1 (1 : Int32)) (by decide)) f30 (by decide)) (by decide)) ?_
                refine t_if (fun h46 => ?_) (fun h46 => ?_)
                · refine t_le (-2147483648) 2147483647 (rg_add (lo := (-2147483648)) (hi := 2147483647) (rg_f _) (by decide : rg 0 0 (0 : Int32)) (by decide)) (fun x47 e49 f48 => ?_)
                  exact ih39 _ _ (rg_w (lo := 1) (hi := 8) (rg_add (lo := 2) (hi := 8) f42 (by decide : rg 1 1 (1 : Int32)) (by decide)) (by decide)) (ms_up f42 (by decide : rg 1 1 (1 : Int32)) (by decide))
                · refine t_le (-2147483648) 2147483647 (rg_f _) (fun x50 e52 f51 => ?_)
                  exact ih39 _ _ (rg_w (lo := 1) (hi := 8) (rg_add (lo := 2) (hi := 8) f42 (by decide : rg 1 1 (1 : Int32)) (by decide)) (by decide)) (ms_up f42 (by decide : rg 1 1 (1 : Int32)) (by decide))
          · have f53 := (rg_ltL (lo := 0) (hi := 7) (i_nle h22) (k2.1.r4 _) k2.1.n1 (by decide))
            have f54 := (rg_ltR (lo := 1) (hi := 8) (i_nle h22) (k2.1.r4 _) k2.1.n1 (by decide))
            refine t_gd (inb_rg (rg_mul (lo := 0) (hi := 9) (by decide : rg 9 9 (9 : Int32)) f5 (by decide)) (by decide)) ?_
            unfold M_alike_J88
            refine t_it2 (fun i55 i56 => rg 0 8 i56) (fun i55 i56 => (8 - i56.toInt).toNat) ?_ _ _ _ (rg_w (lo := 0) (hi := 8) (by decide : rg 0 0 (0 : Int32)) (by decide)) (ms_u0 hN _ (by decide))
            rintro self60 i55 i56 f57 ih59
            unfold M_alike_B93
            refine t_if (fun h61 => ?_) (fun h61 => ?_)
            · exact t_some ⟨(rg_f _), k2⟩
            · have f62 := (rg_ltL (lo := 0) (hi := 6) (i_nle h61) f57 f53 (by decide))
              have f63 := (rg_ltR (lo := 1) (hi := 7) (i_nle h61) f57 f53 (by decide))
              refine t_le 1 7 (rg_add (lo := 1) (hi := 7) f62 (by decide : rg 1 1 (1 : Int32)) (by decide)) (fun x64 e66 f65 => ?_)
              refine t_it2 (fun i67 i68 => rg 1 8 i68) (fun i67 i68 => (8 - i68.toInt).toNat) ?_ _ _ _ (rg_w (lo := 1) (hi := 8) f65 (by decide)) (ms_u0 hN _ (by decide))
              rintro self72 i67 i68 f69 ih71
              unfold M_alike_B106
              refine t_if (fun h73 => ?_) (fun h73 => ?_)
              · exact ih59 _ _ (rg_w (lo := 0) (hi := 8) (rg_add (lo := 1) (hi := 7) f62 (by decide : rg 1 1 (1 : Int32)) (by decide)) (by decide)) (ms_up f62 (by decide : rg 1 1 (1 : Int32)) (by decide))
              · have f74 := (rg_ltL (lo := 1) (hi := 6) (i_nle h73) f69 f63 (by decide))
                have f75 := (rg_ltR (lo := 2) (hi := 7) (i_nle h73) f69 f63 (by decide))
                refine t_ob _ (M_beats_t (rg_w (lo := (-1)) (hi := 7) f62 (by decide)) k2.1) (fun x76 f77 => ?_)
                refine t_gd (inb_rg (rg_add (lo := 1) (hi := 16) (rg_add (lo := 1) (hi := 10) (rg_mul (lo := 0) (hi := 9) (by decide : rg 9 9 (9 : Int32)) f5 (by decide)) (by decide : rg 1 1 (1 : Int32)) (by decide)) f62 (by decide)) (by decide)) ?_
                refine t_if (fun h78 => ?_) (fun h78 => ?_)
                · refine t_le (-2147483648) 2147483647 (rg_add (lo := (-2147483648)) (hi := 2147483647) (rg_f _) (by decide : rg 0 0 (0 : Int32)) (by decide)) (fun x79 e81 f80 => ?_)
                  exact ih71 _ _ (rg_w (lo := 1) (hi := 8) (rg_add (lo := 2) (hi := 7) f74 (by decide : rg 1 1 (1 : Int32)) (by decide)) (by decide)) (ms_up f74 (by decide : rg 1 1 (1 : Int32)) (by decide))
                · refine t_le (-2147483648) 2147483647 (rg_f _) (fun x82 e84 f83 => ?_)
                  exact ih71 _ _ (rg_w (lo := 1) (hi := 8) (rg_add (lo := 2) (hi := 7) f74 (by decide : rg 1 1 (1 : Int32)) (by decide)) (by decide)) (ms_up f74 (by decide : rg 1 1 (1 : Int32)) (by decide))
theorem M_chain_t {N : Nat} (hN : 8589934592 ≤ N) {a1 : Int32} {a2 : Int32} {a3 : Int32} {σ : Mem} (hm : InvM σ) : tot (f_M_chain N a1 a2 a3 σ) (fun q => rg (-3) 9 q.1 ∧ KM [0, 13, 14, 15, 16, 17] [] σ q.2) := by
  unfold f_M_chain
  refine t_lm (KM [0, 13, 14, 15, 16, 17] [] σ) (km_s (km_r hm) (by decide) (mS0 hm)) (fun s1 e3 k2 => ?_)
  refine t_if (fun h4 => ?_) (fun h4 => ?_)
  · exact t_some ⟨(rg_w (lo := (-3)) (hi := 9) (by decide : rg (-1) (-1) (-1 : Int32)) (by decide)), k2⟩
  · have f5 := (c_mso h4 k2.1)
    refine t_if (fun h6 => ?_) (fun h6 => ?_)
    · exact t_some ⟨(rg_w (lo := (-3)) (hi := 9) (by decide : rg (-1) (-1) (-1 : Int32)) (by decide)), k2⟩
    · have f7 := (c_mpl h6 k2.1)
      refine t_if (fun h8 => ?_) (fun h8 => ?_)
      · exact t_some ⟨(rg_w (lo := (-3)) (hi := 9) (by decide : rg (-1) (-1) (-1 : Int32)) (by decide)), k2⟩
      · refine t_if (fun h9 => ?_) (fun h9 => ?_)
        · have f10 := (rg_leR (lo := (-1)) (hi := 2147483647) h9 (by decide : rg (-1) (-1) (-1 : Int32)) (rg_f _) (by decide))
          refine t_ob2 (fun r s => rg 0 1 r ∧ KM [13, 14, 15, 16, 17] [] s1 s) (M_hasChain_t hN f7 f5 k2.1) (fun x14 s11 ⟨f15, k12⟩ => ?_)
          have k13 := km_t (S := [0, 13, 14, 15, 16, 17]) (J := []) k2 k12 (by decide) (by decide)
          refine t_if (fun h16 => ?_) (fun h16 => ?_)
          · have f17 := (rg_eqL (lo := 0) (hi := 0) h16 (by decide : rg 0 0 (0 : Int32)) (by decide))
            exact t_some ⟨(rg_w (lo := (-3)) (hi := 9) (by decide : rg (-3) (-3) (-3 : Int32)) (by decide)), k13⟩
          · have f18 := (rg_neL (lo := 1) (hi := 1) h16 f15 (by decide : rg 0 0 (0 : Int32)) (by decide))
            refine t_if (fun h19 => ?_) (fun h19 => ?_)
            · have f20 := (rg_eqL (lo := (-1)) (hi := (-1)) h19 (by decide : rg (-1) (-1) (-1 : Int32)) (by decide))
              exact t_some ⟨(rg_w (lo := (-3)) (hi := 9) (k13.1.r17 _) (by decide)), k13⟩
            · have f21 := (rg_neL (lo := 0) (hi := 2147483647) h19 f10 (by decide : rg (-1) (-1) (-1 : Int32)) (by decide))
              refine t_if (fun h22 => ?_) (fun h22 => ?_)
              · exact t_some ⟨(rg_w (lo := (-3)) (hi := 9) (by decide : rg (-1) (-1) (-1 : Int32)) (by decide)), k13⟩
              · have f23 := (rg_ltL (lo := 0) (hi := 8) (i_nle h22) f21 (k13.1.r17 _) (by decide))
                have f24 := (rg_ltR (lo := 1) (hi := 9) (i_nle h22) f21 (k13.1.r17 _) (by decide))
                refine t_gd (inb_rg f23 (by decide)) ?_
                exact t_some ⟨(rg_w (lo := (-3)) (hi := 9) (k13.1.r13 _) (by decide)), k13⟩
        · have f25 := (rg_ltL (lo := (-2147483648)) (hi := (-2)) (i_nle h9) (rg_f _) (by decide : rg (-1) (-1) (-1 : Int32)) (by decide))
          exact t_some ⟨(rg_w (lo := (-3)) (hi := 9) (by decide : rg (-1) (-1) (-1 : Int32)) (by decide)), k2⟩
theorem M_layKeeping_t {N : Nat} (hN : 8589934592 ≤ N) {σ : Mem} (hm : InvM σ) : tot (f_M_layKeeping N σ) (fun s => KM [22, 23] [] σ s) := by
  unfold f_M_layKeeping
  refine t_lm (KM [22, 23] [] σ) (km_s (km_r hm) (by decide) (mS22 hm (rg_w (lo := 0) (hi := 255) (by decide : rg 0 0 (0 : Int32)) (by decide)))) (fun s1 e3 k2 => ?_)
  refine t_it2 (fun i4 s6 => rg 1 256 i4 ∧ KM [22, 23] [] σ s6) (fun i4 s6 => (256 - i4.toInt).toNat) ?_ _ _ _ ⟨(rg_w (lo := 1) (hi := 256) (by decide : rg 1 1 (1 : Int32)) (by decide)), k2⟩ (ms_u0 hN _ (by decide))
  rintro self10 i4 s6 ⟨f5, k7⟩ ih9
  unfold M_layKeeping_B9
  refine t_if (fun h11 => ?_) (fun h11 => ?_)
  · exact t_some k7
  · have f12 := (rg_leL (lo := 1) (hi := 255) (i_nlt h11) f5 (al_rg k7.1) (by decide))
    have f13 := (rg_leR (lo := 1) (hi := 255) (i_nlt h11) f5 (al_rg k7.1) (by decide))
    refine t_it2 (fun i14 s16 => rg 0 8 i14 ∧ KM [22, 23] [] σ s16) (fun i14 s16 => (8 - i14.toInt).toNat) ?_ _ _ _ ⟨(rg_w (lo := 0) (hi := 8) (by decide : rg 0 0 (0 : Int32)) (by decide)), k7⟩ (ms_u0 hN _ (by decide))
    rintro self20 i14 s16 ⟨f15, k17⟩ ih19
    unfold M_layKeeping_B19
    refine t_if (fun h21 => ?_) (fun h21 => ?_)
    · unfold M_layKeeping_K57
      refine t_it2 (fun i22 i24 => rg 0 255 i22 ∧ rg 0 8 i24) (fun i22 i24 => (8 - i24.toInt).toNat) ?_ _ _ _ ⟨(rg_w (lo := 0) (hi := 255) (by decide : rg 0 0 (0 : Int32)) (by decide)), (rg_w (lo := 0) (hi := 8) (by decide : rg 0 0 (0 : Int32)) (by decide))⟩ (ms_u0 hN _ (by decide))
      rintro self28 i22 i24 ⟨f23, f25⟩ ih27
      unfold M_layKeeping_B61
      refine t_if (fun h29 => ?_) (fun h29 => ?_)
      · unfold M_layKeeping_K156
        refine t_gd (inb_rg f12 (by decide)) ?_
        refine t_lm (KM [22, 23] [] σ) (km_s k17 (by decide) (mS22 k17.1 f23)) (fun s30 e32 k31 => ?_)
        exact ih9 _ _ ⟨(rg_w (lo := 1) (hi := 256) (rg_add (lo := 2) (hi := 256) f12 (by decide : rg 1 1 (1 : Int32)) (by decide)) (by decide)), k31⟩ (ms_up f12 (by decide : rg 1 1 (1 : Int32)) (by decide))
      · have f33 := (rg_ltL (lo := 0) (hi := 7) (i_nle h29) f25 k17.1.n1 (by decide))
        have f34 := (rg_ltR (lo := 1) (hi := 8) (i_nle h29) f25 k17.1.n1 (by decide))
        refine t_it2 (fun i35 i37 => rg 0 1 i35 ∧ rg 0 8 i37) (fun i35 i37 => (8 - i37.toInt).toNat) ?_ _ _ _ ⟨(rg_w (lo := 0) (hi := 1) (by decide : rg 1 1 (1 : Int32)) (by decide)), (rg_w (lo := 0) (hi := 8) (by decide : rg 0 0 (0 : Int32)) (by decide))⟩ (ms_u0 hN _ (by decide))
        rintro self41 i35 i37 ⟨f36, f38⟩ ih40
        unfold M_layKeeping_B75
        refine t_if (fun h42 => ?_) (fun h42 => ?_)
        · have f43 := (rg_leR (lo := 1) (hi := 8) h42 f34 f38 (by decide))
          unfold M_layKeeping_K132
          refine t_if (fun h44 => ?_) (fun h44 => ?_)
          · have f45 := (rg_eqL (lo := 0) (hi := 0) h44 (by decide : rg 0 0 (0 : Int32)) (by decide))
            refine t_le 0 255 (rg_or (lo := 0) (hi := 255) 8 f23 (by decide : rg 0 0 (0 : Int32)) (by decide)) (fun x46 e48 f47 => ?_)
            exact ih27 _ _ ⟨f47, (rg_w (lo := 0) (hi := 8) (rg_add (lo := 1) (hi := 8) f33 (by decide : rg 1 1 (1 : Int32)) (by decide)) (by decide))⟩ (ms_up f33 (by decide : rg 1 1 (1 : Int32)) (by decide))
          · have f49 := (rg_neL (lo := 1) (hi := 1) h44 f36 (by decide : rg 0 0 (0 : Int32)) (by decide))
            refine t_gd (inb_rg f33 (by decide)) ?_
            refine t_le 0 255 (rg_or (lo := 0) (hi := 255) 8 f23 (k17.1.r23 _) (by decide)) (fun x50 e52 f51 => ?_)
            exact ih27 _ _ ⟨f51, (rg_w (lo := 0) (hi := 8) (rg_add (lo := 1) (hi := 8) f33 (by decide : rg 1 1 (1 : Int32)) (by decide)) (by decide))⟩ (ms_up f33 (by decide : rg 1 1 (1 : Int32)) (by decide))
        · have f53 := (rg_ltL (lo := 0) (hi := 7) (i_nle h42) f38 f34 (by decide))
          refine t_if (fun h54 => ?_) (fun h54 => ?_)
          · have f55 := (rg_eqL (lo := 0) (hi := 0) h54 (by decide : rg 0 0 (0 : Int32)) (by decide))
            exact ih40 _ _ ⟨(rg_w (lo := 0) (hi := 1) (by decide : rg 0 0 (0 : Int32)) (by decide)), (rg_w (lo := 0) (hi := 8) (rg_add (lo := 1) (hi := 8) f53 (by decide : rg 1 1 (1 : Int32)) (by decide)) (by decide))⟩ (ms_up f53 (by decide : rg 1 1 (1 : Int32)) (by decide))
          · have f56 := (rg_neL (lo := 1) (hi := 1) h54 f36 (by decide : rg 0 0 (0 : Int32)) (by decide))
            refine t_gd (inb_rg f33 (by decide)) ?_
            refine t_if (fun h57 => ?_) (fun h57 => ?_)
            · exact ih40 _ _ ⟨(rg_w (lo := 0) (hi := 1) (by decide : rg 1 1 (1 : Int32)) (by decide)), (rg_w (lo := 0) (hi := 8) (rg_add (lo := 1) (hi := 8) f53 (by decide : rg 1 1 (1 : Int32)) (by decide)) (by decide))⟩ (ms_up f53 (by decide : rg 1 1 (1 : Int32)) (by decide))
            · refine t_gd (inb_rg f53 (by decide)) ?_
              refine t_gd (inb_rg f33 (by decide)) ?_
              refine t_if (fun h58 => ?_) (fun h58 => ?_)
              · exact ih40 _ _ ⟨(rg_w (lo := 0) (hi := 1) (by decide : rg 1 1 (1 : Int32)) (by decide)), (rg_w (lo := 0) (hi := 8) (rg_add (lo := 1) (hi := 8) f53 (by decide : rg 1 1 (1 : Int32)) (by decide)) (by decide))⟩ (ms_up f53 (by decide : rg 1 1 (1 : Int32)) (by decide))
              · exact ih40 _ _ ⟨(rg_w (lo := 0) (hi := 1) (by decide : rg 0 0 (0 : Int32)) (by decide)), (rg_w (lo := 0) (hi := 8) (rg_add (lo := 1) (hi := 8) f53 (by decide : rg 1 1 (1 : Int32)) (by decide)) (by decide))⟩ (ms_up f53 (by decide : rg 1 1 (1 : Int32)) (by decide))
    · have f59 := (rg_ltL (lo := 0) (hi := 7) (i_nle h21) f15 k17.1.n1 (by decide))
      have f60 := (rg_ltR (lo := 1) (hi := 8) (i_nle h21) f15 k17.1.n1 (by decide))
      refine t_if (fun h61 => ?_) (fun h61 => ?_)
      · unfold M_layKeeping_J50
        refine t_gd (inb_rg f59 (by decide)) ?_
        refine t_lm (KM [22, 23] [] σ) (km_s k17 (by decide) (mS23 k17.1 (rg_w (lo := 0) (hi := 255) (by decide : rg 0 0 (0 : Int32)) (by decide)))) (fun s62 e64 k63 => ?_)
        exact ih19 _ _ ⟨(rg_w (lo := 0) (hi := 8) (rg_add (lo := 1) (hi := 8) f59 (by decide : rg 1 1 (1 : Int32)) (by decide)) (by decide)), k63⟩ (ms_up f59 (by decide : rg 1 1 (1 : Int32)) (by decide))
      · refine t_ob _ (M_closed_t hN f59 (rg_w (lo := 0) (hi := 255) f12 (by decide)) k17.1) (fun x65 f66 => ?_)
        unfold M_layKeeping_J50
        refine t_gd (inb_rg f59 (by decide)) ?_
        refine t_lm (KM [22, 23] [] σ) (km_s k17 (by decide) (mS23 k17.1 f66)) (fun s67 e69 k68 => ?_)
        exact ih19 _ _ ⟨(rg_w (lo := 0) (hi := 8) (rg_add (lo := 1) (hi := 8) f59 (by decide : rg 1 1 (1 : Int32)) (by decide)) (by decide)), k68⟩ (ms_up f59 (by decide : rg 1 1 (1 : Int32)) (by decide))
theorem M_balanced_t {N : Nat} (hN : 8589934592 ≤ N) {a1 : Int32} (h_a1 : rg 0 255 a1) {σ : Mem} (hm : InvM σ) : tot (f_M_balanced N a1 σ) (fun q => rg 0 255 q.1 ∧ KM [20, 21] [] σ q.2) := by
  unfold f_M_balanced
  refine t_ob _ (M_layPairings_t hN hm) (fun s1 k2 => ?_)
  have k3 := km_t (S := [20, 21]) (J := []) (km_r hm) k2 (by decide) (by decide)
  refine t_it2 (fun i4 s6 => rg 1 256 i4 ∧ KM [20, 21] [] σ s6) (fun i4 s6 => (256 - i4.toInt).toNat) ?_ _ _ _ ⟨(rg_w (lo := 1) (hi := 256) (by decide : rg 1 1 (1 : Int32)) (by decide)), k3⟩ (ms_u0 hN _ (by decide))
  rintro self10 i4 s6 ⟨f5, k7⟩ ih9
  unfold M_balanced_B6
  refine t_if (fun h11 => ?_) (fun h11 => ?_)
  · exact t_some ⟨(rg_w (lo := 0) (hi := 255) (by decide : rg 0 0 (0 : Int32)) (by decide)), k7⟩
  · have f12 := (rg_leL (lo := 1) (hi := 255) (i_nlt h11) f5 (al_rg k7.1) (by decide))
    have f13 := (rg_leR (lo := 1) (hi := 255) (i_nlt h11) f5 (al_rg k7.1) (by decide))
    refine t_if (fun h14 => ?_) (fun h14 => ?_)
    · exact ih9 _ _ ⟨(rg_w (lo := 1) (hi := 256) (rg_add (lo := 2) (hi := 256) f12 (by decide : rg 1 1 (1 : Int32)) (by decide)) (by decide)), k7⟩ (ms_up f12 (by decide : rg 1 1 (1 : Int32)) (by decide))
    · refine t_ob _ (M_sizeOf_t hN) (fun x15 f16 => ?_)
      refine t_if (fun h17 => ?_) (fun h17 => ?_)
      · have f18 := (rg_eqL (lo := 1) (hi := 1) h17 (by decide : rg 1 1 (1 : Int32)) (by decide))
        refine t_ob2 (fun r s => rg 0 1 r ∧ KM [21] [] s6 s) (M_weighs_t hN f12 k7.1) (fun x22 s19 ⟨f23, k20⟩ => ?_)
        have k21 := km_t (S := [20, 21]) (J := []) k7 k20 (by decide) (by decide)
        refine t_if (fun h24 => ?_) (fun h24 => ?_)
        · have f25 := (rg_eqL (lo := 0) (hi := 0) h24 (by decide : rg 0 0 (0 : Int32)) (by decide))
          exact ih9 _ _ ⟨(rg_w (lo := 1) (hi := 256) (rg_add (lo := 2) (hi := 256) f12 (by decide : rg 1 1 (1 : Int32)) (by decide)) (by decide)), k21⟩ (ms_up f12 (by decide : rg 1 1 (1 : Int32)) (by decide))
        · have f26 := (rg_neL (lo := 1) (hi := 1) h24 f23 (by decide : rg 0 0 (0 : Int32)) (by decide))
          refine t_ob _ (M_nobodyGains_t hN h_a1 k21.1) (fun x27 f28 => ?_)
          refine t_if (fun h29 => ?_) (fun h29 => ?_)
          · have f30 := (rg_eqL (lo := 0) (hi := 0) h29 (by decide : rg 0 0 (0 : Int32)) (by decide))
            exact ih9 _ _ ⟨(rg_w (lo := 1) (hi := 256) (rg_add (lo := 2) (hi := 256) f12 (by decide : rg 1 1 (1 : Int32)) (by decide)) (by decide)), k21⟩ (ms_up f12 (by decide : rg 1 1 (1 : Int32)) (by decide))
          · have f31 := (rg_neL (lo := 1) (hi := 1) h29 f28 (by decide : rg 0 0 (0 : Int32)) (by decide))
            exact t_some ⟨(rg_w (lo := 0) (hi := 255) f12 (by decide)), k21⟩
      · exact ih9 _ _ ⟨(rg_w (lo := 1) (hi := 256) (rg_add (lo := 2) (hi := 256) f12 (by decide : rg 1 1 (1 : Int32)) (by decide)) (by decide)), k7⟩ (ms_up f12 (by decide : rg 1 1 (1 : Int32)) (by decide))
theorem M_banks_t {N : Nat} (hN : 8589934592 ≤ N) {a1 : Int32} (h_a1 : rg 1 255 a1) {σ : Mem} (hm : InvM σ) : tot (f_M_banks N a1 σ) (fun q => rg 0 255 q.1 ∧ KM [13, 14, 15, 16, 17] [] σ q.2) := by
  unfold f_M_banks
  refine t_it3 (fun i1 i3 s5 => rg 0 255 i1 ∧ rg 0 8 i3 ∧ KM [13, 14, 15, 16, 17] [] σ s5) (fun i1 i3 s5 => (8 - i3.toInt).toNat) ?_ _ _ _ _ ⟨(rg_w (lo := 0) (hi := 255) (by decide : rg 0 0 (0 : Int32)) (by decide)), (rg_w (lo := 0) (hi := 8) (by decide : rg 0 0 (0 : Int32)) (by decide)), (km_r hm)⟩ (ms_u0 hN _ (by decide))
  rintro self9 i1 i3 s5 ⟨f2, f4, k6⟩ ih8
  unfold M_banks_B4
  refine t_if (fun h10 => ?_) (fun h10 => ?_)
  · exact t_some ⟨f2, k6⟩
  · have f11 := (rg_ltL (lo := 0) (hi := 7) (i_nle h10) f4 k6.1.n1 (by decide))
    have f12 := (rg_ltR (lo := 1) (hi := 8) (i_nle h10) f4 k6.1.n1 (by decide))
    refine t_if (fun h13 => ?_) (fun h13 => ?_)
    · refine t_le 0 255 (rg_or (lo := 0) (hi := 255) 8 f2 (by decide : rg 0 0 (0 : Int32)) (by decide)) (fun x14 e16 f15 => ?_)
      exact ih8 _ _ _ ⟨f15, (rg_w (lo := 0) (hi := 8) (rg_add (lo := 1) (hi := 8) f11 (by decide : rg 1 1 (1 : Int32)) (by decide)) (by decide)), k6⟩ (ms_up f11 (by decide : rg 1 1 (1 : Int32)) (by decide))
    · refine t_ob2 (fun r s => rg 0 1 r ∧ KM [13, 14, 15, 16, 17] [] s5 s) (M_hasChain_t hN f11 (rg_w (lo := 0) (hi := 255) h_a1 (by decide)) k6.1) (fun x20 s17 ⟨f21, k18⟩ => ?_)
      have k19 := km_t (S := [13, 14, 15, 16, 17]) (J := []) k6 k18 (by decide) (by decide)
      refine t_if (fun h22 => ?_) (fun h22 => ?_)
      · have f23 := (rg_eqL (lo := 0) (hi := 0) h22 (by decide : rg 0 0 (0 : Int32)) (by decide))
        refine t_le 0 255 (rg_or (lo := 0) (hi := 255) 8 f2 (by decide : rg 0 0 (0 : Int32)) (by decide)) (fun x24 e26 f25 => ?_)
        exact ih8 _ _ _ ⟨f25, (rg_w (lo := 0) (hi := 8) (rg_add (lo := 1) (hi := 8) f11 (by decide : rg 1 1 (1 : Int32)) (by decide)) (by decide)), k19⟩ (ms_up f11 (by decide : rg 1 1 (1 : Int32)) (by decide))
      · have f27 := (rg_neL (lo := 1) (hi := 1) h22 f21 (by decide : rg 0 0 (0 : Int32)) (by decide))
        refine t_le 0 255 (rg_or (lo := 0) (hi := 255) 8 f2 (rg_w (lo := 0) (hi := 128) (rg_shl1 (lo := 1) (hi := 128) 7 f11 (by decide)) (by decide)) (by decide)) (fun x28 e30 f29 => ?_)
        exact ih8 _ _ _ ⟨f29, (rg_w (lo := 0) (hi := 8) (rg_add (lo := 1) (hi := 8) f11 (by decide : rg 1 1 (1 : Int32)) (by decide)) (by decide)), k19⟩ (ms_up f11 (by decide : rg 1 1 (1 : Int32)) (by decide))
theorem M_setOf_t {N : Nat} (hN : 8589934592 ≤ N) {a1 : Int32} (h_a1 : rg 0 9 a1) {a2 : Int32} (h_a2 : rg 0 255 a2) {σ : Mem} (hm : InvM σ) : tot (f_M_setOf N a1 a2 σ) (fun q => rg 0 255 q.1 ∧ KM [13, 14, 15, 16, 17, 18, 19, 20, 21, 22, 23, 24] [] σ q.2) := by
  unfold f_M_setOf
  refine t_if (fun h1 => ?_) (fun h1 => ?_)
  · have f2 := (rg_eqL (lo := 0) (hi := 0) h1 (by decide : rg 0 0 (0 : Int32)) (by decide))
    exact t_some ⟨(rg_w (lo := 0) (hi := 255) (by decide : rg 0 0 (0 : Int32)) (by decide)), (km_r hm)⟩
  · have f3 := (rg_neL (lo := 1) (hi := 255) h1 h_a2 (by decide : rg 0 0 (0 : Int32)) (by decide))
    refine t_sw1 (fun h4 => ?_) (fun _ => ?_)
    · have f5 := (rg_eqL (lo := 0) (hi := 0) h4 (by decide : rg 0 0 (0 : Int32)) (by decide))
      refine t_ob _ (M_top_t hN f3 hm) (fun x6 f7 => ?_)
      exact t_some ⟨(rg_w (lo := 0) (hi := 255) f7 (by decide)), (km_r hm)⟩
    refine t_sw1 (fun h8 => ?_) (fun _ => ?_)
    · have f9 := (rg_eqL (lo := 1) (hi := 1) h8 (by decide : rg 1 1 (1 : Int32)) (by decide))
      refine t_ob _ (M_most_t hN f3 hm) (fun x10 f11 => ?_)
      exact t_some ⟨f11, (km_r hm)⟩
    refine t_sw1 (fun h12 => ?_) (fun _ => ?_)
    · have f13 := (rg_eqL (lo := 2) (hi := 2) h12 (by decide : rg 2 2 (2 : Int32)) (by decide))
      refine t_ob _ (M_uncovered_t hN (rg_w (lo := 0) (hi := 255) f3 (by decide)) hm) (fun x14 f15 => ?_)
      exact t_some ⟨f15, (km_r hm)⟩
    refine t_sw1 (fun h16 => ?_) (fun _ => ?_)
    · have f17 := (rg_eqL (lo := 3) (hi := 3) h16 (by decide : rg 3 3 (3 : Int32)) (by decide))
      refine t_ob _ (M_againUncovered_t hN (rg_w (lo := 0) (hi := 255) f3 (by decide)) hm) (fun x18 f19 => ?_)
      exact t_some ⟨f19, (km_r hm)⟩
    refine t_sw1 (fun h20 => ?_) (fun _ => ?_)
    · have f21 := (rg_eqL (lo := 4) (hi := 4) h20 (by decide : rg 4 4 (4 : Int32)) (by decide))
      refine t_ob2 (fun r s => rg 0 255 r ∧ KM [13, 14, 15, 16, 17] [] σ s) (M_banks_t hN f3 hm) (fun x25 s22 ⟨f26, k23⟩ => ?_)
      have k24 := km_t (S := [13, 14, 15, 16, 17, 18, 19, 20, 21, 22, 23, 24]) (J := []) (km_r hm) k23 (by decide) (by decide)
      exact t_some ⟨f26, k24⟩
    refine t_sw1 (fun h27 => ?_) (fun _ => ?_)
    · have f28 := (rg_eqL (lo := 5) (hi := 5) h27 (by decide : rg 5 5 (5 : Int32)) (by decide))
      refine t_ob2 (fun r s => rg 0 255 r ∧ KM [18, 19] [] σ s) (M_slater_t hN f3 hm) (fun x32 s29 ⟨f33, k30⟩ => ?_)
      have k31 := km_t (S := [13, 14, 15, 16, 17, 18, 19, 20, 21, 22, 23, 24]) (J := []) (km_r hm) k30 (by decide) (by decide)
      exact t_some ⟨f33, k31⟩
    refine t_sw1 (fun h34 => ?_) (fun _ => ?_)
    · have f35 := (rg_eqL (lo := 6) (hi := 6) h34 (by decide : rg 6 6 (6 : Int32)) (by decide))
      refine t_ob _ (M_covering_t hN f3 hm) (fun x36 f37 => ?_)
      exact t_some ⟨(rg_w (lo := 0) (hi := 255) f37 (by decide)), (km_r hm)⟩
    refine t_sw1 (fun h38 => ?_) (fun _ => ?_)
    · have f39 := (rg_eqL (lo := 7) (hi := 7) h38 (by decide : rg 7 7 (7 : Int32)) (by decide))
      refine t_ob2 (fun r s => rg 0 255 r ∧ KM [20, 21] [] σ s) (M_balanced_t hN (rg_w (lo := 0) (hi := 255) f3 (by decide)) hm) (fun x43 s40 ⟨f44, k41⟩ => ?_)
      have k42 := km_t (S := [13, 14, 15, 16, 17, 18, 19, 20, 21, 22, 23, 24]) (J := []) (km_r hm) k41 (by decide) (by decide)
      exact t_some ⟨f44, k42⟩
    refine t_sw1 (fun h45 => ?_) (fun _ => ?_)
    · have f46 := (rg_eqL (lo := 8) (hi := 8) h45 (by decide : rg 8 8 (8 : Int32)) (by decide))
      refine t_ob _ (M_layKeeping_t hN hm) (fun s47 k48 => ?_)
      have k49 := km_t (S := [13, 14, 15, 16, 17, 18, 19, 20, 21, 22, 23, 24]) (J := []) (km_r hm) k48 (by decide) (by decide)
      refine t_gd (inb_rg f3 (by decide)) ?_
      exact t_some ⟨(k49.1.r22 _), k49⟩
    refine t_sw0 ?_
    refine t_ob2 (fun r s => rg 0 255 r ∧ KM [24] [] σ s) (M_cupOf_t hN f3 hm) (fun x53 s50 ⟨f54, k51⟩ => ?_)
    have k52 := km_t (S := [13, 14, 15, 16, 17, 18, 19, 20, 21, 22, 23, 24]) (J := []) (km_r hm) k51 (by decide) (by decide)
    exact t_some ⟨f54, k52⟩
theorem M_isIn_t {N : Nat} (hN : 8589934592 ≤ N) {a1 : Int32} (h_a1 : rg 0 7 a1) {a2 : Int32} (h_a2 : rg 0 9 a2) {σ : Mem} (hm : InvM σ) : tot (f_M_isIn N a1 a2 σ) (fun q => rg 0 1 q.1 ∧ KM [13, 14, 15, 16, 17, 18, 19, 20, 21, 22, 23, 24] [] σ q.2) := by
  unfold f_M_isIn
  refine t_ob2 (fun r s => rg 0 255 r ∧ KM [13, 14, 15, 16, 17, 18, 19, 20, 21, 22, 23, 24] [] σ s) (M_setOf_t hN h_a2 (al_rg hm) hm) (fun x4 s1 ⟨f5, k2⟩ => ?_)
  have k3 := km_t (S := [13, 14, 15, 16, 17, 18, 19, 20, 21, 22, 23, 24]) (J := []) (km_r hm) k2 (by decide) (by decide)
  exact t_some ⟨(rb_has _ _), k3⟩
theorem M_isSo_t {N : Nat} (hN : 8589934592 ≤ N) {a1 : Int32} (h_a1 : rg 0 255 a1) {a2 : Int32} (h_a2 : rg 0 1 a2) {σ : Mem} (hm : InvM σ) : tot (f_M_isSo N a1 a2 σ) (fun q => rg 0 1 q.1 ∧ KM [22, 23] [] σ q.2) := by
  unfold f_M_isSo
  refine t_if (fun h1 => ?_) (fun h1 => ?_)
  · have f2 := (rg_eqL (lo := 0) (hi := 0) h1 (by decide : rg 0 0 (0 : Int32)) (by decide))
    refine t_ob _ (M_isCovering_t hN h_a1 (al_rg hm) hm) (fun x3 f4 => ?_)
    refine t_gd (isb_rg f4) ?_
    exact t_some ⟨f4, (km_r hm)⟩
  · have f5 := (rg_neL (lo := 1) (hi := 1) h1 h_a2 (by decide : rg 0 0 (0 : Int32)) (by decide))
    refine t_ob _ (M_layKeeping_t hN hm) (fun s6 k7 => ?_)
    have k8 := km_t (S := [22, 23]) (J := []) (km_r hm) k7 (by decide) (by decide)
    refine t_ob _ (M_isKeeping_t hN h_a1 k8.1) (fun x9 f10 => ?_)
    refine t_gd (isb_rg f10) ?_
    exact t_some ⟨f10, k8⟩
theorem M_is_t {N : Nat} (hN : 8589934592 ≤ N) {a1 : Int32} {a2 : Int32} {σ : Mem} (hm : InvM σ) : tot (f_M_is N a1 a2 σ) (fun q => rg (-1) 1 q.1 ∧ KM [0, 22, 23] [] σ q.2) := by
  unfold f_M_is
  refine t_lm (KM [0, 22, 23] [] σ) (km_s (km_r hm) (by decide) (mS0 hm)) (fun s1 e3 k2 => ?_)
  refine t_if (fun h4 => ?_) (fun h4 => ?_)
  · exact t_some ⟨(rg_w (lo := (-1)) (hi := 1) (by decide : rg (-1) (-1) (-1 : Int32)) (by decide)), k2⟩
  · have f5 := (c_mso h4 k2.1)
    refine t_if (fun h6 => ?_) (fun h6 => ?_)
    · exact t_some ⟨(rg_w (lo := (-1)) (hi := 1) (by decide : rg (-1) (-1) (-1 : Int32)) (by decide)), k2⟩
    · have f7 := (c_in (lo := 0) (hi := 1) h6 (by decide))
      refine t_ob2 (fun r s => rg 0 1 r ∧ KM [22, 23] [] s1 s) (M_isSo_t hN f5 f7 k2.1) (fun x11 s8 ⟨f12, k9⟩ => ?_)
      have k10 := km_t (S := [0, 22, 23]) (J := []) k2 k9 (by decide) (by decide)
      refine t_if (fun h13 => ?_) (fun h13 => ?_)
      · have f14 := (rg_eqL (lo := 0) (hi := 0) h13 (by decide : rg 0 0 (0 : Int32)) (by decide))
        exact t_some ⟨(rg_w (lo := (-1)) (hi := 1) (by decide : rg 0 0 (0 : Int32)) (by decide)), k10⟩
      · have f15 := (rg_neL (lo := 1) (hi := 1) h13 f12 (by decide : rg 0 0 (0 : Int32)) (by decide))
        exact t_some ⟨(rg_w (lo := (-1)) (hi := 1) (by decide : rg 1 1 (1 : Int32)) (by decide)), k10⟩
theorem M_keeps_t {N : Nat} (hN : 8589934592 ≤ N) {a1 : Int32} {a2 : Int32} {σ : Mem} (hm : InvM σ) : tot (f_M_keeps N a1 a2 σ) (fun q => rg (-1) 255 q.1 ∧ KM [0, 22, 23] [] σ q.2) := by
  unfold f_M_keeps
  refine t_lm (KM [0, 22, 23] [] σ) (km_s (km_r hm) (by decide) (mS0 hm)) (fun s1 e3 k2 => ?_)
  refine t_if (fun h4 => ?_) (fun h4 => ?_)
  · exact t_some ⟨(rg_w (lo := (-1)) (hi := 255) (by decide : rg (-1) (-1) (-1 : Int32)) (by decide)), k2⟩
  · have f5 := (c_mpl h4 k2.1)
    refine t_if (fun h6 => ?_) (fun h6 => ?_)
    · exact t_some ⟨(rg_w (lo := (-1)) (hi := 255) (by decide : rg (-1) (-1) (-1 : Int32)) (by decide)), k2⟩
    · have f7 := (c_mso h6 k2.1)
      refine t_ob _ (M_layKeeping_t hN k2.1) (fun s8 k9 => ?_)
      have k10 := km_t (S := [0, 22, 23]) (J := []) k2 k9 (by decide) (by decide)
      refine t_ob _ (M_over_t f5 k10.1) (fun x11 f12 => ?_)
      refine t_gd (inb_rg (rg_andl (lo := 0) (hi := 255) _ f12 (by decide)) (by decide)) ?_
      exact t_some ⟨(rg_w (lo := (-1)) (hi := 255) (k10.1.r22 _) (by decide)), k10⟩
theorem M_praised_t {N : Nat} (hN : 8589934592 ≤ N) {a1 : Int32} {a2 : Int32} {σ : Mem} (hm : InvM σ) : tot (f_M_praised N a1 a2 σ) (fun q => rg (-2147483648) 2147483647 q.1 ∧ KM [0, 13, 14, 15, 16, 17, 18, 19, 20, 21, 22, 23, 24] [] σ q.2) := by
  unfold f_M_praised
  refine t_lm (KM [0, 13, 14, 15, 16, 17, 18, 19, 20, 21, 22, 23, 24] [] σ) (km_s (km_r hm) (by decide) (mS0 hm)) (fun s1 e3 k2 => ?_)
  refine t_if (fun h4 => ?_) (fun h4 => ?_)
  · exact t_some ⟨(rg_f _), k2⟩
  · have f5 := (c_mpl h4 k2.1)
    refine t_if (fun h6 => ?_) (fun h6 => ?_)
    · exact t_some ⟨(rg_f _), k2⟩
    · have f7 := (c_in (lo := (-1)) (hi := 8) h6 (by decide))
      refine t_if (fun h8 => ?_) (fun h8 => ?_)
      · have f9 := (rg_eqL (lo := (-1)) (hi := (-1)) h8 (by decide : rg (-1) (-1) (-1 : Int32)) (by decide))
        refine t_it3 (fun i10 i11 s13 => rg 0 9 i11 ∧ KM [0, 13, 14, 15, 16, 17, 18, 19, 20, 21, 22, 23, 24] [] σ s13) (fun i10 i11 s13 => (9 - i11.toInt).toNat) ?_ _ _ _ _ ⟨(rg_w (lo := 0) (hi := 9) (by decide : rg 0 0 (0 : Int32)) (by decide)), k2⟩ (ms_u0 hN _ (by decide))
        rintro self17 i10 i11 s13 ⟨f12, k14⟩ ih16
        unfold M_praised_B61
        refine t_if (fun h18 => ?_) (fun h18 => ?_)
        · have f19 := (rg_leR (lo := 9) (hi := 9) h18 (by decide : rg 9 9 (9 : Int32)) f12 (by decide))
          exact t_some ⟨(rg_f _), k14⟩
        · have f20 := (rg_ltL (lo := 0) (hi := 8) (i_nle h18) f12 (by decide : rg 9 9 (9 : Int32)) (by decide))
          refine t_ob2 (fun r s => rg 0 255 r ∧ KM [13, 14, 15, 16, 17, 18, 19, 20, 21, 22, 23, 24] [] s13 s) (M_setOf_t hN (rg_w (lo := 0) (hi := 9) f20 (by decide)) (al_rg k14.1) k14.1) (fun x24 s21 ⟨f25, k22⟩ => ?_)
          have k23 := km_t (S := [0, 13, 14, 15, 16, 17, 18, 19, 20, 21, 22, 23, 24]) (J := []) k14 k22 (by decide) (by decide)
          refine t_if (fun h26 => ?_) (fun h26 => ?_)
          · refine t_le (-2147483648) 2147483647 (rg_add (lo := (-2147483648)) (hi := 2147483647) (rg_f _) (by decide : rg 0 0 (0 : Int32)) (by decide)) (fun x27 e29 f28 => ?_)
            exact ih16 _ _ _ ⟨(rg_w (lo := 0) (hi := 9) (rg_add (lo := 1) (hi := 9) f20 (by decide : rg 1 1 (1 : Int32)) (by decide)) (by decide)), k23⟩ (ms_up f20 (by decide : rg 1 1 (1 : Int32)) (by decide))
          · refine t_le (-2147483648) 2147483647 (rg_f _) (fun x30 e32 f31 => ?_)
            exact ih16 _ _ _ ⟨(rg_w (lo := 0) (hi := 9) (rg_add (lo := 1) (hi := 9) f20 (by decide : rg 1 1 (1 : Int32)) (by decide)) (by decide)), k23⟩ (ms_up f20 (by decide : rg 1 1 (1 : Int32)) (by decide))
      · have f33 := (rg_neL (lo := 0) (hi := 8) h8 f7 (by decide : rg (-1) (-1) (-1 : Int32)) (by decide))
        refine t_ob2 (fun r s => rg 0 255 r ∧ KM [13, 14, 15, 16, 17, 18, 19, 20, 21, 22, 23, 24] [] s1 s) (M_setOf_t hN (rg_w (lo := 0) (hi := 9) f33 (by decide)) (al_rg k2.1) k2.1) (fun x37 s34 ⟨f38, k35⟩ => ?_)
        have k36 := km_t (S := [0, 13, 14, 15, 16, 17, 18, 19, 20, 21, 22, 23, 24]) (J := []) k2 k35 (by decide) (by decide)
        refine t_if (fun h39 => ?_) (fun h39 => ?_)
        · exact t_some ⟨(rg_f _), k36⟩
        · exact t_some ⟨(rg_f _), k36⟩
theorem M_set_t {N : Nat} (hN : 8589934592 ≤ N) {a1 : Int32} {a2 : Int32} {σ : Mem} (hm : InvM σ) : tot (f_M_set N a1 a2 σ) (fun q => rg (-1) 255 q.1 ∧ KM [0, 13, 14, 15, 16, 17, 18, 19, 20, 21, 22, 23, 24] [] σ q.2) := by
  unfold f_M_set
  refine t_lm (KM [0, 13, 14, 15, 16, 17, 18, 19, 20, 21, 22, 23, 24] [] σ) (km_s (km_r hm) (by decide) (mS0 hm)) (fun s1 e3 k2 => ?_)
  refine t_if (fun h4 => ?_) (fun h4 => ?_)
  · exact t_some ⟨(rg_w (lo := (-1)) (hi := 255) (by decide : rg (-1) (-1) (-1 : Int32)) (by decide)), k2⟩
  · have f5 := (c_in (lo := 0) (hi := 9) h4 (by decide))
    refine t_if (fun h6 => ?_) (fun h6 => ?_)
    · exact t_some ⟨(rg_w (lo := (-1)) (hi := 255) (by decide : rg (-1) (-1) (-1 : Int32)) (by decide)), k2⟩
    · have f7 := (c_mso h6 k2.1)
      refine t_ob2 (fun r s => rg 0 255 r ∧ KM [13, 14, 15, 16, 17, 18, 19, 20, 21, 22, 23, 24] [] s1 s) (M_setOf_t hN f5 f7 k2.1) (fun x11 s8 ⟨f12, k9⟩ => ?_)
      have k10 := km_t (S := [0, 13, 14, 15, 16, 17, 18, 19, 20, 21, 22, 23, 24]) (J := []) k2 k9 (by decide) (by decide)
      exact t_some ⟨(rg_w (lo := (-1)) (hi := 255) f12 (by decide)), k10⟩
theorem M_weight_t {N : Nat} (hN : 8589934592 ≤ N) {a1 : Int32} {a2 : Int32} {σ : Mem} (hm : InvM σ) : tot (f_M_weight N a1 a2 σ) (fun q => rg (-2147483648) 2147483647 q.1 ∧ KM [0, 20, 21] [] σ q.2) := by
  unfold f_M_weight
  refine t_lm (KM [0, 20, 21] [] σ) (km_s (km_r hm) (by decide) (mS0 hm)) (fun s1 e3 k2 => ?_)
  refine t_if (fun h4 => ?_) (fun h4 => ?_)
  · exact t_some ⟨(rg_f _), k2⟩
  · have f5 := (c_mpl h4 k2.1)
    refine t_if (fun h6 => ?_) (fun h6 => ?_)
    · exact t_some ⟨(rg_f _), k2⟩
    · have f7 := (c_in (lo := 0) (hi := 1) h6 (by decide))
      refine t_ob2 (fun r s => rg 0 255 r ∧ KM [20, 21] [] s1 s) (M_balanced_t hN (al_rg k2.1) k2.1) (fun x11 s8 ⟨f12, k9⟩ => ?_)
      have k10 := km_t (S := [0, 20, 21]) (J := []) k2 k9 (by decide) (by decide)
      refine t_if (fun h13 => ?_) (fun h13 => ?_)
      · have f14 := (rg_eqL (lo := 0) (hi := 0) h13 (by decide : rg 0 0 (0 : Int32)) (by decide))
        refine t_if (fun h15 => ?_) (fun h15 => ?_)
        · exact t_some ⟨(rg_f _), k10⟩
        · refine t_gd (inb_rg f5 (by decide)) ?_
          exact t_some ⟨(rg_f _), k10⟩
      · have f16 := (rg_neL (lo := 1) (hi := 1) h13 f7 (by decide : rg 0 0 (0 : Int32)) (by decide))
        refine t_ob _ (M_gains_t hN f5 k10.1) (fun x17 f18 => ?_)
        exact t_some ⟨(rg_f _), k10⟩
theorem M_within_t {N : Nat} (hN : 8589934592 ≤ N) {a1 : Int32} {σ : Mem} (hm : InvM σ) : tot (f_M_within N a1 σ) (fun q => rg (-2147483648) 2147483647 q.1 ∧ KM [0, 13, 14, 15, 16, 17, 18, 19, 20, 21, 22, 23, 24, 25] [] σ q.2) := by
  unfold f_M_within
  refine t_lm (KM [0, 13, 14, 15, 16, 17, 18, 19, 20, 21, 22, 23, 24, 25] [] σ) (km_s (km_r hm) (by decide) (mS0 hm)) (fun s1 e3 k2 => ?_)
  refine t_if (fun h4 => ?_) (fun h4 => ?_)
  · exact t_some ⟨(rg_f _), k2⟩
  · have f5 := (c_mro h4 k2.1)
    refine t_if (fun h6 => ?_) (fun h6 => ?_)
    · exact t_some ⟨(rg_f _), k2⟩
    · have f7 := (c_in (lo := 0) (hi := 1) h6 (by decide))
      refine t_it2 (fun i8 s10 => rg 0 9 i8 ∧ KM [0, 13, 14, 15, 16, 17, 18, 19, 20, 21, 22, 23, 24, 25] [] σ s10) (fun i8 s10 => (9 - i8.toInt).toNat) ?_ _ _ _ ⟨(rg_w (lo := 0) (hi := 9) (by decide : rg 0 0 (0 : Int32)) (by decide)), k2⟩ (ms_u0 hN _ (by decide))
      rintro self14 i8 s10 ⟨f9, k11⟩ ih13
      unfold M_within_B26
      refine t_if (fun h15 => ?_) (fun h15 => ?_)
      · have f16 := (rg_leR (lo := 9) (hi := 9) h15 (by decide : rg 9 9 (9 : Int32)) f9 (by decide))
        unfold M_within_K53
        refine t_it3 (fun i17 i18 i20 => rg (-1) 99 i18 ∧ rg 0 9 i20) (fun i17 i18 i20 => (9 - i20.toInt).toNat) ?_ _ _ _ _ ⟨(rg_w (lo := (-1)) (hi := 99) (by decide : rg (-1) (-1) (-1 : Int32)) (by decide)), (rg_w (lo := 0) (hi := 9) (by decide : rg 0 0 (0 : Int32)) (by decide))⟩ (ms_u0 hN _ (by decide))
        rintro self24 i17 i18 i20 ⟨f19, f21⟩ ih23
        unfold M_within_B60
        refine t_if (fun h25 => ?_) (fun h25 => ?_)
        · have f26 := (rg_leR (lo := 9) (hi := 9) h25 (by decide : rg 9 9 (9 : Int32)) f21 (by decide))
          unfold M_within_K176
          refine t_if (fun h27 => ?_) (fun h27 => ?_)
          · have f28 := (rg_eqL (lo := 0) (hi := 0) h27 (by decide : rg 0 0 (0 : Int32)) (by decide))
            exact t_some ⟨(rg_f _), k11⟩
          · have f29 := (rg_neL (lo := 1) (hi := 1) h27 f7 (by decide : rg 0 0 (0 : Int32)) (by decide))
            exact t_some ⟨(rg_f _), k11⟩
        · have f30 := (rg_ltL (lo := 0) (hi := 8) (i_nle h25) f21 (by decide : rg 9 9 (9 : Int32)) (by decide))
          refine t_it3 (fun i31 i32 i34 => rg (-1) 99 i32 ∧ rg 0 9 i34) (fun i31 i32 i34 => (9 - i34.toInt).toNat) ?_ _ _ _ _ ⟨f19, (rg_w (lo := 0) (hi := 9) (by decide : rg 0 0 (0 : Int32)) (by decide))⟩ (ms_u0 hN _ (by decide))
          rintro self38 i31 i32 i34 ⟨f33, f35⟩ ih37
          unfold M_within_B70
          refine t_if (fun h39 => ?_) (fun h39 => ?_)
          · have f40 := (rg_leR (lo := 9) (hi := 9) h39 (by decide : rg 9 9 (9 : Int32)) f35 (by decide))
            exact ih23 _ _ _ ⟨f33, (rg_w (lo := 0) (hi := 9) (rg_add (lo := 1) (hi := 9) f30 (by decide : rg 1 1 (1 : Int32)) (by decide)) (by decide))⟩ (ms_up f30 (by decide : rg 1 1 (1 : Int32)) (by decide))
          · have f41 := (rg_ltL (lo := 0) (hi := 8) (i_nle h39) f35 (by decide : rg 9 9 (9 : Int32)) (by decide))
            refine t_if (fun h42 => ?_) (fun h42 => ?_)
            · unfold M_within_J108
              unfold M_within_J109
              refine t_if (fun h43 => ?_) (fun h43 => ?_)
              · unfold M_within_J122
                refine t_le (-2147483648) 2147483647 (rg_add (lo := (-2147483648)) (hi := 2147483647) (rg_f _) (by decide : rg 0 0 (0 : Int32)) (by decide)) (fun x44 e46 f45 => ?_)
                refine t_if (fun h47 => ?_) (fun h47 => ?_)
                · exact ih37 _ _ _ ⟨f33, (rg_w (lo := 0) (hi := 9) (rg_add (lo := 1) (hi := 9) f41 (by decide : rg 1 1 (1 : Int32)) (by decide)) (by decide))⟩ (ms_up f41 (by decide : rg 1 1 (1 : Int32)) (by decide))
                · exact absurd (rg_pt (by decide : rg 0 0 (0 : Int32)) (by decide : rg 0 0 (0 : Int32))) h47
              · exact absurd (rg_pt (by decide : rg 0 0 (0 : Int32)) (by decide : rg 0 0 (0 : Int32))) h43
            · refine t_gd (inb_rg f30 (by decide)) ?_
              refine t_gd (inb_rg f41 (by decide)) ?_
              refine t_if (fun h48 => ?_) (fun h48 => ?_)
              · unfold M_within_J108
                unfold M_within_J109
                refine t_if (fun h49 => ?_) (fun h49 => ?_)
                · unfold M_within_J122
                  refine t_le (-2147483648) 2147483647 (rg_add (lo := (-2147483648)) (hi := 2147483647) (rg_f _) (by decide : rg 0 0 (0 : Int32)) (by decide)) (fun x50 e52 f51 => ?_)
                  refine t_if (fun h53 => ?_) (fun h53 => ?_)
                  · exact ih37 _ _ _ ⟨f33, (rg_w (lo := 0) (hi := 9) (rg_add (lo := 1) (hi := 9) f41 (by decide : rg 1 1 (1 : Int32)) (by decide)) (by decide))⟩ (ms_up f41 (by decide : rg 1 1 (1 : Int32)) (by decide))
                  · exact absurd (rg_pt (by decide : rg 0 0 (0 : Int32)) (by decide : rg 0 0 (0 : Int32))) h53
                · exact absurd (rg_pt (by decide : rg 0 0 (0 : Int32)) (by decide : rg 0 0 (0 : Int32))) h49
              · unfold M_within_J109
                refine t_if (fun h54 => ?_) (fun h54 => ?_)
                · exact absurd h54 (rg_noE (by decide : rg 1 1 (1 : Int32)) (by decide : rg 0 0 (0 : Int32)) (by decide))
                · unfold M_within_J122
                  refine t_le (-2147483648) 2147483647 (rg_f _) (fun x55 e57 f56 => ?_)
                  refine t_if (fun h58 => ?_) (fun h58 => ?_)
                  · exact absurd h58 (rg_noE (by decide : rg 1 1 (1 : Int32)) (by decide : rg 0 0 (0 : Int32)) (by decide))
                  · refine t_if (fun h59 => ?_) (fun h59 => ?_)
                    · have f60 := (rg_eqL (lo := (-1)) (hi := (-1)) h59 (by decide : rg (-1) (-1) (-1 : Int32)) (by decide))
                      refine t_gd (inb_rg f30 (by decide)) ?_
                      refine t_gd (inb_rg f41 (by decide)) ?_
                      refine t_if (fun h61 => ?_) (fun h61 => ?_)
                      · exact ih37 _ _ _ ⟨(rg_w (lo := (-1)) (hi := 99) f60 (by decide)), (rg_w (lo := 0) (hi := 9) (rg_add (lo := 1) (hi := 9) f41 (by decide : rg 1 1 (1 : Int32)) (by decide)) (by decide))⟩ (ms_up f41 (by decide : rg 1 1 (1 : Int32)) (by decide))
                      · refine t_le 0 88 (rg_add (lo := 0) (hi := 88) (rg_mul (lo := 0) (hi := 80) (by decide : rg 10 10 (10 : Int32)) f30 (by decide)) f41 (by decide)) (fun x62 e64 f63 => ?_)
                        exact ih37 _ _ _ ⟨(rg_w (lo := (-1)) (hi := 99) f63 (by decide)), (rg_w (lo := 0) (hi := 9) (rg_add (lo := 1) (hi := 9) f41 (by decide : rg 1 1 (1 : Int32)) (by decide)) (by decide))⟩ (ms_up f41 (by decide : rg 1 1 (1 : Int32)) (by decide))
                    · have f65 := (rg_neL (lo := 0) (hi := 99) h59 f33 (by decide : rg (-1) (-1) (-1 : Int32)) (by decide))
                      exact ih37 _ _ _ ⟨(rg_w (lo := (-1)) (hi := 99) f65 (by decide)), (rg_w (lo := 0) (hi := 9) (rg_add (lo := 1) (hi := 9) f41 (by decide : rg 1 1 (1 : Int32)) (by decide)) (by decide))⟩ (ms_up f41 (by decide : rg 1 1 (1 : Int32)) (by decide))
      · have f66 := (rg_ltL (lo := 0) (hi := 8) (i_nle h15) f9 (by decide : rg 9 9 (9 : Int32)) (by decide))
        refine t_ob2 (fun r s => rg 0 255 r ∧ KM [13, 14, 15, 16, 17, 18, 19, 20, 21, 22, 23, 24] [] s10 s) (M_setOf_t hN (rg_w (lo := 0) (hi := 9) f66 (by decide)) (al_rg k11.1) k11.1) (fun x70 s67 ⟨f71, k68⟩ => ?_)
        have k69 := km_t (S := [0, 13, 14, 15, 16, 17, 18, 19, 20, 21, 22, 23, 24, 25]) (J := []) k11 k68 (by decide) (by decide)
        refine t_gd (inb_rg f66 (by decide)) ?_
        refine t_lm (KM [0, 13, 14, 15, 16, 17, 18, 19, 20, 21, 22, 23, 24, 25] [] σ) (km_s k69 (by decide) (mS25 k69.1)) (fun s72 e74 k73 => ?_)
        exact ih13 _ _ ⟨(rg_w (lo := 0) (hi := 9) (rg_add (lo := 1) (hi := 9) f66 (by decide : rg 1 1 (1 : Int32)) (by decide)) (by decide)), k73⟩ (ms_up f66 (by decide : rg 1 1 (1 : Int32)) (by decide))
