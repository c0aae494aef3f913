-- DuelRoundModel.layKeeping()V (0,) kind M
def M_layKeeping_K156 (s5 : Mem) (i2 : Int32) (self4 : Int32 → Mem → Option Mem) (y6 : Int32) : Option Mem :=
  gd (inb i2 256) (bnd (sI s5 22 i2.toNatClampNeg y6) fun s7 =>
  self4 (i2 + (1 : Int32)) s7)
def M_layKeeping_K132 (s5 : Mem) (i8 : Int32) (i9 : Int32) (self10 : Int32 → Int32 → Option Mem) (y11 : Int32) : Option Mem :=
  if y11 = (0 : Int32) then
  (bnd (i8 ||| (0 : Int32)) fun x12 =>
  self10 x12 (i9 + (1 : Int32)))
  else
  (gd (inb i9 8) (bnd (i8 ||| (gI s5 23 i9.toNatClampNeg)) fun x13 =>
  self10 x13 (i9 + (1 : Int32))))
def M_layKeeping_B75 (s5 : Mem) (i8 : Int32) (i9 : Int32) (self10 : Int32 → Int32 → Option Mem) (self16 : Int32 → Int32 → Option Mem) (i14 : Int32) (i15 : Int32) : Option Mem :=
  if (t_M_many s5) ≤ i15 then
  (M_layKeeping_K132 s5 i8 i9 self10 i14)
  else
  (if i14 = (0 : Int32) then
  (self16 (0 : Int32) (i15 + (1 : Int32)))
  else
  (gd (inb i9 8) (if (t_M_has (gI s5 23 i9.toNatClampNeg) i15) = (0 : Int32) then
  (self16 (1 : Int32) (i15 + (1 : Int32)))
  else
  (gd (inb i15 8) (gd (inb i9 8) (if (gI s5 23 i15.toNatClampNeg) = (gI s5 23 i9.toNatClampNeg) then
  (self16 (1 : Int32) (i15 + (1 : Int32)))
  else
  (self16 (0 : Int32) (i15 + (1 : Int32)))))))))
def M_layKeeping_B61 (N : Nat) (s5 : Mem) (i2 : Int32) (self4 : Int32 → Mem → Option Mem) (self10 : Int32 → Int32 → Option Mem) (i8 : Int32) (i9 : Int32) : Option Mem :=
  if (t_M_many s5) ≤ i9 then
  (M_layKeeping_K156 s5 i2 self4 i8)
  else
  (it2 (M_layKeeping_B75 s5 i8 i9 self10) N (1 : Int32) (0 : Int32))
def M_layKeeping_K57 (N : Nat) (i2 : Int32) (self4 : Int32 → Mem → Option Mem) (s5 : Mem) : Option Mem :=
  it2 (M_layKeeping_B61 N s5 i2 self4) N (0 : Int32) (0 : Int32)
def M_layKeeping_J50 (s18 : Mem) (i17 : Int32) (self19 : Int32 → Mem → Option Mem) (v20 : Int32) : Option Mem :=
  gd (inb i17 8) (bnd (sI s18 23 i17.toNatClampNeg v20) fun s21 =>
  self19 (i17 + (1 : Int32)) s21)
def M_layKeeping_B19 (N : Nat) (i2 : Int32) (self4 : Int32 → Mem → Option Mem) (self19 : Int32 → Mem → Option Mem) (i17 : Int32) (s18 : Mem) : Option Mem :=
  if (t_M_many s18) ≤ i17 then
  (M_layKeeping_K57 N i2 self4 s18)
  else
  (if (t_M_has i2 i17) = (0 : Int32) then
  (M_layKeeping_J50 s18 i17 self19 (0 : Int32))
  else
  (ob (f_M_closed N i17 i2 s18) fun r22 =>
  M_layKeeping_J50 s18 i17 self19 r22))
def M_layKeeping_B9 (N : Nat) (self4 : Int32 → Mem → Option Mem) (i2 : Int32) (s3 : Mem) : Option Mem :=
  if (t_M_all s3) < i2 then
  (some s3)
  else
  (it2 (M_layKeeping_B19 N i2 self4) N (0 : Int32) s3)
def f_M_layKeeping (N : Nat) (σ : Mem) : Option Mem :=
  bnd (sI σ 22 (0 : Int32).toNatClampNeg (0 : Int32)) fun s1 =>
  it2 (M_layKeeping_B9 N) N (1 : Int32) s1
set_option maxRecDepth 100000 in
set_option maxHeartbeats 4000000 in
theorem w_M_layKeeping {κ : Ctx} (hR : kR κ = { frames := 3, cells := 0, slots := 0, locals := 66 }) (hC : ok κ wM cX10_layKeeping 6 RX10 none) (N : Nat) (σ : Mem) : wF κ wM 6 (qM κ wM) σ 0 [some (.ref (ad κ 0)), none, none, none, none, none] [] (f_M_layKeeping N  σ) := by
  unfold f_M_layKeeping
  refine r_aload_n (pc := 0) hC rfl dX10_layKeeping_0 ?_
  refine gM_0_22 (pc := 1) hC k_1059 dX10_layKeeping_1 ?_
  refine r_iconst (pc := 4) hC (v := (0 : Int32)) (by decide) dX10_layKeeping_4 ?_
  refine r_iconst (pc := 5) hC (v := (0 : Int32)) (by decide) dX10_layKeeping_5 ?_
  refine r_ung (b := inb (0 : Int32) 256) (by decide) ?_
  refine bM_16 (pc := 6) hC dX10_layKeeping_6 ?_
  refine r_letm (fun s1 => ?_)
  refine r_iconst (pc := 7) hC (v := (1 : Int32)) (by decide) dX10_layKeeping_7 ?_
  refine r_istore_n (pc := 8) hC rfl rfl dX10_layKeeping_8 ?_
  refine w_it2 (fun i2 s3 => s3) (fun i2 s3 => [some (.ref (ad κ 0)), some (.int i2), none, none, none, none]) (fun self4 ih9_4 i2 s3 => ?_) N (1 : Int32) s1
  unfold M_layKeeping_B9
  refine r_iload_n (pc := 9) hC rfl dX10_layKeeping_9 ?_
  refine r_aload_n (pc := 10) hC rfl dX10_layKeeping_10 ?_
  refine r_cT (pc := 11) (rest := [.int i2]) (runV [] hC (c_M_all (kl κ) (kW κ) hC.2.2.2.2.2.2.2.2.1 s3) o_X10_all k_1228 (q0 := 0) (ci := 10) rfl rfl (rm_ok hR rfl) rfl (Nat.le_of_ble_eq_true rfl) dX10_layKeeping_11) ?_
  refine r_icmp_gt (pc := 14) (tgt := 169) hC dX10_layKeeping_14 (by decide) ?_ ?_
  · exact r_retM hC dX10_layKeeping_169
  · refine r_iconst (pc := 17) hC (v := (0 : Int32)) (by decide) dX10_layKeeping_17 ?_
    refine r_istore_n (pc := 18) hC rfl rfl dX10_layKeeping_18 ?_
    have hK57_16 : ∀ (s5 : Mem), wF κ wM 6 (qM κ wM) s5 57 [some (.ref (ad κ 0)), some (.int i2), none, none, none, none] [] (M_layKeeping_K57 N i2 self4 s5) := by
      intro s5
      unfold M_layKeeping_K57
      refine r_iconst (pc := 57) hC (v := (0 : Int32)) (by decide) dX10_layKeeping_57 ?_
      refine r_istore_n (pc := 58) hC rfl rfl dX10_layKeeping_58 ?_
      refine r_iconst (pc := 59) hC (v := (0 : Int32)) (by decide) dX10_layKeeping_59 ?_
      refine r_istore_n (pc := 60) hC rfl rfl dX10_layKeeping_60 ?_
      have hK156_7 : ∀ (y6 : Int32), wF κ wM 6 (qM κ wM) s5 156 [some (.ref (ad κ 0)), some (.int i2), some (.int y6), none, none, none] [] (M_layKeeping_K156 s5 i2 self4 y6) := by
        intro y6
        unfold M_layKeeping_K156
        refine r_aload_n (pc := 156) hC rfl dX10_layKeeping_156 ?_
        refine gM_0_22 (pc := 157) hC k_1059 dX10_layKeeping_157 ?_
        refine r_iload_n (pc := 160) hC rfl dX10_layKeeping_160 ?_
        refine r_iload_n (pc := 161) hC rfl dX10_layKeeping_161 ?_
        refine bM_16 (pc := 162) hC dX10_layKeeping_162 ?_
        refine r_letm (fun s7 => ?_)
        refine r_iinc (pc := 163) hC (v := (1 : Int32)) rfl (by decide) rfl rfl dX10_layKeeping_163 ?_
        refine r_goto (pc := 166) (tgt := 9) hC dX10_layKeeping_166 (by decide) ?_
        exact r_wk [true, true, false, false, false, false] (ih9_4 (i2 + (1 : Int32)) s7)
      refine w_it2 (fun i8 i9 => s5) (fun i8 i9 => [some (.ref (ad κ 0)), some (.int i2), some (.int i8), some (.int i9), none, none]) (fun self10 ih61_10 i8 i9 => ?_) N (0 : Int32) (0 : Int32)
      unfold M_layKeeping_B61
      refine r_iload_n (pc := 61) hC rfl dX10_layKeeping_61 ?_
      refine r_aload_n (pc := 62) hC rfl dX10_layKeeping_62 ?_
      refine r_cT (pc := 63) (rest := [.int i9]) (runV [] hC (c_M_many (kl κ) (kW κ) hC.2.2.2.2.2.2.2.2.1 s5) o_X10_many k_1274 (q0 := 0) (ci := 10) rfl rfl (rm_ok hR rfl) rfl (Nat.le_of_ble_eq_true rfl) dX10_layKeeping_63) ?_
      refine r_icmp_ge (pc := 66) (tgt := 156) hC dX10_layKeeping_66 (by decide) ?_ ?_
      · exact r_wk [true, true, true, false, false, false] (hK156_7 i8)
      · refine r_iconst (pc := 69) hC (v := (1 : Int32)) (by decide) dX10_layKeeping_69 ?_
        refine r_istore (pc := 70) hC rfl rfl dX10_layKeeping_70 ?_
        refine r_iconst (pc := 72) hC (v := (0 : Int32)) (by decide) dX10_layKeeping_72 ?_
        refine r_istore (pc := 73) hC rfl rfl dX10_layKeeping_73 ?_
        have hK132_13 : ∀ (y11 : Int32), wF κ wM 6 (qM κ wM) s5 132 [some (.ref (ad κ 0)), some (.int i2), some (.int i8), some (.int i9), some (.int y11), none] [] (M_layKeeping_K132 s5 i8 i9 self10 y11) := by
          intro y11
          unfold M_layKeeping_K132
          refine r_iload_n (pc := 132) hC rfl dX10_layKeeping_132 ?_
          refine r_iload (pc := 133) hC rfl dX10_layKeeping_133 ?_
          refine r_if_eq (pc := 135) (tgt := 147) hC dX10_layKeeping_135 (by decide) ?_ ?_
          · refine r_iconst (pc := 147) hC (v := (0 : Int32)) (by decide) dX10_layKeeping_147 ?_
            refine r_ior (pc := 148) hC dX10_layKeeping_148 ?_
            refine r_let (fun x12 => ?_)
            refine r_istore_n (pc := 149) hC rfl rfl dX10_layKeeping_149 ?_
            refine r_iinc (pc := 150) hC (v := (1 : Int32)) rfl (by decide) rfl rfl dX10_layKeeping_150 ?_
            refine r_goto (pc := 153) (tgt := 61) hC dX10_layKeeping_153 (by decide) ?_
            exact r_wk [true, true, true, true, false, false] (ih61_10 x12 (i9 + (1 : Int32)))
          · refine r_aload_n (pc := 138) hC rfl dX10_layKeeping_138 ?_
            refine gM_0_23 (pc := 139) hC k_1060 dX10_layKeeping_139 ?_
            refine r_iload_n (pc := 142) hC rfl dX10_layKeeping_142 ?_
            refine aM_17 (pc := 143) hC dX10_layKeeping_143 ?_
            refine r_goto (pc := 144) (tgt := 148) hC dX10_layKeeping_144 (by decide) ?_
            refine r_ior (pc := 148) hC dX10_layKeeping_148 ?_
            refine r_let (fun x13 => ?_)
            refine r_istore_n (pc := 149) hC rfl rfl dX10_layKeeping_149 ?_
            refine r_iinc (pc := 150) hC (v := (1 : Int32)) rfl (by decide) rfl rfl dX10_layKeeping_150 ?_
            refine r_goto (pc := 153) (tgt := 61) hC dX10_layKeeping_153 (by decide) ?_
            exact r_wk [true, true, true, true, false, false] (ih61_10 x13 (i9 + (1 : Int32)))
        refine w_it2 (fun i14 i15 => s5) (fun i14 i15 => [some (.ref (ad κ 0)), some (.int i2), some (.int i8), some (.int i9), some (.int i14), some (.int i15)]) (fun self16 ih75_16 i14 i15 => ?_) N (1 : Int32) (0 : Int32)
        unfold M_layKeeping_B75
        refine r_iload (pc := 75) hC rfl dX10_layKeeping_75 ?_
        refine r_aload_n (pc := 77) hC rfl dX10_layKeeping_77 ?_
        refine r_cT (pc := 78) (rest := [.int i15]) (runV [] hC (c_M_many (kl κ) (kW κ) hC.2.2.2.2.2.2.2.2.1 s5) o_X10_many k_1274 (q0 := 0) (ci := 10) rfl rfl (rm_ok hR rfl) rfl (Nat.le_of_ble_eq_true rfl) dX10_layKeeping_78) ?_
        refine r_icmp_ge (pc := 81) (tgt := 132) hC dX10_layKeeping_81 (by decide) ?_ ?_
        · exact r_wk [true, true, true, true, true, false] (hK132_13 i14)
        · refine r_iload (pc := 84) hC rfl dX10_layKeeping_84 ?_
          refine r_if_eq (pc := 86) (tgt := 123) hC dX10_layKeeping_86 (by decide) ?_ ?_
          · refine r_iconst (pc := 123) hC (v := (0 : Int32)) (by decide) dX10_layKeeping_123 ?_
            refine r_istore (pc := 124) hC rfl rfl dX10_layKeeping_124 ?_
            refine r_iinc (pc := 126) hC (v := (1 : Int32)) rfl (by decide) rfl rfl dX10_layKeeping_126 ?_
            refine r_goto (pc := 129) (tgt := 75) hC dX10_layKeeping_129 (by decide) ?_
            exact ih75_16 (0 : Int32) (i15 + (1 : Int32))
          · refine r_aload_n (pc := 89) hC rfl dX10_layKeeping_89 ?_
            refine gM_0_23 (pc := 90) hC k_1060 dX10_layKeeping_90 ?_
            refine r_iload_n (pc := 93) hC rfl dX10_layKeeping_93 ?_
            refine aM_17 (pc := 94) hC dX10_layKeeping_94 ?_
            refine r_iload (pc := 95) hC rfl dX10_layKeeping_95 ?_
            refine r_cT (pc := 97) (rest := []) (runS [.int (gI s5 23 i9.toNatClampNeg), .int i15] hC (c_M_has (kl κ) (kW κ) hC.2.2.2.2.2.2.2.2.1 (gI s5 23 i9.toNatClampNeg) i15 s5) o_X10_has k_1194 (rm_ok hR rfl) rfl (Nat.le_of_ble_eq_true rfl) dX10_layKeeping_97) ?_
            refine r_if_eq (pc := 100) (tgt := 119) hC dX10_layKeeping_100 (by decide) ?_ ?_
            · refine r_iconst (pc := 119) hC (v := (1 : Int32)) (by decide) dX10_layKeeping_119 ?_
              refine r_goto (pc := 120) (tgt := 124) hC dX10_layKeeping_120 (by decide) ?_
              refine r_istore (pc := 124) hC rfl rfl dX10_layKeeping_124 ?_
              refine r_iinc (pc := 126) hC (v := (1 : Int32)) rfl (by decide) rfl rfl dX10_layKeeping_126 ?_
              refine r_goto (pc := 129) (tgt := 75) hC dX10_layKeeping_129 (by decide) ?_
              exact ih75_16 (1 : Int32) (i15 + (1 : Int32))
            · refine r_aload_n (pc := 103) hC rfl dX10_layKeeping_103 ?_
              refine gM_0_23 (pc := 104) hC k_1060 dX10_layKeeping_104 ?_
              refine r_iload (pc := 107) hC rfl dX10_layKeeping_107 ?_
              refine aM_17 (pc := 109) hC dX10_layKeeping_109 ?_
              refine r_aload_n (pc := 110) hC rfl dX10_layKeeping_110 ?_
              refine gM_0_23 (pc := 111) hC k_1060 dX10_layKeeping_111 ?_
              refine r_iload_n (pc := 114) hC rfl dX10_layKeeping_114 ?_
              refine aM_17 (pc := 115) hC dX10_layKeeping_115 ?_
              refine r_icmp_ne (pc := 116) (tgt := 123) hC dX10_layKeeping_116 (by decide) ?_ ?_
              · refine r_iconst (pc := 123) hC (v := (0 : Int32)) (by decide) dX10_layKeeping_123 ?_
                refine r_istore (pc := 124) hC rfl rfl dX10_layKeeping_124 ?_
                refine r_iinc (pc := 126) hC (v := (1 : Int32)) rfl (by decide) rfl rfl dX10_layKeeping_126 ?_
                refine r_goto (pc := 129) (tgt := 75) hC dX10_layKeeping_129 (by decide) ?_
                exact ih75_16 (0 : Int32) (i15 + (1 : Int32))
              · refine r_iconst (pc := 119) hC (v := (1 : Int32)) (by decide) dX10_layKeeping_119 ?_
                refine r_goto (pc := 120) (tgt := 124) hC dX10_layKeeping_120 (by decide) ?_
                refine r_istore (pc := 124) hC rfl rfl dX10_layKeeping_124 ?_
                refine r_iinc (pc := 126) hC (v := (1 : Int32)) rfl (by decide) rfl rfl dX10_layKeeping_126 ?_
                refine r_goto (pc := 129) (tgt := 75) hC dX10_layKeeping_129 (by decide) ?_
                exact ih75_16 (1 : Int32) (i15 + (1 : Int32))
    refine w_it2 (fun i17 s18 => s18) (fun i17 s18 => [some (.ref (ad κ 0)), some (.int i2), some (.int i17), none, none, none]) (fun self19 ih19_19 i17 s18 => ?_) N (0 : Int32) s3
    unfold M_layKeeping_B19
    refine r_iload_n (pc := 19) hC rfl dX10_layKeeping_19 ?_
    refine r_aload_n (pc := 20) hC rfl dX10_layKeeping_20 ?_
    refine r_cT (pc := 21) (rest := [.int i17]) (runV [] hC (c_M_many (kl κ) (kW κ) hC.2.2.2.2.2.2.2.2.1 s18) o_X10_many k_1274 (q0 := 0) (ci := 10) rfl rfl (rm_ok hR rfl) rfl (Nat.le_of_ble_eq_true rfl) dX10_layKeeping_21) ?_
    refine r_icmp_ge (pc := 24) (tgt := 57) hC dX10_layKeeping_24 (by decide) ?_ ?_
    · exact r_wk [true, true, false, false, false, false] (hK57_16 s18)
    · refine r_aload_n (pc := 27) hC rfl dX10_layKeeping_27 ?_
      refine gM_0_23 (pc := 28) hC k_1060 dX10_layKeeping_28 ?_
      refine r_iload_n (pc := 31) hC rfl dX10_layKeeping_31 ?_
      refine r_iload_n (pc := 32) hC rfl dX10_layKeeping_32 ?_
      refine r_iload_n (pc := 33) hC rfl dX10_layKeeping_33 ?_
      refine r_cT (pc := 34) (rest := [.int i17, .ref (ad κ 17)]) (runS [.int i2, .int i17] hC (c_M_has (kl κ) (kW κ) hC.2.2.2.2.2.2.2.2.1 i2 i17 s18) o_X10_has k_1194 (rm_ok hR rfl) rfl (Nat.le_of_ble_eq_true rfl) dX10_layKeeping_34) ?_
      have hJ50_21 : ∀ (v20 : Int32), wF κ wM 6 (qM κ wM) s18 50 [some (.ref (ad κ 0)), some (.int i2), some (.int i17), none, none, none] [.int v20, .int i17, .ref (ad κ 17)] (M_layKeeping_J50 s18 i17 self19 v20) := by
        intro v20
        unfold M_layKeeping_J50
        refine bM_17 (pc := 50) hC dX10_layKeeping_50 ?_
        refine r_letm (fun s21 => ?_)
        refine r_iinc (pc := 51) hC (v := (1 : Int32)) rfl (by decide) rfl rfl dX10_layKeeping_51 ?_
        refine r_goto (pc := 54) (tgt := 19) hC dX10_layKeeping_54 (by decide) ?_
        exact ih19_19 (i17 + (1 : Int32)) s21
      refine r_if_eq (pc := 37) (tgt := 49) hC dX10_layKeeping_37 (by decide) ?_ ?_
      · refine r_iconst (pc := 49) hC (v := (0 : Int32)) (by decide) dX10_layKeeping_49 ?_
        exact hJ50_21 (0 : Int32)
      · refine r_aload_n (pc := 40) hC rfl dX10_layKeeping_40 ?_
        refine r_iload_n (pc := 41) hC rfl dX10_layKeeping_41 ?_
        refine r_iload_n (pc := 42) hC rfl dX10_layKeeping_42 ?_
        refine r_cO (pc := 43) (rest := [.int i17, .ref (ad κ 17)]) (fun r22 hf => runV [.int i17, .int i2] hC (c_M_closed (kl κ) (kW κ) hC.2.2.2.2.2.2.2.2.1 N i17 i2 s18 r22 hf) o_X10_closed k_1376 (q0 := 0) (ci := 10) rfl rfl (rm_ok hR rfl) rfl (Nat.le_of_ble_eq_true rfl) dX10_layKeeping_43) (fun r22 => ?_)
        refine r_goto (pc := 46) (tgt := 50) hC dX10_layKeeping_46 (by decide) ?_
        exact hJ50_21 r22
set_option maxRecDepth 100000 in
set_option maxHeartbeats 4000000 in
theorem c_M_layKeeping (l : Launch) (w : Wenv) (hw : okw w wM) (N : Nat) (σ : Mem) (τ : Mem) (hf : f_M_layKeeping N  σ = some τ) : Ctr l w wM yX10_layKeeping cX10_layKeeping 6 none 3 66 [.ref (w.2.2.1 0)] σ (cQv w wM τ) := mk_ctr (Q := fun κ => qM κ wM) (lv := [some (.ref (w.2.2.1 0)), none, none, none, none, none]) (by decide) rfl hw (Nat.le_of_ble_eq_true rfl) rfl hf (fun κ h => by subst h; rfl) (fun κ hl h hR hC => by
    subst h
    exact w_M_layKeeping hR hC N  σ)
-- DuelRoundModel.against(II)I (0, None, None) kind O
def f_M_against (a1 : Int32) (a2 : Int32) (σ : Mem) : Option Int32 :=
  ob (f_M_beats a1 σ) fun r1 =>
  if (t_M_has r1 a2) = (0 : Int32) then
  (some (-1 : Int32))
  else
  (some (1 : Int32))
set_option maxRecDepth 100000 in
set_option maxHeartbeats 4000000 in
theorem w_M_against {κ : Ctx} (hR : kR κ = { frames := 1, cells := 0, slots := 0, locals := 21 }) (hC : ok κ wM cX10_against 3 RX10 (some .int)) (a1 : Int32) (a2 : Int32) (σ : Mem) : wF κ wM 3 (qO κ wM σ) σ 0 [some (.ref (ad κ 0)), some (.int a1), some (.int a2)] [] (f_M_against a1 a2 σ) := by
  unfold f_M_against
  refine r_aload_n (pc := 0) hC rfl dX10_against_0 ?_
  refine r_iload_n (pc := 1) hC rfl dX10_against_1 ?_
  refine r_cO (pc := 2) (rest := []) (fun r1 hf => runV [.int a1] hC (c_M_beats (kl κ) (kW κ) hC.2.2.2.2.2.2.2.2.1 a1 σ r1 hf) o_X10_beats k_1224 (q0 := 0) (ci := 10) rfl rfl (rm_ok hR rfl) rfl (Nat.le_of_ble_eq_true rfl) dX10_against_2) (fun r1 => ?_)
  refine r_iload_n (pc := 5) hC rfl dX10_against_5 ?_
  refine r_cT (pc := 6) (rest := []) (runS [.int r1, .int a2] hC (c_M_has (kl κ) (kW κ) hC.2.2.2.2.2.2.2.2.1 r1 a2 σ) o_X10_has k_1194 (rm_ok hR rfl) rfl (Nat.le_of_ble_eq_true rfl) dX10_against_6) ?_
  refine r_if_eq (pc := 9) (tgt := 16) hC dX10_against_9 (by decide) ?_ ?_
  · refine r_iconst (pc := 16) hC (v := (-1 : Int32)) (by decide) dX10_against_16 ?_
    exact r_retO hC rfl dX10_against_17
  · refine r_iconst (pc := 12) hC (v := (1 : Int32)) (by decide) dX10_against_12 ?_
    refine r_goto (pc := 13) (tgt := 17) hC dX10_against_13 (by decide) ?_
    exact r_retO hC rfl dX10_against_17
set_option maxRecDepth 100000 in
set_option maxHeartbeats 4000000 in
theorem c_M_against (l : Launch) (w : Wenv) (hw : okw w wM) (a1 : Int32) (a2 : Int32) (σ : Mem) (r : Int32) (hf : f_M_against a1 a2 σ = some r) : Ctr l w wM yX10_against cX10_against 3 (some .int) 1 21 [.ref (w.2.2.1 0), .int a1, .int a2] σ (cQi w wM r σ) := mk_ctr (Q := fun κ => qO κ wM σ) (lv := [some (.ref (w.2.2.1 0)), some (.int a1), some (.int a2)]) (by decide) rfl hw (Nat.le_of_ble_eq_true rfl) rfl hf (fun κ h => by subst h; rfl) (fun κ hl h hR hC => by
    subst h
    exact w_M_against hR hC a1 a2 σ)
-- DuelRoundModel.layPairings()V (0,) kind M
def M_layPairings_B43 (N : Nat) (i2 : Int32) (r6 : Int32) (x7 : Int32) (self4 : Int32 → Mem → Option Mem) (self11 : Int32 → Int32 → Mem → Option Mem) (i8 : Int32) (i9 : Int32) (s10 : Mem) : Option Mem :=
  if (t_M_many s10) ≤ i9 then
  (self4 (i2 + (1 : Int32)) s10)
  else
  (ob (f_M_sizeOf N i2) fun r12 =>
  if (r12 - r12 / (2 : Int32) * (2 : Int32)) = (0 : Int32) then
  (if (t_M_has x7 i9) = (0 : Int32) then
  (self11 i8 (i9 + (1 : Int32)) s10)
  else
  (gd (inb i2 256) (ob (f_M_against r6 i9 s10) fun r13 =>
  gd (inb (x7 &&& (((1 : Int32) <<< (i9 &&& 31)) ^^^ (-1 : Int32))) 256) (gd (inb i2 256) (bnd (sI s10 20 i2.toNatClampNeg ((gI s10 20 i2.toNatClampNeg) + ((i8 * r13) * (gI s10 20 (x7 &&& (((1 : Int32) <<< (i9 &&& 31)) ^^^ (-1 : Int32))).toNatClampNeg)))) fun s14 =>
  bnd (-i8) fun x15 =>
  self11 x15 (i9 + (1 : Int32)) s14)))))
  else
  (self4 (i2 + (1 : Int32)) s10))
def M_layPairings_B9 (N : Nat) (self4 : Int32 → Mem → Option Mem) (i2 : Int32) (s3 : Mem) : Option Mem :=
  if (t_M_all s3) < i2 then
  (some s3)
  else
  (gd (inb i2 256) (bnd (sI s3 20 i2.toNatClampNeg (0 : Int32)) fun s5 =>
  ob (f_M_first N i2) fun r6 =>
  bnd (i2 &&& (((1 : Int32) <<< (r6 &&& 31)) ^^^ (-1 : Int32))) fun x7 =>
  it3 (M_layPairings_B43 N i2 r6 x7 self4) N (1 : Int32) (0 : Int32) s5))
def f_M_layPairings (N : Nat) (σ : Mem) : Option Mem :=
  bnd (sI σ 20 (0 : Int32).toNatClampNeg (1 : Int32)) fun s1 =>
  it2 (M_layPairings_B9 N) N (1 : Int32) s1
set_option maxRecDepth 100000 in
set_option maxHeartbeats 4000000 in
theorem w_M_layPairings {κ : Ctx} (hR : kR κ = { frames := 2, cells := 0, slots := 0, locals := 43 }) (hC : ok κ wM cX10_layPairings 6 RX10 none) (N : Nat) (σ : Mem) : wF κ wM 6 (qM κ wM) σ 0 [some (.ref (ad κ 0)), none, none, none, none, none] [] (f_M_layPairings N  σ) := by
  unfold f_M_layPairings
  refine r_aload_n (pc := 0) hC rfl dX10_layPairings_0 ?_
  refine gM_0_20 (pc := 1) hC k_1057 dX10_layPairings_1 ?_
  refine r_iconst (pc := 4) hC (v := (0 : Int32)) (by decide) dX10_layPairings_4 ?_
  refine r_iconst (pc := 5) hC (v := (1 : Int32)) (by decide) dX10_layPairings_5 ?_
  refine r_ung (b := inb (0 : Int32) 256) (by decide) ?_
  refine bM_14 (pc := 6) hC dX10_layPairings_6 ?_
  refine r_letm (fun s1 => ?_)
  refine r_iconst (pc := 7) hC (v := (1 : Int32)) (by decide) dX10_layPairings_7 ?_
  refine r_istore_n (pc := 8) hC rfl rfl dX10_layPairings_8 ?_
  refine w_it2 (fun i2 s3 => s3) (fun i2 s3 => [some (.ref (ad κ 0)), some (.int i2), none, none, none, none]) (fun self4 ih9_4 i2 s3 => ?_) N (1 : Int32) s1
  unfold M_layPairings_B9
  refine r_iload_n (pc := 9) hC rfl dX10_layPairings_9 ?_
  refine r_aload_n (pc := 10) hC rfl dX10_layPairings_10 ?_
  refine r_cT (pc := 11) (rest := [.int i2]) (runV [] hC (c_M_all (kl κ) (kW κ) hC.2.2.2.2.2.2.2.2.1 s3) o_X10_all k_1228 (q0 := 0) (ci := 10) rfl rfl (rm_ok hR rfl) rfl (Nat.le_of_ble_eq_true rfl) dX10_layPairings_11) ?_
  refine r_icmp_gt (pc := 14) (tgt := 120) hC dX10_layPairings_14 (by decide) ?_ ?_
  · exact r_retM hC dX10_layPairings_120
  · refine r_aload_n (pc := 17) hC rfl dX10_layPairings_17 ?_
    refine gM_0_20 (pc := 18) hC k_1057 dX10_layPairings_18 ?_
    refine r_iload_n (pc := 21) hC rfl dX10_layPairings_21 ?_
    refine r_iconst (pc := 22) hC (v := (0 : Int32)) (by decide) dX10_layPairings_22 ?_
    refine bM_14 (pc := 23) hC dX10_layPairings_23 ?_
    refine r_letm (fun s5 => ?_)
    refine r_iload_n (pc := 24) hC rfl dX10_layPairings_24 ?_
    refine r_cO (pc := 25) (rest := []) (fun r6 hf => runS [.int i2] hC (c_M_first (kl κ) (kW κ) hC.2.2.2.2.2.2.2.2.1 N i2 s5 r6 hf) o_X10_first k_1243 (rm_ok hR rfl) rfl (Nat.le_of_ble_eq_true rfl) dX10_layPairings_25) (fun r6 => ?_)
    refine r_istore_n (pc := 28) hC rfl rfl dX10_layPairings_28 ?_
    refine r_iload_n (pc := 29) hC rfl dX10_layPairings_29 ?_
    refine r_iconst (pc := 30) hC (v := (1 : Int32)) (by decide) dX10_layPairings_30 ?_
    refine r_iload_n (pc := 31) hC rfl dX10_layPairings_31 ?_
    refine r_ishl (pc := 32) hC dX10_layPairings_32 ?_
    refine r_iconst (pc := 33) hC (v := (-1 : Int32)) (by decide) dX10_layPairings_33 ?_
    refine r_ixor (pc := 34) hC dX10_layPairings_34 ?_
    refine r_iand (pc := 35) hC dX10_layPairings_35 ?_
    refine r_let (fun x7 => ?_)
    refine r_istore_n (pc := 36) hC rfl rfl dX10_layPairings_36 ?_
    refine r_iconst (pc := 37) hC (v := (1 : Int32)) (by decide) dX10_layPairings_37 ?_
    refine r_istore (pc := 38) hC rfl rfl dX10_layPairings_38 ?_
    refine r_iconst (pc := 40) hC (v := (0 : Int32)) (by decide) dX10_layPairings_40 ?_
    refine r_istore (pc := 41) hC rfl rfl dX10_layPairings_41 ?_
    refine w_it3 (fun i8 i9 s10 => s10) (fun i8 i9 s10 => [some (.ref (ad κ 0)), some (.int i2), some (.int r6), some (.int x7), some (.int i8), some (.int i9)]) (fun self11 ih43_11 i8 i9 s10 => ?_) N (1 : Int32) (0 : Int32) s5
    unfold M_layPairings_B43
    refine r_iload (pc := 43) hC rfl dX10_layPairings_43 ?_
    refine r_aload_n (pc := 45) hC rfl dX10_layPairings_45 ?_
    refine r_cT (pc := 46) (rest := [.int i9]) (runV [] hC (c_M_many (kl κ) (kW κ) hC.2.2.2.2.2.2.2.2.1 s10) o_X10_many k_1274 (q0 := 0) (ci := 10) rfl rfl (rm_ok hR rfl) rfl (Nat.le_of_ble_eq_true rfl) dX10_layPairings_46) ?_
    refine r_icmp_ge (pc := 49) (tgt := 114) hC dX10_layPairings_49 (by decide) ?_ ?_
    · refine r_iinc (pc := 114) hC (v := (1 : Int32)) rfl (by decide) rfl rfl dX10_layPairings_114 ?_
      refine r_goto (pc := 117) (tgt := 9) hC dX10_layPairings_117 (by decide) ?_
      exact r_wk [true, true, false, false, false, false] (ih9_4 (i2 + (1 : Int32)) s10)
    · refine r_iload_n (pc := 52) hC rfl dX10_layPairings_52 ?_
      refine r_cO (pc := 53) (rest := []) (fun r12 hf => runS [.int i2] hC (c_M_sizeOf (kl κ) (kW κ) hC.2.2.2.2.2.2.2.2.1 N i2 s10 r12 hf) o_X10_sizeOf k_1298 (rm_ok hR rfl) rfl (Nat.le_of_ble_eq_true rfl) dX10_layPairings_53) (fun r12 => ?_)
      refine r_iconst (pc := 56) hC (v := (2 : Int32)) (by decide) dX10_layPairings_56 ?_
      refine r_irem (pc := 57) hC (by decide) dX10_layPairings_57 ?_
      refine r_if_ne (pc := 58) (tgt := 114) hC dX10_layPairings_58 (by decide) ?_ ?_
      · refine r_iinc (pc := 114) hC (v := (1 : Int32)) rfl (by decide) rfl rfl dX10_layPairings_114 ?_
        refine r_goto (pc := 117) (tgt := 9) hC dX10_layPairings_117 (by decide) ?_
        exact r_wk [true, true, false, false, false, false] (ih9_4 (i2 + (1 : Int32)) s10)
      · refine r_iload_n (pc := 61) hC rfl dX10_layPairings_61 ?_
        refine r_iload (pc := 62) hC rfl dX10_layPairings_62 ?_
        refine r_cT (pc := 64) (rest := []) (runS [.int x7, .int i9] hC (c_M_has (kl κ) (kW κ) hC.2.2.2.2.2.2.2.2.1 x7 i9 s10) o_X10_has k_1194 (rm_ok hR rfl) rfl (Nat.le_of_ble_eq_true rfl) dX10_layPairings_64) ?_
        refine r_if_eq (pc := 67) (tgt := 108) hC dX10_layPairings_67 (by decide) ?_ ?_
        · refine r_iinc (pc := 108) hC (v := (1 : Int32)) rfl (by decide) rfl rfl dX10_layPairings_108 ?_
          refine r_goto (pc := 111) (tgt := 43) hC dX10_layPairings_111 (by decide) ?_
          exact ih43_11 i8 (i9 + (1 : Int32)) s10
        · refine r_aload_n (pc := 70) hC rfl dX10_layPairings_70 ?_
          refine gM_0_20 (pc := 71) hC k_1057 dX10_layPairings_71 ?_
          refine r_iload_n (pc := 74) hC rfl dX10_layPairings_74 ?_
          refine r_dup2 (pc := 75) hC rfl rfl dX10_layPairings_75 ?_
          refine aM_14 (pc := 76) hC dX10_layPairings_76 ?_
          refine r_iload (pc := 77) hC rfl dX10_layPairings_77 ?_
          refine r_aload_n (pc := 79) hC rfl dX10_layPairings_79 ?_
          refine r_iload_n (pc := 80) hC rfl dX10_layPairings_80 ?_
          refine r_iload (pc := 81) hC rfl dX10_layPairings_81 ?_
          refine r_cO (pc := 83) (rest := [.int i8, .int (gI s10 20 i2.toNatClampNeg), .int i2, .ref (ad κ 14)]) (fun r13 hf => runV [.int r6, .int i9] hC (c_M_against (kl κ) (kW κ) hC.2.2.2.2.2.2.2.2.1 r6 i9 s10 r13 hf) o_X10_against k_1353 (q0 := 0) (ci := 10) rfl rfl (rm_ok hR rfl) rfl (Nat.le_of_ble_eq_true rfl) dX10_layPairings_83) (fun r13 => ?_)
          refine r_imul (pc := 86) hC dX10_layPairings_86 ?_
          refine r_aload_n (pc := 87) hC rfl dX10_layPairings_87 ?_
          refine gM_0_20 (pc := 88) hC k_1057 dX10_layPairings_88 ?_
          refine r_iload_n (pc := 91) hC rfl dX10_layPairings_91 ?_
          refine r_iconst (pc := 92) hC (v := (1 : Int32)) (by decide) dX10_layPairings_92 ?_
          refine r_iload (pc := 93) hC rfl dX10_layPairings_93 ?_
          refine r_ishl (pc := 95) hC dX10_layPairings_95 ?_
          refine r_iconst (pc := 96) hC (v := (-1 : Int32)) (by decide) dX10_layPairings_96 ?_
          refine r_ixor (pc := 97) hC dX10_layPairings_97 ?_
          refine r_iand (pc := 98) hC dX10_layPairings_98 ?_
          refine aM_14 (pc := 99) hC dX10_layPairings_99 ?_
          refine r_imul (pc := 100) hC dX10_layPairings_100 ?_
          refine r_iadd (pc := 101) hC dX10_layPairings_101 ?_
          refine bM_14 (pc := 102) hC dX10_layPairings_102 ?_
          refine r_letm (fun s14 => ?_)
          refine r_iload (pc := 103) hC rfl dX10_layPairings_103 ?_
          refine r_ineg (pc := 105) hC dX10_layPairings_105 ?_
          refine r_let (fun x15 => ?_)
          refine r_istore (pc := 106) hC rfl rfl dX10_layPairings_106 ?_
          refine r_iinc (pc := 108) hC (v := (1 : Int32)) rfl (by decide) rfl rfl dX10_layPairings_108 ?_
          refine r_goto (pc := 111) (tgt := 43) hC dX10_layPairings_111 (by decide) ?_
          exact ih43_11 x15 (i9 + (1 : Int32)) s14
set_option maxRecDepth 100000 in
set_option maxHeartbeats 4000000 in
theorem c_M_layPairings (l : Launch) (w : Wenv) (hw : okw w wM) (N : Nat) (σ : Mem) (τ : Mem) (hf : f_M_layPairings N  σ = some τ) : Ctr l w wM yX10_layPairings cX10_layPairings 6 none 2 43 [.ref (w.2.2.1 0)] σ (cQv w wM τ) := mk_ctr (Q := fun κ => qM κ wM) (lv := [some (.ref (w.2.2.1 0)), none, none, none, none, none]) (by decide) rfl hw (Nat.le_of_ble_eq_true rfl) rfl hf (fun κ h => by subst h; rfl) (fun κ hl h hR hC => by
    subst h
    exact w_M_layPairings hR hC N  σ)
-- DuelRoundModel.commonOf(II)I (None, None) kind O
def M_commonOf_B4 (self3 : Int32 → Int32 → Option Int32) (i1 : Int32) (i2 : Int32) : Option Int32 :=
  if i2 = (0 : Int32) then
  (some i1)
  else
  (gd (nz i2) (bnd (i1 - i1 / i2 * i2) fun x4 =>
  self3 i2 x4))
def f_M_commonOf (N : Nat) (a1 : Int32) (a2 : Int32) : Option Int32 :=
  it2 (M_commonOf_B4) N a1 a2
set_option maxRecDepth 100000 in
set_option maxHeartbeats 4000000 in
theorem w_M_commonOf {κ : Ctx} (hR : kR κ = { frames := 0, cells := 0, slots := 0, locals := 0 }) (hC : ok κ wM cX10_commonOf 5 RX10 (some .int)) (N : Nat) (a1 : Int32) (a2 : Int32) (σ : Mem) : wF κ wM 5 (qO κ wM σ) σ 0 [some (.int a1), some (.int a2), none, none, none] [] (f_M_commonOf N a1 a2) := by
  unfold f_M_commonOf
  refine r_iload_n (pc := 0) hC rfl dX10_commonOf_0 ?_
  refine r_istore_n (pc := 1) hC rfl rfl dX10_commonOf_1 ?_
  refine r_iload_n (pc := 2) hC rfl dX10_commonOf_2 ?_
  refine r_istore_n (pc := 3) hC rfl rfl dX10_commonOf_3 ?_
  refine r_wk [false, false, true, true, false] (w_it2 (fun i1 i2 => σ) (fun i1 i2 => [none, none, some (.int i1), some (.int i2), none]) (fun self3 ih4_3 i1 i2 => ?_) N a1 a2)
  unfold M_commonOf_B4
  refine r_iload_n (pc := 4) hC rfl dX10_commonOf_4 ?_
  refine r_if_eq (pc := 5) (tgt := 21) hC dX10_commonOf_5 (by decide) ?_ ?_
  · refine r_iload_n (pc := 21) hC rfl dX10_commonOf_21 ?_
    exact r_retO hC rfl dX10_commonOf_22
  · refine r_iload_n (pc := 8) hC rfl dX10_commonOf_8 ?_
    refine r_iload_n (pc := 9) hC rfl dX10_commonOf_9 ?_
    refine r_iremG (pc := 10) hC dX10_commonOf_10 ?_
    refine r_let (fun x4 => ?_)
    refine r_istore (pc := 11) hC rfl rfl dX10_commonOf_11 ?_
    refine r_iload_n (pc := 13) hC rfl dX10_commonOf_13 ?_
    refine r_istore_n (pc := 14) hC rfl rfl dX10_commonOf_14 ?_
    refine r_iload (pc := 15) hC rfl dX10_commonOf_15 ?_
    refine r_istore_n (pc := 17) hC rfl rfl dX10_commonOf_17 ?_
    refine r_goto (pc := 18) (tgt := 4) hC dX10_commonOf_18 (by decide) ?_
    exact r_wk [false, false, true, true, false] (ih4_3 i2 x4)
set_option maxRecDepth 100000 in
set_option maxHeartbeats 4000000 in
theorem c_M_commonOf (l : Launch) (w : Wenv) (hw : okw w wM) (N : Nat) (a1 : Int32) (a2 : Int32) (σ : Mem) (r : Int32) (hf : f_M_commonOf N a1 a2 = some r) : Ctr l w wM yX10_commonOf cX10_commonOf 5 (some .int) 0 0 [.int a1, .int a2] σ (cQi w wM r σ) := mk_ctr (Q := fun κ => qO κ wM σ) (lv := [some (.int a1), some (.int a2), none, none, none]) (by decide) rfl hw (Nat.le_of_ble_eq_true rfl) rfl hf (fun κ h => by subst h; rfl) (fun κ hl h hR hC => by
    subst h
    exact w_M_commonOf hR hC N a1 a2 σ)
-- DuelRoundModel.weighs(I)Z (0, None) kind OM
def M_weighs_B142 (y3 : Int32) (y4 : Int32) (self8 : Int32 → Mem → Option (Int32 × Mem)) (i6 : Int32) (s7 : Mem) : Option (Int32 × Mem) :=
  if (8 : Int32) ≤ i6 then
  (gd (isb y4) (some (y4, s7)))
  else
  (if y4 = (0 : Int32) then
  (gd (isb y4) (some (y4, s7)))
  else
  (gd (inb i6 8) (gd (nz y3) (gd (inb i6 8) (bnd (sI s7 21 i6.toNatClampNeg ((gI s7 21 i6.toNatClampNeg) / y3)) fun s9 =>
  self8 (i6 + (1 : Int32)) s9)))))
def M_weighs_K139 (N : Nat) (y3 : Int32) (y4 : Int32) (s5 : Mem) : Option (Int32 × Mem) :=
  it2 (M_weighs_B142 y3 y4) N (0 : Int32) s5
def M_weighs_J125 (N : Nat) (s20 : Mem) (i10 : Int32) (i11 : Int32) (i13 : Int32) (v19 : Int32) (self15 : Int32 → Int32 → Int32 → Int32 → Mem → Option (Int32 × Mem)) (v21 : Int32) : Option (Int32 × Mem) :=
  ob (f_M_commonOf N v21 i11) fun r22 =>
  bnd (-i10) fun x23 =>
  self15 x23 r22 v19 (i13 + (1 : Int32)) s20
def M_weighs_J101 (N : Nat) (s16 : Mem) (i10 : Int32) (i11 : Int32) (i13 : Int32) (x18 : Int32) (self15 : Int32 → Int32 → Int32 → Int32 → Mem → Option (Int32 × Mem)) (v19 : Int32) : Option (Int32 × Mem) :=
  gd (inb i13 8) (bnd (sI s16 21 i13.toNatClampNeg x18) fun s20 =>
  if (0 : Int32) ≤ x18 then
  (M_weighs_J125 N s20 i10 i11 i13 v19 self15 x18)
  else
  (M_weighs_J125 N s20 i10 i11 i13 v19 self15 (-x18)))
def M_weighs_J100 (N : Nat) (s16 : Mem) (i10 : Int32) (i11 : Int32) (i13 : Int32) (x18 : Int32) (self15 : Int32 → Int32 → Int32 → Int32 → Mem → Option (Int32 × Mem)) : Option (Int32 × Mem) :=
  M_weighs_J101 N s16 i10 i11 i13 x18 self15 (0 : Int32)
def M_weighs_J70 (N : Nat) (s16 : Mem) (a1 : Int32) (i10 : Int32) (i11 : Int32) (i12 : Int32) (i13 : Int32) (self15 : Int32 → Int32 → Int32 → Int32 → Mem → Option (Int32 × Mem)) (v17 : Int32) : Option (Int32 × Mem) :=
  gd (inb (a1 &&& (((1 : Int32) <<< (i13 &&& 31)) ^^^ (-1 : Int32))) 256) (bnd (v17 * (gI s16 20 (a1 &&& (((1 : Int32) <<< (i13 &&& 31)) ^^^ (-1 : Int32))).toNatClampNeg)) fun x18 =>
  if i12 = (0 : Int32) then
  (M_weighs_J100 N s16 i10 i11 i13 x18 self15)
  else
  (if x18 ≤ (0 : Int32) then
  (M_weighs_J100 N s16 i10 i11 i13 x18 self15)
  else
  (M_weighs_J101 N s16 i10 i11 i13 x18 self15 (1 : Int32))))
def M_weighs_B35 (N : Nat) (a1 : Int32) (v2 : Int32) (self15 : Int32 → Int32 → Int32 → Int32 → Mem → Option (Int32 × Mem)) (i10 : Int32) (i11 : Int32) (i12 : Int32) (i13 : Int32) (s14 : Mem) : Option (Int32 × Mem) :=
  if (8 : Int32) ≤ i13 then
  (M_weighs_K139 N i11 i12 s14)
  else
  (gd (inb i13 8) (bnd (sI s14 21 i13.toNatClampNeg (0 : Int32)) fun s16 =>
  if (t_M_has a1 i13) = (0 : Int32) then
  (self15 i10 i11 i12 (i13 + (1 : Int32)) s16)
  else
  (if v2 = (0 : Int32) then
  (M_weighs_J70 N s16 a1 i10 i11 i12 i13 self15 i10)
  else
  (M_weighs_J70 N s16 a1 i10 i11 i12 i13 self15 (-i10)))))
def M_weighs_J30 (N : Nat) (σ : Mem) (a1 : Int32) (v2 : Int32) : Option (Int32 × Mem) :=
  it5 (M_weighs_B35 N a1 v2) N (1 : Int32) (0 : Int32) (1 : Int32) (0 : Int32) σ
def f_M_weighs (N : Nat) (a1 : Int32) (σ : Mem) : Option (Int32 × Mem) :=
  ob (f_M_first N a1) fun r1 =>
  gd (inb (a1 &&& (((1 : Int32) <<< (r1 &&& 31)) ^^^ (-1 : Int32))) 256) (if (0 : Int32) ≤ (gI σ 20 (a1 &&& (((1 : Int32) <<< (r1 &&& 31)) ^^^ (-1 : Int32))).toNatClampNeg) then
  (M_weighs_J30 N σ a1 (0 : Int32))
  else
  (M_weighs_J30 N σ a1 (1 : Int32)))
set_option maxRecDepth 100000 in
set_option maxHeartbeats 4000000 in
theorem w_M_weighs {κ : Ctx} (hR : kR κ = { frames := 2, cells := 0, slots := 0, locals := 42 }) (hC : ok κ wM cX10_weighs 8 RX10 (some .boolean)) (N : Nat) (a1 : Int32) (σ : Mem) : wF κ wM 8 (qOM κ wM) σ 0 [some (.ref (ad κ 0)), some (.int a1), none, none, none, none, none, none] [] (f_M_weighs N a1 σ) := by
  unfold f_M_weighs
  refine r_iconst (pc := 0) hC (v := (1 : Int32)) (by decide) dX10_weighs_0 ?_
  refine r_istore_n (pc := 1) hC rfl rfl dX10_weighs_1 ?_
  refine r_iconst (pc := 2) hC (v := (0 : Int32)) (by decide) dX10_weighs_2 ?_
  refine r_istore_n (pc := 3) hC rfl rfl dX10_weighs_3 ?_
  refine r_iconst (pc := 4) hC (v := (1 : Int32)) (by decide) dX10_weighs_4 ?_
  refine r_istore (pc := 5) hC rfl rfl dX10_weighs_5 ?_
  refine r_aload_n (pc := 7) hC rfl dX10_weighs_7 ?_
  refine gM_0_20 (pc := 8) hC k_1057 dX10_weighs_8 ?_
  refine r_iload_n (pc := 11) hC rfl dX10_weighs_11 ?_
  refine r_iconst (pc := 12) hC (v := (1 : Int32)) (by decide) dX10_weighs_12 ?_
  refine r_iload_n (pc := 13) hC rfl dX10_weighs_13 ?_
  refine r_cO (pc := 14) (rest := [.int (1 : Int32), .int a1, .ref (ad κ 14)]) (fun r1 hf => runS [.int a1] hC (c_M_first (kl κ) (kW κ) hC.2.2.2.2.2.2.2.2.1 N a1 σ r1 hf) o_X10_first k_1243 (rm_ok hR rfl) rfl (Nat.le_of_ble_eq_true rfl) dX10_weighs_14) (fun r1 => ?_)
  refine r_ishl (pc := 17) hC dX10_weighs_17 ?_
  refine r_iconst (pc := 18) hC (v := (-1 : Int32)) (by decide) dX10_weighs_18 ?_
  refine r_ixor (pc := 19) hC dX10_weighs_19 ?_
  refine r_iand (pc := 20) hC dX10_weighs_20 ?_
  refine aM_14 (pc := 21) hC dX10_weighs_21 ?_
  have hJ30_23 : ∀ (v2 : Int32), wF κ wM 8 (qOM κ wM) σ 30 [some (.ref (ad κ 0)), some (.int a1), some (.int (1 : Int32)), some (.int (0 : Int32)), some (.int (1 : Int32)), none, none, none] [.int v2] (M_weighs_J30 N σ a1 v2) := by
    intro v2
    unfold M_weighs_J30
    refine r_istore (pc := 30) hC rfl rfl dX10_weighs_30 ?_
    refine r_iconst (pc := 32) hC (v := (0 : Int32)) (by decide) dX10_weighs_32 ?_
    refine r_istore (pc := 33) hC rfl rfl dX10_weighs_33 ?_
    have hK139_9 : ∀ (y3 : Int32) (y4 : Int32) (s5 : Mem), wF κ wM 8 (qOM κ wM) s5 139 [some (.ref (ad κ 0)), none, none, some (.int y3), some (.int y4), none, none, none] [] (M_weighs_K139 N y3 y4 s5) := by
      intro y3 y4 s5
      unfold M_weighs_K139
      refine r_iconst (pc := 139) hC (v := (0 : Int32)) (by decide) dX10_weighs_139 ?_
      refine r_istore (pc := 140) hC rfl rfl dX10_weighs_140 ?_
      refine w_it2 (fun i6 s7 => s7) (fun i6 s7 => [some (.ref (ad κ 0)), none, none, some (.int y3), some (.int y4), none, some (.int i6), none]) (fun self8 ih142_8 i6 s7 => ?_) N (0 : Int32) s5
      unfold M_weighs_B142
      refine r_iload (pc := 142) hC rfl dX10_weighs_142 ?_
      refine r_bipush (pc := 144) hC (v := (8 : Int32)) (by decide) dX10_weighs_144 ?_
      refine r_icmp_ge (pc := 146) (tgt := 171) hC dX10_weighs_146 (by decide) ?_ ?_
      · refine r_iload (pc := 171) hC rfl dX10_weighs_171 ?_
        exact r_retOMb hC dX10_weighs_173
      · refine r_iload (pc := 149) hC rfl dX10_weighs_149 ?_
        refine r_if_eq (pc := 151) (tgt := 171) hC dX10_weighs_151 (by decide) ?_ ?_
        · refine r_iload (pc := 171) hC rfl dX10_weighs_171 ?_
          exact r_retOMb hC dX10_weighs_173
        · refine r_aload_n (pc := 154) hC rfl dX10_weighs_154 ?_
          refine gM_0_21 (pc := 155) hC k_1058 dX10_weighs_155 ?_
          refine r_iload (pc := 158) hC rfl dX10_weighs_158 ?_
          refine r_dup2 (pc := 160) hC rfl rfl dX10_weighs_160 ?_
          refine aM_15 (pc := 161) hC dX10_weighs_161 ?_
          refine r_iload_n (pc := 162) hC rfl dX10_weighs_162 ?_
          refine r_idivG (pc := 163) hC dX10_weighs_163 ?_
          refine bM_15 (pc := 164) hC dX10_weighs_164 ?_
          refine r_letm (fun s9 => ?_)
          refine r_iinc (pc := 165) hC (v := (1 : Int32)) rfl (by decide) rfl rfl dX10_weighs_165 ?_
          refine r_goto (pc := 168) (tgt := 142) hC dX10_weighs_168 (by decide) ?_
          exact ih142_8 (i6 + (1 : Int32)) s9
    refine w_it5 (fun i10 i11 i12 i13 s14 => s14) (fun i10 i11 i12 i13 s14 => [some (.ref (ad κ 0)), some (.int a1), some (.int i10), some (.int i11), some (.int i12), some (.int v2), some (.int i13), none]) (fun self15 ih35_15 i10 i11 i12 i13 s14 => ?_) N (1 : Int32) (0 : Int32) (1 : Int32) (0 : Int32) σ
    unfold M_weighs_B35
    refine r_iload (pc := 35) hC rfl dX10_weighs_35 ?_
    refine r_bipush (pc := 37) hC (v := (8 : Int32)) (by decide) dX10_weighs_37 ?_
    refine r_icmp_ge (pc := 39) (tgt := 139) hC dX10_weighs_39 (by decide) ?_ ?_
    · exact r_wk [true, false, false, true, true, false, false, false] (hK139_9 i11 i12 s14)
    · refine r_aload_n (pc := 42) hC rfl dX10_weighs_42 ?_
      refine gM_0_21 (pc := 43) hC k_1058 dX10_weighs_43 ?_
      refine r_iload (pc := 46) hC rfl dX10_weighs_46 ?_
      refine r_iconst (pc := 48) hC (v := (0 : Int32)) (by decide) dX10_weighs_48 ?_
      refine bM_15 (pc := 49) hC dX10_weighs_49 ?_
      refine r_letm (fun s16 => ?_)
      refine r_iload_n (pc := 50) hC rfl dX10_weighs_50 ?_
      refine r_iload (pc := 51) hC rfl dX10_weighs_51 ?_
      refine r_cT (pc := 53) (rest := []) (runS [.int a1, .int i13] hC (c_M_has (kl κ) (kW κ) hC.2.2.2.2.2.2.2.2.1 a1 i13 s16) o_X10_has k_1194 (rm_ok hR rfl) rfl (Nat.le_of_ble_eq_true rfl) dX10_weighs_53) ?_
      refine r_if_eq (pc := 56) (tgt := 133) hC dX10_weighs_56 (by decide) ?_ ?_
      · refine r_iinc (pc := 133) hC (v := (1 : Int32)) rfl (by decide) rfl rfl dX10_weighs_133 ?_
        refine r_goto (pc := 136) (tgt := 35) hC dX10_weighs_136 (by decide) ?_
        exact ih35_15 i10 i11 i12 (i13 + (1 : Int32)) s16
      · refine r_iload (pc := 59) hC rfl dX10_weighs_59 ?_
        have hJ70_23 : ∀ (v17 : Int32), wF κ wM 8 (qOM κ wM) s16 70 [some (.ref (ad κ 0)), some (.int a1), some (.int i10), some (.int i11), some (.int i12), some (.int v2), some (.int i13), none] [.int v17] (M_weighs_J70 N s16 a1 i10 i11 i12 i13 self15 v17) := by
          intro v17
          unfold M_weighs_J70
          refine r_aload_n (pc := 70) hC rfl dX10_weighs_70 ?_
          refine gM_0_20 (pc := 71) hC k_1057 dX10_weighs_71 ?_
          refine r_iload_n (pc := 74) hC rfl dX10_weighs_74 ?_
          refine r_iconst (pc := 75) hC (v := (1 : Int32)) (by decide) dX10_weighs_75 ?_
          refine r_iload (pc := 76) hC rfl dX10_weighs_76 ?_
          refine r_ishl (pc := 78) hC dX10_weighs_78 ?_
          refine r_iconst (pc := 79) hC (v := (-1 : Int32)) (by decide) dX10_weighs_79 ?_
          refine r_ixor (pc := 80) hC dX10_weighs_80 ?_
          refine r_iand (pc := 81) hC dX10_weighs_81 ?_
          refine aM_14 (pc := 82) hC dX10_weighs_82 ?_
          refine r_imul (pc := 83) hC dX10_weighs_83 ?_
          refine r_let (fun x18 => ?_)
          refine r_istore (pc := 84) hC rfl rfl dX10_weighs_84 ?_
          refine r_iload (pc := 86) hC rfl dX10_weighs_86 ?_
          have hJ101_23 : ∀ (v19 : Int32), wF κ wM 8 (qOM κ wM) s16 101 [some (.ref (ad κ 0)), some (.int a1), some (.int i10), some (.int i11), none, some (.int v2), some (.int i13), some (.int x18)] [.int v19] (M_weighs_J101 N s16 i10 i11 i13 x18 self15 v19) := by
            intro v19
            unfold M_weighs_J101
            refine r_istore (pc := 101) hC rfl rfl dX10_weighs_101 ?_
            refine r_aload_n (pc := 103) hC rfl dX10_weighs_103 ?_
            refine gM_0_21 (pc := 104) hC k_1058 dX10_weighs_104 ?_
            refine r_iload (pc := 107) hC rfl dX10_weighs_107 ?_
            refine r_iload (pc := 109) hC rfl dX10_weighs_109 ?_
            refine bM_15 (pc := 111) hC dX10_weighs_111 ?_
            refine r_letm (fun s20 => ?_)
            refine r_iload (pc := 112) hC rfl dX10_weighs_112 ?_
            have hJ125_23 : ∀ (v21 : Int32), wF κ wM 8 (qOM κ wM) s20 125 [some (.ref (ad κ 0)), some (.int a1), some (.int i10), some (.int i11), some (.int v19), some (.int v2), some (.int i13), none] [.int v21] (M_weighs_J125 N s20 i10 i11 i13 v19 self15 v21) := by
              intro v21
              unfold M_weighs_J125
              refine r_iload_n (pc := 125) hC rfl dX10_weighs_125 ?_
              refine r_cO (pc := 126) (rest := []) (fun r22 hf => runS [.int v21, .int i11] hC (c_M_commonOf (kl κ) (kW κ) hC.2.2.2.2.2.2.2.2.1 N v21 i11 s20 r22 hf) o_X10_commonOf k_1361 (rm_ok hR rfl) rfl (Nat.le_of_ble_eq_true rfl) dX10_weighs_126) (fun r22 => ?_)
              refine r_istore_n (pc := 129) hC rfl rfl dX10_weighs_129 ?_
              refine r_iload_n (pc := 130) hC rfl dX10_weighs_130 ?_
              refine r_ineg (pc := 131) hC dX10_weighs_131 ?_
              refine r_let (fun x23 => ?_)
              refine r_istore_n (pc := 132) hC rfl rfl dX10_weighs_132 ?_
              refine r_iinc (pc := 133) hC (v := (1 : Int32)) rfl (by decide) rfl rfl dX10_weighs_133 ?_
              refine r_goto (pc := 136) (tgt := 35) hC dX10_weighs_136 (by decide) ?_
              exact ih35_15 x23 r22 v19 (i13 + (1 : Int32)) s20
            refine r_if_ge (pc := 114) (tgt := 123) hC dX10_weighs_114 (by decide) ?_ ?_
            · refine r_iload (pc := 123) hC rfl dX10_weighs_123 ?_
              exact r_wk [true, true, true, true, true, true, true, false] (hJ125_23 x18)
            · refine r_iload (pc := 117) hC rfl dX10_weighs_117 ?_
              refine r_ineg (pc := 119) hC dX10_weighs_119 ?_
              refine r_goto (pc := 120) (tgt := 125) hC dX10_weighs_120 (by decide) ?_
              exact r_wk [true, true, true, true, true, true, true, false] (hJ125_23 (-x18))
          have hJ100_23 : wF κ wM 8 (qOM κ wM) s16 100 [some (.ref (ad κ 0)), some (.int a1), some (.int i10), some (.int i11), none, some (.int v2), some (.int i13), some (.int x18)] [] (M_weighs_J100 N s16 i10 i11 i13 x18 self15) := by
            unfold M_weighs_J100
            refine r_iconst (pc := 100) hC (v := (0 : Int32)) (by decide) dX10_weighs_100 ?_
            exact hJ101_23 (0 : Int32)
          refine r_if_eq (pc := 88) (tgt := 100) hC dX10_weighs_88 (by decide) ?_ ?_
          · exact r_wk [true, true, true, true, false, true, true, true] (hJ100_23)
          · refine r_iload (pc := 91) hC rfl dX10_weighs_91 ?_
            refine r_if_le (pc := 93) (tgt := 100) hC dX10_weighs_93 (by decide) ?_ ?_
            · exact r_wk [true, true, true, true, false, true, true, true] (hJ100_23)
            · refine r_iconst (pc := 96) hC (v := (1 : Int32)) (by decide) dX10_weighs_96 ?_
              refine r_goto (pc := 97) (tgt := 101) hC dX10_weighs_97 (by decide) ?_
              exact r_wk [true, true, true, true, false, true, true, true] (hJ101_23 (1 : Int32))
        refine r_if_eq (pc := 61) (tgt := 69) hC dX10_weighs_61 (by decide) ?_ ?_
        · refine r_iload_n (pc := 69) hC rfl dX10_weighs_69 ?_
          exact hJ70_23 i10
        · refine r_iload_n (pc := 64) hC rfl dX10_weighs_64 ?_
          refine r_ineg (pc := 65) hC dX10_weighs_65 ?_
          refine r_goto (pc := 66) (tgt := 70) hC dX10_weighs_66 (by decide) ?_
          exact hJ70_23 (-i10)
  refine r_if_ge (pc := 22) (tgt := 29) hC dX10_weighs_22 (by decide) ?_ ?_
  · refine r_iconst (pc := 29) hC (v := (0 : Int32)) (by decide) dX10_weighs_29 ?_
    exact hJ30_23 (0 : Int32)
  · refine r_iconst (pc := 25) hC (v := (1 : Int32)) (by decide) dX10_weighs_25 ?_
    refine r_goto (pc := 26) (tgt := 30) hC dX10_weighs_26 (by decide) ?_
    exact hJ30_23 (1 : Int32)
set_option maxRecDepth 100000 in
set_option maxHeartbeats 4000000 in
theorem c_M_weighs (l : Launch) (w : Wenv) (hw : okw w wM) (N : Nat) (a1 : Int32) (σ : Mem) (r : Int32) (τ : Mem) (hf : f_M_weighs N a1 σ = some (r, τ)) : Ctr l w wM yX10_weighs cX10_weighs 8 (some .boolean) 2 42 [.ref (w.2.2.1 0), .int a1] σ (cQi w wM r τ) := mk_ctr (Q := fun κ => qOM κ wM) (lv := [some (.ref (w.2.2.1 0)), some (.int a1), none, none, none, none, none, none]) (by decide) rfl hw (Nat.le_of_ble_eq_true rfl) rfl hf (fun κ h => by subst h; rfl) (fun κ hl h hR hC => by
    subst h
    exact w_M_weighs hR hC N a1 σ)
-- DuelRoundModel.gains(I)I (0, None) kind O
def M_gains_B4 (σ : Mem) (a1 : Int32) (self3 : Int32 → Int32 → Option Int32) (i1 : Int32) (i2 : Int32) : Option Int32 :=
  if (t_M_many σ) ≤ i2 then
  (some i1)
  else
  (if i2 = a1 then
  (bnd (i1 + (0 : Int32)) fun x6 =>
  self3 x6 (i2 + (1 : Int32)))
  else
  (ob (f_M_against a1 i2 σ) fun r4 =>
  gd (inb i2 8) (bnd (i1 + (r4 * (gI σ 21 i2.toNatClampNeg))) fun x5 =>
  self3 x5 (i2 + (1 : Int32)))))
def f_M_gains (N : Nat) (a1 : Int32) (σ : Mem) : Option Int32 :=
  it2 (M_gains_B4 σ a1) N (0 : Int32) (0 : Int32)
set_option maxRecDepth 100000 in
set_option maxHeartbeats 4000000 in
theorem w_M_gains {κ : Ctx} (hR : kR κ = { frames := 2, cells := 0, slots := 0, locals := 43 }) (hC : ok κ wM cX10_gains 4 RX10 (some .int)) (N : Nat) (a1 : Int32) (σ : Mem) : wF κ wM 4 (qO κ wM σ) σ 0 [some (.ref (ad κ 0)), some (.int a1), none, none] [] (f_M_gains N a1 σ) := by
  unfold f_M_gains
  refine r_iconst (pc := 0) hC (v := (0 : Int32)) (by decide) dX10_gains_0 ?_
  refine r_istore_n (pc := 1) hC rfl rfl dX10_gains_1 ?_
  refine r_iconst (pc := 2) hC (v := (0 : Int32)) (by decide) dX10_gains_2 ?_
  refine r_istore_n (pc := 3) hC rfl rfl dX10_gains_3 ?_
  refine w_it2 (fun i1 i2 => σ) (fun i1 i2 => [some (.ref (ad κ 0)), some (.int a1), some (.int i1), some (.int i2)]) (fun self3 ih4_3 i1 i2 => ?_) N (0 : Int32) (0 : Int32)
  unfold M_gains_B4
  refine r_iload_n (pc := 4) hC rfl dX10_gains_4 ?_
  refine r_aload_n (pc := 5) hC rfl dX10_gains_5 ?_
  refine r_cT (pc := 6) (rest := [.int i2]) (runV [] hC (c_M_many (kl κ) (kW κ) hC.2.2.2.2.2.2.2.2.1 σ) o_X10_many k_1274 (q0 := 0) (ci := 10) rfl rfl (rm_ok hR rfl) rfl (Nat.le_of_ble_eq_true rfl) dX10_gains_6) ?_
  refine r_icmp_ge (pc := 9) (tgt := 43) hC dX10_gains_9 (by decide) ?_ ?_
  · refine r_iload_n (pc := 43) hC rfl dX10_gains_43 ?_
    exact r_retO hC rfl dX10_gains_44
  · refine r_iload_n (pc := 12) hC rfl dX10_gains_12 ?_
    refine r_iload_n (pc := 13) hC rfl dX10_gains_13 ?_
    refine r_iload_n (pc := 14) hC rfl dX10_gains_14 ?_
    refine r_icmp_ne (pc := 15) (tgt := 22) hC dX10_gains_15 (by decide) ?_ ?_
    · refine r_aload_n (pc := 22) hC rfl dX10_gains_22 ?_
      refine r_iload_n (pc := 23) hC rfl dX10_gains_23 ?_
      refine r_iload_n (pc := 24) hC rfl dX10_gains_24 ?_
      refine r_cO (pc := 25) (rest := [.int i1]) (fun r4 hf => runV [.int a1, .int i2] hC (c_M_against (kl κ) (kW κ) hC.2.2.2.2.2.2.2.2.1 a1 i2 σ r4 hf) o_X10_against k_1353 (q0 := 0) (ci := 10) rfl rfl (rm_ok hR rfl) rfl (Nat.le_of_ble_eq_true rfl) dX10_gains_25) (fun r4 => ?_)
      refine r_aload_n (pc := 28) hC rfl dX10_gains_28 ?_
      refine gM_0_21 (pc := 29) hC k_1058 dX10_gains_29 ?_
      refine r_iload_n (pc := 32) hC rfl dX10_gains_32 ?_
      refine aM_15 (pc := 33) hC dX10_gains_33 ?_
      refine r_imul (pc := 34) hC dX10_gains_34 ?_
      refine r_iadd (pc := 35) hC dX10_gains_35 ?_
      refine r_let (fun x5 => ?_)
      refine r_istore_n (pc := 36) hC rfl rfl dX10_gains_36 ?_
      refine r_iinc (pc := 37) hC (v := (1 : Int32)) rfl (by decide) rfl rfl dX10_gains_37 ?_
      refine r_goto (pc := 40) (tgt := 4) hC dX10_gains_40 (by decide) ?_
      exact ih4_3 x5 (i2 + (1 : Int32))
    · refine r_iconst (pc := 18) hC (v := (0 : Int32)) (by decide) dX10_gains_18 ?_
      refine r_goto (pc := 19) (tgt := 35) hC dX10_gains_19 (by decide) ?_
      refine r_iadd (pc := 35) hC dX10_gains_35 ?_
      refine r_let (fun x6 => ?_)
      refine r_istore_n (pc := 36) hC rfl rfl dX10_gains_36 ?_
      refine r_iinc (pc := 37) hC (v := (1 : Int32)) rfl (by decide) rfl rfl dX10_gains_37 ?_
      refine r_goto (pc := 40) (tgt := 4) hC dX10_gains_40 (by decide) ?_
      exact ih4_3 x6 (i2 + (1 : Int32))
set_option maxRecDepth 100000 in
set_option maxHeartbeats 4000000 in
theorem c_M_gains (l : Launch) (w : Wenv) (hw : okw w wM) (N : Nat) (a1 : Int32) (σ : Mem) (r : Int32) (hf : f_M_gains N a1 σ = some r) : Ctr l w wM yX10_gains cX10_gains 4 (some .int) 2 43 [.ref (w.2.2.1 0), .int a1] σ (cQi w wM r σ) := mk_ctr (Q := fun κ => qO κ wM σ) (lv := [some (.ref (w.2.2.1 0)), some (.int a1), none, none]) (by decide) rfl hw (Nat.le_of_ble_eq_true rfl) rfl hf (fun κ h => by subst h; rfl) (fun κ hl h hR hC => by
    subst h
    exact w_M_gains hR hC N a1 σ)
-- DuelRoundModel.nobodyGains(I)Z (0, None) kind O
def M_nobodyGains_B4 (N : Nat) (σ : Mem) (a1 : Int32) (self3 : Int32 → Int32 → Option Int32) (i1 : Int32) (i2 : Int32) : Option Int32 :=
  if (t_M_many σ) ≤ i2 then
  (gd (isb i1) (some i1))
  else
  (if i1 = (0 : Int32) then
  (self3 (0 : Int32) (i2 + (1 : Int32)))
  else
  (if (t_M_has a1 i2) = (0 : Int32) then
  (self3 (1 : Int32) (i2 + (1 : Int32)))
  else
  (ob (f_M_gains N i2 σ) fun r4 =>
  if (0 : Int32) < r4 then
  (self3 (0 : Int32) (i2 + (1 : Int32)))
  else
  (self3 (1 : Int32) (i2 + (1 : Int32))))))
def f_M_nobodyGains (N : Nat) (a1 : Int32) (σ : Mem) : Option Int32 :=
  it2 (M_nobodyGains_B4 N σ a1) N (1 : Int32) (0 : Int32)
set_option maxRecDepth 100000 in
set_option maxHeartbeats 4000000 in
theorem w_M_nobodyGains {κ : Ctx} (hR : kR κ = { frames := 3, cells := 0, slots := 0, locals := 66 }) (hC : ok κ wM cX10_nobodyGains 4 RX10 (some .boolean)) (N : Nat) (a1 : Int32) (σ : Mem) : wF κ wM 4 (qO κ wM σ) σ 0 [some (.ref (ad κ 0)), some (.int a1), none, none] [] (f_M_nobodyGains N a1 σ) := by
  unfold f_M_nobodyGains
  refine r_iconst (pc := 0) hC (v := (1 : Int32)) (by decide) dX10_nobodyGains_0 ?_
  refine r_istore_n (pc := 1) hC rfl rfl dX10_nobodyGains_1 ?_
  refine r_iconst (pc := 2) hC (v := (0 : Int32)) (by decide) dX10_nobodyGains_2 ?_
  refine r_istore_n (pc := 3) hC rfl rfl dX10_nobodyGains_3 ?_
  refine w_it2 (fun i1 i2 => σ) (fun i1 i2 => [some (.ref (ad κ 0)), some (.int a1), some (.int i1), some (.int i2)]) (fun self3 ih4_3 i1 i2 => ?_) N (1 : Int32) (0 : Int32)
  unfold M_nobodyGains_B4
  refine r_iload_n (pc := 4) hC rfl dX10_nobodyGains_4 ?_
  refine r_aload_n (pc := 5) hC rfl dX10_nobodyGains_5 ?_
  refine r_cT (pc := 6) (rest := [.int i2]) (runV [] hC (c_M_many (kl κ) (kW κ) hC.2.2.2.2.2.2.2.2.1 σ) o_X10_many k_1274 (q0 := 0) (ci := 10) rfl rfl (rm_ok hR rfl) rfl (Nat.le_of_ble_eq_true rfl) dX10_nobodyGains_6) ?_
  refine r_icmp_ge (pc := 9) (tgt := 44) hC dX10_nobodyGains_9 (by decide) ?_ ?_
  · refine r_iload_n (pc := 44) hC rfl dX10_nobodyGains_44 ?_
    exact r_retOb hC dX10_nobodyGains_45
  · refine r_iload_n (pc := 12) hC rfl dX10_nobodyGains_12 ?_
    refine r_if_eq (pc := 13) (tgt := 36) hC dX10_nobodyGains_13 (by decide) ?_ ?_
    · refine r_iconst (pc := 36) hC (v := (0 : Int32)) (by decide) dX10_nobodyGains_36 ?_
      refine r_istore_n (pc := 37) hC rfl rfl dX10_nobodyGains_37 ?_
      refine r_iinc (pc := 38) hC (v := (1 : Int32)) rfl (by decide) rfl rfl dX10_nobodyGains_38 ?_
      refine r_goto (pc := 41) (tgt := 4) hC dX10_nobodyGains_41 (by decide) ?_
      exact ih4_3 (0 : Int32) (i2 + (1 : Int32))
    · refine r_iload_n (pc := 16) hC rfl dX10_nobodyGains_16 ?_
      refine r_iload_n (pc := 17) hC rfl dX10_nobodyGains_17 ?_
      refine r_cT (pc := 18) (rest := []) (runS [.int a1, .int i2] hC (c_M_has (kl κ) (kW κ) hC.2.2.2.2.2.2.2.2.1 a1 i2 σ) o_X10_has k_1194 (rm_ok hR rfl) rfl (Nat.le_of_ble_eq_true rfl) dX10_nobodyGains_18) ?_
      refine r_if_eq (pc := 21) (tgt := 32) hC dX10_nobodyGains_21 (by decide) ?_ ?_
      · refine r_iconst (pc := 32) hC (v := (1 : Int32)) (by decide) dX10_nobodyGains_32 ?_
        refine r_goto (pc := 33) (tgt := 37) hC dX10_nobodyGains_33 (by decide) ?_
        refine r_istore_n (pc := 37) hC rfl rfl dX10_nobodyGains_37 ?_
        refine r_iinc (pc := 38) hC (v := (1 : Int32)) rfl (by decide) rfl rfl dX10_nobodyGains_38 ?_
        refine r_goto (pc := 41) (tgt := 4) hC dX10_nobodyGains_41 (by decide) ?_
        exact ih4_3 (1 : Int32) (i2 + (1 : Int32))
      · refine r_aload_n (pc := 24) hC rfl dX10_nobodyGains_24 ?_
        refine r_iload_n (pc := 25) hC rfl dX10_nobodyGains_25 ?_
        refine r_cO (pc := 26) (rest := []) (fun r4 hf => runV [.int i2] hC (c_M_gains (kl κ) (kW κ) hC.2.2.2.2.2.2.2.2.1 N i2 σ r4 hf) o_X10_gains k_1368 (q0 := 0) (ci := 10) rfl rfl (rm_ok hR rfl) rfl (Nat.le_of_ble_eq_true rfl) dX10_nobodyGains_26) (fun r4 => ?_)
        refine r_if_gt (pc := 29) (tgt := 36) hC dX10_nobodyGains_29 (by decide) ?_ ?_
        · refine r_iconst (pc := 36) hC (v := (0 : Int32)) (by decide) dX10_nobodyGains_36 ?_
          refine r_istore_n (pc := 37) hC rfl rfl dX10_nobodyGains_37 ?_
          refine r_iinc (pc := 38) hC (v := (1 : Int32)) rfl (by decide) rfl rfl dX10_nobodyGains_38 ?_
          refine r_goto (pc := 41) (tgt := 4) hC dX10_nobodyGains_41 (by decide) ?_
          exact ih4_3 (0 : Int32) (i2 + (1 : Int32))
        · refine r_iconst (pc := 32) hC (v := (1 : Int32)) (by decide) dX10_nobodyGains_32 ?_
          refine r_goto (pc := 33) (tgt := 37) hC dX10_nobodyGains_33 (by decide) ?_
          refine r_istore_n (pc := 37) hC rfl rfl dX10_nobodyGains_37 ?_
          refine r_iinc (pc := 38) hC (v := (1 : Int32)) rfl (by decide) rfl rfl dX10_nobodyGains_38 ?_
          refine r_goto (pc := 41) (tgt := 4) hC dX10_nobodyGains_41 (by decide) ?_
          exact ih4_3 (1 : Int32) (i2 + (1 : Int32))
set_option maxRecDepth 100000 in
set_option maxHeartbeats 4000000 in
theorem c_M_nobodyGains (l : Launch) (w : Wenv) (hw : okw w wM) (N : Nat) (a1 : Int32) (σ : Mem) (r : Int32) (hf : f_M_nobodyGains N a1 σ = some r) : Ctr l w wM yX10_nobodyGains cX10_nobodyGains 4 (some .boolean) 3 66 [.ref (w.2.2.1 0), .int a1] σ (cQi w wM r σ) := mk_ctr (Q := fun κ => qO κ wM σ) (lv := [some (.ref (w.2.2.1 0)), some (.int a1), none, none]) (by decide) rfl hw (Nat.le_of_ble_eq_true rfl) rfl hf (fun κ h => by subst h; rfl) (fun κ hl h hR hC => by
    subst h
    exact w_M_nobodyGains hR hC N a1 σ)
-- DuelRoundModel.balanced(I)I (0, None) kind OM
def M_balanced_B6 (N : Nat) (a1 : Int32) (self4 : Int32 → Mem → Option (Int32 × Mem)) (i2 : Int32) (s3 : Mem) : Option (Int32 × Mem) :=
  if (t_M_all s3) < i2 then
  (some ((0 : Int32), s3))
  else
  (if (t_M_isWithin i2 a1) = (0 : Int32) then
  (self4 (i2 + (1 : Int32)) s3)
  else
  (ob (f_M_sizeOf N i2) fun r5 =>
  if (r5 - r5 / (2 : Int32) * (2 : Int32)) = (1 : Int32) then
  (ob2 (f_M_weighs N i2 s3) fun r7 s6 =>
  if r7 = (0 : Int32) then
  (self4 (i2 + (1 : Int32)) s6)
  else
  (ob (f_M_nobodyGains N a1 s6) fun r8 =>
  if r8 = (0 : Int32) then
  (self4 (i2 + (1 : Int32)) s6)
  else
  (some (i2, s6))))
  else
  (self4 (i2 + (1 : Int32)) s3)))
def f_M_balanced (N : Nat) (a1 : Int32) (σ : Mem) : Option (Int32 × Mem) :=
  ob (f_M_layPairings N σ) fun s1 =>
  it2 (M_balanced_B6 N a1) N (1 : Int32) s1
set_option maxRecDepth 100000 in
set_option maxHeartbeats 4000000 in
theorem w_M_balanced {κ : Ctx} (hR : kR κ = { frames := 4, cells := 0, slots := 0, locals := 89 }) (hC : ok κ wM cX10_balanced 3 RX10 (some .int)) (N : Nat) (a1 : Int32) (σ : Mem) : wF κ wM 3 (qOM κ wM) σ 0 [some (.ref (ad κ 0)), some (.int a1), none] [] (f_M_balanced N a1 σ) := by
  unfold f_M_balanced
  refine r_aload_n (pc := 0) hC rfl dX10_balanced_0 ?_
  refine r_cM (pc := 1) (rest := []) (fun s1 hf => runV [] hC (c_M_layPairings (kl κ) (kW κ) hC.2.2.2.2.2.2.2.2.1 N σ s1 hf) o_X10_layPairings k_1349 (q0 := 0) (ci := 10) rfl rfl (rm_ok hR rfl) rfl (Nat.le_of_ble_eq_true rfl) dX10_balanced_1) (fun s1 => ?_)
  refine r_iconst (pc := 4) hC (v := (1 : Int32)) (by decide) dX10_balanced_4 ?_
  refine r_istore_n (pc := 5) hC rfl rfl dX10_balanced_5 ?_
  refine w_it2 (fun i2 s3 => s3) (fun i2 s3 => [some (.ref (ad κ 0)), some (.int a1), some (.int i2)]) (fun self4 ih6_4 i2 s3 => ?_) N (1 : Int32) s1
  unfold M_balanced_B6
  refine r_iload_n (pc := 6) hC rfl dX10_balanced_6 ?_
  refine r_aload_n (pc := 7) hC rfl dX10_balanced_7 ?_
  refine r_cT (pc := 8) (rest := [.int i2]) (runV [] hC (c_M_all (kl κ) (kW κ) hC.2.2.2.2.2.2.2.2.1 s3) o_X10_all k_1228 (q0 := 0) (ci := 10) rfl rfl (rm_ok hR rfl) rfl (Nat.le_of_ble_eq_true rfl) dX10_balanced_8) ?_
  refine r_icmp_gt (pc := 11) (tgt := 56) hC dX10_balanced_11 (by decide) ?_ ?_
  · refine r_iconst (pc := 56) hC (v := (0 : Int32)) (by decide) dX10_balanced_56 ?_
    exact r_retOM hC rfl dX10_balanced_57
  · refine r_iload_n (pc := 14) hC rfl dX10_balanced_14 ?_
    refine r_iload_n (pc := 15) hC rfl dX10_balanced_15 ?_
    refine r_cT (pc := 16) (rest := []) (runS [.int i2, .int a1] hC (c_M_isWithin (kl κ) (kW κ) hC.2.2.2.2.2.2.2.2.1 i2 a1 s3) o_X10_isWithin k_1236 (rm_ok hR rfl) rfl (Nat.le_of_ble_eq_true rfl) dX10_balanced_16) ?_
    refine r_if_eq (pc := 19) (tgt := 50) hC dX10_balanced_19 (by decide) ?_ ?_
    · refine r_iinc (pc := 50) hC (v := (1 : Int32)) rfl (by decide) rfl rfl dX10_balanced_50 ?_
      refine r_goto (pc := 53) (tgt := 6) hC dX10_balanced_53 (by decide) ?_
      exact ih6_4 (i2 + (1 : Int32)) s3
    · refine r_iload_n (pc := 22) hC rfl dX10_balanced_22 ?_
      refine r_cO (pc := 23) (rest := []) (fun r5 hf => runS [.int i2] hC (c_M_sizeOf (kl κ) (kW κ) hC.2.2.2.2.2.2.2.2.1 N i2 s3 r5 hf) o_X10_sizeOf k_1298 (rm_ok hR rfl) rfl (Nat.le_of_ble_eq_true rfl) dX10_balanced_23) (fun r5 => ?_)
      refine r_iconst (pc := 26) hC (v := (2 : Int32)) (by decide) dX10_balanced_26 ?_
      refine r_irem (pc := 27) hC (by decide) dX10_balanced_27 ?_
      refine r_iconst (pc := 28) hC (v := (1 : Int32)) (by decide) dX10_balanced_28 ?_
      refine r_icmp_ne (pc := 29) (tgt := 50) hC dX10_balanced_29 (by decide) ?_ ?_
      · refine r_iinc (pc := 50) hC (v := (1 : Int32)) rfl (by decide) rfl rfl dX10_balanced_50 ?_
        refine r_goto (pc := 53) (tgt := 6) hC dX10_balanced_53 (by decide) ?_
        exact ih6_4 (i2 + (1 : Int32)) s3
      · refine r_aload_n (pc := 32) hC rfl dX10_balanced_32 ?_
        refine r_iload_n (pc := 33) hC rfl dX10_balanced_33 ?_
        refine r_cOM (pc := 34) (rest := []) (fun r7 s6 hf => runV [.int i2] hC (c_M_weighs (kl κ) (kW κ) hC.2.2.2.2.2.2.2.2.1 N i2 s3 r7 s6 hf) o_X10_weighs k_1357 (q0 := 0) (ci := 10) rfl rfl (rm_ok hR rfl) rfl (Nat.le_of_ble_eq_true rfl) dX10_balanced_34) (fun r7 s6 => ?_)
        refine r_if_eq (pc := 37) (tgt := 50) hC dX10_balanced_37 (by decide) ?_ ?_
        · refine r_iinc (pc := 50) hC (v := (1 : Int32)) rfl (by decide) rfl rfl dX10_balanced_50 ?_
          refine r_goto (pc := 53) (tgt := 6) hC dX10_balanced_53 (by decide) ?_
          exact ih6_4 (i2 + (1 : Int32)) s6
        · refine r_aload_n (pc := 40) hC rfl dX10_balanced_40 ?_
          refine r_iload_n (pc := 41) hC rfl dX10_balanced_41 ?_
          refine r_cO (pc := 42) (rest := []) (fun r8 hf => runV [.int a1] hC (c_M_nobodyGains (kl κ) (kW κ) hC.2.2.2.2.2.2.2.2.1 N a1 s6 r8 hf) o_X10_nobodyGains k_1364 (q0 := 0) (ci := 10) rfl rfl (rm_ok hR rfl) rfl (Nat.le_of_ble_eq_true rfl) dX10_balanced_42) (fun r8 => ?_)
          refine r_if_eq (pc := 45) (tgt := 50) hC dX10_balanced_45 (by decide) ?_ ?_
          · refine r_iinc (pc := 50) hC (v := (1 : Int32)) rfl (by decide) rfl rfl dX10_balanced_50 ?_
            refine r_goto (pc := 53) (tgt := 6) hC dX10_balanced_53 (by decide) ?_
            exact ih6_4 (i2 + (1 : Int32)) s6
          · refine r_iload_n (pc := 48) hC rfl dX10_balanced_48 ?_
            exact r_retOM hC rfl dX10_balanced_49
set_option maxRecDepth 100000 in
set_option maxHeartbeats 4000000 in
theorem c_M_balanced (l : Launch) (w : Wenv) (hw : okw w wM) (N : Nat) (a1 : Int32) (σ : Mem) (r : Int32) (τ : Mem) (hf : f_M_balanced N a1 σ = some (r, τ)) : Ctr l w wM yX10_balanced cX10_balanced 3 (some .int) 4 89 [.ref (w.2.2.1 0), .int a1] σ (cQi w wM r τ) := mk_ctr (Q := fun κ => qOM κ wM) (lv := [some (.ref (w.2.2.1 0)), some (.int a1), none]) (by decide) rfl hw (Nat.le_of_ble_eq_true rfl) rfl hf (fun κ h => by subst h; rfl) (fun κ hl h hR hC => by
    subst h
    exact w_M_balanced hR hC N a1 σ)
-- DuelRoundModel.isCovering(II)Z (0, None, None) kind O
def M_isCovering_B45 (σ : Mem) (a1 : Int32) (i3 : Int32) (self4 : Int32 → Int32 → Option Int32) (self7 : Int32 → Int32 → Option Int32) (i5 : Int32) (i6 : Int32) : Option Int32 :=
  if (t_M_many σ) ≤ i6 then
  (self4 i5 (i3 + (1 : Int32)))
  else
  (if i5 = (0 : Int32) then
  (if (t_M_has a1 i6) = (0 : Int32) then
  (self7 (0 : Int32) (i6 + (1 : Int32)))
  else
  (ob (f_M_covers i6 i3 a1 σ) fun r8 =>
  if r8 = (0 : Int32) then
  (self7 (0 : Int32) (i6 + (1 : Int32)))
  else
  (self7 (1 : Int32) (i6 + (1 : Int32)))))
  else
  (self7 (1 : Int32) (i6 + (1 : Int32))))
def M_isCovering_B13 (N : Nat) (σ : Mem) (a1 : Int32) (a2 : Int32) (self4 : Int32 → Int32 → Option Int32) (i2 : Int32) (i3 : Int32) : Option Int32 :=
  if (t_M_many σ) ≤ i3 then
  (gd (isb i2) (some i2))
  else
  (if i2 = (0 : Int32) then
  (gd (isb i2) (some i2))
  else
  (if (t_M_has (a2 &&& (a1 ^^^ (-1 : Int32))) i3) = (0 : Int32) then
  (self4 i2 (i3 + (1 : Int32)))
  else
  (it2 (M_isCovering_B45 σ a1 i3 self4) N (0 : Int32) (0 : Int32))))
def M_isCovering_J9 (N : Nat) (σ : Mem) (a1 : Int32) (a2 : Int32) (v1 : Int32) : Option Int32 :=
  it2 (M_isCovering_B13 N σ a1 a2) N v1 (0 : Int32)
def f_M_isCovering (N : Nat) (a1 : Int32) (a2 : Int32) (σ : Mem) : Option Int32 :=
  if a1 = (0 : Int32) then
  (M_isCovering_J9 N σ a1 a2 (0 : Int32))
  else
  (M_isCovering_J9 N σ a1 a2 (1 : Int32))
set_option maxRecDepth 100000 in
set_option maxHeartbeats 4000000 in
theorem w_M_isCovering {κ : Ctx} (hR : kR κ = { frames := 2, cells := 0, slots := 0, locals := 44 }) (hC : ok κ wM cX10_isCovering 7 RX10 (some .boolean)) (N : Nat) (a1 : Int32) (a2 : Int32) (σ : Mem) : wF κ wM 7 (qO κ wM σ) σ 0 [some (.ref (ad κ 0)), some (.int a1), some (.int a2), none, none, none, none] [] (f_M_isCovering N a1 a2 σ) := by
  unfold f_M_isCovering
  refine r_iload_n (pc := 0) hC rfl dX10_isCovering_0 ?_
  have hJ9_8 : ∀ (v1 : Int32), wF κ wM 7 (qO κ wM σ) σ 9 [some (.ref (ad κ 0)), some (.int a1), some (.int a2), none, none, none, none] [.int v1] (M_isCovering_J9 N σ a1 a2 v1) := by
    intro v1
    unfold M_isCovering_J9
    refine r_istore_n (pc := 9) hC rfl rfl dX10_isCovering_9 ?_
    refine r_iconst (pc := 10) hC (v := (0 : Int32)) (by decide) dX10_isCovering_10 ?_
    refine r_istore (pc := 11) hC rfl rfl dX10_isCovering_11 ?_
    refine w_it2 (fun i2 i3 => σ) (fun i2 i3 => [some (.ref (ad κ 0)), some (.int a1), some (.int a2), some (.int i2), some (.int i3), none, none]) (fun self4 ih13_4 i2 i3 => ?_) N v1 (0 : Int32)
    unfold M_isCovering_B13
    refine r_iload (pc := 13) hC rfl dX10_isCovering_13 ?_
    refine r_aload_n (pc := 15) hC rfl dX10_isCovering_15 ?_
    refine r_cT (pc := 16) (rest := [.int i3]) (runV [] hC (c_M_many (kl κ) (kW κ) hC.2.2.2.2.2.2.2.2.1 σ) o_X10_many k_1274 (q0 := 0) (ci := 10) rfl rfl (rm_ok hR rfl) rfl (Nat.le_of_ble_eq_true rfl) dX10_isCovering_16) ?_
    refine r_icmp_ge (pc := 19) (tgt := 102) hC dX10_isCovering_19 (by decide) ?_ ?_
    · refine r_iload_n (pc := 102) hC rfl dX10_isCovering_102 ?_
      exact r_retOb hC dX10_isCovering_103
    · refine r_iload_n (pc := 22) hC rfl dX10_isCovering_22 ?_
      refine r_if_eq (pc := 23) (tgt := 102) hC dX10_isCovering_23 (by decide) ?_ ?_
      · refine r_iload_n (pc := 102) hC rfl dX10_isCovering_102 ?_
        exact r_retOb hC dX10_isCovering_103
      · refine r_iload_n (pc := 26) hC rfl dX10_isCovering_26 ?_
        refine r_iload_n (pc := 27) hC rfl dX10_isCovering_27 ?_
        refine r_iconst (pc := 28) hC (v := (-1 : Int32)) (by decide) dX10_isCovering_28 ?_
        refine r_ixor (pc := 29) hC dX10_isCovering_29 ?_
        refine r_iand (pc := 30) hC dX10_isCovering_30 ?_
        refine r_iload (pc := 31) hC rfl dX10_isCovering_31 ?_
        refine r_cT (pc := 33) (rest := []) (runS [.int (a2 &&& (a1 ^^^ (-1 : Int32))), .int i3] hC (c_M_has (kl κ) (kW κ) hC.2.2.2.2.2.2.2.2.1 (a2 &&& (a1 ^^^ (-1 : Int32))) i3 σ) o_X10_has k_1194 (rm_ok hR rfl) rfl (Nat.le_of_ble_eq_true rfl) dX10_isCovering_33) ?_
        refine r_if_eq (pc := 36) (tgt := 96) hC dX10_isCovering_36 (by decide) ?_ ?_
        · refine r_iinc (pc := 96) hC (v := (1 : Int32)) rfl (by decide) rfl rfl dX10_isCovering_96 ?_
          refine r_goto (pc := 99) (tgt := 13) hC dX10_isCovering_99 (by decide) ?_
          exact ih13_4 i2 (i3 + (1 : Int32))
        · refine r_iconst (pc := 39) hC (v := (0 : Int32)) (by decide) dX10_isCovering_39 ?_
          refine r_istore (pc := 40) hC rfl rfl dX10_isCovering_40 ?_
          refine r_iconst (pc := 42) hC (v := (0 : Int32)) (by decide) dX10_isCovering_42 ?_
          refine r_istore (pc := 43) hC rfl rfl dX10_isCovering_43 ?_
          refine r_wk [true, true, true, false, true, true, true] (w_it2 (fun i5 i6 => σ) (fun i5 i6 => [some (.ref (ad κ 0)), some (.int a1), some (.int a2), none, some (.int i3), some (.int i5), some (.int i6)]) (fun self7 ih45_7 i5 i6 => ?_) N (0 : Int32) (0 : Int32))
          unfold M_isCovering_B45
          refine r_iload (pc := 45) hC rfl dX10_isCovering_45 ?_
          refine r_aload_n (pc := 47) hC rfl dX10_isCovering_47 ?_
          refine r_cT (pc := 48) (rest := [.int i6]) (runV [] hC (c_M_many (kl κ) (kW κ) hC.2.2.2.2.2.2.2.2.1 σ) o_X10_many k_1274 (q0 := 0) (ci := 10) rfl rfl (rm_ok hR rfl) rfl (Nat.le_of_ble_eq_true rfl) dX10_isCovering_48) ?_
          refine r_icmp_ge (pc := 51) (tgt := 93) hC dX10_isCovering_51 (by decide) ?_ ?_
          · refine r_iload (pc := 93) hC rfl dX10_isCovering_93 ?_
            refine r_istore_n (pc := 95) hC rfl rfl dX10_isCovering_95 ?_
            refine r_iinc (pc := 96) hC (v := (1 : Int32)) rfl (by decide) rfl rfl dX10_isCovering_96 ?_
            refine r_goto (pc := 99) (tgt := 13) hC dX10_isCovering_99 (by decide) ?_
            exact r_wk [true, true, true, true, true, false, false] (ih13_4 i5 (i3 + (1 : Int32)))
          · refine r_iload (pc := 54) hC rfl dX10_isCovering_54 ?_
            refine r_if_ne (pc := 56) (tgt := 80) hC dX10_isCovering_56 (by decide) ?_ ?_
            · refine r_iconst (pc := 80) hC (v := (1 : Int32)) (by decide) dX10_isCovering_80 ?_
              refine r_goto (pc := 81) (tgt := 85) hC dX10_isCovering_81 (by decide) ?_
              refine r_istore (pc := 85) hC rfl rfl dX10_isCovering_85 ?_
              refine r_iinc (pc := 87) hC (v := (1 : Int32)) rfl (by decide) rfl rfl dX10_isCovering_87 ?_
              refine r_goto (pc := 90) (tgt := 45) hC dX10_isCovering_90 (by decide) ?_
              exact ih45_7 (1 : Int32) (i6 + (1 : Int32))
            · refine r_iload_n (pc := 59) hC rfl dX10_isCovering_59 ?_
              refine r_iload (pc := 60) hC rfl dX10_isCovering_60 ?_
              refine r_cT (pc := 62) (rest := []) (runS [.int a1, .int i6] hC (c_M_has (kl κ) (kW κ) hC.2.2.2.2.2.2.2.2.1 a1 i6 σ) o_X10_has k_1194 (rm_ok hR rfl) rfl (Nat.le_of_ble_eq_true rfl) dX10_isCovering_62) ?_
              refine r_if_eq (pc := 65) (tgt := 84) hC dX10_isCovering_65 (by decide) ?_ ?_
              · refine r_iconst (pc := 84) hC (v := (0 : Int32)) (by decide) dX10_isCovering_84 ?_
                refine r_istore (pc := 85) hC rfl rfl dX10_isCovering_85 ?_
                refine r_iinc (pc := 87) hC (v := (1 : Int32)) rfl (by decide) rfl rfl dX10_isCovering_87 ?_
                refine r_goto (pc := 90) (tgt := 45) hC dX10_isCovering_90 (by decide) ?_
                exact ih45_7 (0 : Int32) (i6 + (1 : Int32))
              · refine r_aload_n (pc := 68) hC rfl dX10_isCovering_68 ?_
                refine r_iload (pc := 69) hC rfl dX10_isCovering_69 ?_
                refine r_iload (pc := 71) hC rfl dX10_isCovering_71 ?_
                refine r_iload_n (pc := 73) hC rfl dX10_isCovering_73 ?_
                refine r_cO (pc := 74) (rest := []) (fun r8 hf => runV [.int i6, .int i3, .int a1] hC (c_M_covers (kl κ) (kW κ) hC.2.2.2.2.2.2.2.2.1 i6 i3 a1 σ r8 hf) o_X10_covers k_1232 (q0 := 0) (ci := 10) rfl rfl (rm_ok hR rfl) rfl (Nat.le_of_ble_eq_true rfl) dX10_isCovering_74) (fun r8 => ?_)
                refine r_if_eq (pc := 77) (tgt := 84) hC dX10_isCovering_77 (by decide) ?_ ?_
                · refine r_iconst (pc := 84) hC (v := (0 : Int32)) (by decide) dX10_isCovering_84 ?_
                  refine r_istore (pc := 85) hC rfl rfl dX10_isCovering_85 ?_
                  refine r_iinc (pc := 87) hC (v := (1 : Int32)) rfl (by decide) rfl rfl dX10_isCovering_87 ?_
                  refine r_goto (pc := 90) (tgt := 45) hC dX10_isCovering_90 (by decide) ?_
                  exact ih45_7 (0 : Int32) (i6 + (1 : Int32))
                · refine r_iconst (pc := 80) hC (v := (1 : Int32)) (by decide) dX10_isCovering_80 ?_
                  refine r_goto (pc := 81) (tgt := 85) hC dX10_isCovering_81 (by decide) ?_
                  refine r_istore (pc := 85) hC rfl rfl dX10_isCovering_85 ?_
                  refine r_iinc (pc := 87) hC (v := (1 : Int32)) rfl (by decide) rfl rfl dX10_isCovering_87 ?_
                  refine r_goto (pc := 90) (tgt := 45) hC dX10_isCovering_90 (by decide) ?_
                  exact ih45_7 (1 : Int32) (i6 + (1 : Int32))
  refine r_if_eq (pc := 1) (tgt := 8) hC dX10_isCovering_1 (by decide) ?_ ?_
  · refine r_iconst (pc := 8) hC (v := (0 : Int32)) (by decide) dX10_isCovering_8 ?_
    exact hJ9_8 (0 : Int32)
  · refine r_iconst (pc := 4) hC (v := (1 : Int32)) (by decide) dX10_isCovering_4 ?_
    refine r_goto (pc := 5) (tgt := 9) hC dX10_isCovering_5 (by decide) ?_
    exact hJ9_8 (1 : Int32)
set_option maxRecDepth 100000 in
set_option maxHeartbeats 4000000 in
theorem c_M_isCovering (l : Launch) (w : Wenv) (hw : okw w wM) (N : Nat) (a1 : Int32) (a2 : Int32) (σ : Mem) (r : Int32) (hf : f_M_isCovering N a1 a2 σ = some r) : Ctr l w wM yX10_isCovering cX10_isCovering 7 (some .boolean) 2 44 [.ref (w.2.2.1 0), .int a1, .int a2] σ (cQi w wM r σ) := mk_ctr (Q := fun κ => qO κ wM σ) (lv := [some (.ref (w.2.2.1 0)), some (.int a1), some (.int a2), none, none, none, none]) (by decide) rfl hw (Nat.le_of_ble_eq_true rfl) rfl hf (fun κ h => by subst h; rfl) (fun κ hl h hR hC => by
    subst h
    exact w_M_isCovering hR hC N a1 a2 σ)
-- DuelRoundModel.covering(I)I (0, None) kind O
def M_covering_B4 (N : Nat) (σ : Mem) (a1 : Int32) (self3 : Int32 → Int32 → Option Int32) (i1 : Int32) (i2 : Int32) : Option Int32 :=
  if (256 : Int32) ≤ i2 then
  (some i1)
  else
  (if (t_M_isWithin i2 a1) = (0 : Int32) then
  (self3 i1 (i2 + (1 : Int32)))
  else
  (ob (f_M_sizeOf N i2) fun r4 =>
  ob (f_M_sizeOf N i1) fun r5 =>
  if r5 ≤ r4 then
  (self3 i1 (i2 + (1 : Int32)))
  else
  (ob (f_M_isCovering N i2 a1 σ) fun r6 =>
  if r6 = (0 : Int32) then
  (self3 i1 (i2 + (1 : Int32)))
  else
  (self3 i2 (i2 + (1 : Int32))))))
def f_M_covering (N : Nat) (a1 : Int32) (σ : Mem) : Option Int32 :=
  it2 (M_covering_B4 N σ a1) N a1 (1 : Int32)
set_option maxRecDepth 100000 in
set_option maxHeartbeats 4000000 in
theorem w_M_covering {κ : Ctx} (hR : kR κ = { frames := 3, cells := 0, slots := 0, locals := 70 }) (hC : ok κ wM cX10_covering 4 RX10 (some .int)) (N : Nat) (a1 : Int32) (σ : Mem) : wF κ wM 4 (qO κ wM σ) σ 0 [some (.ref (ad κ 0)), some (.int a1), none, none] [] (f_M_covering N a1 σ) := by
  unfold f_M_covering
  refine r_iload_n (pc := 0) hC rfl dX10_covering_0 ?_
  refine r_istore_n (pc := 1) hC rfl rfl dX10_covering_1 ?_
  refine r_iconst (pc := 2) hC (v := (1 : Int32)) (by decide) dX10_covering_2 ?_
  refine r_istore_n (pc := 3) hC rfl rfl dX10_covering_3 ?_
  refine w_it2 (fun i1 i2 => σ) (fun i1 i2 => [some (.ref (ad κ 0)), some (.int a1), some (.int i1), some (.int i2)]) (fun self3 ih4_3 i1 i2 => ?_) N a1 (1 : Int32)
  unfold M_covering_B4
  refine r_iload_n (pc := 4) hC rfl dX10_covering_4 ?_
  refine r_sipush (pc := 5) hC (v := (256 : Int32)) (by decide) dX10_covering_5 ?_
  refine r_icmp_ge (pc := 8) (tgt := 51) hC dX10_covering_8 (by decide) ?_ ?_
  · refine r_iload_n (pc := 51) hC rfl dX10_covering_51 ?_
    exact r_retO hC rfl dX10_covering_52
  · refine r_iload_n (pc := 11) hC rfl dX10_covering_11 ?_
    refine r_iload_n (pc := 12) hC rfl dX10_covering_12 ?_
    refine r_cT (pc := 13) (rest := []) (runS [.int i2, .int a1] hC (c_M_isWithin (kl κ) (kW κ) hC.2.2.2.2.2.2.2.2.1 i2 a1 σ) o_X10_isWithin k_1236 (rm_ok hR rfl) rfl (Nat.le_of_ble_eq_true rfl) dX10_covering_13) ?_
    refine r_if_eq (pc := 16) (tgt := 43) hC dX10_covering_16 (by decide) ?_ ?_
    · refine r_iload_n (pc := 43) hC rfl dX10_covering_43 ?_
      refine r_istore_n (pc := 44) hC rfl rfl dX10_covering_44 ?_
      refine r_iinc (pc := 45) hC (v := (1 : Int32)) rfl (by decide) rfl rfl dX10_covering_45 ?_
      refine r_goto (pc := 48) (tgt := 4) hC dX10_covering_48 (by decide) ?_
      exact ih4_3 i1 (i2 + (1 : Int32))
    · refine r_iload_n (pc := 19) hC rfl dX10_covering_19 ?_
      refine r_cO (pc := 20) (rest := []) (fun r4 hf => runS [.int i2] hC (c_M_sizeOf (kl κ) (kW κ) hC.2.2.2.2.2.2.2.2.1 N i2 σ r4 hf) o_X10_sizeOf k_1298 (rm_ok hR rfl) rfl (Nat.le_of_ble_eq_true rfl) dX10_covering_20) (fun r4 => ?_)
      refine r_iload_n (pc := 23) hC rfl dX10_covering_23 ?_
      refine r_cO (pc := 24) (rest := [.int r4]) (fun r5 hf => runS [.int i1] hC (c_M_sizeOf (kl κ) (kW κ) hC.2.2.2.2.2.2.2.2.1 N i1 σ r5 hf) o_X10_sizeOf k_1298 (rm_ok hR rfl) rfl (Nat.le_of_ble_eq_true rfl) dX10_covering_24) (fun r5 => ?_)
      refine r_icmp_ge (pc := 27) (tgt := 43) hC dX10_covering_27 (by decide) ?_ ?_
      · refine r_iload_n (pc := 43) hC rfl dX10_covering_43 ?_
        refine r_istore_n (pc := 44) hC rfl rfl dX10_covering_44 ?_
        refine r_iinc (pc := 45) hC (v := (1 : Int32)) rfl (by decide) rfl rfl dX10_covering_45 ?_
        refine r_goto (pc := 48) (tgt := 4) hC dX10_covering_48 (by decide) ?_
        exact ih4_3 i1 (i2 + (1 : Int32))
      · refine r_aload_n (pc := 30) hC rfl dX10_covering_30 ?_
        refine r_iload_n (pc := 31) hC rfl dX10_covering_31 ?_
        refine r_iload_n (pc := 32) hC rfl dX10_covering_32 ?_
        refine r_cO (pc := 33) (rest := []) (fun r6 hf => runV [.int i2, .int a1] hC (c_M_isCovering (kl κ) (kW κ) hC.2.2.2.2.2.2.2.2.1 N i2 a1 σ r6 hf) o_X10_isCovering k_1341 (q0 := 0) (ci := 10) rfl rfl (rm_ok hR rfl) rfl (Nat.le_of_ble_eq_true rfl) dX10_covering_33) (fun r6 => ?_)
        refine r_if_eq (pc := 36) (tgt := 43) hC dX10_covering_36 (by decide) ?_ ?_
        · refine r_iload_n (pc := 43) hC rfl dX10_covering_43 ?_
          refine r_istore_n (pc := 44) hC rfl rfl dX10_covering_44 ?_
          refine r_iinc (pc := 45) hC (v := (1 : Int32)) rfl (by decide) rfl rfl dX10_covering_45 ?_
          refine r_goto (pc := 48) (tgt := 4) hC dX10_covering_48 (by decide) ?_
          exact ih4_3 i1 (i2 + (1 : Int32))
        · refine r_iload_n (pc := 39) hC rfl dX10_covering_39 ?_
          refine r_goto (pc := 40) (tgt := 44) hC dX10_covering_40 (by decide) ?_
          refine r_istore_n (pc := 44) hC rfl rfl dX10_covering_44 ?_
          refine r_iinc (pc := 45) hC (v := (1 : Int32)) rfl (by decide) rfl rfl dX10_covering_45 ?_
          refine r_goto (pc := 48) (tgt := 4) hC dX10_covering_48 (by decide) ?_
          exact ih4_3 i2 (i2 + (1 : Int32))
set_option maxRecDepth 100000 in
set_option maxHeartbeats 4000000 in
theorem c_M_covering (l : Launch) (w : Wenv) (hw : okw w wM) (N : Nat) (a1 : Int32) (σ : Mem) (r : Int32) (hf : f_M_covering N a1 σ = some r) : Ctr l w wM yX10_covering cX10_covering 4 (some .int) 3 70 [.ref (w.2.2.1 0), .int a1] σ (cQi w wM r σ) := mk_ctr (Q := fun κ => qO κ wM σ) (lv := [some (.ref (w.2.2.1 0)), some (.int a1), none, none]) (by decide) rfl hw (Nat.le_of_ble_eq_true rfl) rfl hf (fun κ h => by subst h; rfl) (fun κ hl h hR hC => by
    subst h
    exact w_M_covering hR hC N a1 σ)
-- DuelRoundModel.slater(I)I (0, None) kind OM
def M_slater_B8 (N : Nat) (s1 : Mem) (a1 : Int32) (self4 : Int32 → Int32 → Option (Int32 × Mem)) (i2 : Int32) (i3 : Int32) : Option (Int32 × Mem) :=
  if (t_M_many s1) ≤ i3 then
  (some (i2, s1))
  else
  (if (t_M_has a1 i3) = (0 : Int32) then
  (bnd (i2 ||| (0 : Int32)) fun x5 =>
  self4 x5 (i3 + (1 : Int32)))
  else
  (ob (f_M_turnedBy N i3 a1 s1) fun r6 =>
  gd (inb a1 256) (if r6 = (gI s1 18 a1.toNatClampNeg) then
  (bnd (i2 ||| ((1 : Int32) <<< (i3 &&& 31))) fun x8 =>
  self4 x8 (i3 + (1 : Int32)))
  else
  (bnd (i2 ||| (0 : Int32)) fun x7 =>
  self4 x7 (i3 + (1 : Int32))))))
def f_M_slater (N : Nat) (a1 : Int32) (σ : Mem) : Option (Int32 × Mem) :=
  ob (f_M_layOrders N σ) fun s1 =>
  it2 (M_slater_B8 N s1 a1) N (0 : Int32) (0 : Int32)
set_option maxRecDepth 100000 in
set_option maxHeartbeats 4000000 in
theorem w_M_slater {κ : Ctx} (hR : kR κ = { frames := 4, cells := 0, slots := 0, locals := 85 }) (hC : ok κ wM cX10_slater 4 RX10 (some .int)) (N : Nat) (a1 : Int32) (σ : Mem) : wF κ wM 4 (qOM κ wM) σ 0 [some (.ref (ad κ 0)), some (.int a1), none, none] [] (f_M_slater N a1 σ) := by
  unfold f_M_slater
  refine r_aload_n (pc := 0) hC rfl dX10_slater_0 ?_
  refine r_cM (pc := 1) (rest := []) (fun s1 hf => runV [] hC (c_M_layOrders (kl κ) (kW κ) hC.2.2.2.2.2.2.2.2.1 N σ s1 hf) o_X10_layOrders k_1329 (q0 := 0) (ci := 10) rfl rfl (rm_ok hR rfl) rfl (Nat.le_of_ble_eq_true rfl) dX10_slater_1) (fun s1 => ?_)
  refine r_iconst (pc := 4) hC (v := (0 : Int32)) (by decide) dX10_slater_4 ?_
  refine r_istore_n (pc := 5) hC rfl rfl dX10_slater_5 ?_
  refine r_iconst (pc := 6) hC (v := (0 : Int32)) (by decide) dX10_slater_6 ?_
  refine r_istore_n (pc := 7) hC rfl rfl dX10_slater_7 ?_
  refine w_it2 (fun i2 i3 => s1) (fun i2 i3 => [some (.ref (ad κ 0)), some (.int a1), some (.int i2), some (.int i3)]) (fun self4 ih8_4 i2 i3 => ?_) N (0 : Int32) (0 : Int32)
  unfold M_slater_B8
  refine r_iload_n (pc := 8) hC rfl dX10_slater_8 ?_
  refine r_aload_n (pc := 9) hC rfl dX10_slater_9 ?_
  refine r_cT (pc := 10) (rest := [.int i3]) (runV [] hC (c_M_many (kl κ) (kW κ) hC.2.2.2.2.2.2.2.2.1 s1) o_X10_many k_1274 (q0 := 0) (ci := 10) rfl rfl (rm_ok hR rfl) rfl (Nat.le_of_ble_eq_true rfl) dX10_slater_10) ?_
  refine r_icmp_ge (pc := 13) (tgt := 55) hC dX10_slater_13 (by decide) ?_ ?_
  · refine r_iload_n (pc := 55) hC rfl dX10_slater_55 ?_
    exact r_retOM hC rfl dX10_slater_56
  · refine r_iload_n (pc := 16) hC rfl dX10_slater_16 ?_
    refine r_iload_n (pc := 17) hC rfl dX10_slater_17 ?_
    refine r_iload_n (pc := 18) hC rfl dX10_slater_18 ?_
    refine r_cT (pc := 19) (rest := [.int i2]) (runS [.int a1, .int i3] hC (c_M_has (kl κ) (kW κ) hC.2.2.2.2.2.2.2.2.1 a1 i3 s1) o_X10_has k_1194 (rm_ok hR rfl) rfl (Nat.le_of_ble_eq_true rfl) dX10_slater_19) ?_
    refine r_if_eq (pc := 22) (tgt := 46) hC dX10_slater_22 (by decide) ?_ ?_
    · refine r_iconst (pc := 46) hC (v := (0 : Int32)) (by decide) dX10_slater_46 ?_
      refine r_ior (pc := 47) hC dX10_slater_47 ?_
      refine r_let (fun x5 => ?_)
      refine r_istore_n (pc := 48) hC rfl rfl dX10_slater_48 ?_
      refine r_iinc (pc := 49) hC (v := (1 : Int32)) rfl (by decide) rfl rfl dX10_slater_49 ?_
      refine r_goto (pc := 52) (tgt := 8) hC dX10_slater_52 (by decide) ?_
      exact ih8_4 x5 (i3 + (1 : Int32))
    · refine r_aload_n (pc := 25) hC rfl dX10_slater_25 ?_
      refine r_iload_n (pc := 26) hC rfl dX10_slater_26 ?_
      refine r_iload_n (pc := 27) hC rfl dX10_slater_27 ?_
      refine r_cO (pc := 28) (rest := [.int i2]) (fun r6 hf => runV [.int i3, .int a1] hC (c_M_turnedBy (kl κ) (kW κ) hC.2.2.2.2.2.2.2.2.1 N i3 a1 s1 r6 hf) o_X10_turnedBy k_1333 (q0 := 0) (ci := 10) rfl rfl (rm_ok hR rfl) rfl (Nat.le_of_ble_eq_true rfl) dX10_slater_28) (fun r6 => ?_)
      refine r_aload_n (pc := 31) hC rfl dX10_slater_31 ?_
      refine gM_0_18 (pc := 32) hC k_1055 dX10_slater_32 ?_
      refine r_iload_n (pc := 35) hC rfl dX10_slater_35 ?_
      refine aM_12 (pc := 36) hC dX10_slater_36 ?_
      refine r_icmp_ne (pc := 37) (tgt := 46) hC dX10_slater_37 (by decide) ?_ ?_
      · refine r_iconst (pc := 46) hC (v := (0 : Int32)) (by decide) dX10_slater_46 ?_
        refine r_ior (pc := 47) hC dX10_slater_47 ?_
        refine r_let (fun x7 => ?_)
        refine r_istore_n (pc := 48) hC rfl rfl dX10_slater_48 ?_
        refine r_iinc (pc := 49) hC (v := (1 : Int32)) rfl (by decide) rfl rfl dX10_slater_49 ?_
        refine r_goto (pc := 52) (tgt := 8) hC dX10_slater_52 (by decide) ?_
        exact ih8_4 x7 (i3 + (1 : Int32))
      · refine r_iconst (pc := 40) hC (v := (1 : Int32)) (by decide) dX10_slater_40 ?_
        refine r_iload_n (pc := 41) hC rfl dX10_slater_41 ?_
        refine r_ishl (pc := 42) hC dX10_slater_42 ?_
        refine r_goto (pc := 43) (tgt := 47) hC dX10_slater_43 (by decide) ?_
        refine r_ior (pc := 47) hC dX10_slater_47 ?_
        refine r_let (fun x8 => ?_)
        refine r_istore_n (pc := 48) hC rfl rfl dX10_slater_48 ?_
        refine r_iinc (pc := 49) hC (v := (1 : Int32)) rfl (by decide) rfl rfl dX10_slater_49 ?_
        refine r_goto (pc := 52) (tgt := 8) hC dX10_slater_52 (by decide) ?_
        exact ih8_4 x8 (i3 + (1 : Int32))
set_option maxRecDepth 100000 in
set_option maxHeartbeats 4000000 in
theorem c_M_slater (l : Launch) (w : Wenv) (hw : okw w wM) (N : Nat) (a1 : Int32) (σ : Mem) (r : Int32) (τ : Mem) (hf : f_M_slater N a1 σ = some (r, τ)) : Ctr l w wM yX10_slater cX10_slater 4 (some .int) 4 85 [.ref (w.2.2.1 0), .int a1] σ (cQi w wM r τ) := mk_ctr (Q := fun κ => qOM κ wM) (lv := [some (.ref (w.2.2.1 0)), some (.int a1), none, none]) (by decide) rfl hw (Nat.le_of_ble_eq_true rfl) rfl hf (fun κ h => by subst h; rfl) (fun κ hl h hR hC => by
    subst h
    exact w_M_slater hR hC N a1 σ)
-- DuelRoundModel.banks(I)I (0, None) kind OM
def M_banks_B4 (N : Nat) (a1 : Int32) (self4 : Int32 → Int32 → Mem → Option (Int32 × Mem)) (i1 : Int32) (i2 : Int32) (s3 : Mem) : Option (Int32 × Mem) :=
  if (t_M_many s3) ≤ i2 then
  (some (i1, s3))
  else
  (if (t_M_has a1 i2) = (0 : Int32) then
  (bnd (i1 ||| (0 : Int32)) fun x5 =>
  self4 x5 (i2 + (1 : Int32)) s3)
  else
  (ob2 (f_M_hasChain N i2 a1 s3) fun r7 s6 =>
  if r7 = (0 : Int32) then
  (bnd (i1 ||| (0 : Int32)) fun x8 =>
  self4 x8 (i2 + (1 : Int32)) s6)
  else
  (bnd (i1 ||| ((1 : Int32) <<< (i2 &&& 31))) fun x9 =>
  self4 x9 (i2 + (1 : Int32)) s6)))
def f_M_banks (N : Nat) (a1 : Int32) (σ : Mem) : Option (Int32 × Mem) :=
  it3 (M_banks_B4 N a1) N (0 : Int32) (0 : Int32) σ
set_option maxRecDepth 100000 in
set_option maxHeartbeats 4000000 in
theorem w_M_banks {κ : Ctx} (hR : kR κ = { frames := 3, cells := 0, slots := 0, locals := 65 }) (hC : ok κ wM cX10_banks 4 RX10 (some .int)) (N : Nat) (a1 : Int32) (σ : Mem) : wF κ wM 4 (qOM κ wM) σ 0 [some (.ref (ad κ 0)), some (.int a1), none, none] [] (f_M_banks N a1 σ) := by
  unfold f_M_banks
  refine r_iconst (pc := 0) hC (v := (0 : Int32)) (by decide) dX10_banks_0 ?_
  refine r_istore_n (pc := 1) hC rfl rfl dX10_banks_1 ?_
  refine r_iconst (pc := 2) hC (v := (0 : Int32)) (by decide) dX10_banks_2 ?_
  refine r_istore_n (pc := 3) hC rfl rfl dX10_banks_3 ?_
  refine w_it3 (fun i1 i2 s3 => s3) (fun i1 i2 s3 => [some (.ref (ad κ 0)), some (.int a1), some (.int i1), some (.int i2)]) (fun self4 ih4_4 i1 i2 s3 => ?_) N (0 : Int32) (0 : Int32) σ
  unfold M_banks_B4
  refine r_iload_n (pc := 4) hC rfl dX10_banks_4 ?_
  refine r_aload_n (pc := 5) hC rfl dX10_banks_5 ?_
  refine r_cT (pc := 6) (rest := [.int i2]) (runV [] hC (c_M_many (kl κ) (kW κ) hC.2.2.2.2.2.2.2.2.1 s3) o_X10_many k_1274 (q0 := 0) (ci := 10) rfl rfl (rm_ok hR rfl) rfl (Nat.le_of_ble_eq_true rfl) dX10_banks_6) ?_
  refine r_icmp_ge (pc := 9) (tgt := 45) hC dX10_banks_9 (by decide) ?_ ?_
  · refine r_iload_n (pc := 45) hC rfl dX10_banks_45 ?_
    exact r_retOM hC rfl dX10_banks_46
  · refine r_iload_n (pc := 12) hC rfl dX10_banks_12 ?_
    refine r_iload_n (pc := 13) hC rfl dX10_banks_13 ?_
    refine r_iload_n (pc := 14) hC rfl dX10_banks_14 ?_
    refine r_cT (pc := 15) (rest := [.int i1]) (runS [.int a1, .int i2] hC (c_M_has (kl κ) (kW κ) hC.2.2.2.2.2.2.2.2.1 a1 i2 s3) o_X10_has k_1194 (rm_ok hR rfl) rfl (Nat.le_of_ble_eq_true rfl) dX10_banks_15) ?_
    refine r_if_eq (pc := 18) (tgt := 36) hC dX10_banks_18 (by decide) ?_ ?_
    · refine r_iconst (pc := 36) hC (v := (0 : Int32)) (by decide) dX10_banks_36 ?_
      refine r_ior (pc := 37) hC dX10_banks_37 ?_
      refine r_let (fun x5 => ?_)
      refine r_istore_n (pc := 38) hC rfl rfl dX10_banks_38 ?_
      refine r_iinc (pc := 39) hC (v := (1 : Int32)) rfl (by decide) rfl rfl dX10_banks_39 ?_
      refine r_goto (pc := 42) (tgt := 4) hC dX10_banks_42 (by decide) ?_
      exact ih4_4 x5 (i2 + (1 : Int32)) s3
    · refine r_aload_n (pc := 21) hC rfl dX10_banks_21 ?_
      refine r_iload_n (pc := 22) hC rfl dX10_banks_22 ?_
      refine r_iload_n (pc := 23) hC rfl dX10_banks_23 ?_
      refine r_cOM (pc := 24) (rest := [.int i1]) (fun r7 s6 hf => runV [.int i2, .int a1] hC (c_M_hasChain (kl κ) (kW κ) hC.2.2.2.2.2.2.2.2.1 N i2 a1 s3 r7 s6 hf) o_X10_hasChain k_1321 (q0 := 0) (ci := 10) rfl rfl (rm_ok hR rfl) rfl (Nat.le_of_ble_eq_true rfl) dX10_banks_24) (fun r7 s6 => ?_)
      refine r_if_eq (pc := 27) (tgt := 36) hC dX10_banks_27 (by decide) ?_ ?_
      · refine r_iconst (pc := 36) hC (v := (0 : Int32)) (by decide) dX10_banks_36 ?_
        refine r_ior (pc := 37) hC dX10_banks_37 ?_
        refine r_let (fun x8 => ?_)
        refine r_istore_n (pc := 38) hC rfl rfl dX10_banks_38 ?_
        refine r_iinc (pc := 39) hC (v := (1 : Int32)) rfl (by decide) rfl rfl dX10_banks_39 ?_
        refine r_goto (pc := 42) (tgt := 4) hC dX10_banks_42 (by decide) ?_
        exact ih4_4 x8 (i2 + (1 : Int32)) s6
      · refine r_iconst (pc := 30) hC (v := (1 : Int32)) (by decide) dX10_banks_30 ?_
        refine r_iload_n (pc := 31) hC rfl dX10_banks_31 ?_
        refine r_ishl (pc := 32) hC dX10_banks_32 ?_
        refine r_goto (pc := 33) (tgt := 37) hC dX10_banks_33 (by decide) ?_
        refine r_ior (pc := 37) hC dX10_banks_37 ?_
        refine r_let (fun x9 => ?_)
        refine r_istore_n (pc := 38) hC rfl rfl dX10_banks_38 ?_
        refine r_iinc (pc := 39) hC (v := (1 : Int32)) rfl (by decide) rfl rfl dX10_banks_39 ?_
        refine r_goto (pc := 42) (tgt := 4) hC dX10_banks_42 (by decide) ?_
        exact ih4_4 x9 (i2 + (1 : Int32)) s6
set_option maxRecDepth 100000 in
set_option maxHeartbeats 4000000 in
theorem c_M_banks (l : Launch) (w : Wenv) (hw : okw w wM) (N : Nat) (a1 : Int32) (σ : Mem) (r : Int32) (τ : Mem) (hf : f_M_banks N a1 σ = some (r, τ)) : Ctr l w wM yX10_banks cX10_banks 4 (some .int) 3 65 [.ref (w.2.2.1 0), .int a1] σ (cQi w wM r τ) := mk_ctr (Q := fun κ => qOM κ wM) (lv := [some (.ref (w.2.2.1 0)), some (.int a1), none, none]) (by decide) rfl hw (Nat.le_of_ble_eq_true rfl) rfl hf (fun κ h => by subst h; rfl) (fun κ hl h hR hC => by
    subst h
    exact w_M_banks hR hC N a1 σ)
-- DuelRoundModel.uncovered(I)I (0, None) kind O
def M_uncovered_B15 (σ : Mem) (a1 : Int32) (i2 : Int32) (self3 : Int32 → Int32 → Option Int32) (self6 : Int32 → Int32 → Option Int32) (i4 : Int32) (i5 : Int32) : Option Int32 :=
  if (t_M_many σ) ≤ i5 then
  (self3 i4 (i2 + (1 : Int32)))
  else
  (if (t_M_has a1 i2) = (0 : Int32) then
  (bnd (i4 &&& (-1 : Int32)) fun x7 =>
  self6 x7 (i5 + (1 : Int32)))
  else
  (if (t_M_has a1 i5) = (0 : Int32) then
  (bnd (i4 &&& (-1 : Int32)) fun x8 =>
  self6 x8 (i5 + (1 : Int32)))
  else
  (if i2 = i5 then
  (bnd (i4 &&& (-1 : Int32)) fun x9 =>
  self6 x9 (i5 + (1 : Int32)))
  else
  (ob (f_M_covers i2 i5 a1 σ) fun r10 =>
  if r10 = (0 : Int32) then
  (bnd (i4 &&& (-1 : Int32)) fun x11 =>
  self6 x11 (i5 + (1 : Int32)))
  else
  (bnd (i4 &&& (((1 : Int32) <<< (i5 &&& 31)) ^^^ (-1 : Int32))) fun x12 =>
  self6 x12 (i5 + (1 : Int32)))))))
def M_uncovered_B4 (N : Nat) (σ : Mem) (a1 : Int32) (self3 : Int32 → Int32 → Option Int32) (i1 : Int32) (i2 : Int32) : Option Int32 :=
  if (t_M_many σ) ≤ i2 then
  (some i1)
  else
  (it2 (M_uncovered_B15 σ a1 i2 self3) N i1 (0 : Int32))
def f_M_uncovered (N : Nat) (a1 : Int32) (σ : Mem) : Option Int32 :=
  it2 (M_uncovered_B4 N σ a1) N a1 (0 : Int32)
set_option maxRecDepth 100000 in
set_option maxHeartbeats 4000000 in
theorem w_M_uncovered {κ : Ctx} (hR : kR κ = { frames := 2, cells := 0, slots := 0, locals := 44 }) (hC : ok κ wM cX10_uncovered 5 RX10 (some .int)) (N : Nat) (a1 : Int32) (σ : Mem) : wF κ wM 5 (qO κ wM σ) σ 0 [some (.ref (ad κ 0)), some (.int a1), none, none, none] [] (f_M_uncovered N a1 σ) := by
  unfold f_M_uncovered
  refine r_iload_n (pc := 0) hC rfl dX10_uncovered_0 ?_
  refine r_istore_n (pc := 1) hC rfl rfl dX10_uncovered_1 ?_
  refine r_iconst (pc := 2) hC (v := (0 : Int32)) (by decide) dX10_uncovered_2 ?_
  refine r_istore_n (pc := 3) hC rfl rfl dX10_uncovered_3 ?_
  refine w_it2 (fun i1 i2 => σ) (fun i1 i2 => [some (.ref (ad κ 0)), some (.int a1), some (.int i1), some (.int i2), none]) (fun self3 ih4_3 i1 i2 => ?_) N a1 (0 : Int32)
  unfold M_uncovered_B4
  refine r_iload_n (pc := 4) hC rfl dX10_uncovered_4 ?_
  refine r_aload_n (pc := 5) hC rfl dX10_uncovered_5 ?_
  refine r_cT (pc := 6) (rest := [.int i2]) (runV [] hC (c_M_many (kl κ) (kW κ) hC.2.2.2.2.2.2.2.2.1 σ) o_X10_many k_1274 (q0 := 0) (ci := 10) rfl rfl (rm_ok hR rfl) rfl (Nat.le_of_ble_eq_true rfl) dX10_uncovered_6) ?_
  refine r_icmp_ge (pc := 9) (tgt := 83) hC dX10_uncovered_9 (by decide) ?_ ?_
  · refine r_iload_n (pc := 83) hC rfl dX10_uncovered_83 ?_
    exact r_retO hC rfl dX10_uncovered_84
  · refine r_iconst (pc := 12) hC (v := (0 : Int32)) (by decide) dX10_uncovered_12 ?_
    refine r_istore (pc := 13) hC rfl rfl dX10_uncovered_13 ?_
    refine w_it2 (fun i4 i5 => σ) (fun i4 i5 => [some (.ref (ad κ 0)), some (.int a1), some (.int i4), some (.int i2), some (.int i5)]) (fun self6 ih15_6 i4 i5 => ?_) N i1 (0 : Int32)
    unfold M_uncovered_B15
    refine r_iload (pc := 15) hC rfl dX10_uncovered_15 ?_
    refine r_aload_n (pc := 17) hC rfl dX10_uncovered_17 ?_
    refine r_cT (pc := 18) (rest := [.int i5]) (runV [] hC (c_M_many (kl κ) (kW κ) hC.2.2.2.2.2.2.2.2.1 σ) o_X10_many k_1274 (q0 := 0) (ci := 10) rfl rfl (rm_ok hR rfl) rfl (Nat.le_of_ble_eq_true rfl) dX10_uncovered_18) ?_
    refine r_icmp_ge (pc := 21) (tgt := 77) hC dX10_uncovered_21 (by decide) ?_ ?_
    · refine r_iinc (pc := 77) hC (v := (1 : Int32)) rfl (by decide) rfl rfl dX10_uncovered_77 ?_
      refine r_goto (pc := 80) (tgt := 4) hC dX10_uncovered_80 (by decide) ?_
      exact r_wk [true, true, true, true, false] (ih4_3 i4 (i2 + (1 : Int32)))
    · refine r_iload_n (pc := 24) hC rfl dX10_uncovered_24 ?_
      refine r_iload_n (pc := 25) hC rfl dX10_uncovered_25 ?_
      refine r_iload_n (pc := 26) hC rfl dX10_uncovered_26 ?_
      refine r_cT (pc := 27) (rest := [.int i4]) (runS [.int a1, .int i2] hC (c_M_has (kl κ) (kW κ) hC.2.2.2.2.2.2.2.2.1 a1 i2 σ) o_X10_has k_1194 (rm_ok hR rfl) rfl (Nat.le_of_ble_eq_true rfl) dX10_uncovered_27) ?_
      refine r_if_eq (pc := 30) (tgt := 68) hC dX10_uncovered_30 (by decide) ?_ ?_
      · refine r_iconst (pc := 68) hC (v := (-1 : Int32)) (by decide) dX10_uncovered_68 ?_
        refine r_iand (pc := 69) hC dX10_uncovered_69 ?_
        refine r_let (fun x7 => ?_)
        refine r_istore_n (pc := 70) hC rfl rfl dX10_uncovered_70 ?_
        refine r_iinc (pc := 71) hC (v := (1 : Int32)) rfl (by decide) rfl rfl dX10_uncovered_71 ?_
        refine r_goto (pc := 74) (tgt := 15) hC dX10_uncovered_74 (by decide) ?_
        exact ih15_6 x7 (i5 + (1 : Int32))
      · refine r_iload_n (pc := 33) hC rfl dX10_uncovered_33 ?_
        refine r_iload (pc := 34) hC rfl dX10_uncovered_34 ?_
        refine r_cT (pc := 36) (rest := [.int i4]) (runS [.int a1, .int i5] hC (c_M_has (kl κ) (kW κ) hC.2.2.2.2.2.2.2.2.1 a1 i5 σ) o_X10_has k_1194 (rm_ok hR rfl) rfl (Nat.le_of_ble_eq_true rfl) dX10_uncovered_36) ?_
        refine r_if_eq (pc := 39) (tgt := 68) hC dX10_uncovered_39 (by decide) ?_ ?_
        · refine r_iconst (pc := 68) hC (v := (-1 : Int32)) (by decide) dX10_uncovered_68 ?_
          refine r_iand (pc := 69) hC dX10_uncovered_69 ?_
          refine r_let (fun x8 => ?_)
          refine r_istore_n (pc := 70) hC rfl rfl dX10_uncovered_70 ?_
          refine r_iinc (pc := 71) hC (v := (1 : Int32)) rfl (by decide) rfl rfl dX10_uncovered_71 ?_
          refine r_goto (pc := 74) (tgt := 15) hC dX10_uncovered_74 (by decide) ?_
          exact ih15_6 x8 (i5 + (1 : Int32))
        · refine r_iload_n (pc := 42) hC rfl dX10_uncovered_42 ?_
          refine r_iload (pc := 43) hC rfl dX10_uncovered_43 ?_
          refine r_icmp_eq (pc := 45) (tgt := 68) hC dX10_uncovered_45 (by decide) ?_ ?_
          · refine r_iconst (pc := 68) hC (v := (-1 : Int32)) (by decide) dX10_uncovered_68 ?_
            refine r_iand (pc := 69) hC dX10_uncovered_69 ?_
            refine r_let (fun x9 => ?_)
            refine r_istore_n (pc := 70) hC rfl rfl dX10_uncovered_70 ?_
            refine r_iinc (pc := 71) hC (v := (1 : Int32)) rfl (by decide) rfl rfl dX10_uncovered_71 ?_
            refine r_goto (pc := 74) (tgt := 15) hC dX10_uncovered_74 (by decide) ?_
            exact ih15_6 x9 (i5 + (1 : Int32))
          · refine r_aload_n (pc := 48) hC rfl dX10_uncovered_48 ?_
            refine r_iload_n (pc := 49) hC rfl dX10_uncovered_49 ?_
            refine r_iload (pc := 50) hC rfl dX10_uncovered_50 ?_
            refine r_iload_n (pc := 52) hC rfl dX10_uncovered_52 ?_
            refine r_cO (pc := 53) (rest := [.int i4]) (fun r10 hf => runV [.int i2, .int i5, .int a1] hC (c_M_covers (kl κ) (kW κ) hC.2.2.2.2.2.2.2.2.1 i2 i5 a1 σ r10 hf) o_X10_covers k_1232 (q0 := 0) (ci := 10) rfl rfl (rm_ok hR rfl) rfl (Nat.le_of_ble_eq_true rfl) dX10_uncovered_53) (fun r10 => ?_)
            refine r_if_eq (pc := 56) (tgt := 68) hC dX10_uncovered_56 (by decide) ?_ ?_
            · refine r_iconst (pc := 68) hC (v := (-1 : Int32)) (by decide) dX10_uncovered_68 ?_
              refine r_iand (pc := 69) hC dX10_uncovered_69 ?_
              refine r_let (fun x11 => ?_)
              refine r_istore_n (pc := 70) hC rfl rfl dX10_uncovered_70 ?_
              refine r_iinc (pc := 71) hC (v := (1 : Int32)) rfl (by decide) rfl rfl dX10_uncovered_71 ?_
              refine r_goto (pc := 74) (tgt := 15) hC dX10_uncovered_74 (by decide) ?_
              exact ih15_6 x11 (i5 + (1 : Int32))
            · refine r_iconst (pc := 59) hC (v := (1 : Int32)) (by decide) dX10_uncovered_59 ?_
              refine r_iload (pc := 60) hC rfl dX10_uncovered_60 ?_
              refine r_ishl (pc := 62) hC dX10_uncovered_62 ?_
              refine r_iconst (pc := 63) hC (v := (-1 : Int32)) (by decide) dX10_uncovered_63 ?_
              refine r_ixor (pc := 64) hC dX10_uncovered_64 ?_
              refine r_goto (pc := 65) (tgt := 69) hC dX10_uncovered_65 (by decide) ?_
              refine r_iand (pc := 69) hC dX10_uncovered_69 ?_
              refine r_let (fun x12 => ?_)
              refine r_istore_n (pc := 70) hC rfl rfl dX10_uncovered_70 ?_
              refine r_iinc (pc := 71) hC (v := (1 : Int32)) rfl (by decide) rfl rfl dX10_uncovered_71 ?_
              refine r_goto (pc := 74) (tgt := 15) hC dX10_uncovered_74 (by decide) ?_
              exact ih15_6 x12 (i5 + (1 : Int32))
set_option maxRecDepth 100000 in
set_option maxHeartbeats 4000000 in
theorem c_M_uncovered (l : Launch) (w : Wenv) (hw : okw w wM) (N : Nat) (a1 : Int32) (σ : Mem) (r : Int32) (hf : f_M_uncovered N a1 σ = some r) : Ctr l w wM yX10_uncovered cX10_uncovered 5 (some .int) 2 44 [.ref (w.2.2.1 0), .int a1] σ (cQi w wM r σ) := mk_ctr (Q := fun κ => qO κ wM σ) (lv := [some (.ref (w.2.2.1 0)), some (.int a1), none, none, none]) (by decide) rfl hw (Nat.le_of_ble_eq_true rfl) rfl hf (fun κ h => by subst h; rfl) (fun κ hl h hR hC => by
    subst h
    exact w_M_uncovered hR hC N a1 σ)
-- DuelRoundModel.againUncovered(I)I (0, None) kind O
def M_againUncovered_B8 (N : Nat) (σ : Mem) (self4 : Int32 → Int32 → Option Int32) (i2 : Int32) (i3 : Int32) : Option Int32 :=
  if i3 = i2 then
  (some i2)
  else
  (ob (f_M_uncovered N i3 σ) fun r5 =>
  self4 i3 r5)
def f_M_againUncovered (N : Nat) (a1 : Int32) (σ : Mem) : Option Int32 :=
  ob (f_M_uncovered N a1 σ) fun r1 =>
  it2 (M_againUncovered_B8 N σ) N a1 r1
set_option maxRecDepth 100000 in
set_option maxHeartbeats 4000000 in
theorem w_M_againUncovered {κ : Ctx} (hR : kR κ = { frames := 3, cells := 0, slots := 0, locals := 68 }) (hC : ok κ wM cX10_againUncovered 4 RX10 (some .int)) (N : Nat) (a1 : Int32) (σ : Mem) : wF κ wM 4 (qO κ wM σ) σ 0 [some (.ref (ad κ 0)), some (.int a1), none, none] [] (f_M_againUncovered N a1 σ) := by
  unfold f_M_againUncovered
  refine r_iload_n (pc := 0) hC rfl dX10_againUncovered_0 ?_
  refine r_istore_n (pc := 1) hC rfl rfl dX10_againUncovered_1 ?_
  refine r_aload_n (pc := 2) hC rfl dX10_againUncovered_2 ?_
  refine r_iload_n (pc := 3) hC rfl dX10_againUncovered_3 ?_
  refine r_cO (pc := 4) (rest := []) (fun r1 hf => runV [.int a1] hC (c_M_uncovered (kl κ) (kW κ) hC.2.2.2.2.2.2.2.2.1 N a1 σ r1 hf) o_X10_uncovered k_1309 (q0 := 0) (ci := 10) rfl rfl (rm_ok hR rfl) rfl (Nat.le_of_ble_eq_true rfl) dX10_againUncovered_4) (fun r1 => ?_)
  refine r_istore_n (pc := 7) hC rfl rfl dX10_againUncovered_7 ?_
  refine r_wk [true, false, true, true] (w_it2 (fun i2 i3 => σ) (fun i2 i3 => [some (.ref (ad κ 0)), none, some (.int i2), some (.int i3)]) (fun self4 ih8_4 i2 i3 => ?_) N a1 r1)
  unfold M_againUncovered_B8
  refine r_iload_n (pc := 8) hC rfl dX10_againUncovered_8 ?_
  refine r_iload_n (pc := 9) hC rfl dX10_againUncovered_9 ?_
  refine r_icmp_eq (pc := 10) (tgt := 24) hC dX10_againUncovered_10 (by decide) ?_ ?_
  · refine r_iload_n (pc := 24) hC rfl dX10_againUncovered_24 ?_
    exact r_retO hC rfl dX10_againUncovered_25
  · refine r_iload_n (pc := 13) hC rfl dX10_againUncovered_13 ?_
    refine r_istore_n (pc := 14) hC rfl rfl dX10_againUncovered_14 ?_
    refine r_aload_n (pc := 15) hC rfl dX10_againUncovered_15 ?_
    refine r_iload_n (pc := 16) hC rfl dX10_againUncovered_16 ?_
    refine r_cO (pc := 17) (rest := []) (fun r5 hf => runV [.int i3] hC (c_M_uncovered (kl κ) (kW κ) hC.2.2.2.2.2.2.2.2.1 N i3 σ r5 hf) o_X10_uncovered k_1309 (q0 := 0) (ci := 10) rfl rfl (rm_ok hR rfl) rfl (Nat.le_of_ble_eq_true rfl) dX10_againUncovered_17) (fun r5 => ?_)
    refine r_istore_n (pc := 20) hC rfl rfl dX10_againUncovered_20 ?_
    refine r_goto (pc := 21) (tgt := 8) hC dX10_againUncovered_21 (by decide) ?_
    exact ih8_4 i3 r5
set_option maxRecDepth 100000 in
set_option maxHeartbeats 4000000 in
theorem c_M_againUncovered (l : Launch) (w : Wenv) (hw : okw w wM) (N : Nat) (a1 : Int32) (σ : Mem) (r : Int32) (hf : f_M_againUncovered N a1 σ = some r) : Ctr l w wM yX10_againUncovered cX10_againUncovered 4 (some .int) 3 68 [.ref (w.2.2.1 0), .int a1] σ (cQi w wM r σ) := mk_ctr (Q := fun κ => qO κ wM σ) (lv := [some (.ref (w.2.2.1 0)), some (.int a1), none, none]) (by decide) rfl hw (Nat.le_of_ble_eq_true rfl) rfl hf (fun κ h => by subst h; rfl) (fun κ hl h hR hC => by
    subst h
    exact w_M_againUncovered hR hC N a1 σ)
-- DuelRoundModel.most(I)I (0, None) kind O
def M_most_J60 (N : Nat) (σ : Mem) (a1 : Int32) (i3 : Int32) (self4 : Int32 → Int32 → Int32 → Option Int32) (v7 : Int32) : Option Int32 :=
  ob (f_M_winsOf N i3 a1 σ) fun r8 =>
  self4 v7 r8 (i3 + (1 : Int32))
def M_most_B7 (N : Nat) (σ : Mem) (a1 : Int32) (self4 : Int32 → Int32 → Int32 → Option Int32) (i1 : Int32) (i2 : Int32) (i3 : Int32) : Option Int32 :=
  if (t_M_many σ) ≤ i3 then
  (some i1)
  else
  (if (t_M_has a1 i3) = (0 : Int32) then
  (self4 i1 i2 (i3 + (1 : Int32)))
  else
  (ob (f_M_winsOf N i3 a1 σ) fun r5 =>
  if r5 < i2 then
  (self4 i1 i2 (i3 + (1 : Int32)))
  else
  (ob (f_M_winsOf N i3 a1 σ) fun r6 =>
  if r6 ≤ i2 then
  (M_most_J60 N σ a1 i3 self4 (i1 ||| ((1 : Int32) <<< (i3 &&& 31))))
  else
  (M_most_J60 N σ a1 i3 self4 ((1 : Int32) <<< (i3 &&& 31))))))
def f_M_most (N : Nat) (a1 : Int32) (σ : Mem) : Option Int32 :=
  it3 (M_most_B7 N σ a1) N (0 : Int32) (-1 : Int32) (0 : Int32)
set_option maxRecDepth 100000 in
set_option maxHeartbeats 4000000 in
theorem w_M_most {κ : Ctx} (hR : kR κ = { frames := 2, cells := 0, slots := 0, locals := 44 }) (hC : ok κ wM cX10_most 5 RX10 (some .int)) (N : Nat) (a1 : Int32) (σ : Mem) : wF κ wM 5 (qO κ wM σ) σ 0 [some (.ref (ad κ 0)), some (.int a1), none, none, none] [] (f_M_most N a1 σ) := by
  unfold f_M_most
  refine r_iconst (pc := 0) hC (v := (0 : Int32)) (by decide) dX10_most_0 ?_
  refine r_istore_n (pc := 1) hC rfl rfl dX10_most_1 ?_
  refine r_iconst (pc := 2) hC (v := (-1 : Int32)) (by decide) dX10_most_2 ?_
  refine r_istore_n (pc := 3) hC rfl rfl dX10_most_3 ?_
  refine r_iconst (pc := 4) hC (v := (0 : Int32)) (by decide) dX10_most_4 ?_
  refine r_istore (pc := 5) hC rfl rfl dX10_most_5 ?_
  refine w_it3 (fun i1 i2 i3 => σ) (fun i1 i2 i3 => [some (.ref (ad κ 0)), some (.int a1), some (.int i1), some (.int i2), some (.int i3)]) (fun self4 ih7_4 i1 i2 i3 => ?_) N (0 : Int32) (-1 : Int32) (0 : Int32)
  unfold M_most_B7
  refine r_iload (pc := 7) hC rfl dX10_most_7 ?_
  refine r_aload_n (pc := 9) hC rfl dX10_most_9 ?_
  refine r_cT (pc := 10) (rest := [.int i3]) (runV [] hC (c_M_many (kl κ) (kW κ) hC.2.2.2.2.2.2.2.2.1 σ) o_X10_many k_1274 (q0 := 0) (ci := 10) rfl rfl (rm_ok hR rfl) rfl (Nat.le_of_ble_eq_true rfl) dX10_most_10) ?_
  refine r_icmp_ge (pc := 13) (tgt := 75) hC dX10_most_13 (by decide) ?_ ?_
  · refine r_iload_n (pc := 75) hC rfl dX10_most_75 ?_
    exact r_retO hC rfl dX10_most_76
  · refine r_iload_n (pc := 16) hC rfl dX10_most_16 ?_
    refine r_iload (pc := 17) hC rfl dX10_most_17 ?_
    refine r_cT (pc := 19) (rest := []) (runS [.int a1, .int i3] hC (c_M_has (kl κ) (kW κ) hC.2.2.2.2.2.2.2.2.1 a1 i3 σ) o_X10_has k_1194 (rm_ok hR rfl) rfl (Nat.le_of_ble_eq_true rfl) dX10_most_19) ?_
    refine r_if_eq (pc := 22) (tgt := 69) hC dX10_most_22 (by decide) ?_ ?_
    · refine r_iinc (pc := 69) hC (v := (1 : Int32)) rfl (by decide) rfl rfl dX10_most_69 ?_
      refine r_goto (pc := 72) (tgt := 7) hC dX10_most_72 (by decide) ?_
      exact ih7_4 i1 i2 (i3 + (1 : Int32))
    · refine r_aload_n (pc := 25) hC rfl dX10_most_25 ?_
      refine r_iload (pc := 26) hC rfl dX10_most_26 ?_
      refine r_iload_n (pc := 28) hC rfl dX10_most_28 ?_
      refine r_cO (pc := 29) (rest := []) (fun r5 hf => runV [.int i3, .int a1] hC (c_M_winsOf (kl κ) (kW κ) hC.2.2.2.2.2.2.2.2.1 N i3 a1 σ r5 hf) o_X10_winsOf k_1305 (q0 := 0) (ci := 10) rfl rfl (rm_ok hR rfl) rfl (Nat.le_of_ble_eq_true rfl) dX10_most_29) (fun r5 => ?_)
      refine r_iload_n (pc := 32) hC rfl dX10_most_32 ?_
      refine r_icmp_lt (pc := 33) (tgt := 69) hC dX10_most_33 (by decide) ?_ ?_
      · refine r_iinc (pc := 69) hC (v := (1 : Int32)) rfl (by decide) rfl rfl dX10_most_69 ?_
        refine r_goto (pc := 72) (tgt := 7) hC dX10_most_72 (by decide) ?_
        exact ih7_4 i1 i2 (i3 + (1 : Int32))
      · refine r_aload_n (pc := 36) hC rfl dX10_most_36 ?_
        refine r_iload (pc := 37) hC rfl dX10_most_37 ?_
        refine r_iload_n (pc := 39) hC rfl dX10_most_39 ?_
        refine r_cO (pc := 40) (rest := []) (fun r6 hf => runV [.int i3, .int a1] hC (c_M_winsOf (kl κ) (kW κ) hC.2.2.2.2.2.2.2.2.1 N i3 a1 σ r6 hf) o_X10_winsOf k_1305 (q0 := 0) (ci := 10) rfl rfl (rm_ok hR rfl) rfl (Nat.le_of_ble_eq_true rfl) dX10_most_40) (fun r6 => ?_)
        refine r_iload_n (pc := 43) hC rfl dX10_most_43 ?_
        have hJ60_8 : ∀ (v7 : Int32), wF κ wM 5 (qO κ wM σ) σ 60 [some (.ref (ad κ 0)), some (.int a1), none, none, some (.int i3)] [.int v7] (M_most_J60 N σ a1 i3 self4 v7) := by
          intro v7
          unfold M_most_J60
          refine r_istore_n (pc := 60) hC rfl rfl dX10_most_60 ?_
          refine r_aload_n (pc := 61) hC rfl dX10_most_61 ?_
          refine r_iload (pc := 62) hC rfl dX10_most_62 ?_
          refine r_iload_n (pc := 64) hC rfl dX10_most_64 ?_
          refine r_cO (pc := 65) (rest := []) (fun r8 hf => runV [.int i3, .int a1] hC (c_M_winsOf (kl κ) (kW κ) hC.2.2.2.2.2.2.2.2.1 N i3 a1 σ r8 hf) o_X10_winsOf k_1305 (q0 := 0) (ci := 10) rfl rfl (rm_ok hR rfl) rfl (Nat.le_of_ble_eq_true rfl) dX10_most_65) (fun r8 => ?_)
          refine r_istore_n (pc := 68) hC rfl rfl dX10_most_68 ?_
          refine r_iinc (pc := 69) hC (v := (1 : Int32)) rfl (by decide) rfl rfl dX10_most_69 ?_
          refine r_goto (pc := 72) (tgt := 7) hC dX10_most_72 (by decide) ?_
          exact ih7_4 v7 r8 (i3 + (1 : Int32))
        refine r_icmp_le (pc := 44) (tgt := 54) hC dX10_most_44 (by decide) ?_ ?_
        · refine r_iload_n (pc := 54) hC rfl dX10_most_54 ?_
          refine r_iconst (pc := 55) hC (v := (1 : Int32)) (by decide) dX10_most_55 ?_
          refine r_iload (pc := 56) hC rfl dX10_most_56 ?_
          refine r_ishl (pc := 58) hC dX10_most_58 ?_
          refine r_ior (pc := 59) hC dX10_most_59 ?_
          exact r_wk [true, true, false, false, true] (hJ60_8 (i1 ||| ((1 : Int32) <<< (i3 &&& 31))))
        · refine r_iconst (pc := 47) hC (v := (1 : Int32)) (by decide) dX10_most_47 ?_
          refine r_iload (pc := 48) hC rfl dX10_most_48 ?_
          refine r_ishl (pc := 50) hC dX10_most_50 ?_
          refine r_goto (pc := 51) (tgt := 60) hC dX10_most_51 (by decide) ?_
          exact r_wk [true, true, false, false, true] (hJ60_8 ((1 : Int32) <<< (i3 &&& 31)))
set_option maxRecDepth 100000 in
set_option maxHeartbeats 4000000 in
theorem c_M_most (l : Launch) (w : Wenv) (hw : okw w wM) (N : Nat) (a1 : Int32) (σ : Mem) (r : Int32) (hf : f_M_most N a1 σ = some r) : Ctr l w wM yX10_most cX10_most 5 (some .int) 2 44 [.ref (w.2.2.1 0), .int a1] σ (cQi w wM r σ) := mk_ctr (Q := fun κ => qO κ wM σ) (lv := [some (.ref (w.2.2.1 0)), some (.int a1), none, none, none]) (by decide) rfl hw (Nat.le_of_ble_eq_true rfl) rfl hf (fun κ h => by subst h; rfl) (fun κ hl h hR hC => by
    subst h
    exact w_M_most hR hC N a1 σ)
-- DuelRoundModel.top(I)I (0, None) kind O
def M_top_K93 (i1 : Int32) (i2 : Int32) (self3 : Int32 → Int32 → Option Int32) (y5 : Int32) : Option Int32 :=
  if y5 = (0 : Int32) then
  (self3 i1 (i2 + (1 : Int32)))
  else
  (self3 i2 (i2 + (1 : Int32)))
def M_top_B40 (σ : Mem) (a1 : Int32) (i1 : Int32) (i2 : Int32) (self3 : Int32 → Int32 → Option Int32) (self8 : Int32 → Int32 → Option Int32) (i6 : Int32) (i7 : Int32) : Option Int32 :=
  if (t_M_many σ) ≤ i7 then
  (M_top_K93 i1 i2 self3 i6)
  else
  (if i6 = (0 : Int32) then
  (M_top_K93 i1 i2 self3 i6)
  else
  (if (t_M_has i2 i7) = (0 : Int32) then
  (self8 (1 : Int32) (i7 + (1 : Int32)))
  else
  (ob (f_M_beats i7 σ) fun r9 =>
  if (t_M_isWithin (a1 &&& (i2 ^^^ (-1 : Int32))) r9) = (0 : Int32) then
  (self8 (0 : Int32) (i7 + (1 : Int32)))
  else
  (self8 (1 : Int32) (i7 + (1 : Int32))))))
def M_top_J35 (N : Nat) (σ : Mem) (a1 : Int32) (i1 : Int32) (i2 : Int32) (self3 : Int32 → Int32 → Option Int32) (v4 : Int32) : Option Int32 :=
  it2 (M_top_B40 σ a1 i1 i2 self3) N v4 (0 : Int32)
def M_top_J34 (N : Nat) (σ : Mem) (a1 : Int32) (i1 : Int32) (i2 : Int32) (self3 : Int32 → Int32 → Option Int32) : Option Int32 :=
  M_top_J35 N σ a1 i1 i2 self3 (0 : Int32)
def M_top_B4 (N : Nat) (σ : Mem) (a1 : Int32) (self3 : Int32 → Int32 → Option Int32) (i1 : Int32) (i2 : Int32) : Option Int32 :=
  if (256 : Int32) ≤ i2 then
  (some i1)
  else
  (if (t_M_isWithin i2 a1) = (0 : Int32) then
  (M_top_J34 N σ a1 i1 i2 self3)
  else
  (ob (f_M_sizeOf N i2) fun r10 =>
  ob (f_M_sizeOf N i1) fun r11 =>
  if r11 ≤ r10 then
  (M_top_J34 N σ a1 i1 i2 self3)
  else
  (M_top_J35 N σ a1 i1 i2 self3 (1 : Int32))))
def f_M_top (N : Nat) (a1 : Int32) (σ : Mem) : Option Int32 :=
  it2 (M_top_B4 N σ a1) N a1 (1 : Int32)
set_option maxRecDepth 100000 in
set_option maxHeartbeats 4000000 in
theorem w_M_top {κ : Ctx} (hR : kR κ = { frames := 1, cells := 0, slots := 0, locals := 22 }) (hC : ok κ wM cX10_top 6 RX10 (some .int)) (N : Nat) (a1 : Int32) (σ : Mem) : wF κ wM 6 (qO κ wM σ) σ 0 [some (.ref (ad κ 0)), some (.int a1), none, none, none, none] [] (f_M_top N a1 σ) := by
  unfold f_M_top
  refine r_iload_n (pc := 0) hC rfl dX10_top_0 ?_
  refine r_istore_n (pc := 1) hC rfl rfl dX10_top_1 ?_
  refine r_iconst (pc := 2) hC (v := (1 : Int32)) (by decide) dX10_top_2 ?_
  refine r_istore_n (pc := 3) hC rfl rfl dX10_top_3 ?_
  refine w_it2 (fun i1 i2 => σ) (fun i1 i2 => [some (.ref (ad κ 0)), some (.int a1), some (.int i1), some (.int i2), none, none]) (fun self3 ih4_3 i1 i2 => ?_) N a1 (1 : Int32)
  unfold M_top_B4
  refine r_iload_n (pc := 4) hC rfl dX10_top_4 ?_
  refine r_sipush (pc := 5) hC (v := (256 : Int32)) (by decide) dX10_top_5 ?_
  refine r_icmp_ge (pc := 8) (tgt := 110) hC dX10_top_8 (by decide) ?_ ?_
  · refine r_iload_n (pc := 110) hC rfl dX10_top_110 ?_
    exact r_retO hC rfl dX10_top_111
  · refine r_iload_n (pc := 11) hC rfl dX10_top_11 ?_
    refine r_iload_n (pc := 12) hC rfl dX10_top_12 ?_
    refine r_cT (pc := 13) (rest := []) (runS [.int i2, .int a1] hC (c_M_isWithin (kl κ) (kW κ) hC.2.2.2.2.2.2.2.2.1 i2 a1 σ) o_X10_isWithin k_1236 (rm_ok hR rfl) rfl (Nat.le_of_ble_eq_true rfl) dX10_top_13) ?_
    have hJ35_9 : ∀ (v4 : Int32), wF κ wM 6 (qO κ wM σ) σ 35 [some (.ref (ad κ 0)), some (.int a1), some (.int i1), some (.int i2), none, none] [.int v4] (M_top_J35 N σ a1 i1 i2 self3 v4) := by
      intro v4
      unfold M_top_J35
      refine r_istore (pc := 35) hC rfl rfl dX10_top_35 ?_
      refine r_iconst (pc := 37) hC (v := (0 : Int32)) (by decide) dX10_top_37 ?_
      refine r_istore (pc := 38) hC rfl rfl dX10_top_38 ?_
      have hK93_5 : ∀ (y5 : Int32), wF κ wM 6 (qO κ wM σ) σ 93 [some (.ref (ad κ 0)), some (.int a1), some (.int i1), some (.int i2), some (.int y5), none] [] (M_top_K93 i1 i2 self3 y5) := by
        intro y5
        unfold M_top_K93
        refine r_iload (pc := 93) hC rfl dX10_top_93 ?_
        refine r_if_eq (pc := 95) (tgt := 102) hC dX10_top_95 (by decide) ?_ ?_
        · refine r_iload_n (pc := 102) hC rfl dX10_top_102 ?_
          refine r_istore_n (pc := 103) hC rfl rfl dX10_top_103 ?_
          refine r_iinc (pc := 104) hC (v := (1 : Int32)) rfl (by decide) rfl rfl dX10_top_104 ?_
          refine r_goto (pc := 107) (tgt := 4) hC dX10_top_107 (by decide) ?_
          exact r_wk [true, true, true, true, false, false] (ih4_3 i1 (i2 + (1 : Int32)))
        · refine r_iload_n (pc := 98) hC rfl dX10_top_98 ?_
          refine r_goto (pc := 99) (tgt := 103) hC dX10_top_99 (by decide) ?_
          refine r_istore_n (pc := 103) hC rfl rfl dX10_top_103 ?_
          refine r_iinc (pc := 104) hC (v := (1 : Int32)) rfl (by decide) rfl rfl dX10_top_104 ?_
          refine r_goto (pc := 107) (tgt := 4) hC dX10_top_107 (by decide) ?_
          exact r_wk [true, true, true, true, false, false] (ih4_3 i2 (i2 + (1 : Int32)))
      refine w_it2 (fun i6 i7 => σ) (fun i6 i7 => [some (.ref (ad κ 0)), some (.int a1), some (.int i1), some (.int i2), some (.int i6), some (.int i7)]) (fun self8 ih40_8 i6 i7 => ?_) N v4 (0 : Int32)
      unfold M_top_B40
      refine r_iload (pc := 40) hC rfl dX10_top_40 ?_
      refine r_aload_n (pc := 42) hC rfl dX10_top_42 ?_
      refine r_cT (pc := 43) (rest := [.int i7]) (runV [] hC (c_M_many (kl κ) (kW κ) hC.2.2.2.2.2.2.2.2.1 σ) o_X10_many k_1274 (q0 := 0) (ci := 10) rfl rfl (rm_ok hR rfl) rfl (Nat.le_of_ble_eq_true rfl) dX10_top_43) ?_
      refine r_icmp_ge (pc := 46) (tgt := 93) hC dX10_top_46 (by decide) ?_ ?_
      · exact r_wk [true, true, true, true, true, false] (hK93_5 i6)
      · refine r_iload (pc := 49) hC rfl dX10_top_49 ?_
        refine r_if_eq (pc := 51) (tgt := 93) hC dX10_top_51 (by decide) ?_ ?_
        · exact r_wk [true, true, true, true, true, false] (hK93_5 i6)
        · refine r_iload_n (pc := 54) hC rfl dX10_top_54 ?_
          refine r_iload (pc := 55) hC rfl dX10_top_55 ?_
          refine r_cT (pc := 57) (rest := []) (runS [.int i2, .int i7] hC (c_M_has (kl κ) (kW κ) hC.2.2.2.2.2.2.2.2.1 i2 i7 σ) o_X10_has k_1194 (rm_ok hR rfl) rfl (Nat.le_of_ble_eq_true rfl) dX10_top_57) ?_
          refine r_if_eq (pc := 60) (tgt := 80) hC dX10_top_60 (by decide) ?_ ?_
          · refine r_iconst (pc := 80) hC (v := (1 : Int32)) (by decide) dX10_top_80 ?_
            refine r_goto (pc := 81) (tgt := 85) hC dX10_top_81 (by decide) ?_
            refine r_istore (pc := 85) hC rfl rfl dX10_top_85 ?_
            refine r_iinc (pc := 87) hC (v := (1 : Int32)) rfl (by decide) rfl rfl dX10_top_87 ?_
            refine r_goto (pc := 90) (tgt := 40) hC dX10_top_90 (by decide) ?_
            exact ih40_8 (1 : Int32) (i7 + (1 : Int32))
          · refine r_iload_n (pc := 63) hC rfl dX10_top_63 ?_
            refine r_iload_n (pc := 64) hC rfl dX10_top_64 ?_
            refine r_iconst (pc := 65) hC (v := (-1 : Int32)) (by decide) dX10_top_65 ?_
            refine r_ixor (pc := 66) hC dX10_top_66 ?_
            refine r_iand (pc := 67) hC dX10_top_67 ?_
            refine r_aload_n (pc := 68) hC rfl dX10_top_68 ?_
            refine r_iload (pc := 69) hC rfl dX10_top_69 ?_
            refine r_cO (pc := 71) (rest := [.int (a1 &&& (i2 ^^^ (-1 : Int32)))]) (fun r9 hf => runV [.int i7] hC (c_M_beats (kl κ) (kW κ) hC.2.2.2.2.2.2.2.2.1 i7 σ r9 hf) o_X10_beats k_1224 (q0 := 0) (ci := 10) rfl rfl (rm_ok hR rfl) rfl (Nat.le_of_ble_eq_true rfl) dX10_top_71) (fun r9 => ?_)
            refine r_cT (pc := 74) (rest := []) (runS [.int (a1 &&& (i2 ^^^ (-1 : Int32))), .int r9] hC (c_M_isWithin (kl κ) (kW κ) hC.2.2.2.2.2.2.2.2.1 (a1 &&& (i2 ^^^ (-1 : Int32))) r9 σ) o_X10_isWithin k_1236 (rm_ok hR rfl) rfl (Nat.le_of_ble_eq_true rfl) dX10_top_74) ?_
            refine r_if_eq (pc := 77) (tgt := 84) hC dX10_top_77 (by decide) ?_ ?_
            · refine r_iconst (pc := 84) hC (v := (0 : Int32)) (by decide) dX10_top_84 ?_
              refine r_istore (pc := 85) hC rfl rfl dX10_top_85 ?_
              refine r_iinc (pc := 87) hC (v := (1 : Int32)) rfl (by decide) rfl rfl dX10_top_87 ?_
              refine r_goto (pc := 90) (tgt := 40) hC dX10_top_90 (by decide) ?_
              exact ih40_8 (0 : Int32) (i7 + (1 : Int32))
            · refine r_iconst (pc := 80) hC (v := (1 : Int32)) (by decide) dX10_top_80 ?_
              refine r_goto (pc := 81) (tgt := 85) hC dX10_top_81 (by decide) ?_
              refine r_istore (pc := 85) hC rfl rfl dX10_top_85 ?_
              refine r_iinc (pc := 87) hC (v := (1 : Int32)) rfl (by decide) rfl rfl dX10_top_87 ?_
              refine r_goto (pc := 90) (tgt := 40) hC dX10_top_90 (by decide) ?_
              exact ih40_8 (1 : Int32) (i7 + (1 : Int32))
    have hJ34_9 : wF κ wM 6 (qO κ wM σ) σ 34 [some (.ref (ad κ 0)), some (.int a1), some (.int i1), some (.int i2), none, none] [] (M_top_J34 N σ a1 i1 i2 self3) := by
      unfold M_top_J34
      refine r_iconst (pc := 34) hC (v := (0 : Int32)) (by decide) dX10_top_34 ?_
      exact hJ35_9 (0 : Int32)
    refine r_if_eq (pc := 16) (tgt := 34) hC dX10_top_16 (by decide) ?_ ?_
    · exact hJ34_9
    · refine r_iload_n (pc := 19) hC rfl dX10_top_19 ?_
      refine r_cO (pc := 20) (rest := []) (fun r10 hf => runS [.int i2] hC (c_M_sizeOf (kl κ) (kW κ) hC.2.2.2.2.2.2.2.2.1 N i2 σ r10 hf) o_X10_sizeOf k_1298 (rm_ok hR rfl) rfl (Nat.le_of_ble_eq_true rfl) dX10_top_20) (fun r10 => ?_)
      refine r_iload_n (pc := 23) hC rfl dX10_top_23 ?_
      refine r_cO (pc := 24) (rest := [.int r10]) (fun r11 hf => runS [.int i1] hC (c_M_sizeOf (kl κ) (kW κ) hC.2.2.2.2.2.2.2.2.1 N i1 σ r11 hf) o_X10_sizeOf k_1298 (rm_ok hR rfl) rfl (Nat.le_of_ble_eq_true rfl) dX10_top_24) (fun r11 => ?_)
      refine r_icmp_ge (pc := 27) (tgt := 34) hC dX10_top_27 (by decide) ?_ ?_
      · exact hJ34_9
      · refine r_iconst (pc := 30) hC (v := (1 : Int32)) (by decide) dX10_top_30 ?_
        refine r_goto (pc := 31) (tgt := 35) hC dX10_top_31 (by decide) ?_
        exact hJ35_9 (1 : Int32)
set_option maxRecDepth 100000 in
set_option maxHeartbeats 4000000 in
theorem c_M_top (l : Launch) (w : Wenv) (hw : okw w wM) (N : Nat) (a1 : Int32) (σ : Mem) (r : Int32) (hf : f_M_top N a1 σ = some r) : Ctr l w wM yX10_top cX10_top 6 (some .int) 1 22 [.ref (w.2.2.1 0), .int a1] σ (cQi w wM r σ) := mk_ctr (Q := fun κ => qO κ wM σ) (lv := [some (.ref (w.2.2.1 0)), some (.int a1), none, none, none, none]) (by decide) rfl hw (Nat.le_of_ble_eq_true rfl) rfl hf (fun κ h => by subst h; rfl) (fun κ hl h hR hC => by
    subst h
    exact w_M_top hR hC N a1 σ)
-- DuelRoundModel.setOf(II)I (0, None, None) kind OM
def f_M_setOf (N : Nat) (a1 : Int32) (a2 : Int32) (σ : Mem) : Option (Int32 × Mem) :=
  if a2 = (0 : Int32) then
  (some ((0 : Int32), σ))
  else
  (swc a1 [((0 : Int32), ob (f_M_top N a2 σ) fun r1 =>
  some (r1, σ)),
  ((1 : Int32), ob (f_M_most N a2 σ) fun r2 =>
  some (r2, σ)),
  ((2 : Int32), ob (f_M_uncovered N a2 σ) fun r3 =>
  some (r3, σ)),
  ((3 : Int32), ob (f_M_againUncovered N a2 σ) fun r4 =>
  some (r4, σ)),
  ((4 : Int32), ob2 (f_M_banks N a2 σ) fun r6 s5 =>
  some (r6, s5)),
  ((5 : Int32), ob2 (f_M_slater N a2 σ) fun r8 s7 =>
  some (r8, s7)),
  ((6 : Int32), ob (f_M_covering N a2 σ) fun r9 =>
  some (r9, σ)),
  ((7 : Int32), ob2 (f_M_balanced N a2 σ) fun r11 s10 =>
  some (r11, s10)),
  ((8 : Int32), ob (f_M_layKeeping N σ) fun s12 =>
  gd (inb a2 256) (some ((gI s12 22 a2.toNatClampNeg), s12)))]
  (ob2 (f_M_cupOf N a2 σ) fun r14 s13 =>
  some (r14, s13)))
set_option maxRecDepth 100000 in
set_option maxHeartbeats 4000000 in
theorem w_M_setOf {κ : Ctx} (hR : kR κ = { frames := 5, cells := 0, slots := 0, locals := 111 }) (hC : ok κ wM cX10_setOf 3 RX10 (some .int)) (N : Nat) (a1 : Int32) (a2 : Int32) (σ : Mem) : wF κ wM 3 (qOM κ wM) σ 0 [some (.ref (ad κ 0)), some (.int a1), some (.int a2)] [] (f_M_setOf N a1 a2 σ) := by
  unfold f_M_setOf
  refine r_iload_n (pc := 0) hC rfl dX10_setOf_0 ?_
  refine r_if_ne (pc := 1) (tgt := 6) hC dX10_setOf_1 (by decide) ?_ ?_
  · refine r_iload_n (pc := 6) hC rfl dX10_setOf_6 ?_
    refine r_table (pc := 7) (tg := fun i => ([56, 62, 68, 74, 80, 86, 92, 98, 104] : List Nat).getD i 0) (dt := 115) hC 9 dX10_setOf_7 (by decide) (by decide) rfl (fun i hi => ?_) ?_
    · rcases (show i = 0 ∨ i = 1 ∨ i = 2 ∨ i = 3 ∨ i = 4 ∨ i = 5 ∨ i = 6 ∨ i = 7 ∨ i = 8 by omega) with rfl | rfl | rfl | rfl | rfl | rfl | rfl | rfl | rfl
      · refine ⟨_, _, _, rfl, by decide, rfl, by decide, ?_⟩
        refine r_aload_n (pc := 56) hC rfl dX10_setOf_56 ?_
        refine r_iload_n (pc := 57) hC rfl dX10_setOf_57 ?_
        refine r_cO (pc := 58) (rest := []) (fun r1 hf => runV [.int a2] hC (c_M_top (kl κ) (kW κ) hC.2.2.2.2.2.2.2.2.1 N a2 σ r1 hf) o_X10_top k_1294 (q0 := 0) (ci := 10) rfl rfl (rm_ok hR rfl) rfl (Nat.le_of_ble_eq_true rfl) dX10_setOf_58) (fun r1 => ?_)
        exact r_retOM hC rfl dX10_setOf_61
      · refine ⟨_, _, _, rfl, by decide, rfl, by decide, ?_⟩
        refine r_aload_n (pc := 62) hC rfl dX10_setOf_62 ?_
        refine r_iload_n (pc := 63) hC rfl dX10_setOf_63 ?_
        refine r_cO (pc := 64) (rest := []) (fun r2 hf => runV [.int a2] hC (c_M_most (kl κ) (kW κ) hC.2.2.2.2.2.2.2.2.1 N a2 σ r2 hf) o_X10_most k_1301 (q0 := 0) (ci := 10) rfl rfl (rm_ok hR rfl) rfl (Nat.le_of_ble_eq_true rfl) dX10_setOf_64) (fun r2 => ?_)
        exact r_retOM hC rfl dX10_setOf_67
      · refine ⟨_, _, _, rfl, by decide, rfl, by decide, ?_⟩
        refine r_aload_n (pc := 68) hC rfl dX10_setOf_68 ?_
        refine r_iload_n (pc := 69) hC rfl dX10_setOf_69 ?_
        refine r_cO (pc := 70) (rest := []) (fun r3 hf => runV [.int a2] hC (c_M_uncovered (kl κ) (kW κ) hC.2.2.2.2.2.2.2.2.1 N a2 σ r3 hf) o_X10_uncovered k_1309 (q0 := 0) (ci := 10) rfl rfl (rm_ok hR rfl) rfl (Nat.le_of_ble_eq_true rfl) dX10_setOf_70) (fun r3 => ?_)
        exact r_retOM hC rfl dX10_setOf_73
      · refine ⟨_, _, _, rfl, by decide, rfl, by decide, ?_⟩
        refine r_aload_n (pc := 74) hC rfl dX10_setOf_74 ?_
        refine r_iload_n (pc := 75) hC rfl dX10_setOf_75 ?_
        refine r_cO (pc := 76) (rest := []) (fun r4 hf => runV [.int a2] hC (c_M_againUncovered (kl κ) (kW κ) hC.2.2.2.2.2.2.2.2.1 N a2 σ r4 hf) o_X10_againUncovered k_1313 (q0 := 0) (ci := 10) rfl rfl (rm_ok hR rfl) rfl (Nat.le_of_ble_eq_true rfl) dX10_setOf_76) (fun r4 => ?_)
        exact r_retOM hC rfl dX10_setOf_79
      · refine ⟨_, _, _, rfl, by decide, rfl, by decide, ?_⟩
        refine r_aload_n (pc := 80) hC rfl dX10_setOf_80 ?_
        refine r_iload_n (pc := 81) hC rfl dX10_setOf_81 ?_
        refine r_cOM (pc := 82) (rest := []) (fun r6 s5 hf => runV [.int a2] hC (c_M_banks (kl κ) (kW κ) hC.2.2.2.2.2.2.2.2.1 N a2 σ r6 s5 hf) o_X10_banks k_1317 (q0 := 0) (ci := 10) rfl rfl (rm_ok hR rfl) rfl (Nat.le_of_ble_eq_true rfl) dX10_setOf_82) (fun r6 s5 => ?_)
        exact r_retOM hC rfl dX10_setOf_85
      · refine ⟨_, _, _, rfl, by decide, rfl, by decide, ?_⟩
        refine r_aload_n (pc := 86) hC rfl dX10_setOf_86 ?_
        refine r_iload_n (pc := 87) hC rfl dX10_setOf_87 ?_
        refine r_cOM (pc := 88) (rest := []) (fun r8 s7 hf => runV [.int a2] hC (c_M_slater (kl κ) (kW κ) hC.2.2.2.2.2.2.2.2.1 N a2 σ r8 s7 hf) o_X10_slater k_1325 (q0 := 0) (ci := 10) rfl rfl (rm_ok hR rfl) rfl (Nat.le_of_ble_eq_true rfl) dX10_setOf_88) (fun r8 s7 => ?_)
        exact r_retOM hC rfl dX10_setOf_91
      · refine ⟨_, _, _, rfl, by decide, rfl, by decide, ?_⟩
        refine r_aload_n (pc := 92) hC rfl dX10_setOf_92 ?_
        refine r_iload_n (pc := 93) hC rfl dX10_setOf_93 ?_
        refine r_cO (pc := 94) (rest := []) (fun r9 hf => runV [.int a2] hC (c_M_covering (kl κ) (kW κ) hC.2.2.2.2.2.2.2.2.1 N a2 σ r9 hf) o_X10_covering k_1337 (q0 := 0) (ci := 10) rfl rfl (rm_ok hR rfl) rfl (Nat.le_of_ble_eq_true rfl) dX10_setOf_94) (fun r9 => ?_)
        exact r_retOM hC rfl dX10_setOf_97
      · refine ⟨_, _, _, rfl, by decide, rfl, by decide, ?_⟩
        refine r_aload_n (pc := 98) hC rfl dX10_setOf_98 ?_
        refine r_iload_n (pc := 99) hC rfl dX10_setOf_99 ?_
        refine r_cOM (pc := 100) (rest := []) (fun r11 s10 hf => runV [.int a2] hC (c_M_balanced (kl κ) (kW κ) hC.2.2.2.2.2.2.2.2.1 N a2 σ r11 s10 hf) o_X10_balanced k_1345 (q0 := 0) (ci := 10) rfl rfl (rm_ok hR rfl) rfl (Nat.le_of_ble_eq_true rfl) dX10_setOf_100) (fun r11 s10 => ?_)
        exact r_retOM hC rfl dX10_setOf_103
      · refine ⟨_, _, _, rfl, by decide, rfl, by decide, ?_⟩
        refine r_aload_n (pc := 104) hC rfl dX10_setOf_104 ?_
        refine r_cM (pc := 105) (rest := []) (fun s12 hf => runV [] hC (c_M_layKeeping (kl κ) (kW κ) hC.2.2.2.2.2.2.2.2.1 N σ s12 hf) o_X10_layKeeping k_1372 (q0 := 0) (ci := 10) rfl rfl (rm_ok hR rfl) rfl (Nat.le_of_ble_eq_true rfl) dX10_setOf_105) (fun s12 => ?_)
        refine r_aload_n (pc := 108) hC rfl dX10_setOf_108 ?_
        refine gM_0_22 (pc := 109) hC k_1059 dX10_setOf_109 ?_
        refine r_iload_n (pc := 112) hC rfl dX10_setOf_112 ?_
        refine aM_16 (pc := 113) hC dX10_setOf_113 ?_
        exact r_retOM hC rfl dX10_setOf_114
    · refine r_aload_n (pc := 115) hC rfl dX10_setOf_115 ?_
      refine r_iload_n (pc := 116) hC rfl dX10_setOf_116 ?_
      refine r_cOM (pc := 117) (rest := []) (fun r14 s13 hf => runV [.int a2] hC (c_M_cupOf (kl κ) (kW κ) hC.2.2.2.2.2.2.2.2.1 N a2 σ r14 s13 hf) o_X10_cupOf k_1380 (q0 := 0) (ci := 10) rfl rfl (rm_ok hR rfl) rfl (Nat.le_of_ble_eq_true rfl) dX10_setOf_117) (fun r14 s13 => ?_)
      exact r_retOM hC rfl dX10_setOf_120
  · refine r_iconst (pc := 4) hC (v := (0 : Int32)) (by decide) dX10_setOf_4 ?_
    exact r_retOM hC rfl dX10_setOf_5
set_option maxRecDepth 100000 in
set_option maxHeartbeats 4000000 in
theorem c_M_setOf (l : Launch) (w : Wenv) (hw : okw w wM) (N : Nat) (a1 : Int32) (a2 : Int32) (σ : Mem) (r : Int32) (τ : Mem) (hf : f_M_setOf N a1 a2 σ = some (r, τ)) : Ctr l w wM yX10_setOf cX10_setOf 3 (some .int) 5 111 [.ref (w.2.2.1 0), .int a1, .int a2] σ (cQi w wM r τ) := mk_ctr (Q := fun κ => qOM κ wM) (lv := [some (.ref (w.2.2.1 0)), some (.int a1), some (.int a2)]) (by decide) rfl hw (Nat.le_of_ble_eq_true rfl) rfl hf (fun κ h => by subst h; rfl) (fun κ hl h hR hC => by
    subst h
    exact w_M_setOf hR hC N a1 a2 σ)
-- DuelRoundModel.isIn(II)Z (0, None, None) kind OM
def f_M_isIn (N : Nat) (a1 : Int32) (a2 : Int32) (σ : Mem) : Option (Int32 × Mem) :=
  ob2 (f_M_setOf N a2 (t_M_all σ) σ) fun r2 s1 =>
  some ((t_M_has r2 a1), s1)
set_option maxRecDepth 100000 in
set_option maxHeartbeats 4000000 in
theorem w_M_isIn {κ : Ctx} (hR : kR κ = { frames := 6, cells := 0, slots := 0, locals := 133 }) (hC : ok κ wM cX10_isIn 3 RX10 (some .boolean)) (N : Nat) (a1 : Int32) (a2 : Int32) (σ : Mem) : wF κ wM 3 (qOM κ wM) σ 0 [some (.ref (ad κ 0)), some (.int a1), some (.int a2)] [] (f_M_isIn N a1 a2 σ) := by
  unfold f_M_isIn
  refine r_aload_n (pc := 0) hC rfl dX10_isIn_0 ?_
  refine r_iload_n (pc := 1) hC rfl dX10_isIn_1 ?_
  refine r_aload_n (pc := 2) hC rfl dX10_isIn_2 ?_
  refine r_cT (pc := 3) (rest := [.int a2, .ref (ad κ 0)]) (runV [] hC (c_M_all (kl κ) (kW κ) hC.2.2.2.2.2.2.2.2.1 σ) o_X10_all k_1228 (q0 := 0) (ci := 10) rfl rfl (rm_ok hR rfl) rfl (Nat.le_of_ble_eq_true rfl) dX10_isIn_3) ?_
  refine r_cOM (pc := 6) (rest := []) (fun r2 s1 hf => runV [.int a2, .int (t_M_all σ)] hC (c_M_setOf (kl κ) (kW κ) hC.2.2.2.2.2.2.2.2.1 N a2 (t_M_all σ) σ r2 s1 hf) o_X10_setOf k_1290 (q0 := 0) (ci := 10) rfl rfl (rm_ok hR rfl) rfl (Nat.le_of_ble_eq_true rfl) dX10_isIn_6) (fun r2 s1 => ?_)
  refine r_iload_n (pc := 9) hC rfl dX10_isIn_9 ?_
  refine r_cT (pc := 10) (rest := []) (runS [.int r2, .int a1] hC (c_M_has (kl κ) (kW κ) hC.2.2.2.2.2.2.2.2.1 r2 a1 s1) o_X10_has k_1194 (rm_ok hR rfl) rfl (Nat.le_of_ble_eq_true rfl) dX10_isIn_10) ?_
  exact r_retOM hC (isb_nar (z_M_has r2 a1)) dX10_isIn_13
set_option maxRecDepth 100000 in
set_option maxHeartbeats 4000000 in
theorem c_M_isIn (l : Launch) (w : Wenv) (hw : okw w wM) (N : Nat) (a1 : Int32) (a2 : Int32) (σ : Mem) (r : Int32) (τ : Mem) (hf : f_M_isIn N a1 a2 σ = some (r, τ)) : Ctr l w wM yX10_isIn cX10_isIn 3 (some .boolean) 6 133 [.ref (w.2.2.1 0), .int a1, .int a2] σ (cQi w wM r τ) := mk_ctr (Q := fun κ => qOM κ wM) (lv := [some (.ref (w.2.2.1 0)), some (.int a1), some (.int a2)]) (by decide) rfl hw (Nat.le_of_ble_eq_true rfl) rfl hf (fun κ h => by subst h; rfl) (fun κ hl h hR hC => by
    subst h
    exact w_M_isIn hR hC N a1 a2 σ)
-- DuelRoundModel.turnNow(II)V (0, None, None) kind M
def f_M_turnNow (a1 : Int32) (a2 : Int32) (σ : Mem) : Option Mem :=
  gd (inb ((1 : Int32) + a1) 9) (gd (inb ((1 : Int32) + a1) 9) (bnd (sI σ 1 ((1 : Int32) + a1).toNatClampNeg ((gI σ 1 ((1 : Int32) + a1).toNatClampNeg) ^^^ ((1 : Int32) <<< (a2 &&& 31)))) fun s1 =>
  gd (inb ((1 : Int32) + a2) 9) (gd (inb ((1 : Int32) + a2) 9) (bnd (sI s1 1 ((1 : Int32) + a2).toNatClampNeg ((gI s1 1 ((1 : Int32) + a2).toNatClampNeg) ^^^ ((1 : Int32) <<< (a1 &&& 31)))) fun s2 =>
  some s2))))
set_option maxRecDepth 100000 in
set_option maxHeartbeats 4000000 in
theorem w_M_turnNow {κ : Ctx} (hR : kR κ = { frames := 0, cells := 0, slots := 0, locals := 0 }) (hC : ok κ wM cX10_turnNow 3 RX10 none) (a1 : Int32) (a2 : Int32) (σ : Mem) : wF κ wM 3 (qM κ wM) σ 0 [some (.ref (ad κ 0)), some (.int a1), some (.int a2)] [] (f_M_turnNow a1 a2 σ) := by
  unfold f_M_turnNow
  refine r_aload_n (pc := 0) hC rfl dX10_turnNow_0 ?_
  refine gM_0_1 (pc := 1) hC k_1038 dX10_turnNow_1 ?_
  refine r_iconst (pc := 4) hC (v := (1 : Int32)) (by decide) dX10_turnNow_4 ?_
  refine r_iload_n (pc := 5) hC rfl dX10_turnNow_5 ?_
  refine r_iadd (pc := 6) hC dX10_turnNow_6 ?_
  refine r_dup2 (pc := 7) hC rfl rfl dX10_turnNow_7 ?_
  refine aM_1 (pc := 8) hC dX10_turnNow_8 ?_
  refine r_iconst (pc := 9) hC (v := (1 : Int32)) (by decide) dX10_turnNow_9 ?_
  refine r_iload_n (pc := 10) hC rfl dX10_turnNow_10 ?_
  refine r_ishl (pc := 11) hC dX10_turnNow_11 ?_
  refine r_ixor (pc := 12) hC dX10_turnNow_12 ?_
  refine bM_1 (pc := 13) hC dX10_turnNow_13 ?_
  refine r_letm (fun s1 => ?_)
  refine r_aload_n (pc := 14) hC rfl dX10_turnNow_14 ?_
  refine gM_0_1 (pc := 15) hC k_1038 dX10_turnNow_15 ?_
  refine r_iconst (pc := 18) hC (v := (1 : Int32)) (by decide) dX10_turnNow_18 ?_
  refine r_iload_n (pc := 19) hC rfl dX10_turnNow_19 ?_
  refine r_iadd (pc := 20) hC dX10_turnNow_20 ?_
  refine r_dup2 (pc := 21) hC rfl rfl dX10_turnNow_21 ?_
  refine aM_1 (pc := 22) hC dX10_turnNow_22 ?_
  refine r_iconst (pc := 23) hC (v := (1 : Int32)) (by decide) dX10_turnNow_23 ?_
  refine r_iload_n (pc := 24) hC rfl dX10_turnNow_24 ?_
  refine r_ishl (pc := 25) hC dX10_turnNow_25 ?_
  refine r_ixor (pc := 26) hC dX10_turnNow_26 ?_
  refine bM_1 (pc := 27) hC dX10_turnNow_27 ?_
  refine r_letm (fun s2 => ?_)
  exact r_retM hC dX10_turnNow_28
set_option maxRecDepth 100000 in
set_option maxHeartbeats 4000000 in
theorem c_M_turnNow (l : Launch) (w : Wenv) (hw : okw w wM) (a1 : Int32) (a2 : Int32) (σ : Mem) (τ : Mem) (hf : f_M_turnNow a1 a2 σ = some τ) : Ctr l w wM yX10_turnNow cX10_turnNow 3 none 0 0 [.ref (w.2.2.1 0), .int a1, .int a2] σ (cQv w wM τ) := mk_ctr (Q := fun κ => qM κ wM) (lv := [some (.ref (w.2.2.1 0)), some (.int a1), some (.int a2)]) (by decide) rfl hw (Nat.le_of_ble_eq_true rfl) rfl hf (fun κ h => by subst h; rfl) (fun κ hl h hR hC => by
    subst h
    exact w_M_turnNow hR hC a1 a2 σ)
-- DuelRoundModel.byOne(II)Z (0, None, None) kind OM
def M_byOne_B24 (N : Nat) (a1 : Int32) (a2 : Int32) (i2 : Int32) (self4 : Int32 → Int32 → Mem → Option (Int32 × Mem)) (self9 : Int32 → Int32 → Mem → Option (Int32 × Mem)) (i6 : Int32) (i7 : Int32) (s8 : Mem) : Option (Int32 × Mem) :=
  if (t_M_many s8) ≤ i7 then
  (self4 i6 (i2 + (1 : Int32)) s8)
  else
  (if i6 = (0 : Int32) then
  (ob (f_M_turnNow i2 i7 s8) fun s10 =>
  ob2 (f_M_isIn N a1 a2 s10) fun r12 s11 =>
  ob (f_M_turnNow i2 i7 s11) fun s13 =>
  self9 r12 (i7 + (1 : Int32)) s13)
  else
  (self4 i6 (i2 + (1 : Int32)) s8))
def M_byOne_B5 (N : Nat) (a1 : Int32) (a2 : Int32) (self4 : Int32 → Int32 → Mem → Option (Int32 × Mem)) (i1 : Int32) (i2 : Int32) (s3 : Mem) : Option (Int32 × Mem) :=
  if (t_M_many s3) ≤ i2 then
  (gd (isb i1) (some (i1, s3)))
  else
  (if i1 = (0 : Int32) then
  (bnd (i2 + (1 : Int32)) fun x5 =>
  it3 (M_byOne_B24 N a1 a2 i2 self4) N i1 x5 s3)
  else
  (gd (isb i1) (some (i1, s3))))
def f_M_byOne (N : Nat) (a1 : Int32) (a2 : Int32) (σ : Mem) : Option (Int32 × Mem) :=
  it3 (M_byOne_B5 N a1 a2) N (0 : Int32) (0 : Int32) σ
set_option maxRecDepth 100000 in
set_option maxHeartbeats 4000000 in
theorem w_M_byOne {κ : Ctx} (hR : kR κ = { frames := 7, cells := 0, slots := 0, locals := 155 }) (hC : ok κ wM cX10_byOne 6 RX10 (some .boolean)) (N : Nat) (a1 : Int32) (a2 : Int32) (σ : Mem) : wF κ wM 6 (qOM κ wM) σ 0 [some (.ref (ad κ 0)), some (.int a1), some (.int a2), none, none, none] [] (f_M_byOne N a1 a2 σ) := by
  unfold f_M_byOne
  refine r_iconst (pc := 0) hC (v := (0 : Int32)) (by decide) dX10_byOne_0 ?_
  refine r_istore_n (pc := 1) hC rfl rfl dX10_byOne_1 ?_
  refine r_iconst (pc := 2) hC (v := (0 : Int32)) (by decide) dX10_byOne_2 ?_
  refine r_istore (pc := 3) hC rfl rfl dX10_byOne_3 ?_
  refine w_it3 (fun i1 i2 s3 => s3) (fun i1 i2 s3 => [some (.ref (ad κ 0)), some (.int a1), some (.int a2), some (.int i1), some (.int i2), none]) (fun self4 ih5_4 i1 i2 s3 => ?_) N (0 : Int32) (0 : Int32) σ
  unfold M_byOne_B5
  refine r_iload (pc := 5) hC rfl dX10_byOne_5 ?_
  refine r_aload_n (pc := 7) hC rfl dX10_byOne_7 ?_
  refine r_cT (pc := 8) (rest := [.int i2]) (runV [] hC (c_M_many (kl κ) (kW κ) hC.2.2.2.2.2.2.2.2.1 s3) o_X10_many k_1274 (q0 := 0) (ci := 10) rfl rfl (rm_ok hR rfl) rfl (Nat.le_of_ble_eq_true rfl) dX10_byOne_8) ?_
  refine r_icmp_ge (pc := 11) (tgt := 72) hC dX10_byOne_11 (by decide) ?_ ?_
  · refine r_iload_n (pc := 72) hC rfl dX10_byOne_72 ?_
    exact r_retOMb hC dX10_byOne_73
  · refine r_iload_n (pc := 14) hC rfl dX10_byOne_14 ?_
    refine r_if_ne (pc := 15) (tgt := 72) hC dX10_byOne_15 (by decide) ?_ ?_
    · refine r_iload_n (pc := 72) hC rfl dX10_byOne_72 ?_
      exact r_retOMb hC dX10_byOne_73
    · refine r_iload (pc := 18) hC rfl dX10_byOne_18 ?_
      refine r_iconst (pc := 20) hC (v := (1 : Int32)) (by decide) dX10_byOne_20 ?_
      refine r_iadd (pc := 21) hC dX10_byOne_21 ?_
      refine r_let (fun x5 => ?_)
      refine r_istore (pc := 22) hC rfl rfl dX10_byOne_22 ?_
      refine w_it3 (fun i6 i7 s8 => s8) (fun i6 i7 s8 => [some (.ref (ad κ 0)), some (.int a1), some (.int a2), some (.int i6), some (.int i2), some (.int i7)]) (fun self9 ih24_9 i6 i7 s8 => ?_) N i1 x5 s3
      unfold M_byOne_B24
      refine r_iload (pc := 24) hC rfl dX10_byOne_24 ?_
      refine r_aload_n (pc := 26) hC rfl dX10_byOne_26 ?_
      refine r_cT (pc := 27) (rest := [.int i7]) (runV [] hC (c_M_many (kl κ) (kW κ) hC.2.2.2.2.2.2.2.2.1 s8) o_X10_many k_1274 (q0 := 0) (ci := 10) rfl rfl (rm_ok hR rfl) rfl (Nat.le_of_ble_eq_true rfl) dX10_byOne_27) ?_
      refine r_icmp_ge (pc := 30) (tgt := 66) hC dX10_byOne_30 (by decide) ?_ ?_
      · refine r_iinc (pc := 66) hC (v := (1 : Int32)) rfl (by decide) rfl rfl dX10_byOne_66 ?_
        refine r_goto (pc := 69) (tgt := 5) hC dX10_byOne_69 (by decide) ?_
        exact r_wk [true, true, true, true, true, false] (ih5_4 i6 (i2 + (1 : Int32)) s8)
      · refine r_iload_n (pc := 33) hC rfl dX10_byOne_33 ?_
        refine r_if_ne (pc := 34) (tgt := 66) hC dX10_byOne_34 (by decide) ?_ ?_
        · refine r_iinc (pc := 66) hC (v := (1 : Int32)) rfl (by decide) rfl rfl dX10_byOne_66 ?_
          refine r_goto (pc := 69) (tgt := 5) hC dX10_byOne_69 (by decide) ?_
          exact r_wk [true, true, true, true, true, false] (ih5_4 i6 (i2 + (1 : Int32)) s8)
        · refine r_aload_n (pc := 37) hC rfl dX10_byOne_37 ?_
          refine r_iload (pc := 38) hC rfl dX10_byOne_38 ?_
          refine r_iload (pc := 40) hC rfl dX10_byOne_40 ?_
          refine r_cM (pc := 42) (rest := []) (fun s10 hf => runV [.int i2, .int i7] hC (c_M_turnNow (kl κ) (kW κ) hC.2.2.2.2.2.2.2.2.1 i2 i7 s8 s10 hf) o_X10_turnNow k_1266 (q0 := 0) (ci := 10) rfl rfl (rm_ok hR rfl) rfl (Nat.le_of_ble_eq_true rfl) dX10_byOne_42) (fun s10 => ?_)
          refine r_aload_n (pc := 45) hC rfl dX10_byOne_45 ?_
          refine r_iload_n (pc := 46) hC rfl dX10_byOne_46 ?_
          refine r_iload_n (pc := 47) hC rfl dX10_byOne_47 ?_
          refine r_cOM (pc := 48) (rest := []) (fun r12 s11 hf => runV [.int a1, .int a2] hC (c_M_isIn (kl κ) (kW κ) hC.2.2.2.2.2.2.2.2.1 N a1 a2 s10 r12 s11 hf) o_X10_isIn k_1546 (q0 := 0) (ci := 10) rfl rfl (rm_ok hR rfl) rfl (Nat.le_of_ble_eq_true rfl) dX10_byOne_48) (fun r12 s11 => ?_)
          refine r_istore_n (pc := 51) hC rfl rfl dX10_byOne_51 ?_
          refine r_aload_n (pc := 52) hC rfl dX10_byOne_52 ?_
          refine r_iload (pc := 53) hC rfl dX10_byOne_53 ?_
          refine r_iload (pc := 55) hC rfl dX10_byOne_55 ?_
          refine r_cM (pc := 57) (rest := []) (fun s13 hf => runV [.int i2, .int i7] hC (c_M_turnNow (kl κ) (kW κ) hC.2.2.2.2.2.2.2.2.1 i2 i7 s11 s13 hf) o_X10_turnNow k_1266 (q0 := 0) (ci := 10) rfl rfl (rm_ok hR rfl) rfl (Nat.le_of_ble_eq_true rfl) dX10_byOne_57) (fun s13 => ?_)
          refine r_iinc (pc := 60) hC (v := (1 : Int32)) rfl (by decide) rfl rfl dX10_byOne_60 ?_
          refine r_goto (pc := 63) (tgt := 24) hC dX10_byOne_63 (by decide) ?_
          exact ih24_9 r12 (i7 + (1 : Int32)) s13
set_option maxRecDepth 100000 in
set_option maxHeartbeats 4000000 in
theorem c_M_byOne (l : Launch) (w : Wenv) (hw : okw w wM) (N : Nat) (a1 : Int32) (a2 : Int32) (σ : Mem) (r : Int32) (τ : Mem) (hf : f_M_byOne N a1 a2 σ = some (r, τ)) : Ctr l w wM yX10_byOne cX10_byOne 6 (some .boolean) 7 155 [.ref (w.2.2.1 0), .int a1, .int a2] σ (cQi w wM r τ) := mk_ctr (Q := fun κ => qOM κ wM) (lv := [some (.ref (w.2.2.1 0)), some (.int a1), some (.int a2), none, none, none]) (by decide) rfl hw (Nat.le_of_ble_eq_true rfl) rfl hf (fun κ h => by subst h; rfl) (fun κ hl h hR hC => by
    subst h
    exact w_M_byOne hR hC N a1 a2 σ)
-- DuelRoundModel.fewest(II)I (0, None, None) kind OM
def M_fewest_K121 (y6 : Int32) (s7 : Mem) : Option (Int32 × Mem) :=
  if y6 = (0 : Int32) then
  (some ((-2 : Int32), s7))
  else
  (some ((2 : Int32), s7))
def M_fewest_B73 (N : Nat) (a1 : Int32) (a2 : Int32) (i9 : Int32) (self11 : Int32 → Int32 → Mem → Option (Int32 × Mem)) (self16 : Int32 → Int32 → Mem → Option (Int32 × Mem)) (i13 : Int32) (i14 : Int32) (s15 : Mem) : Option (Int32 × Mem) :=
  if (t_M_many s15) ≤ i14 then
  (self11 i13 (i9 + (1 : Int32)) s15)
  else
  (if i13 = (0 : Int32) then
  (ob (f_M_turnNow i9 i14 s15) fun s17 =>
  ob2 (f_M_byOne N a1 a2 s17) fun r19 s18 =>
  ob (f_M_turnNow i9 i14 s18) fun s20 =>
  self16 r19 (i14 + (1 : Int32)) s20)
  else
  (self11 i13 (i9 + (1 : Int32)) s15))
def M_fewest_B54 (N : Nat) (a1 : Int32) (a2 : Int32) (self11 : Int32 → Int32 → Mem → Option (Int32 × Mem)) (i8 : Int32) (i9 : Int32) (s10 : Mem) : Option (Int32 × Mem) :=
  if (t_M_many s10) ≤ i9 then
  (M_fewest_K121 i8 s10)
  else
  (if i8 = (0 : Int32) then
  (bnd (i9 + (1 : Int32)) fun x12 =>
  it3 (M_fewest_B73 N a1 a2 i9 self11) N i8 x12 s10)
  else
  (M_fewest_K121 i8 s10))
def f_M_fewest (N : Nat) (a1 : Int32) (a2 : Int32) (σ : Mem) : Option (Int32 × Mem) :=
  bnd (sI σ 0 0 (0 : Int32)) fun s1 =>
  if (t_M_isPlayer a1 s1) = (0 : Int32) then
  (some ((-1 : Int32), s1))
  else
  (if (t_M_in (a2.toInt64) (0 : Int64) (9 : Int64)) = (0 : Int32) then
  (some ((-1 : Int32), s1))
  else
  (ob2 (f_M_isIn N a1 a2 s1) fun r3 s2 =>
  if r3 = (0 : Int32) then
  (ob2 (f_M_byOne N a1 a2 s2) fun r5 s4 =>
  if r5 = (0 : Int32) then
  (it3 (M_fewest_B54 N a1 a2) N (0 : Int32) (0 : Int32) s4)
  else
  (some ((1 : Int32), s4)))
  else
  (some ((0 : Int32), s2))))
set_option maxRecDepth 100000 in
set_option maxHeartbeats 4000000 in
theorem w_M_fewest {κ : Ctx} (hR : kR κ = { frames := 8, cells := 0, slots := 0, locals := 180 }) (hC : ok κ wM cX10_fewest 6 RX10 (some .int)) (N : Nat) (a1 : Int32) (a2 : Int32) (σ : Mem) : wF κ wM 6 (qOM κ wM) σ 0 [some (.ref (ad κ 0)), some (.int a1), some (.int a2), none, none, none] [] (f_M_fewest N a1 a2 σ) := by
  unfold f_M_fewest
  refine r_aload_n (pc := 0) hC rfl dX10_fewest_0 ?_
  refine r_iconst (pc := 1) hC (v := (0 : Int32)) (by decide) dX10_fewest_1 ?_
  refine pM_0_0 (pc := 2) hC k_1037 dX10_fewest_2 ?_
  refine r_letm (fun s1 => ?_)
  refine r_aload_n (pc := 5) hC rfl dX10_fewest_5 ?_
  refine r_iload_n (pc := 6) hC rfl dX10_fewest_6 ?_
  refine r_cT (pc := 7) (rest := []) (runV [.int a1] hC (c_M_isPlayer (kl κ) (kW κ) hC.2.2.2.2.2.2.2.2.1 a1 s1) o_X10_isPlayer k_1220 (q0 := 0) (ci := 10) rfl rfl (rm_ok hR rfl) rfl (Nat.le_of_ble_eq_true rfl) dX10_fewest_7) ?_
  refine r_if_eq (pc := 10) (tgt := 25) hC dX10_fewest_10 (by decide) ?_ ?_
  · refine r_iconst (pc := 25) hC (v := (-1 : Int32)) (by decide) dX10_fewest_25 ?_
    exact r_retOM hC rfl dX10_fewest_26
  · refine r_iload_n (pc := 13) hC rfl dX10_fewest_13 ?_
    refine r_i2l (pc := 14) hC dX10_fewest_14 ?_
    refine r_lconst (pc := 15) hC (v := (0 : Int64)) (by decide) dX10_fewest_15 ?_
    refine r_ldc2 (pc := 16) hC (v := (9 : Int64)) k_1289 dX10_fewest_16 ?_
    refine r_cT (pc := 19) (rest := []) (runS [.long (a2.toInt64), .long (0 : Int64), .long (9 : Int64)] hC (c_M_in (kl κ) (kW κ) hC.2.2.2.2.2.2.2.2.1 (a2.toInt64) (0 : Int64) (9 : Int64) s1) o_X10_in k_1161 (rm_ok hR rfl) rfl (Nat.le_of_ble_eq_true rfl) dX10_fewest_19) ?_
    refine r_if_ne (pc := 22) (tgt := 27) hC dX10_fewest_22 (by decide) ?_ ?_
    · refine r_aload_n (pc := 27) hC rfl dX10_fewest_27 ?_
      refine r_iload_n (pc := 28) hC rfl dX10_fewest_28 ?_
      refine r_iload_n (pc := 29) hC rfl dX10_fewest_29 ?_
      refine r_cOM (pc := 30) (rest := []) (fun r3 s2 hf => runV [.int a1, .int a2] hC (c_M_isIn (kl κ) (kW κ) hC.2.2.2.2.2.2.2.2.1 N a1 a2 s1 r3 s2 hf) o_X10_isIn k_1546 (q0 := 0) (ci := 10) rfl rfl (rm_ok hR rfl) rfl (Nat.le_of_ble_eq_true rfl) dX10_fewest_30) (fun r3 s2 => ?_)
      refine r_if_eq (pc := 33) (tgt := 38) hC dX10_fewest_33 (by decide) ?_ ?_
      · refine r_aload_n (pc := 38) hC rfl dX10_fewest_38 ?_
        refine r_iload_n (pc := 39) hC rfl dX10_fewest_39 ?_
        refine r_iload_n (pc := 40) hC rfl dX10_fewest_40 ?_
        refine r_cOM (pc := 41) (rest := []) (fun r5 s4 hf => runV [.int a1, .int a2] hC (c_M_byOne (kl κ) (kW κ) hC.2.2.2.2.2.2.2.2.1 N a1 a2 s2 r5 s4 hf) o_X10_byOne k_1550 (q0 := 0) (ci := 10) rfl rfl (rm_ok hR rfl) rfl (Nat.le_of_ble_eq_true rfl) dX10_fewest_41) (fun r5 s4 => ?_)
        refine r_if_eq (pc := 44) (tgt := 49) hC dX10_fewest_44 (by decide) ?_ ?_
        · refine r_iconst (pc := 49) hC (v := (0 : Int32)) (by decide) dX10_fewest_49 ?_
          refine r_istore_n (pc := 50) hC rfl rfl dX10_fewest_50 ?_
          refine r_iconst (pc := 51) hC (v := (0 : Int32)) (by decide) dX10_fewest_51 ?_
          refine r_istore (pc := 52) hC rfl rfl dX10_fewest_52 ?_
          have hK121_7 : ∀ (y6 : Int32) (s7 : Mem), wF κ wM 6 (qOM κ wM) s7 121 [none, none, none, some (.int y6), none, none] [] (M_fewest_K121 y6 s7) := by
            intro y6 s7
            unfold M_fewest_K121
            refine r_iload_n (pc := 121) hC rfl dX10_fewest_121 ?_
            refine r_if_eq (pc := 122) (tgt := 129) hC dX10_fewest_122 (by decide) ?_ ?_
            · refine r_bipush (pc := 129) hC (v := (-2 : Int32)) (by decide) dX10_fewest_129 ?_
              exact r_retOM hC rfl dX10_fewest_131
            · refine r_iconst (pc := 125) hC (v := (2 : Int32)) (by decide) dX10_fewest_125 ?_
              refine r_goto (pc := 126) (tgt := 131) hC dX10_fewest_126 (by decide) ?_
              exact r_retOM hC rfl dX10_fewest_131
          refine w_it3 (fun i8 i9 s10 => s10) (fun i8 i9 s10 => [some (.ref (ad κ 0)), some (.int a1), some (.int a2), some (.int i8), some (.int i9), none]) (fun self11 ih54_11 i8 i9 s10 => ?_) N (0 : Int32) (0 : Int32) s4
          unfold M_fewest_B54
          refine r_iload (pc := 54) hC rfl dX10_fewest_54 ?_
          refine r_aload_n (pc := 56) hC rfl dX10_fewest_56 ?_
          refine r_cT (pc := 57) (rest := [.int i9]) (runV [] hC (c_M_many (kl κ) (kW κ) hC.2.2.2.2.2.2.2.2.1 s10) o_X10_many k_1274 (q0 := 0) (ci := 10) rfl rfl (rm_ok hR rfl) rfl (Nat.le_of_ble_eq_true rfl) dX10_fewest_57) ?_
          refine r_icmp_ge (pc := 60) (tgt := 121) hC dX10_fewest_60 (by decide) ?_ ?_
          · exact r_wk [false, false, false, true, false, false] (hK121_7 i8 s10)
          · refine r_iload_n (pc := 63) hC rfl dX10_fewest_63 ?_
            refine r_if_ne (pc := 64) (tgt := 121) hC dX10_fewest_64 (by decide) ?_ ?_
            · exact r_wk [false, false, false, true, false, false] (hK121_7 i8 s10)
            · refine r_iload (pc := 67) hC rfl dX10_fewest_67 ?_
              refine r_iconst (pc := 69) hC (v := (1 : Int32)) (by decide) dX10_fewest_69 ?_
              refine r_iadd (pc := 70) hC dX10_fewest_70 ?_
              refine r_let (fun x12 => ?_)
              refine r_istore (pc := 71) hC rfl rfl dX10_fewest_71 ?_
              refine w_it3 (fun i13 i14 s15 => s15) (fun i13 i14 s15 => [some (.ref (ad κ 0)), some (.int a1), some (.int a2), some (.int i13), some (.int i9), some (.int i14)]) (fun self16 ih73_16 i13 i14 s15 => ?_) N i8 x12 s10
              unfold M_fewest_B73
              refine r_iload (pc := 73) hC rfl dX10_fewest_73 ?_
              refine r_aload_n (pc := 75) hC rfl dX10_fewest_75 ?_
              refine r_cT (pc := 76) (rest := [.int i14]) (runV [] hC (c_M_many (kl κ) (kW κ) hC.2.2.2.2.2.2.2.2.1 s15) o_X10_many k_1274 (q0 := 0) (ci := 10) rfl rfl (rm_ok hR rfl) rfl (Nat.le_of_ble_eq_true rfl) dX10_fewest_76) ?_
              refine r_icmp_ge (pc := 79) (tgt := 115) hC dX10_fewest_79 (by decide) ?_ ?_
              · refine r_iinc (pc := 115) hC (v := (1 : Int32)) rfl (by decide) rfl rfl dX10_fewest_115 ?_
                refine r_goto (pc := 118) (tgt := 54) hC dX10_fewest_118 (by decide) ?_
                exact r_wk [true, true, true, true, true, false] (ih54_11 i13 (i9 + (1 : Int32)) s15)
              · refine r_iload_n (pc := 82) hC rfl dX10_fewest_82 ?_
                refine r_if_ne (pc := 83) (tgt := 115) hC dX10_fewest_83 (by decide) ?_ ?_
                · refine r_iinc (pc := 115) hC (v := (1 : Int32)) rfl (by decide) rfl rfl dX10_fewest_115 ?_
                  refine r_goto (pc := 118) (tgt := 54) hC dX10_fewest_118 (by decide) ?_
                  exact r_wk [true, true, true, true, true, false] (ih54_11 i13 (i9 + (1 : Int32)) s15)
                · refine r_aload_n (pc := 86) hC rfl dX10_fewest_86 ?_
                  refine r_iload (pc := 87) hC rfl dX10_fewest_87 ?_
                  refine r_iload (pc := 89) hC rfl dX10_fewest_89 ?_
                  refine r_cM (pc := 91) (rest := []) (fun s17 hf => runV [.int i9, .int i14] hC (c_M_turnNow (kl κ) (kW κ) hC.2.2.2.2.2.2.2.2.1 i9 i14 s15 s17 hf) o_X10_turnNow k_1266 (q0 := 0) (ci := 10) rfl rfl (rm_ok hR rfl) rfl (Nat.le_of_ble_eq_true rfl) dX10_fewest_91) (fun s17 => ?_)
                  refine r_aload_n (pc := 94) hC rfl dX10_fewest_94 ?_
                  refine r_iload_n (pc := 95) hC rfl dX10_fewest_95 ?_
                  refine r_iload_n (pc := 96) hC rfl dX10_fewest_96 ?_
                  refine r_cOM (pc := 97) (rest := []) (fun r19 s18 hf => runV [.int a1, .int a2] hC (c_M_byOne (kl κ) (kW κ) hC.2.2.2.2.2.2.2.2.1 N a1 a2 s17 r19 s18 hf) o_X10_byOne k_1550 (q0 := 0) (ci := 10) rfl rfl (rm_ok hR rfl) rfl (Nat.le_of_ble_eq_true rfl) dX10_fewest_97) (fun r19 s18 => ?_)
                  refine r_istore_n (pc := 100) hC rfl rfl dX10_fewest_100 ?_
                  refine r_aload_n (pc := 101) hC rfl dX10_fewest_101 ?_
                  refine r_iload (pc := 102) hC rfl dX10_fewest_102 ?_
                  refine r_iload (pc := 104) hC rfl dX10_fewest_104 ?_
                  refine r_cM (pc := 106) (rest := []) (fun s20 hf => runV [.int i9, .int i14] hC (c_M_turnNow (kl κ) (kW κ) hC.2.2.2.2.2.2.2.2.1 i9 i14 s18 s20 hf) o_X10_turnNow k_1266 (q0 := 0) (ci := 10) rfl rfl (rm_ok hR rfl) rfl (Nat.le_of_ble_eq_true rfl) dX10_fewest_106) (fun s20 => ?_)
                  refine r_iinc (pc := 109) hC (v := (1 : Int32)) rfl (by decide) rfl rfl dX10_fewest_109 ?_
                  refine r_goto (pc := 112) (tgt := 73) hC dX10_fewest_112 (by decide) ?_
                  exact ih73_16 r19 (i14 + (1 : Int32)) s20
        · refine r_iconst (pc := 47) hC (v := (1 : Int32)) (by decide) dX10_fewest_47 ?_
          exact r_retOM hC rfl dX10_fewest_48
      · refine r_iconst (pc := 36) hC (v := (0 : Int32)) (by decide) dX10_fewest_36 ?_
        exact r_retOM hC rfl dX10_fewest_37
    · refine r_iconst (pc := 25) hC (v := (-1 : Int32)) (by decide) dX10_fewest_25 ?_
      exact r_retOM hC rfl dX10_fewest_26
set_option maxRecDepth 100000 in
set_option maxHeartbeats 4000000 in
theorem c_M_fewest (l : Launch) (w : Wenv) (hw : okw w wM) (N : Nat) (a1 : Int32) (a2 : Int32) (σ : Mem) (r : Int32) (τ : Mem) (hf : f_M_fewest N a1 a2 σ = some (r, τ)) : Ctr l w wM yX10_fewest cX10_fewest 6 (some .int) 8 180 [.ref (w.2.2.1 0), .int a1, .int a2] σ (cQi w wM r τ) := mk_ctr (Q := fun κ => qOM κ wM) (lv := [some (.ref (w.2.2.1 0)), some (.int a1), some (.int a2), none, none, none]) (by decide) rfl hw (Nat.le_of_ble_eq_true rfl) rfl hf (fun κ h => by subst h; rfl) (fun κ hl h hR hC => by
    subst h
    exact w_M_fewest hR hC N a1 a2 σ)
-- DuelRoundModel.isKeeping(I)Z (0, None) kind O
def M_isKeeping_B12 (σ : Mem) (a1 : Int32) (self4 : Int32 → Int32 → Option Int32) (i2 : Int32) (i3 : Int32) : Option Int32 :=
  if (t_M_many σ) ≤ i3 then
  (gd (isb i2) (some i2))
  else
  (if i2 = (0 : Int32) then
  (self4 (0 : Int32) (i3 + (1 : Int32)))
  else
  (if (t_M_has a1 i3) = (0 : Int32) then
  (self4 (1 : Int32) (i3 + (1 : Int32)))
  else
  (ob (f_M_over i3 σ) fun r5 =>
  gd (inb r5 256) (if (t_M_isWithin (gI σ 22 r5.toNatClampNeg) a1) = (0 : Int32) then
  (self4 (0 : Int32) (i3 + (1 : Int32)))
  else
  (self4 (1 : Int32) (i3 + (1 : Int32)))))))
def M_isKeeping_J9 (N : Nat) (σ : Mem) (a1 : Int32) (v1 : Int32) : Option Int32 :=
  it2 (M_isKeeping_B12 σ a1) N v1 (0 : Int32)
def f_M_isKeeping (N : Nat) (a1 : Int32) (σ : Mem) : Option Int32 :=
  if a1 = (0 : Int32) then
  (M_isKeeping_J9 N σ a1 (0 : Int32))
  else
  (M_isKeeping_J9 N σ a1 (1 : Int32))
set_option maxRecDepth 100000 in
set_option maxHeartbeats 4000000 in
theorem w_M_isKeeping {κ : Ctx} (hR : kR κ = { frames := 2, cells := 0, slots := 0, locals := 41 }) (hC : ok κ wM cX10_isKeeping 4 RX10 (some .boolean)) (N : Nat) (a1 : Int32) (σ : Mem) : wF κ wM 4 (qO κ wM σ) σ 0 [some (.ref (ad κ 0)), some (.int a1), none, none] [] (f_M_isKeeping N a1 σ) := by
  unfold f_M_isKeeping
  refine r_iload_n (pc := 0) hC rfl dX10_isKeeping_0 ?_
  have hJ9_5 : ∀ (v1 : Int32), wF κ wM 4 (qO κ wM σ) σ 9 [some (.ref (ad κ 0)), some (.int a1), none, none] [.int v1] (M_isKeeping_J9 N σ a1 v1) := by
    intro v1
    unfold M_isKeeping_J9
    refine r_istore_n (pc := 9) hC rfl rfl dX10_isKeeping_9 ?_
    refine r_iconst (pc := 10) hC (v := (0 : Int32)) (by decide) dX10_isKeeping_10 ?_
    refine r_istore_n (pc := 11) hC rfl rfl dX10_isKeeping_11 ?_
    refine w_it2 (fun i2 i3 => σ) (fun i2 i3 => [some (.ref (ad κ 0)), some (.int a1), some (.int i2), some (.int i3)]) (fun self4 ih12_4 i2 i3 => ?_) N v1 (0 : Int32)
    unfold M_isKeeping_B12
    refine r_iload_n (pc := 12) hC rfl dX10_isKeeping_12 ?_
    refine r_aload_n (pc := 13) hC rfl dX10_isKeeping_13 ?_
    refine r_cT (pc := 14) (rest := [.int i3]) (runV [] hC (c_M_many (kl κ) (kW κ) hC.2.2.2.2.2.2.2.2.1 σ) o_X10_many k_1274 (q0 := 0) (ci := 10) rfl rfl (rm_ok hR rfl) rfl (Nat.le_of_ble_eq_true rfl) dX10_isKeeping_14) ?_
    refine r_icmp_ge (pc := 17) (tgt := 61) hC dX10_isKeeping_17 (by decide) ?_ ?_
    · refine r_iload_n (pc := 61) hC rfl dX10_isKeeping_61 ?_
      exact r_retOb hC dX10_isKeeping_62
    · refine r_iload_n (pc := 20) hC rfl dX10_isKeeping_20 ?_
      refine r_if_eq (pc := 21) (tgt := 53) hC dX10_isKeeping_21 (by decide) ?_ ?_
      · refine r_iconst (pc := 53) hC (v := (0 : Int32)) (by decide) dX10_isKeeping_53 ?_
        refine r_istore_n (pc := 54) hC rfl rfl dX10_isKeeping_54 ?_
        refine r_iinc (pc := 55) hC (v := (1 : Int32)) rfl (by decide) rfl rfl dX10_isKeeping_55 ?_
        refine r_goto (pc := 58) (tgt := 12) hC dX10_isKeeping_58 (by decide) ?_
        exact ih12_4 (0 : Int32) (i3 + (1 : Int32))
      · refine r_iload_n (pc := 24) hC rfl dX10_isKeeping_24 ?_
        refine r_iload_n (pc := 25) hC rfl dX10_isKeeping_25 ?_
        refine r_cT (pc := 26) (rest := []) (runS [.int a1, .int i3] hC (c_M_has (kl κ) (kW κ) hC.2.2.2.2.2.2.2.2.1 a1 i3 σ) o_X10_has k_1194 (rm_ok hR rfl) rfl (Nat.le_of_ble_eq_true rfl) dX10_isKeeping_26) ?_
        refine r_if_eq (pc := 29) (tgt := 49) hC dX10_isKeeping_29 (by decide) ?_ ?_
        · refine r_iconst (pc := 49) hC (v := (1 : Int32)) (by decide) dX10_isKeeping_49 ?_
          refine r_goto (pc := 50) (tgt := 54) hC dX10_isKeeping_50 (by decide) ?_
          refine r_istore_n (pc := 54) hC rfl rfl dX10_isKeeping_54 ?_
          refine r_iinc (pc := 55) hC (v := (1 : Int32)) rfl (by decide) rfl rfl dX10_isKeeping_55 ?_
          refine r_goto (pc := 58) (tgt := 12) hC dX10_isKeeping_58 (by decide) ?_
          exact ih12_4 (1 : Int32) (i3 + (1 : Int32))
        · refine r_aload_n (pc := 32) hC rfl dX10_isKeeping_32 ?_
          refine gM_0_22 (pc := 33) hC k_1059 dX10_isKeeping_33 ?_
          refine r_aload_n (pc := 36) hC rfl dX10_isKeeping_36 ?_
          refine r_iload_n (pc := 37) hC rfl dX10_isKeeping_37 ?_
          refine r_cO (pc := 38) (rest := [.ref (ad κ 16)]) (fun r5 hf => runV [.int i3] hC (c_M_over (kl κ) (kW κ) hC.2.2.2.2.2.2.2.2.1 i3 σ r5 hf) o_X10_over k_1239 (q0 := 0) (ci := 10) rfl rfl (rm_ok hR rfl) rfl (Nat.le_of_ble_eq_true rfl) dX10_isKeeping_38) (fun r5 => ?_)
          refine aM_16 (pc := 41) hC dX10_isKeeping_41 ?_
          refine r_iload_n (pc := 42) hC rfl dX10_isKeeping_42 ?_
          refine r_cT (pc := 43) (rest := []) (runS [.int (gI σ 22 r5.toNatClampNeg), .int a1] hC (c_M_isWithin (kl κ) (kW κ) hC.2.2.2.2.2.2.2.2.1 (gI σ 22 r5.toNatClampNeg) a1 σ) o_X10_isWithin k_1236 (rm_ok hR rfl) rfl (Nat.le_of_ble_eq_true rfl) dX10_isKeeping_43) ?_
          refine r_if_eq (pc := 46) (tgt := 53) hC dX10_isKeeping_46 (by decide) ?_ ?_
          · refine r_iconst (pc := 53) hC (v := (0 : Int32)) (by decide) dX10_isKeeping_53 ?_
            refine r_istore_n (pc := 54) hC rfl rfl dX10_isKeeping_54 ?_
            refine r_iinc (pc := 55) hC (v := (1 : Int32)) rfl (by decide) rfl rfl dX10_isKeeping_55 ?_
            refine r_goto (pc := 58) (tgt := 12) hC dX10_isKeeping_58 (by decide) ?_
            exact ih12_4 (0 : Int32) (i3 + (1 : Int32))
          · refine r_iconst (pc := 49) hC (v := (1 : Int32)) (by decide) dX10_isKeeping_49 ?_
            refine r_goto (pc := 50) (tgt := 54) hC dX10_isKeeping_50 (by decide) ?_
            refine r_istore_n (pc := 54) hC rfl rfl dX10_isKeeping_54 ?_
            refine r_iinc (pc := 55) hC (v := (1 : Int32)) rfl (by decide) rfl rfl dX10_isKeeping_55 ?_
            refine r_goto (pc := 58) (tgt := 12) hC dX10_isKeeping_58 (by decide) ?_
            exact ih12_4 (1 : Int32) (i3 + (1 : Int32))
  refine r_if_eq (pc := 1) (tgt := 8) hC dX10_isKeeping_1 (by decide) ?_ ?_
  · refine r_iconst (pc := 8) hC (v := (0 : Int32)) (by decide) dX10_isKeeping_8 ?_
    exact hJ9_5 (0 : Int32)
  · refine r_iconst (pc := 4) hC (v := (1 : Int32)) (by decide) dX10_isKeeping_4 ?_
    refine r_goto (pc := 5) (tgt := 9) hC dX10_isKeeping_5 (by decide) ?_
    exact hJ9_5 (1 : Int32)
set_option maxRecDepth 100000 in
set_option maxHeartbeats 4000000 in
theorem c_M_isKeeping (l : Launch) (w : Wenv) (hw : okw w wM) (N : Nat) (a1 : Int32) (σ : Mem) (r : Int32) (hf : f_M_isKeeping N a1 σ = some r) : Ctr l w wM yX10_isKeeping cX10_isKeeping 4 (some .boolean) 2 41 [.ref (w.2.2.1 0), .int a1] σ (cQi w wM r σ) := mk_ctr (Q := fun κ => qO κ wM σ) (lv := [some (.ref (w.2.2.1 0)), some (.int a1), none, none]) (by decide) rfl hw (Nat.le_of_ble_eq_true rfl) rfl hf (fun κ h => by subst h; rfl) (fun κ hl h hR hC => by
    subst h
    exact w_M_isKeeping hR hC N a1 σ)
-- DuelRoundModel.isSo(II)Z (0, None, None) kind OM
def f_M_isSo (N : Nat) (a1 : Int32) (a2 : Int32) (σ : Mem) : Option (Int32 × Mem) :=
  if a2 = (0 : Int32) then
  (ob (f_M_isCovering N a1 (t_M_all σ) σ) fun r3 =>
  gd (isb r3) (some (r3, σ)))
  else
  (ob (f_M_layKeeping N σ) fun s1 =>
  ob (f_M_isKeeping N a1 s1) fun r2 =>
  gd (isb r2) (some (r2, s1)))
set_option maxRecDepth 100000 in
set_option maxHeartbeats 4000000 in
theorem w_M_isSo {κ : Ctx} (hR : kR κ = { frames := 4, cells := 0, slots := 0, locals := 91 }) (hC : ok κ wM cX10_isSo 3 RX10 (some .boolean)) (N : Nat) (a1 : Int32) (a2 : Int32) (σ : Mem) : wF κ wM 3 (qOM κ wM) σ 0 [some (.ref (ad κ 0)), some (.int a1), some (.int a2)] [] (f_M_isSo N a1 a2 σ) := by
  unfold f_M_isSo
  refine r_iload_n (pc := 0) hC rfl dX10_isSo_0 ?_
  refine r_if_ne (pc := 1) (tgt := 14) hC dX10_isSo_1 (by decide) ?_ ?_
  · refine r_aload_n (pc := 14) hC rfl dX10_isSo_14 ?_
    refine r_cM (pc := 15) (rest := []) (fun s1 hf => runV [] hC (c_M_layKeeping (kl κ) (kW κ) hC.2.2.2.2.2.2.2.2.1 N σ s1 hf) o_X10_layKeeping k_1372 (q0 := 0) (ci := 10) rfl rfl (rm_ok hR rfl) rfl (Nat.le_of_ble_eq_true rfl) dX10_isSo_15) (fun s1 => ?_)
    refine r_aload_n (pc := 18) hC rfl dX10_isSo_18 ?_
    refine r_iload_n (pc := 19) hC rfl dX10_isSo_19 ?_
    refine r_cO (pc := 20) (rest := []) (fun r2 hf => runV [.int a1] hC (c_M_isKeeping (kl κ) (kW κ) hC.2.2.2.2.2.2.2.2.1 N a1 s1 r2 hf) o_X10_isKeeping k_1438 (q0 := 0) (ci := 10) rfl rfl (rm_ok hR rfl) rfl (Nat.le_of_ble_eq_true rfl) dX10_isSo_20) (fun r2 => ?_)
    exact r_retOMb hC dX10_isSo_23
  · refine r_aload_n (pc := 4) hC rfl dX10_isSo_4 ?_
    refine r_iload_n (pc := 5) hC rfl dX10_isSo_5 ?_
    refine r_aload_n (pc := 6) hC rfl dX10_isSo_6 ?_
    refine r_cT (pc := 7) (rest := [.int a1, .ref (ad κ 0)]) (runV [] hC (c_M_all (kl κ) (kW κ) hC.2.2.2.2.2.2.2.2.1 σ) o_X10_all k_1228 (q0 := 0) (ci := 10) rfl rfl (rm_ok hR rfl) rfl (Nat.le_of_ble_eq_true rfl) dX10_isSo_7) ?_
    refine r_cO (pc := 10) (rest := []) (fun r3 hf => runV [.int a1, .int (t_M_all σ)] hC (c_M_isCovering (kl κ) (kW κ) hC.2.2.2.2.2.2.2.2.1 N a1 (t_M_all σ) σ r3 hf) o_X10_isCovering k_1341 (q0 := 0) (ci := 10) rfl rfl (rm_ok hR rfl) rfl (Nat.le_of_ble_eq_true rfl) dX10_isSo_10) (fun r3 => ?_)
    exact r_retOMb hC dX10_isSo_13
set_option maxRecDepth 100000 in
set_option maxHeartbeats 4000000 in
theorem c_M_isSo (l : Launch) (w : Wenv) (hw : okw w wM) (N : Nat) (a1 : Int32) (a2 : Int32) (σ : Mem) (r : Int32) (τ : Mem) (hf : f_M_isSo N a1 a2 σ = some (r, τ)) : Ctr l w wM yX10_isSo cX10_isSo 3 (some .boolean) 4 91 [.ref (w.2.2.1 0), .int a1, .int a2] σ (cQi w wM r τ) := mk_ctr (Q := fun κ => qOM κ wM) (lv := [some (.ref (w.2.2.1 0)), some (.int a1), some (.int a2)]) (by decide) rfl hw (Nat.le_of_ble_eq_true rfl) rfl hf (fun κ h => by subst h; rfl) (fun κ hl h hR hC => by
    subst h
    exact w_M_isSo hR hC N a1 a2 σ)
-- DuelRoundModel.is(II)I (0, None, None) kind OM
def f_M_is (N : Nat) (a1 : Int32) (a2 : Int32) (σ : Mem) : Option (Int32 × Mem) :=
  bnd (sI σ 0 0 (0 : Int32)) fun s1 =>
  if (t_M_isSome a1 s1) = (0 : Int32) then
  (some ((-1 : Int32), s1))
  else
  (if (t_M_in (a2.toInt64) (0 : Int64) (1 : Int64)) = (0 : Int32) then
  (some ((-1 : Int32), s1))
  else
  (ob2 (f_M_isSo N a1 a2 s1) fun r3 s2 =>
  if r3 = (0 : Int32) then
  (some ((0 : Int32), s2))
  else
  (some ((1 : Int32), s2))))
set_option maxRecDepth 100000 in
set_option maxHeartbeats 4000000 in
theorem w_M_is {κ : Ctx} (hR : kR κ = { frames := 5, cells := 0, slots := 0, locals := 113 }) (hC : ok κ wM cX10_is 3 RX10 (some .int)) (N : Nat) (a1 : Int32) (a2 : Int32) (σ : Mem) : wF κ wM 3 (qOM κ wM) σ 0 [some (.ref (ad κ 0)), some (.int a1), some (.int a2)] [] (f_M_is N a1 a2 σ) := by
  unfold f_M_is
  refine r_aload_n (pc := 0) hC rfl dX10_is_0 ?_
  refine r_iconst (pc := 1) hC (v := (0 : Int32)) (by decide) dX10_is_1 ?_
  refine pM_0_0 (pc := 2) hC k_1037 dX10_is_2 ?_
  refine r_letm (fun s1 => ?_)
  refine r_aload_n (pc := 5) hC rfl dX10_is_5 ?_
  refine r_iload_n (pc := 6) hC rfl dX10_is_6 ?_
  refine r_cT (pc := 7) (rest := []) (runV [.int a1] hC (c_M_isSome (kl κ) (kW κ) hC.2.2.2.2.2.2.2.2.1 a1 s1) o_X10_isSome k_1250 (q0 := 0) (ci := 10) rfl rfl (rm_ok hR rfl) rfl (Nat.le_of_ble_eq_true rfl) dX10_is_7) ?_
  refine r_if_eq (pc := 10) (tgt := 23) hC dX10_is_10 (by decide) ?_ ?_
  · refine r_iconst (pc := 23) hC (v := (-1 : Int32)) (by decide) dX10_is_23 ?_
    exact r_retOM hC rfl dX10_is_24
  · refine r_iload_n (pc := 13) hC rfl dX10_is_13 ?_
    refine r_i2l (pc := 14) hC dX10_is_14 ?_
    refine r_lconst (pc := 15) hC (v := (0 : Int64)) (by decide) dX10_is_15 ?_
    refine r_lconst (pc := 16) hC (v := (1 : Int64)) (by decide) dX10_is_16 ?_
    refine r_cT (pc := 17) (rest := []) (runS [.long (a2.toInt64), .long (0 : Int64), .long (1 : Int64)] hC (c_M_in (kl κ) (kW κ) hC.2.2.2.2.2.2.2.2.1 (a2.toInt64) (0 : Int64) (1 : Int64) s1) o_X10_in k_1161 (rm_ok hR rfl) rfl (Nat.le_of_ble_eq_true rfl) dX10_is_17) ?_
    refine r_if_ne (pc := 20) (tgt := 25) hC dX10_is_20 (by decide) ?_ ?_
    · refine r_aload_n (pc := 25) hC rfl dX10_is_25 ?_
      refine r_iload_n (pc := 26) hC rfl dX10_is_26 ?_
      refine r_iload_n (pc := 27) hC rfl dX10_is_27 ?_
      refine r_cOM (pc := 28) (rest := []) (fun r3 s2 hf => runV [.int a1, .int a2] hC (c_M_isSo (kl κ) (kW κ) hC.2.2.2.2.2.2.2.2.1 N a1 a2 s1 r3 s2 hf) o_X10_isSo k_1434 (q0 := 0) (ci := 10) rfl rfl (rm_ok hR rfl) rfl (Nat.le_of_ble_eq_true rfl) dX10_is_28) (fun r3 s2 => ?_)
      refine r_if_eq (pc := 31) (tgt := 38) hC dX10_is_31 (by decide) ?_ ?_
      · refine r_iconst (pc := 38) hC (v := (0 : Int32)) (by decide) dX10_is_38 ?_
        exact r_retOM hC rfl dX10_is_39
      · refine r_iconst (pc := 34) hC (v := (1 : Int32)) (by decide) dX10_is_34 ?_
        refine r_goto (pc := 35) (tgt := 39) hC dX10_is_35 (by decide) ?_
        exact r_retOM hC rfl dX10_is_39
    · refine r_iconst (pc := 23) hC (v := (-1 : Int32)) (by decide) dX10_is_23 ?_
      exact r_retOM hC rfl dX10_is_24
set_option maxRecDepth 100000 in
set_option maxHeartbeats 4000000 in
theorem c_M_is (l : Launch) (w : Wenv) (hw : okw w wM) (N : Nat) (a1 : Int32) (a2 : Int32) (σ : Mem) (r : Int32) (τ : Mem) (hf : f_M_is N a1 a2 σ = some (r, τ)) : Ctr l w wM yX10_is cX10_is 3 (some .int) 5 113 [.ref (w.2.2.1 0), .int a1, .int a2] σ (cQi w wM r τ) := mk_ctr (Q := fun κ => qOM κ wM) (lv := [some (.ref (w.2.2.1 0)), some (.int a1), some (.int a2)]) (by decide) rfl hw (Nat.le_of_ble_eq_true rfl) rfl hf (fun κ h => by subst h; rfl) (fun κ hl h hR hC => by
    subst h
    exact w_M_is hR hC N a1 a2 σ)
-- DuelRoundModel.join(I)I (0, None) kind OM
def M_join_K92 (a1 : Int32) (x3 : Int32) (s4 : Mem) : Option (Int32 × Mem) :=
  gd (inb ((1 : Int32) + x3) 9) (bnd (sI s4 1 ((1 : Int32) + x3).toNatClampNeg a1) fun s5 =>
  bnd (sI s5 1 (0 : Int32).toNatClampNeg ((gI s5 1 (0 : Int32).toNatClampNeg) + (1 : Int32))) fun s6 =>
  some ((x3 + (1 : Int32)), s6))
def M_join_J84 (s8 : Mem) (i7 : Int32) (self9 : Int32 → Mem → Option (Int32 × Mem)) (v10 : Int32) : Option (Int32 × Mem) :=
  gd (inb ((1 : Int32) + i7) 9) (bnd (sI s8 1 ((1 : Int32) + i7).toNatClampNeg ((gI s8 1 ((1 : Int32) + i7).toNatClampNeg) ||| v10)) fun s11 =>
  self9 (i7 + (1 : Int32)) s11)
def M_join_B55 (a1 : Int32) (x3 : Int32) (self9 : Int32 → Mem → Option (Int32 × Mem)) (i7 : Int32) (s8 : Mem) : Option (Int32 × Mem) :=
  if x3 ≤ i7 then
  (M_join_K92 a1 x3 s8)
  else
  (gd (inb ((1 : Int32) + i7) 9) (if (t_M_has a1 i7) = (0 : Int32) then
  (M_join_J84 s8 i7 self9 ((1 : Int32) <<< (x3 &&& 31)))
  else
  (M_join_J84 s8 i7 self9 (0 : Int32))))
def f_M_join (N : Nat) (a1 : Int32) (σ : Mem) : Option (Int32 × Mem) :=
  bnd (sI σ 0 0 (0 : Int32)) fun s1 =>
  if a1 < (0 : Int32) then
  (some ((-1 : Int32), s1))
  else
  (if (t_M_isWithin a1 (t_M_all s1)) = (0 : Int32) then
  (some ((-1 : Int32), s1))
  else
  (if (t_M_isRound s1) = (0 : Int32) then
  (some ((-2 : Int32), s1))
  else
  (if (t_M_many s1) = (8 : Int32) then
  (some ((-3 : Int32), s1))
  else
  (ob (f_M_remember N s1) fun s2 =>
  bnd (t_M_many s2) fun x3 =>
  it2 (M_join_B55 a1 x3) N (0 : Int32) s2))))
set_option maxRecDepth 100000 in
set_option maxHeartbeats 4000000 in
theorem w_M_join {κ : Ctx} (hR : kR κ = { frames := 1, cells := 0, slots := 0, locals := 21 }) (hC : ok κ wM cX10_join 4 RX10 (some .int)) (N : Nat) (a1 : Int32) (σ : Mem) : wF κ wM 4 (qOM κ wM) σ 0 [some (.ref (ad κ 0)), some (.int a1), none, none] [] (f_M_join N a1 σ) := by
  unfold f_M_join
  refine r_aload_n (pc := 0) hC rfl dX10_join_0 ?_
  refine r_iconst (pc := 1) hC (v := (0 : Int32)) (by decide) dX10_join_1 ?_
  refine pM_0_0 (pc := 2) hC k_1037 dX10_join_2 ?_
  refine r_letm (fun s1 => ?_)
  refine r_iload_n (pc := 5) hC rfl dX10_join_5 ?_
  refine r_if_lt (pc := 6) (tgt := 20) hC dX10_join_6 (by decide) ?_ ?_
  · refine r_iconst (pc := 20) hC (v := (-1 : Int32)) (by decide) dX10_join_20 ?_
    exact r_retOM hC rfl dX10_join_21
  · refine r_iload_n (pc := 9) hC rfl dX10_join_9 ?_
    refine r_aload_n (pc := 10) hC rfl dX10_join_10 ?_
    refine r_cT (pc := 11) (rest := [.int a1]) (runV [] hC (c_M_all (kl κ) (kW κ) hC.2.2.2.2.2.2.2.2.1 s1) o_X10_all k_1228 (q0 := 0) (ci := 10) rfl rfl (rm_ok hR rfl) rfl (Nat.le_of_ble_eq_true rfl) dX10_join_11) ?_
    refine r_cT (pc := 14) (rest := []) (runS [.int a1, .int (t_M_all s1)] hC (c_M_isWithin (kl κ) (kW κ) hC.2.2.2.2.2.2.2.2.1 a1 (t_M_all s1) s1) o_X10_isWithin k_1236 (rm_ok hR rfl) rfl (Nat.le_of_ble_eq_true rfl) dX10_join_14) ?_
    refine r_if_ne (pc := 17) (tgt := 22) hC dX10_join_17 (by decide) ?_ ?_
    · refine r_aload_n (pc := 22) hC rfl dX10_join_22 ?_
      refine r_cT (pc := 23) (rest := []) (runV [] hC (c_M_isRound (kl κ) (kW κ) hC.2.2.2.2.2.2.2.2.1 s1) o_X10_isRound k_1254 (q0 := 0) (ci := 10) rfl rfl (rm_ok hR rfl) rfl (Nat.le_of_ble_eq_true rfl) dX10_join_23) ?_
      refine r_if_ne (pc := 26) (tgt := 32) hC dX10_join_26 (by decide) ?_ ?_
      · refine r_aload_n (pc := 32) hC rfl dX10_join_32 ?_
        refine r_cT (pc := 33) (rest := []) (runV [] hC (c_M_many (kl κ) (kW κ) hC.2.2.2.2.2.2.2.2.1 s1) o_X10_many k_1274 (q0 := 0) (ci := 10) rfl rfl (rm_ok hR rfl) rfl (Nat.le_of_ble_eq_true rfl) dX10_join_33) ?_
        refine r_bipush (pc := 36) hC (v := (8 : Int32)) (by decide) dX10_join_36 ?_
        refine r_icmp_ne (pc := 38) (tgt := 44) hC dX10_join_38 (by decide) ?_ ?_
        · refine r_aload_n (pc := 44) hC rfl dX10_join_44 ?_
          refine r_cM (pc := 45) (rest := []) (fun s2 hf => runV [] hC (c_M_remember (kl κ) (kW κ) hC.2.2.2.2.2.2.2.2.1 N s1 s2 hf) o_X10_remember k_1262 (q0 := 0) (ci := 10) rfl rfl (rm_ok hR rfl) rfl (Nat.le_of_ble_eq_true rfl) dX10_join_45) (fun s2 => ?_)
          refine r_aload_n (pc := 48) hC rfl dX10_join_48 ?_
          refine r_cT (pc := 49) (rest := []) (runV [] hC (c_M_many (kl κ) (kW κ) hC.2.2.2.2.2.2.2.2.1 s2) o_X10_many k_1274 (q0 := 0) (ci := 10) rfl rfl (rm_ok hR rfl) rfl (Nat.le_of_ble_eq_true rfl) dX10_join_49) ?_
          refine r_let (fun x3 => ?_)
          refine r_istore_n (pc := 52) hC rfl rfl dX10_join_52 ?_
          refine r_iconst (pc := 53) hC (v := (0 : Int32)) (by decide) dX10_join_53 ?_
          refine r_istore_n (pc := 54) hC rfl rfl dX10_join_54 ?_
          have hK92_6 : ∀ (s4 : Mem), wF κ wM 4 (qOM κ wM) s4 92 [some (.ref (ad κ 0)), some (.int a1), some (.int x3), none] [] (M_join_K92 a1 x3 s4) := by
            intro s4
            unfold M_join_K92
            refine r_aload_n (pc := 92) hC rfl dX10_join_92 ?_
            refine gM_0_1 (pc := 93) hC k_1038 dX10_join_93 ?_
            refine r_iconst (pc := 96) hC (v := (1 : Int32)) (by decide) dX10_join_96 ?_
            refine r_iload_n (pc := 97) hC rfl dX10_join_97 ?_
            refine r_iadd (pc := 98) hC dX10_join_98 ?_
            refine r_iload_n (pc := 99) hC rfl dX10_join_99 ?_
            refine bM_1 (pc := 100) hC dX10_join_100 ?_
            refine r_letm (fun s5 => ?_)
            refine r_aload_n (pc := 101) hC rfl dX10_join_101 ?_
            refine gM_0_1 (pc := 102) hC k_1038 dX10_join_102 ?_
            refine r_iconst (pc := 105) hC (v := (0 : Int32)) (by decide) dX10_join_105 ?_
            refine r_dup2 (pc := 106) hC rfl rfl dX10_join_106 ?_
            refine r_ung (b := inb (0 : Int32) 9) (by decide) ?_
            refine aM_1 (pc := 107) hC dX10_join_107 ?_
            refine r_iconst (pc := 108) hC (v := (1 : Int32)) (by decide) dX10_join_108 ?_
            refine r_iadd (pc := 109) hC dX10_join_109 ?_
            refine r_ung (b := inb (0 : Int32) 9) (by decide) ?_
            refine bM_1 (pc := 110) hC dX10_join_110 ?_
            refine r_letm (fun s6 => ?_)
            refine r_iload_n (pc := 111) hC rfl dX10_join_111 ?_
            refine r_iconst (pc := 112) hC (v := (1 : Int32)) (by decide) dX10_join_112 ?_
            refine r_iadd (pc := 113) hC dX10_join_113 ?_
            exact r_retOM hC rfl dX10_join_114
          refine w_it2 (fun i7 s8 => s8) (fun i7 s8 => [some (.ref (ad κ 0)), some (.int a1), some (.int x3), some (.int i7)]) (fun self9 ih55_9 i7 s8 => ?_) N (0 : Int32) s2
          unfold M_join_B55
          refine r_iload_n (pc := 55) hC rfl dX10_join_55 ?_
          refine r_iload_n (pc := 56) hC rfl dX10_join_56 ?_
          refine r_icmp_ge (pc := 57) (tgt := 92) hC dX10_join_57 (by decide) ?_ ?_
          · exact r_wk [true, true, true, false] (hK92_6 s8)
          · refine r_aload_n (pc := 60) hC rfl dX10_join_60 ?_
            refine gM_0_1 (pc := 61) hC k_1038 dX10_join_61 ?_
            refine r_iconst (pc := 64) hC (v := (1 : Int32)) (by decide) dX10_join_64 ?_
            refine r_iload_n (pc := 65) hC rfl dX10_join_65 ?_
            refine r_iadd (pc := 66) hC dX10_join_66 ?_
            refine r_dup2 (pc := 67) hC rfl rfl dX10_join_67 ?_
            refine aM_1 (pc := 68) hC dX10_join_68 ?_
            refine r_iload_n (pc := 69) hC rfl dX10_join_69 ?_
            refine r_iload_n (pc := 70) hC rfl dX10_join_70 ?_
            refine r_cT (pc := 71) (rest := [.int (gI s8 1 ((1 : Int32) + i7).toNatClampNeg), .int ((1 : Int32) + i7), .ref (ad κ 1)]) (runS [.int a1, .int i7] hC (c_M_has (kl κ) (kW κ) hC.2.2.2.2.2.2.2.2.1 a1 i7 s8) o_X10_has k_1194 (rm_ok hR rfl) rfl (Nat.le_of_ble_eq_true rfl) dX10_join_71) ?_
            have hJ84_11 : ∀ (v10 : Int32), wF κ wM 4 (qOM κ wM) s8 84 [some (.ref (ad κ 0)), some (.int a1), some (.int x3), some (.int i7)] [.int v10, .int (gI s8 1 ((1 : Int32) + i7).toNatClampNeg), .int ((1 : Int32) + i7), .ref (ad κ 1)] (M_join_J84 s8 i7 self9 v10) := by
              intro v10
              unfold M_join_J84
              refine r_ior (pc := 84) hC dX10_join_84 ?_
              refine bM_1 (pc := 85) hC dX10_join_85 ?_
              refine r_letm (fun s11 => ?_)
              refine r_iinc (pc := 86) hC (v := (1 : Int32)) rfl (by decide) rfl rfl dX10_join_86 ?_
              refine r_goto (pc := 89) (tgt := 55) hC dX10_join_89 (by decide) ?_
              exact ih55_9 (i7 + (1 : Int32)) s11
            refine r_if_eq (pc := 74) (tgt := 81) hC dX10_join_74 (by decide) ?_ ?_
            · refine r_iconst (pc := 81) hC (v := (1 : Int32)) (by decide) dX10_join_81 ?_
              refine r_iload_n (pc := 82) hC rfl dX10_join_82 ?_
              refine r_ishl (pc := 83) hC dX10_join_83 ?_
              exact hJ84_11 ((1 : Int32) <<< (x3 &&& 31))
            · refine r_iconst (pc := 77) hC (v := (0 : Int32)) (by decide) dX10_join_77 ?_
              refine r_goto (pc := 78) (tgt := 84) hC dX10_join_78 (by decide) ?_
              exact hJ84_11 (0 : Int32)
        · refine r_bipush (pc := 41) hC (v := (-3 : Int32)) (by decide) dX10_join_41 ?_
          exact r_retOM hC rfl dX10_join_43
      · refine r_bipush (pc := 29) hC (v := (-2 : Int32)) (by decide) dX10_join_29 ?_
        exact r_retOM hC rfl dX10_join_31
    · refine r_iconst (pc := 20) hC (v := (-1 : Int32)) (by decide) dX10_join_20 ?_
      exact r_retOM hC rfl dX10_join_21
set_option maxRecDepth 100000 in
set_option maxHeartbeats 4000000 in
theorem c_M_join (l : Launch) (w : Wenv) (hw : okw w wM) (N : Nat) (a1 : Int32) (σ : Mem) (r : Int32) (τ : Mem) (hf : f_M_join N a1 σ = some (r, τ)) : Ctr l w wM yX10_join cX10_join 4 (some .int) 1 21 [.ref (w.2.2.1 0), .int a1] σ (cQi w wM r τ) := mk_ctr (Q := fun κ => qOM κ wM) (lv := [some (.ref (w.2.2.1 0)), some (.int a1), none, none]) (by decide) rfl hw (Nat.le_of_ble_eq_true rfl) rfl hf (fun κ h => by subst h; rfl) (fun κ hl h hR hC => by
    subst h
    exact w_M_join hR hC N a1 σ)
-- DuelRoundModel.next()I (0,) kind OM
def M_next_K38 (s1 : Mem) : Option (Int32 × Mem) :=
  if (gI s1 7 0) ≤ (gI s1 8 0) then
  (some ((0 : Int32), s1))
  else
  (gd (inb (gI s1 8 0) 300) (some ((gI s1 6 (gI s1 8 0).toNatClampNeg), s1)))
def M_next_B0 (self3 : Mem → Option (Int32 × Mem)) (s2 : Mem) : Option (Int32 × Mem) :=
  if (gI s2 7 0) ≤ (gI s2 8 0) then
  (M_next_K38 s2)
  else
  (gd (inb (gI s2 8 0) 300) (if (gI s2 6 (gI s2 8 0).toNatClampNeg) = (32 : Int32) then
  (bnd (sI s2 8 0 ((gI s2 8 0) + (1 : Int32))) fun s4 =>
  self3 s4)
  else
  (M_next_K38 s2)))
def f_M_next (N : Nat) (σ : Mem) : Option (Int32 × Mem) :=
  it1 (M_next_B0) N σ
set_option maxRecDepth 100000 in
set_option maxHeartbeats 4000000 in
theorem w_M_next {κ : Ctx} (hR : kR κ = { frames := 0, cells := 0, slots := 0, locals := 0 }) (hC : ok κ wM cX10_next 1 RX10 (some .int)) (N : Nat) (σ : Mem) : wF κ wM 1 (qOM κ wM) σ 0 [some (.ref (ad κ 0))] [] (f_M_next N  σ) := by
  unfold f_M_next
  have hK38_1 : ∀ (s1 : Mem), wF κ wM 1 (qOM κ wM) s1 38 [some (.ref (ad κ 0))] [] (M_next_K38 s1) := by
    intro s1
    unfold M_next_K38
    refine r_aload_n (pc := 38) hC rfl dX10_next_38 ?_
    refine gM_0_8 (pc := 39) hC k_1045 dX10_next_39 ?_
    refine r_aload_n (pc := 42) hC rfl dX10_next_42 ?_
    refine gM_0_7 (pc := 43) hC k_1044 dX10_next_43 ?_
    refine r_icmp_ge (pc := 46) (tgt := 61) hC dX10_next_46 (by decide) ?_ ?_
    · refine r_iconst (pc := 61) hC (v := (0 : Int32)) (by decide) dX10_next_61 ?_
      exact r_retOM hC rfl dX10_next_62
    · refine r_aload_n (pc := 49) hC rfl dX10_next_49 ?_
      refine gM_0_6 (pc := 50) hC k_1043 dX10_next_50 ?_
      refine r_aload_n (pc := 53) hC rfl dX10_next_53 ?_
      refine gM_0_8 (pc := 54) hC k_1045 dX10_next_54 ?_
      refine aM_5 (pc := 57) hC dX10_next_57 ?_
      refine r_goto (pc := 58) (tgt := 62) hC dX10_next_58 (by decide) ?_
      exact r_retOM hC rfl dX10_next_62
  refine w_it1 (fun s2 => s2) (fun s2 => [some (.ref (ad κ 0))]) (fun self3 ih0_3 s2 => ?_) N σ
  unfold M_next_B0
  refine r_aload_n (pc := 0) hC rfl dX10_next_0 ?_
  refine gM_0_8 (pc := 1) hC k_1045 dX10_next_1 ?_
  refine r_aload_n (pc := 4) hC rfl dX10_next_4 ?_
  refine gM_0_7 (pc := 5) hC k_1044 dX10_next_5 ?_
  refine r_icmp_ge (pc := 8) (tgt := 38) hC dX10_next_8 (by decide) ?_ ?_
  · exact hK38_1 s2
  · refine r_aload_n (pc := 11) hC rfl dX10_next_11 ?_
    refine gM_0_6 (pc := 12) hC k_1043 dX10_next_12 ?_
    refine r_aload_n (pc := 15) hC rfl dX10_next_15 ?_
    refine gM_0_8 (pc := 16) hC k_1045 dX10_next_16 ?_
    refine aM_5 (pc := 19) hC dX10_next_19 ?_
    refine r_bipush (pc := 20) hC (v := (32 : Int32)) (by decide) dX10_next_20 ?_
    refine r_icmp_ne (pc := 22) (tgt := 38) hC dX10_next_22 (by decide) ?_ ?_
    · exact hK38_1 s2
    · refine r_aload_n (pc := 25) hC rfl dX10_next_25 ?_
      refine r_dup (pc := 26) hC rfl dX10_next_26 ?_
      refine gM_0_8 (pc := 27) hC k_1045 dX10_next_27 ?_
      refine r_iconst (pc := 30) hC (v := (1 : Int32)) (by decide) dX10_next_30 ?_
      refine r_iadd (pc := 31) hC dX10_next_31 ?_
      refine pM_0_8 (pc := 32) hC k_1045 dX10_next_32 ?_
      refine r_letm (fun s4 => ?_)
      refine r_goto (pc := 35) (tgt := 0) hC dX10_next_35 (by decide) ?_
      exact ih0_3 s4
set_option maxRecDepth 100000 in
set_option maxHeartbeats 4000000 in
theorem c_M_next (l : Launch) (w : Wenv) (hw : okw w wM) (N : Nat) (σ : Mem) (r : Int32) (τ : Mem) (hf : f_M_next N  σ = some (r, τ)) : Ctr l w wM yX10_next cX10_next 1 (some .int) 0 0 [.ref (w.2.2.1 0)] σ (cQi w wM r τ) := mk_ctr (Q := fun κ => qOM κ wM) (lv := [some (.ref (w.2.2.1 0))]) (by decide) rfl hw (Nat.le_of_ble_eq_true rfl) rfl hf (fun κ h => by subst h; rfl) (fun κ hl h hR hC => by
    subst h
    exact w_M_next hR hC N  σ)
-- DuelRoundModel.isDigitNext()Z (0,) kind OM
def f_M_isDigitNext (N : Nat) (σ : Mem) : Option (Int32 × Mem) :=
  if (gI σ 10 0) = (0 : Int32) then
  (some ((0 : Int32), σ))
  else
  (ob2 (f_M_next N σ) fun r2 s1 =>
  if (t_M_in (r2.toInt64) (48 : Int64) (57 : Int64)) = (0 : Int32) then
  (some ((0 : Int32), s1))
  else
  (if (gI s1 7 0) ≤ (gI s1 8 0) then
  (some ((0 : Int32), s1))
  else
  (some ((1 : Int32), s1))))
set_option maxRecDepth 100000 in
set_option maxHeartbeats 4000000 in
theorem w_M_isDigitNext {κ : Ctx} (hR : kR κ = { frames := 1, cells := 0, slots := 0, locals := 25 }) (hC : ok κ wM cX10_isDigitNext 1 RX10 (some .boolean)) (N : Nat) (σ : Mem) : wF κ wM 1 (qOM κ wM) σ 0 [some (.ref (ad κ 0))] [] (f_M_isDigitNext N  σ) := by
  unfold f_M_isDigitNext
  refine r_aload_n (pc := 0) hC rfl dX10_isDigitNext_0 ?_
  refine gM_0_10 (pc := 1) hC k_1047 dX10_isDigitNext_1 ?_
  refine r_if_eq (pc := 4) (tgt := 39) hC dX10_isDigitNext_4 (by decide) ?_ ?_
  · refine r_iconst (pc := 39) hC (v := (0 : Int32)) (by decide) dX10_isDigitNext_39 ?_
    exact r_retOM hC rfl dX10_isDigitNext_40
  · refine r_aload_n (pc := 7) hC rfl dX10_isDigitNext_7 ?_
    refine r_cOM (pc := 8) (rest := []) (fun r2 s1 hf => runV [] hC (c_M_next (kl κ) (kW κ) hC.2.2.2.2.2.2.2.2.1 N σ r2 s1 hf) o_X10_next k_1180 (q0 := 0) (ci := 10) rfl rfl (rm_ok hR rfl) rfl (Nat.le_of_ble_eq_true rfl) dX10_isDigitNext_8) (fun r2 s1 => ?_)
    refine r_i2l (pc := 11) hC dX10_isDigitNext_11 ?_
    refine r_ldc2 (pc := 12) hC (v := (48 : Int64)) k_1484 dX10_isDigitNext_12 ?_
    refine r_ldc2 (pc := 15) hC (v := (57 : Int64)) k_1485 dX10_isDigitNext_15 ?_
    refine r_cT (pc := 18) (rest := []) (runS [.long (r2.toInt64), .long (48 : Int64), .long (57 : Int64)] hC (c_M_in (kl κ) (kW κ) hC.2.2.2.2.2.2.2.2.1 (r2.toInt64) (48 : Int64) (57 : Int64) s1) o_X10_in k_1161 (rm_ok hR rfl) rfl (Nat.le_of_ble_eq_true rfl) dX10_isDigitNext_18) ?_
    refine r_if_eq (pc := 21) (tgt := 39) hC dX10_isDigitNext_21 (by decide) ?_ ?_
    · refine r_iconst (pc := 39) hC (v := (0 : Int32)) (by decide) dX10_isDigitNext_39 ?_
      exact r_retOM hC rfl dX10_isDigitNext_40
    · refine r_aload_n (pc := 24) hC rfl dX10_isDigitNext_24 ?_
      refine gM_0_8 (pc := 25) hC k_1045 dX10_isDigitNext_25 ?_
      refine r_aload_n (pc := 28) hC rfl dX10_isDigitNext_28 ?_
      refine gM_0_7 (pc := 29) hC k_1044 dX10_isDigitNext_29 ?_
      refine r_icmp_ge (pc := 32) (tgt := 39) hC dX10_isDigitNext_32 (by decide) ?_ ?_
      · refine r_iconst (pc := 39) hC (v := (0 : Int32)) (by decide) dX10_isDigitNext_39 ?_
        exact r_retOM hC rfl dX10_isDigitNext_40
      · refine r_iconst (pc := 35) hC (v := (1 : Int32)) (by decide) dX10_isDigitNext_35 ?_
        refine r_goto (pc := 36) (tgt := 40) hC dX10_isDigitNext_36 (by decide) ?_
        exact r_retOM hC rfl dX10_isDigitNext_40
set_option maxRecDepth 100000 in
set_option maxHeartbeats 4000000 in
theorem c_M_isDigitNext (l : Launch) (w : Wenv) (hw : okw w wM) (N : Nat) (σ : Mem) (r : Int32) (τ : Mem) (hf : f_M_isDigitNext N  σ = some (r, τ)) : Ctr l w wM yX10_isDigitNext cX10_isDigitNext 1 (some .boolean) 1 25 [.ref (w.2.2.1 0)] σ (cQi w wM r τ) := mk_ctr (Q := fun κ => qOM κ wM) (lv := [some (.ref (w.2.2.1 0))]) (by decide) rfl hw (Nat.le_of_ble_eq_true rfl) rfl hf (fun κ h => by subst h; rfl) (fun κ hl h hR hC => by
    subst h
    exact w_M_isDigitNext hR hC N  σ)
-- DuelRoundModel.wrong(I)V (0, None) kind M
def M_wrong_J16 (σ : Mem) (v1 : Int32) : Option Mem :=
  bnd (sI σ 9 0 v1) fun s2 =>
  bnd (sI s2 10 0 (0 : Int32)) fun s3 =>
  some s3
def f_M_wrong (a1 : Int32) (σ : Mem) : Option Mem :=
  if (gI σ 10 0) = (0 : Int32) then
  (M_wrong_J16 σ (gI σ 9 0))
  else
  (M_wrong_J16 σ a1)
set_option maxRecDepth 100000 in
set_option maxHeartbeats 4000000 in
theorem w_M_wrong {κ : Ctx} (hR : kR κ = { frames := 0, cells := 0, slots := 0, locals := 0 }) (hC : ok κ wM cX10_wrong 2 RX10 none) (a1 : Int32) (σ : Mem) : wF κ wM 2 (qM κ wM) σ 0 [some (.ref (ad κ 0)), some (.int a1)] [] (f_M_wrong a1 σ) := by
  unfold f_M_wrong
  refine r_aload_n (pc := 0) hC rfl dX10_wrong_0 ?_
  refine r_aload_n (pc := 1) hC rfl dX10_wrong_1 ?_
  refine gM_0_10 (pc := 2) hC k_1047 dX10_wrong_2 ?_
  have hJ16_3 : ∀ (v1 : Int32), wF κ wM 2 (qM κ wM) σ 16 [some (.ref (ad κ 0)), none] [.int v1, .ref (ad κ 0)] (M_wrong_J16 σ v1) := by
    intro v1
    unfold M_wrong_J16
    refine pM_0_9 (pc := 16) hC k_1046 dX10_wrong_16 ?_
    refine r_letm (fun s2 => ?_)
    refine r_aload_n (pc := 19) hC rfl dX10_wrong_19 ?_
    refine r_iconst (pc := 20) hC (v := (0 : Int32)) (by decide) dX10_wrong_20 ?_
    refine pM_0_10 (pc := 21) hC (by decide) k_1047 dX10_wrong_21 ?_
    refine r_letm (fun s3 => ?_)
    exact r_retM hC dX10_wrong_24
  refine r_if_eq (pc := 5) (tgt := 12) hC dX10_wrong_5 (by decide) ?_ ?_
  · refine r_aload_n (pc := 12) hC rfl dX10_wrong_12 ?_
    refine gM_0_9 (pc := 13) hC k_1046 dX10_wrong_13 ?_
    exact r_wk [true, false] (hJ16_3 (gI σ 9 0))
  · refine r_iload_n (pc := 8) hC rfl dX10_wrong_8 ?_
    refine r_goto (pc := 9) (tgt := 16) hC dX10_wrong_9 (by decide) ?_
    exact r_wk [true, false] (hJ16_3 a1)
set_option maxRecDepth 100000 in
set_option maxHeartbeats 4000000 in
theorem c_M_wrong (l : Launch) (w : Wenv) (hw : okw w wM) (a1 : Int32) (σ : Mem) (τ : Mem) (hf : f_M_wrong a1 σ = some τ) : Ctr l w wM yX10_wrong cX10_wrong 2 none 0 0 [.ref (w.2.2.1 0), .int a1] σ (cQv w wM τ) := mk_ctr (Q := fun κ => qM κ wM) (lv := [some (.ref (w.2.2.1 0)), some (.int a1)]) (by decide) rfl hw (Nat.le_of_ble_eq_true rfl) rfl hf (fun κ h => by subst h; rfl) (fun κ hl h hR hC => by
    subst h
    exact w_M_wrong hR hC a1 σ)
-- DuelRoundModel.addNumber()V (0,) kind M
def M_addNumber_J134 (s4 : Mem) (y3 : Int32) : Option Mem :=
  gd (inb (gI s4 31 0) 300) (bnd (sI s4 28 (gI s4 31 0).toNatClampNeg ((100 : Int32) + y3)) fun s5 =>
  bnd (sI s5 31 0 ((gI s5 31 0) + (1 : Int32))) fun s6 =>
  some s6)
def M_addNumber_K92 (y3 : Int32) (s4 : Mem) : Option Mem :=
  if (gI s4 7 0) ≤ (gI s4 8 0) then
  (M_addNumber_J134 s4 y3)
  else
  (gd (inb (gI s4 8 0) 300) (if (t_M_in ((gI s4 6 (gI s4 8 0).toNatClampNeg).toInt64) (48 : Int64) (57 : Int64)) = (0 : Int32) then
  (M_addNumber_J134 s4 y3)
  else
  (ob (f_M_wrong (gI s4 8 0) s4) fun s7 =>
  some s7)))
def M_addNumber_B20 (self11 : Int32 → Int32 → Mem → Option Mem) (i8 : Int32) (i9 : Int32) (s10 : Mem) : Option Mem :=
  if (3 : Int32) ≤ i9 then
  (M_addNumber_K92 i8 s10)
  else
  (if (gI s10 7 0) ≤ (gI s10 8 0) then
  (M_addNumber_K92 i8 s10)
  else
  (gd (inb (gI s10 8 0) 300) (if (t_M_in ((gI s10 6 (gI s10 8 0).toNatClampNeg).toInt64) (48 : Int64) (57 : Int64)) = (0 : Int32) then
  (M_addNumber_K92 i8 s10)
  else
  (gd (inb (gI s10 8 0) 300) (bnd ((((10 : Int32) * i8) + (gI s10 6 (gI s10 8 0).toNatClampNeg)) - (48 : Int32)) fun x12 =>
  bnd (sI s10 8 0 ((gI s10 8 0) + (1 : Int32))) fun s13 =>
  self11 x12 (i9 + (1 : Int32)) s13)))))
def f_M_addNumber (N : Nat) (σ : Mem) : Option Mem :=
  ob2 (f_M_isDigitNext N σ) fun r2 s1 =>
  if r2 = (0 : Int32) then
  (ob (f_M_wrong (gI s1 8 0) s1) fun s14 =>
  some s14)
  else
  (it3 (M_addNumber_B20) N (0 : Int32) (0 : Int32) s1)
set_option maxRecDepth 100000 in
set_option maxHeartbeats 4000000 in
theorem w_M_addNumber {κ : Ctx} (hR : kR κ = { frames := 2, cells := 0, slots := 0, locals := 45 }) (hC : ok κ wM cX10_addNumber 3 RX10 none) (N : Nat) (σ : Mem) : wF κ wM 3 (qM κ wM) σ 0 [some (.ref (ad κ 0)), none, none] [] (f_M_addNumber N  σ) := by
  unfold f_M_addNumber
  refine r_aload_n (pc := 0) hC rfl dX10_addNumber_0 ?_
  refine r_cOM (pc := 1) (rest := []) (fun r2 s1 hf => runV [] hC (c_M_isDigitNext (kl κ) (kW κ) hC.2.2.2.2.2.2.2.2.1 N σ r2 s1 hf) o_X10_isDigitNext k_1480 (q0 := 0) (ci := 10) rfl rfl (rm_ok hR rfl) rfl (Nat.le_of_ble_eq_true rfl) dX10_addNumber_1) (fun r2 s1 => ?_)
  refine r_if_ne (pc := 4) (tgt := 16) hC dX10_addNumber_4 (by decide) ?_ ?_
  · refine r_iconst (pc := 16) hC (v := (0 : Int32)) (by decide) dX10_addNumber_16 ?_
    refine r_istore_n (pc := 17) hC rfl rfl dX10_addNumber_17 ?_
    refine r_iconst (pc := 18) hC (v := (0 : Int32)) (by decide) dX10_addNumber_18 ?_
    refine r_istore_n (pc := 19) hC rfl rfl dX10_addNumber_19 ?_
    have hK92_7 : ∀ (y3 : Int32) (s4 : Mem), wF κ wM 3 (qM κ wM) s4 92 [some (.ref (ad κ 0)), some (.int y3), none] [] (M_addNumber_K92 y3 s4) := by
      intro y3 s4
      unfold M_addNumber_K92
      refine r_aload_n (pc := 92) hC rfl dX10_addNumber_92 ?_
      refine gM_0_8 (pc := 93) hC k_1045 dX10_addNumber_93 ?_
      refine r_aload_n (pc := 96) hC rfl dX10_addNumber_96 ?_
      refine gM_0_7 (pc := 97) hC k_1044 dX10_addNumber_97 ?_
      have hJ134_6 : wF κ wM 3 (qM κ wM) s4 134 [some (.ref (ad κ 0)), some (.int y3), none] [] (M_addNumber_J134 s4 y3) := by
        unfold M_addNumber_J134
        refine r_aload_n (pc := 134) hC rfl dX10_addNumber_134 ?_
        refine gM_0_28 (pc := 135) hC k_1065 dX10_addNumber_135 ?_
        refine r_aload_n (pc := 138) hC rfl dX10_addNumber_138 ?_
        refine gM_0_31 (pc := 139) hC k_1068 dX10_addNumber_139 ?_
        refine r_bipush (pc := 142) hC (v := (100 : Int32)) (by decide) dX10_addNumber_142 ?_
        refine r_iload_n (pc := 144) hC rfl dX10_addNumber_144 ?_
        refine r_iadd (pc := 145) hC dX10_addNumber_145 ?_
        refine bM_22 (pc := 146) hC dX10_addNumber_146 ?_
        refine r_letm (fun s5 => ?_)
        refine r_aload_n (pc := 147) hC rfl dX10_addNumber_147 ?_
        refine r_dup (pc := 148) hC rfl dX10_addNumber_148 ?_
        refine gM_0_31 (pc := 149) hC k_1068 dX10_addNumber_149 ?_
        refine r_iconst (pc := 152) hC (v := (1 : Int32)) (by decide) dX10_addNumber_152 ?_
        refine r_iadd (pc := 153) hC dX10_addNumber_153 ?_
        refine pM_0_31 (pc := 154) hC k_1068 dX10_addNumber_154 ?_
        refine r_letm (fun s6 => ?_)
        exact r_retM hC dX10_addNumber_157
      refine r_icmp_ge (pc := 100) (tgt := 134) hC dX10_addNumber_100 (by decide) ?_ ?_
      · exact hJ134_6
      · refine r_aload_n (pc := 103) hC rfl dX10_addNumber_103 ?_
        refine gM_0_6 (pc := 104) hC k_1043 dX10_addNumber_104 ?_
        refine r_aload_n (pc := 107) hC rfl dX10_addNumber_107 ?_
        refine gM_0_8 (pc := 108) hC k_1045 dX10_addNumber_108 ?_
        refine aM_5 (pc := 111) hC dX10_addNumber_111 ?_
        refine r_i2l (pc := 112) hC dX10_addNumber_112 ?_
        refine r_ldc2 (pc := 113) hC (v := (48 : Int64)) k_1484 dX10_addNumber_113 ?_
        refine r_ldc2 (pc := 116) hC (v := (57 : Int64)) k_1485 dX10_addNumber_116 ?_
        refine r_cT (pc := 119) (rest := []) (runS [.long ((gI s4 6 (gI s4 8 0).toNatClampNeg).toInt64), .long (48 : Int64), .long (57 : Int64)] hC (c_M_in (kl κ) (kW κ) hC.2.2.2.2.2.2.2.2.1 ((gI s4 6 (gI s4 8 0).toNatClampNeg).toInt64) (48 : Int64) (57 : Int64) s4) o_X10_in k_1161 (rm_ok hR rfl) rfl (Nat.le_of_ble_eq_true rfl) dX10_addNumber_119) ?_
        refine r_if_eq (pc := 122) (tgt := 134) hC dX10_addNumber_122 (by decide) ?_ ?_
        · exact hJ134_6
        · refine r_aload_n (pc := 125) hC rfl dX10_addNumber_125 ?_
          refine r_aload_n (pc := 126) hC rfl dX10_addNumber_126 ?_
          refine gM_0_8 (pc := 127) hC k_1045 dX10_addNumber_127 ?_
          refine r_cM (pc := 130) (rest := []) (fun s7 hf => runV [.int (gI s4 8 0)] hC (c_M_wrong (kl κ) (kW κ) hC.2.2.2.2.2.2.2.2.1 (gI s4 8 0) s4 s7 hf) o_X10_wrong k_1186 (q0 := 0) (ci := 10) rfl rfl (rm_ok hR rfl) rfl (Nat.le_of_ble_eq_true rfl) dX10_addNumber_130) (fun s7 => ?_)
          exact r_retM hC dX10_addNumber_133
    refine w_it3 (fun i8 i9 s10 => s10) (fun i8 i9 s10 => [some (.ref (ad κ 0)), some (.int i8), some (.int i9)]) (fun self11 ih20_11 i8 i9 s10 => ?_) N (0 : Int32) (0 : Int32) s1
    unfold M_addNumber_B20
    refine r_iload_n (pc := 20) hC rfl dX10_addNumber_20 ?_
    refine r_iconst (pc := 21) hC (v := (3 : Int32)) (by decide) dX10_addNumber_21 ?_
    refine r_icmp_ge (pc := 22) (tgt := 92) hC dX10_addNumber_22 (by decide) ?_ ?_
    · exact r_wk [true, true, false] (hK92_7 i8 s10)
    · refine r_aload_n (pc := 25) hC rfl dX10_addNumber_25 ?_
      refine gM_0_8 (pc := 26) hC k_1045 dX10_addNumber_26 ?_
      refine r_aload_n (pc := 29) hC rfl dX10_addNumber_29 ?_
      refine gM_0_7 (pc := 30) hC k_1044 dX10_addNumber_30 ?_
      refine r_icmp_ge (pc := 33) (tgt := 92) hC dX10_addNumber_33 (by decide) ?_ ?_
      · exact r_wk [true, true, false] (hK92_7 i8 s10)
      · refine r_aload_n (pc := 36) hC rfl dX10_addNumber_36 ?_
        refine gM_0_6 (pc := 37) hC k_1043 dX10_addNumber_37 ?_
        refine r_aload_n (pc := 40) hC rfl dX10_addNumber_40 ?_
        refine gM_0_8 (pc := 41) hC k_1045 dX10_addNumber_41 ?_
        refine aM_5 (pc := 44) hC dX10_addNumber_44 ?_
        refine r_i2l (pc := 45) hC dX10_addNumber_45 ?_
        refine r_ldc2 (pc := 46) hC (v := (48 : Int64)) k_1484 dX10_addNumber_46 ?_
        refine r_ldc2 (pc := 49) hC (v := (57 : Int64)) k_1485 dX10_addNumber_49 ?_
        refine r_cT (pc := 52) (rest := []) (runS [.long ((gI s10 6 (gI s10 8 0).toNatClampNeg).toInt64), .long (48 : Int64), .long (57 : Int64)] hC (c_M_in (kl κ) (kW κ) hC.2.2.2.2.2.2.2.2.1 ((gI s10 6 (gI s10 8 0).toNatClampNeg).toInt64) (48 : Int64) (57 : Int64) s10) o_X10_in k_1161 (rm_ok hR rfl) rfl (Nat.le_of_ble_eq_true rfl) dX10_addNumber_52) ?_
        refine r_if_eq (pc := 55) (tgt := 92) hC dX10_addNumber_55 (by decide) ?_ ?_
        · exact r_wk [true, true, false] (hK92_7 i8 s10)
        · refine r_bipush (pc := 58) hC (v := (10 : Int32)) (by decide) dX10_addNumber_58 ?_
          refine r_iload_n (pc := 60) hC rfl dX10_addNumber_60 ?_
          refine r_imul (pc := 61) hC dX10_addNumber_61 ?_
          refine r_aload_n (pc := 62) hC rfl dX10_addNumber_62 ?_
          refine gM_0_6 (pc := 63) hC k_1043 dX10_addNumber_63 ?_
          refine r_aload_n (pc := 66) hC rfl dX10_addNumber_66 ?_
          refine gM_0_8 (pc := 67) hC k_1045 dX10_addNumber_67 ?_
          refine aM_5 (pc := 70) hC dX10_addNumber_70 ?_
          refine r_iadd (pc := 71) hC dX10_addNumber_71 ?_
          refine r_bipush (pc := 72) hC (v := (48 : Int32)) (by decide) dX10_addNumber_72 ?_
          refine r_isub (pc := 74) hC dX10_addNumber_74 ?_
          refine r_let (fun x12 => ?_)
          refine r_istore_n (pc := 75) hC rfl rfl dX10_addNumber_75 ?_
          refine r_aload_n (pc := 76) hC rfl dX10_addNumber_76 ?_
          refine r_dup (pc := 77) hC rfl dX10_addNumber_77 ?_
          refine gM_0_8 (pc := 78) hC k_1045 dX10_addNumber_78 ?_
          refine r_iconst (pc := 81) hC (v := (1 : Int32)) (by decide) dX10_addNumber_81 ?_
          refine r_iadd (pc := 82) hC dX10_addNumber_82 ?_
          refine pM_0_8 (pc := 83) hC k_1045 dX10_addNumber_83 ?_
          refine r_letm (fun s13 => ?_)
          refine r_iinc (pc := 86) hC (v := (1 : Int32)) rfl (by decide) rfl rfl dX10_addNumber_86 ?_
          refine r_goto (pc := 89) (tgt := 20) hC dX10_addNumber_89 (by decide) ?_
          exact ih20_11 x12 (i9 + (1 : Int32)) s13
  · refine r_aload_n (pc := 7) hC rfl dX10_addNumber_7 ?_
    refine r_aload_n (pc := 8) hC rfl dX10_addNumber_8 ?_
    refine gM_0_8 (pc := 9) hC k_1045 dX10_addNumber_9 ?_
    refine r_cM (pc := 12) (rest := []) (fun s14 hf => runV [.int (gI s1 8 0)] hC (c_M_wrong (kl κ) (kW κ) hC.2.2.2.2.2.2.2.2.1 (gI s1 8 0) s1 s14 hf) o_X10_wrong k_1186 (q0 := 0) (ci := 10) rfl rfl (rm_ok hR rfl) rfl (Nat.le_of_ble_eq_true rfl) dX10_addNumber_12) (fun s14 => ?_)
    exact r_retM hC dX10_addNumber_15
set_option maxRecDepth 100000 in
set_option maxHeartbeats 4000000 in
theorem c_M_addNumber (l : Launch) (w : Wenv) (hw : okw w wM) (N : Nat) (σ : Mem) (τ : Mem) (hf : f_M_addNumber N  σ = some τ) : Ctr l w wM yX10_addNumber cX10_addNumber 3 none 2 45 [.ref (w.2.2.1 0)] σ (cQv w wM τ) := mk_ctr (Q := fun κ => qM κ wM) (lv := [some (.ref (w.2.2.1 0)), none, none]) (by decide) rfl hw (Nat.le_of_ble_eq_true rfl) rfl hf (fun κ h => by subst h; rfl) (fun κ hl h hR hC => by
    subst h
    exact w_M_addNumber hR hC N  σ)
-- DuelRoundModel.isLetterNext()Z (0,) kind OM
def f_M_isLetterNext (N : Nat) (σ : Mem) : Option (Int32 × Mem) :=
  if (gI σ 10 0) = (0 : Int32) then
  (some ((0 : Int32), σ))
  else
  (ob2 (f_M_next N σ) fun r2 s1 =>
  if (t_M_in (r2.toInt64) (97 : Int64) (104 : Int64)) = (0 : Int32) then
  (some ((0 : Int32), s1))
  else
  (if (gI s1 7 0) ≤ (gI s1 8 0) then
  (some ((0 : Int32), s1))
  else
  (some ((1 : Int32), s1))))
set_option maxRecDepth 100000 in
set_option maxHeartbeats 4000000 in
theorem w_M_isLetterNext {κ : Ctx} (hR : kR κ = { frames := 1, cells := 0, slots := 0, locals := 25 }) (hC : ok κ wM cX10_isLetterNext 1 RX10 (some .boolean)) (N : Nat) (σ : Mem) : wF κ wM 1 (qOM κ wM) σ 0 [some (.ref (ad κ 0))] [] (f_M_isLetterNext N  σ) := by
  unfold f_M_isLetterNext
  refine r_aload_n (pc := 0) hC rfl dX10_isLetterNext_0 ?_
  refine gM_0_10 (pc := 1) hC k_1047 dX10_isLetterNext_1 ?_
  refine r_if_eq (pc := 4) (tgt := 39) hC dX10_isLetterNext_4 (by decide) ?_ ?_
  · refine r_iconst (pc := 39) hC (v := (0 : Int32)) (by decide) dX10_isLetterNext_39 ?_
    exact r_retOM hC rfl dX10_isLetterNext_40
  · refine r_aload_n (pc := 7) hC rfl dX10_isLetterNext_7 ?_
    refine r_cOM (pc := 8) (rest := []) (fun r2 s1 hf => runV [] hC (c_M_next (kl κ) (kW κ) hC.2.2.2.2.2.2.2.2.1 N σ r2 s1 hf) o_X10_next k_1180 (q0 := 0) (ci := 10) rfl rfl (rm_ok hR rfl) rfl (Nat.le_of_ble_eq_true rfl) dX10_isLetterNext_8) (fun r2 s1 => ?_)
    refine r_i2l (pc := 11) hC dX10_isLetterNext_11 ?_
    refine r_ldc2 (pc := 12) hC (v := (97 : Int64)) k_1184 dX10_isLetterNext_12 ?_
    refine r_ldc2 (pc := 15) hC (v := (104 : Int64)) k_1185 dX10_isLetterNext_15 ?_
    refine r_cT (pc := 18) (rest := []) (runS [.long (r2.toInt64), .long (97 : Int64), .long (104 : Int64)] hC (c_M_in (kl κ) (kW κ) hC.2.2.2.2.2.2.2.2.1 (r2.toInt64) (97 : Int64) (104 : Int64) s1) o_X10_in k_1161 (rm_ok hR rfl) rfl (Nat.le_of_ble_eq_true rfl) dX10_isLetterNext_18) ?_
    refine r_if_eq (pc := 21) (tgt := 39) hC dX10_isLetterNext_21 (by decide) ?_ ?_
    · refine r_iconst (pc := 39) hC (v := (0 : Int32)) (by decide) dX10_isLetterNext_39 ?_
      exact r_retOM hC rfl dX10_isLetterNext_40
    · refine r_aload_n (pc := 24) hC rfl dX10_isLetterNext_24 ?_
      refine gM_0_8 (pc := 25) hC k_1045 dX10_isLetterNext_25 ?_
      refine r_aload_n (pc := 28) hC rfl dX10_isLetterNext_28 ?_
      refine gM_0_7 (pc := 29) hC k_1044 dX10_isLetterNext_29 ?_
      refine r_icmp_ge (pc := 32) (tgt := 39) hC dX10_isLetterNext_32 (by decide) ?_ ?_
      · refine r_iconst (pc := 39) hC (v := (0 : Int32)) (by decide) dX10_isLetterNext_39 ?_
        exact r_retOM hC rfl dX10_isLetterNext_40
      · refine r_iconst (pc := 35) hC (v := (1 : Int32)) (by decide) dX10_isLetterNext_35 ?_
        refine r_goto (pc := 36) (tgt := 40) hC dX10_isLetterNext_36 (by decide) ?_
        exact r_retOM hC rfl dX10_isLetterNext_40
set_option maxRecDepth 100000 in
set_option maxHeartbeats 4000000 in
theorem c_M_isLetterNext (l : Launch) (w : Wenv) (hw : okw w wM) (N : Nat) (σ : Mem) (r : Int32) (τ : Mem) (hf : f_M_isLetterNext N  σ = some (r, τ)) : Ctr l w wM yX10_isLetterNext cX10_isLetterNext 1 (some .boolean) 1 25 [.ref (w.2.2.1 0)] σ (cQi w wM r τ) := mk_ctr (Q := fun κ => qOM κ wM) (lv := [some (.ref (w.2.2.1 0))]) (by decide) rfl hw (Nat.le_of_ble_eq_true rfl) rfl hf (fun κ h => by subst h; rfl) (fun κ hl h hR hC => by
    subst h
    exact w_M_isLetterNext hR hC N  σ)
-- DuelRoundModel.letter()I (0,) kind OM
def f_M_letter (N : Nat) (σ : Mem) : Option (Int32 × Mem) :=
  ob2 (f_M_isLetterNext N σ) fun r2 s1 =>
  if r2 = (0 : Int32) then
  (ob (f_M_wrong (gI s1 8 0) s1) fun s4 =>
  some ((0 : Int32), s4))
  else
  (bnd (sI s1 8 0 ((gI s1 8 0) + (1 : Int32))) fun s3 =>
  gd (inb ((gI s3 8 0) - (1 : Int32)) 300) (some (((gI s3 6 ((gI s3 8 0) - (1 : Int32)).toNatClampNeg) - (97 : Int32)), s3)))
set_option maxRecDepth 100000 in
set_option maxHeartbeats 4000000 in
theorem w_M_letter {κ : Ctx} (hR : kR κ = { frames := 2, cells := 0, slots := 0, locals := 45 }) (hC : ok κ wM cX10_letter 1 RX10 (some .int)) (N : Nat) (σ : Mem) : wF κ wM 1 (qOM κ wM) σ 0 [some (.ref (ad κ 0))] [] (f_M_letter N  σ) := by
  unfold f_M_letter
  refine r_aload_n (pc := 0) hC rfl dX10_letter_0 ?_
  refine r_cOM (pc := 1) (rest := []) (fun r2 s1 hf => runV [] hC (c_M_isLetterNext (kl κ) (kW κ) hC.2.2.2.2.2.2.2.2.1 N σ r2 s1 hf) o_X10_isLetterNext k_1176 (q0 := 0) (ci := 10) rfl rfl (rm_ok hR rfl) rfl (Nat.le_of_ble_eq_true rfl) dX10_letter_1) (fun r2 s1 => ?_)
  refine r_if_ne (pc := 4) (tgt := 17) hC dX10_letter_4 (by decide) ?_ ?_
  · refine r_aload_n (pc := 17) hC rfl dX10_letter_17 ?_
    refine r_dup (pc := 18) hC rfl dX10_letter_18 ?_
    refine gM_0_8 (pc := 19) hC k_1045 dX10_letter_19 ?_
    refine r_iconst (pc := 22) hC (v := (1 : Int32)) (by decide) dX10_letter_22 ?_
    refine r_iadd (pc := 23) hC dX10_letter_23 ?_
    refine pM_0_8 (pc := 24) hC k_1045 dX10_letter_24 ?_
    refine r_letm (fun s3 => ?_)
    refine r_aload_n (pc := 27) hC rfl dX10_letter_27 ?_
    refine gM_0_6 (pc := 28) hC k_1043 dX10_letter_28 ?_
    refine r_aload_n (pc := 31) hC rfl dX10_letter_31 ?_
    refine gM_0_8 (pc := 32) hC k_1045 dX10_letter_32 ?_
    refine r_iconst (pc := 35) hC (v := (1 : Int32)) (by decide) dX10_letter_35 ?_
    refine r_isub (pc := 36) hC dX10_letter_36 ?_
    refine aM_5 (pc := 37) hC dX10_letter_37 ?_
    refine r_bipush (pc := 38) hC (v := (97 : Int32)) (by decide) dX10_letter_38 ?_
    refine r_isub (pc := 40) hC dX10_letter_40 ?_
    exact r_retOM hC rfl dX10_letter_41
  · refine r_aload_n (pc := 7) hC rfl dX10_letter_7 ?_
    refine r_aload_n (pc := 8) hC rfl dX10_letter_8 ?_
    refine gM_0_8 (pc := 9) hC k_1045 dX10_letter_9 ?_
    refine r_cM (pc := 12) (rest := []) (fun s4 hf => runV [.int (gI s1 8 0)] hC (c_M_wrong (kl κ) (kW κ) hC.2.2.2.2.2.2.2.2.1 (gI s1 8 0) s1 s4 hf) o_X10_wrong k_1186 (q0 := 0) (ci := 10) rfl rfl (rm_ok hR rfl) rfl (Nat.le_of_ble_eq_true rfl) dX10_letter_12) (fun s4 => ?_)
    refine r_iconst (pc := 15) hC (v := (0 : Int32)) (by decide) dX10_letter_15 ?_
    exact r_retOM hC rfl dX10_letter_16
set_option maxRecDepth 100000 in
set_option maxHeartbeats 4000000 in
theorem c_M_letter (l : Launch) (w : Wenv) (hw : okw w wM) (N : Nat) (σ : Mem) (r : Int32) (τ : Mem) (hf : f_M_letter N  σ = some (r, τ)) : Ctr l w wM yX10_letter cX10_letter 1 (some .int) 2 45 [.ref (w.2.2.1 0)] σ (cQi w wM r τ) := mk_ctr (Q := fun κ => qOM κ wM) (lv := [some (.ref (w.2.2.1 0))]) (by decide) rfl hw (Nat.le_of_ble_eq_true rfl) rfl hf (fun κ h => by subst h; rfl) (fun κ hl h hR hC => by
    subst h
    exact w_M_letter hR hC N  σ)
-- DuelRoundModel.addLetter()V (0,) kind M
def f_M_addLetter (N : Nat) (σ : Mem) : Option Mem :=
  ob2 (f_M_letter N σ) fun r2 s1 =>
  if (gI s1 10 0) = (0 : Int32) then
  (some s1)
  else
  (gd (inb (gI s1 31 0) 300) (bnd (sI s1 28 (gI s1 31 0).toNatClampNeg r2) fun s3 =>
  bnd (sI s3 31 0 ((gI s3 31 0) + (1 : Int32))) fun s4 =>
  some s4))
set_option maxRecDepth 100000 in
set_option maxHeartbeats 4000000 in
theorem w_M_addLetter {κ : Ctx} (hR : kR κ = { frames := 3, cells := 0, slots := 0, locals := 65 }) (hC : ok κ wM cX10_addLetter 2 RX10 none) (N : Nat) (σ : Mem) : wF κ wM 2 (qM κ wM) σ 0 [some (.ref (ad κ 0)), none] [] (f_M_addLetter N  σ) := by
  unfold f_M_addLetter
  refine r_aload_n (pc := 0) hC rfl dX10_addLetter_0 ?_
  refine r_cOM (pc := 1) (rest := []) (fun r2 s1 hf => runV [] hC (c_M_letter (kl κ) (kW κ) hC.2.2.2.2.2.2.2.2.1 N σ r2 s1 hf) o_X10_letter k_1172 (q0 := 0) (ci := 10) rfl rfl (rm_ok hR rfl) rfl (Nat.le_of_ble_eq_true rfl) dX10_addLetter_1) (fun r2 s1 => ?_)
  refine r_istore_n (pc := 4) hC rfl rfl dX10_addLetter_4 ?_
  refine r_aload_n (pc := 5) hC rfl dX10_addLetter_5 ?_
  refine gM_0_10 (pc := 6) hC k_1047 dX10_addLetter_6 ?_
  refine r_if_eq (pc := 9) (tgt := 32) hC dX10_addLetter_9 (by decide) ?_ ?_
  · exact r_retM hC dX10_addLetter_32
  · refine r_aload_n (pc := 12) hC rfl dX10_addLetter_12 ?_
    refine gM_0_28 (pc := 13) hC k_1065 dX10_addLetter_13 ?_
    refine r_aload_n (pc := 16) hC rfl dX10_addLetter_16 ?_
    refine gM_0_31 (pc := 17) hC k_1068 dX10_addLetter_17 ?_
    refine r_iload_n (pc := 20) hC rfl dX10_addLetter_20 ?_
    refine bM_22 (pc := 21) hC dX10_addLetter_21 ?_
    refine r_letm (fun s3 => ?_)
    refine r_aload_n (pc := 22) hC rfl dX10_addLetter_22 ?_
    refine r_dup (pc := 23) hC rfl dX10_addLetter_23 ?_
    refine gM_0_31 (pc := 24) hC k_1068 dX10_addLetter_24 ?_
    refine r_iconst (pc := 27) hC (v := (1 : Int32)) (by decide) dX10_addLetter_27 ?_
    refine r_iadd (pc := 28) hC dX10_addLetter_28 ?_
    refine pM_0_31 (pc := 29) hC k_1068 dX10_addLetter_29 ?_
    refine r_letm (fun s4 => ?_)
    exact r_retM hC dX10_addLetter_32
set_option maxRecDepth 100000 in
set_option maxHeartbeats 4000000 in
theorem c_M_addLetter (l : Launch) (w : Wenv) (hw : okw w wM) (N : Nat) (σ : Mem) (τ : Mem) (hf : f_M_addLetter N  σ = some τ) : Ctr l w wM yX10_addLetter cX10_addLetter 2 none 3 65 [.ref (w.2.2.1 0)] σ (cQv w wM τ) := mk_ctr (Q := fun κ => qM κ wM) (lv := [some (.ref (w.2.2.1 0)), none]) (by decide) rfl hw (Nat.le_of_ble_eq_true rfl) rfl hf (fun κ h => by subst h; rfl) (fun κ hl h hR hC => by
    subst h
    exact w_M_addLetter hR hC N  σ)
-- DuelRoundModel.readLine()V (0,) kind M
def M_readLine_J73 (s1 : Mem) : Option Mem :=
  ob (f_M_wrong (gI s1 8 0) s1) fun s3 =>
  some s3
def M_readLine_J182 (N : Nat) (r2 : Int32) (self16 : Int32 → Mem → Option Mem) (s18 : Mem) : Option Mem :=
  if r2 = (117 : Int32) then
  (self16 (0 : Int32) s18)
  else
  (ob2 (f_M_isLetterNext N s18) fun r20 s19 =>
  if r20 = (0 : Int32) then
  (self16 (0 : Int32) s19)
  else
  (self16 (1 : Int32) s19))
def M_readLine_B164 (N : Nat) (r2 : Int32) (self16 : Int32 → Mem → Option Mem) (i14 : Int32) (s15 : Mem) : Option Mem :=
  if i14 = (0 : Int32) then
  (some s15)
  else
  (ob (f_M_addLetter N s15) fun s17 =>
  if r2 = (119 : Int32) then
  (ob (f_M_addNumber N s17) fun s21 =>
  M_readLine_J182 N r2 self16 s21)
  else
  (M_readLine_J182 N r2 self16 s17))
def M_readLine_J159 (N : Nat) (r2 : Int32) (s11 : Mem) : Option Mem :=
  ob2 (f_M_isLetterNext N s11) fun r13 s12 =>
  it2 (M_readLine_B164 N r2) N r13 s12
def M_readLine_J149 (N : Nat) (r2 : Int32) (s10 : Mem) : Option Mem :=
  if r2 = (119 : Int32) then
  (ob (f_M_addNumber N s10) fun s22 =>
  M_readLine_J159 N r2 s22)
  else
  (M_readLine_J159 N r2 s10)
def M_readLine_J135 (N : Nat) (r2 : Int32) (s8 : Mem) : Option Mem :=
  ob (f_M_addLetter N s8) fun s9 =>
  if r2 = (117 : Int32) then
  (ob (f_M_addLetter N s9) fun s23 =>
  M_readLine_J149 N r2 s23)
  else
  (M_readLine_J149 N r2 s9)
def M_readLine_J82 (N : Nat) (s1 : Mem) (r2 : Int32) : Option Mem :=
  bnd (sI s1 8 0 ((gI s1 8 0) + (1 : Int32))) fun s4 =>
  gd (inb (gI s4 32 0) 152) (bnd (sI s4 29 (gI s4 32 0).toNatClampNeg (gI s4 31 0)) fun s5 =>
  gd (inb (gI s5 32 0) 152) (bnd (sI s5 30 (gI s5 32 0).toNatClampNeg r2) fun s6 =>
  bnd (sI s6 32 0 ((gI s6 32 0) + (1 : Int32))) fun s7 =>
  if r2 = (115 : Int32) then
  (ob (f_M_addNumber N s7) fun s24 =>
  M_readLine_J135 N r2 s24)
  else
  (M_readLine_J135 N r2 s7)))
def f_M_readLine (N : Nat) (σ : Mem) : Option Mem :=
  ob2 (f_M_next N σ) fun r2 s1 =>
  if (gI s1 10 0) = (0 : Int32) then
  (M_readLine_J73 s1)
  else
  (if (gI s1 7 0) ≤ (gI s1 8 0) then
  (M_readLine_J73 s1)
  else
  (if (t_M_in (r2.toInt64) (99 : Int64) (119 : Int64)) = (0 : Int32) then
  (M_readLine_J73 s1)
  else
  (if r2 = (117 : Int32) then
  (M_readLine_J82 N s1 r2)
  else
  (if r2 = (107 : Int32) then
  (M_readLine_J82 N s1 r2)
  else
  (if r2 = (115 : Int32) then
  (M_readLine_J82 N s1 r2)
  else
  (if r2 = (119 : Int32) then
  (M_readLine_J82 N s1 r2)
  else
  (if r2 = (99 : Int32) then
  (M_readLine_J82 N s1 r2)
  else
  (if r2 = (114 : Int32) then
  (M_readLine_J82 N s1 r2)
  else
  (M_readLine_J73 s1)))))))))
set_option maxRecDepth 100000 in
set_option maxHeartbeats 4000000 in
theorem w_M_readLine {κ : Ctx} (hR : kR κ = { frames := 4, cells := 0, slots := 0, locals := 86 }) (hC : ok κ wM cX10_readLine 3 RX10 none) (N : Nat) (σ : Mem) : wF κ wM 3 (qM κ wM) σ 0 [some (.ref (ad κ 0)), none, none] [] (f_M_readLine N  σ) := by
  unfold f_M_readLine
  refine r_aload_n (pc := 0) hC rfl dX10_readLine_0 ?_
  refine r_cOM (pc := 1) (rest := []) (fun r2 s1 hf => runV [] hC (c_M_next (kl κ) (kW κ) hC.2.2.2.2.2.2.2.2.1 N σ r2 s1 hf) o_X10_next k_1180 (q0 := 0) (ci := 10) rfl rfl (rm_ok hR rfl) rfl (Nat.le_of_ble_eq_true rfl) dX10_readLine_1) (fun r2 s1 => ?_)
  refine r_istore_n (pc := 4) hC rfl rfl dX10_readLine_4 ?_
  refine r_aload_n (pc := 5) hC rfl dX10_readLine_5 ?_
  refine gM_0_10 (pc := 6) hC k_1047 dX10_readLine_6 ?_
  have hJ73_3 : wF κ wM 3 (qM κ wM) s1 73 [some (.ref (ad κ 0)), none, none] [] (M_readLine_J73 s1) := by
    unfold M_readLine_J73
    refine r_aload_n (pc := 73) hC rfl dX10_readLine_73 ?_
    refine r_aload_n (pc := 74) hC rfl dX10_readLine_74 ?_
    refine gM_0_8 (pc := 75) hC k_1045 dX10_readLine_75 ?_
    refine r_cM (pc := 78) (rest := []) (fun s3 hf => runV [.int (gI s1 8 0)] hC (c_M_wrong (kl κ) (kW κ) hC.2.2.2.2.2.2.2.2.1 (gI s1 8 0) s1 s3 hf) o_X10_wrong k_1186 (q0 := 0) (ci := 10) rfl rfl (rm_ok hR rfl) rfl (Nat.le_of_ble_eq_true rfl) dX10_readLine_78) (fun s3 => ?_)
    exact r_retM hC dX10_readLine_81
  refine r_if_eq (pc := 9) (tgt := 73) hC dX10_readLine_9 (by decide) ?_ ?_
  · exact r_wk [true, false, false] (hJ73_3)
  · refine r_aload_n (pc := 12) hC rfl dX10_readLine_12 ?_
    refine gM_0_8 (pc := 13) hC k_1045 dX10_readLine_13 ?_
    refine r_aload_n (pc := 16) hC rfl dX10_readLine_16 ?_
    refine gM_0_7 (pc := 17) hC k_1044 dX10_readLine_17 ?_
    refine r_icmp_ge (pc := 20) (tgt := 73) hC dX10_readLine_20 (by decide) ?_ ?_
    · exact r_wk [true, false, false] (hJ73_3)
    · refine r_iload_n (pc := 23) hC rfl dX10_readLine_23 ?_
      refine r_i2l (pc := 24) hC dX10_readLine_24 ?_
      refine r_ldc2 (pc := 25) hC (v := (99 : Int64)) k_1474 dX10_readLine_25 ?_
      refine r_ldc2 (pc := 28) hC (v := (119 : Int64)) k_1475 dX10_readLine_28 ?_
      refine r_cT (pc := 31) (rest := []) (runS [.long (r2.toInt64), .long (99 : Int64), .long (119 : Int64)] hC (c_M_in (kl κ) (kW κ) hC.2.2.2.2.2.2.2.2.1 (r2.toInt64) (99 : Int64) (119 : Int64) s1) o_X10_in k_1161 (rm_ok hR rfl) rfl (Nat.le_of_ble_eq_true rfl) dX10_readLine_31) ?_
      refine r_if_eq (pc := 34) (tgt := 73) hC dX10_readLine_34 (by decide) ?_ ?_
      · exact r_wk [true, false, false] (hJ73_3)
      · refine r_iload_n (pc := 37) hC rfl dX10_readLine_37 ?_
        refine r_bipush (pc := 38) hC (v := (117 : Int32)) (by decide) dX10_readLine_38 ?_
        have hJ82_24 : wF κ wM 3 (qM κ wM) s1 82 [some (.ref (ad κ 0)), some (.int r2), none] [] (M_readLine_J82 N s1 r2) := by
          unfold M_readLine_J82
          refine r_aload_n (pc := 82) hC rfl dX10_readLine_82 ?_
          refine r_dup (pc := 83) hC rfl dX10_readLine_83 ?_
          refine gM_0_8 (pc := 84) hC k_1045 dX10_readLine_84 ?_
          refine r_iconst (pc := 87) hC (v := (1 : Int32)) (by decide) dX10_readLine_87 ?_
          refine r_iadd (pc := 88) hC dX10_readLine_88 ?_
          refine pM_0_8 (pc := 89) hC k_1045 dX10_readLine_89 ?_
          refine r_letm (fun s4 => ?_)
          refine r_aload_n (pc := 92) hC rfl dX10_readLine_92 ?_
          refine gM_0_29 (pc := 93) hC k_1066 dX10_readLine_93 ?_
          refine r_aload_n (pc := 96) hC rfl dX10_readLine_96 ?_
          refine gM_0_32 (pc := 97) hC k_1069 dX10_readLine_97 ?_
          refine r_aload_n (pc := 100) hC rfl dX10_readLine_100 ?_
          refine gM_0_31 (pc := 101) hC k_1068 dX10_readLine_101 ?_
          refine bM_23 (pc := 104) hC dX10_readLine_104 ?_
          refine r_letm (fun s5 => ?_)
          refine r_aload_n (pc := 105) hC rfl dX10_readLine_105 ?_
          refine gM_0_30 (pc := 106) hC k_1067 dX10_readLine_106 ?_
          refine r_aload_n (pc := 109) hC rfl dX10_readLine_109 ?_
          refine gM_0_32 (pc := 110) hC k_1069 dX10_readLine_110 ?_
          refine r_iload_n (pc := 113) hC rfl dX10_readLine_113 ?_
          refine bM_24 (pc := 114) hC dX10_readLine_114 ?_
          refine r_letm (fun s6 => ?_)
          refine r_aload_n (pc := 115) hC rfl dX10_readLine_115 ?_
          refine r_dup (pc := 116) hC rfl dX10_readLine_116 ?_
          refine gM_0_32 (pc := 117) hC k_1069 dX10_readLine_117 ?_
          refine r_iconst (pc := 120) hC (v := (1 : Int32)) (by decide) dX10_readLine_120 ?_
          refine r_iadd (pc := 121) hC dX10_readLine_121 ?_
          refine pM_0_32 (pc := 122) hC k_1069 dX10_readLine_122 ?_
          refine r_letm (fun s7 => ?_)
          refine r_iload_n (pc := 125) hC rfl dX10_readLine_125 ?_
          refine r_bipush (pc := 126) hC (v := (115 : Int32)) (by decide) dX10_readLine_126 ?_
          have hJ135_23 : ∀ (s8 : Mem), wF κ wM 3 (qM κ wM) s8 135 [some (.ref (ad κ 0)), some (.int r2), none] [] (M_readLine_J135 N r2 s8) := by
            intro s8
            unfold M_readLine_J135
            refine r_aload_n (pc := 135) hC rfl dX10_readLine_135 ?_
            refine r_cM (pc := 136) (rest := []) (fun s9 hf => runV [] hC (c_M_addLetter (kl κ) (kW κ) hC.2.2.2.2.2.2.2.2.1 N s8 s9 hf) o_X10_addLetter k_1486 (q0 := 0) (ci := 10) rfl rfl (rm_ok hR rfl) rfl (Nat.le_of_ble_eq_true rfl) dX10_readLine_136) (fun s9 => ?_)
            refine r_iload_n (pc := 139) hC rfl dX10_readLine_139 ?_
            refine r_bipush (pc := 140) hC (v := (117 : Int32)) (by decide) dX10_readLine_140 ?_
            have hJ149_22 : ∀ (s10 : Mem), wF κ wM 3 (qM κ wM) s10 149 [some (.ref (ad κ 0)), some (.int r2), none] [] (M_readLine_J149 N r2 s10) := by
              intro s10
              unfold M_readLine_J149
              refine r_iload_n (pc := 149) hC rfl dX10_readLine_149 ?_
              refine r_bipush (pc := 150) hC (v := (119 : Int32)) (by decide) dX10_readLine_150 ?_
              have hJ159_21 : ∀ (s11 : Mem), wF κ wM 3 (qM κ wM) s11 159 [some (.ref (ad κ 0)), some (.int r2), none] [] (M_readLine_J159 N r2 s11) := by
                intro s11
                unfold M_readLine_J159
                refine r_aload_n (pc := 159) hC rfl dX10_readLine_159 ?_
                refine r_cOM (pc := 160) (rest := []) (fun r13 s12 hf => runV [] hC (c_M_isLetterNext (kl κ) (kW κ) hC.2.2.2.2.2.2.2.2.1 N s11 r13 s12 hf) o_X10_isLetterNext k_1176 (q0 := 0) (ci := 10) rfl rfl (rm_ok hR rfl) rfl (Nat.le_of_ble_eq_true rfl) dX10_readLine_160) (fun r13 s12 => ?_)
                refine r_istore_n (pc := 163) hC rfl rfl dX10_readLine_163 ?_
                refine w_it2 (fun i14 s15 => s15) (fun i14 s15 => [some (.ref (ad κ 0)), some (.int r2), some (.int i14)]) (fun self16 ih164_16 i14 s15 => ?_) N r13 s12
                unfold M_readLine_B164
                refine r_iload_n (pc := 164) hC rfl dX10_readLine_164 ?_
                refine r_if_eq (pc := 165) (tgt := 204) hC dX10_readLine_165 (by decide) ?_ ?_
                · exact r_retM hC dX10_readLine_204
                · refine r_aload_n (pc := 168) hC rfl dX10_readLine_168 ?_
                  refine r_cM (pc := 169) (rest := []) (fun s17 hf => runV [] hC (c_M_addLetter (kl κ) (kW κ) hC.2.2.2.2.2.2.2.2.1 N s15 s17 hf) o_X10_addLetter k_1486 (q0 := 0) (ci := 10) rfl rfl (rm_ok hR rfl) rfl (Nat.le_of_ble_eq_true rfl) dX10_readLine_169) (fun s17 => ?_)
                  refine r_iload_n (pc := 172) hC rfl dX10_readLine_172 ?_
                  refine r_bipush (pc := 173) hC (v := (119 : Int32)) (by decide) dX10_readLine_173 ?_
                  have hJ182_20 : ∀ (s18 : Mem), wF κ wM 3 (qM κ wM) s18 182 [some (.ref (ad κ 0)), some (.int r2), none] [] (M_readLine_J182 N r2 self16 s18) := by
                    intro s18
                    unfold M_readLine_J182
                    refine r_iload_n (pc := 182) hC rfl dX10_readLine_182 ?_
                    refine r_bipush (pc := 183) hC (v := (117 : Int32)) (by decide) dX10_readLine_183 ?_
                    refine r_icmp_eq (pc := 185) (tgt := 199) hC dX10_readLine_185 (by decide) ?_ ?_
                    · refine r_iconst (pc := 199) hC (v := (0 : Int32)) (by decide) dX10_readLine_199 ?_
                      refine r_istore_n (pc := 200) hC rfl rfl dX10_readLine_200 ?_
                      refine r_goto (pc := 201) (tgt := 164) hC dX10_readLine_201 (by decide) ?_
                      exact ih164_16 (0 : Int32) s18
                    · refine r_aload_n (pc := 188) hC rfl dX10_readLine_188 ?_
                      refine r_cOM (pc := 189) (rest := []) (fun r20 s19 hf => runV [] hC (c_M_isLetterNext (kl κ) (kW κ) hC.2.2.2.2.2.2.2.2.1 N s18 r20 s19 hf) o_X10_isLetterNext k_1176 (q0 := 0) (ci := 10) rfl rfl (rm_ok hR rfl) rfl (Nat.le_of_ble_eq_true rfl) dX10_readLine_189) (fun r20 s19 => ?_)
                      refine r_if_eq (pc := 192) (tgt := 199) hC dX10_readLine_192 (by decide) ?_ ?_
                      · refine r_iconst (pc := 199) hC (v := (0 : Int32)) (by decide) dX10_readLine_199 ?_
                        refine r_istore_n (pc := 200) hC rfl rfl dX10_readLine_200 ?_
                        refine r_goto (pc := 201) (tgt := 164) hC dX10_readLine_201 (by decide) ?_
                        exact ih164_16 (0 : Int32) s19
                      · refine r_iconst (pc := 195) hC (v := (1 : Int32)) (by decide) dX10_readLine_195 ?_
                        refine r_goto (pc := 196) (tgt := 200) hC dX10_readLine_196 (by decide) ?_
                        refine r_istore_n (pc := 200) hC rfl rfl dX10_readLine_200 ?_
                        refine r_goto (pc := 201) (tgt := 164) hC dX10_readLine_201 (by decide) ?_
                        exact ih164_16 (1 : Int32) s19
                  refine r_icmp_ne (pc := 175) (tgt := 182) hC dX10_readLine_175 (by decide) ?_ ?_
                  · exact r_wk [true, true, false] (hJ182_20 s17)
                  · refine r_aload_n (pc := 178) hC rfl dX10_readLine_178 ?_
                    refine r_cM (pc := 179) (rest := []) (fun s21 hf => runV [] hC (c_M_addNumber (kl κ) (kW κ) hC.2.2.2.2.2.2.2.2.1 N s17 s21 hf) o_X10_addNumber k_1476 (q0 := 0) (ci := 10) rfl rfl (rm_ok hR rfl) rfl (Nat.le_of_ble_eq_true rfl) dX10_readLine_179) (fun s21 => ?_)
                    exact r_wk [true, true, false] (hJ182_20 s21)
              refine r_icmp_ne (pc := 152) (tgt := 159) hC dX10_readLine_152 (by decide) ?_ ?_
              · exact hJ159_21 s10
              · refine r_aload_n (pc := 155) hC rfl dX10_readLine_155 ?_
                refine r_cM (pc := 156) (rest := []) (fun s22 hf => runV [] hC (c_M_addNumber (kl κ) (kW κ) hC.2.2.2.2.2.2.2.2.1 N s10 s22 hf) o_X10_addNumber k_1476 (q0 := 0) (ci := 10) rfl rfl (rm_ok hR rfl) rfl (Nat.le_of_ble_eq_true rfl) dX10_readLine_156) (fun s22 => ?_)
                exact hJ159_21 s22
            refine r_icmp_ne (pc := 142) (tgt := 149) hC dX10_readLine_142 (by decide) ?_ ?_
            · exact hJ149_22 s9
            · refine r_aload_n (pc := 145) hC rfl dX10_readLine_145 ?_
              refine r_cM (pc := 146) (rest := []) (fun s23 hf => runV [] hC (c_M_addLetter (kl κ) (kW κ) hC.2.2.2.2.2.2.2.2.1 N s9 s23 hf) o_X10_addLetter k_1486 (q0 := 0) (ci := 10) rfl rfl (rm_ok hR rfl) rfl (Nat.le_of_ble_eq_true rfl) dX10_readLine_146) (fun s23 => ?_)
              exact hJ149_22 s23
          refine r_icmp_ne (pc := 128) (tgt := 135) hC dX10_readLine_128 (by decide) ?_ ?_
          · exact hJ135_23 s7
          · refine r_aload_n (pc := 131) hC rfl dX10_readLine_131 ?_
            refine r_cM (pc := 132) (rest := []) (fun s24 hf => runV [] hC (c_M_addNumber (kl κ) (kW κ) hC.2.2.2.2.2.2.2.2.1 N s7 s24 hf) o_X10_addNumber k_1476 (q0 := 0) (ci := 10) rfl rfl (rm_ok hR rfl) rfl (Nat.le_of_ble_eq_true rfl) dX10_readLine_132) (fun s24 => ?_)
            exact hJ135_23 s24
        refine r_icmp_eq (pc := 40) (tgt := 82) hC dX10_readLine_40 (by decide) ?_ ?_
        · exact hJ82_24
        · refine r_iload_n (pc := 43) hC rfl dX10_readLine_43 ?_
          refine r_bipush (pc := 44) hC (v := (107 : Int32)) (by decide) dX10_readLine_44 ?_
          refine r_icmp_eq (pc := 46) (tgt := 82) hC dX10_readLine_46 (by decide) ?_ ?_
          · exact hJ82_24
          · refine r_iload_n (pc := 49) hC rfl dX10_readLine_49 ?_
            refine r_bipush (pc := 50) hC (v := (115 : Int32)) (by decide) dX10_readLine_50 ?_
            refine r_icmp_eq (pc := 52) (tgt := 82) hC dX10_readLine_52 (by decide) ?_ ?_
            · exact hJ82_24
            · refine r_iload_n (pc := 55) hC rfl dX10_readLine_55 ?_
              refine r_bipush (pc := 56) hC (v := (119 : Int32)) (by decide) dX10_readLine_56 ?_
              refine r_icmp_eq (pc := 58) (tgt := 82) hC dX10_readLine_58 (by decide) ?_ ?_
              · exact hJ82_24
              · refine r_iload_n (pc := 61) hC rfl dX10_readLine_61 ?_
                refine r_bipush (pc := 62) hC (v := (99 : Int32)) (by decide) dX10_readLine_62 ?_
                refine r_icmp_eq (pc := 64) (tgt := 82) hC dX10_readLine_64 (by decide) ?_ ?_
                · exact hJ82_24
                · refine r_iload_n (pc := 67) hC rfl dX10_readLine_67 ?_
                  refine r_bipush (pc := 68) hC (v := (114 : Int32)) (by decide) dX10_readLine_68 ?_
                  refine r_icmp_eq (pc := 70) (tgt := 82) hC dX10_readLine_70 (by decide) ?_ ?_
                  · exact hJ82_24
                  · exact r_wk [true, false, false] (hJ73_3)
set_option maxRecDepth 100000 in
set_option maxHeartbeats 4000000 in
theorem c_M_readLine (l : Launch) (w : Wenv) (hw : okw w wM) (N : Nat) (σ : Mem) (τ : Mem) (hf : f_M_readLine N  σ = some τ) : Ctr l w wM yX10_readLine cX10_readLine 3 none 4 86 [.ref (w.2.2.1 0)] σ (cQv w wM τ) := mk_ctr (Q := fun κ => qM κ wM) (lv := [some (.ref (w.2.2.1 0)), none, none]) (by decide) rfl hw (Nat.le_of_ble_eq_true rfl) rfl hf (fun κ h => by subst h; rfl) (fun κ hl h hR hC => by
    subst h
    exact w_M_readLine hR hC N  σ)
