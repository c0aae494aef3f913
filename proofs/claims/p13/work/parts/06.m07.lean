-- DuelRoundModel.undo()I (0,) kind OM
def M_undo_B37 (self5 : Int32 → Mem → Option (Int32 × Mem)) (i3 : Int32) (s4 : Mem) : Option (Int32 × Mem) :=
  if (9 : Int32) ≤ i3 then
  (some ((gI s4 3 0), s4))
  else
  (gd (inb (((9 : Int32) * (gI s4 3 0)) + i3) 90) (gd (inb i3 9) (bnd (sI s4 1 i3.toNatClampNeg (gI s4 2 (((9 : Int32) * (gI s4 3 0)) + i3).toNatClampNeg)) fun s6 =>
  self5 (i3 + (1 : Int32)) s6)))
def f_M_undo (N : Nat) (σ : Mem) : Option (Int32 × Mem) :=
  bnd (sI σ 0 0 (0 : Int32)) fun s1 =>
  if (t_M_isRound s1) = (0 : Int32) then
  (some ((-2 : Int32), s1))
  else
  (if (gI s1 3 0) = (0 : Int32) then
  (some ((-3 : Int32), s1))
  else
  (bnd (sI s1 3 0 ((gI s1 3 0) - (1 : Int32))) fun s2 =>
  it2 (M_undo_B37) N (0 : Int32) s2))
set_option maxRecDepth 100000 in
set_option maxHeartbeats 4000000 in
theorem w_M_undo {κ : Ctx} (hR : kR κ = { frames := 1, cells := 0, slots := 0, locals := 20 }) (hC : ok κ wM cX10_undo 2 RX10 (some .int)) (N : Nat) (σ : Mem) : wF κ wM 2 (qOM κ wM) σ 0 [some (.ref (ad κ 0)), none] [] (f_M_undo N  σ) := by
  unfold f_M_undo
  refine r_aload_n (pc := 0) hC rfl dX10_undo_0 ?_
  refine r_iconst (pc := 1) hC (v := (0 : Int32)) (by decide) dX10_undo_1 ?_
  refine pM_0_0 (pc := 2) hC k_1037 dX10_undo_2 ?_
  refine r_letm (fun s1 => ?_)
  refine r_aload_n (pc := 5) hC rfl dX10_undo_5 ?_
  refine r_cT (pc := 6) (rest := []) (runV [] hC (c_M_isRound (kl κ) (kW κ) hC.2.2.2.2.2.2.2.2.1 s1) o_X10_isRound k_1254 (q0 := 0) (ci := 10) rfl rfl (rm_ok hR rfl) rfl (Nat.le_of_ble_eq_true rfl) dX10_undo_6) ?_
  refine r_if_ne (pc := 9) (tgt := 15) hC dX10_undo_9 (by decide) ?_ ?_
  · refine r_aload_n (pc := 15) hC rfl dX10_undo_15 ?_
    refine gM_0_3 (pc := 16) hC k_1040 dX10_undo_16 ?_
    refine r_if_ne (pc := 19) (tgt := 25) hC dX10_undo_19 (by decide) ?_ ?_
    · refine r_aload_n (pc := 25) hC rfl dX10_undo_25 ?_
      refine r_dup (pc := 26) hC rfl dX10_undo_26 ?_
      refine gM_0_3 (pc := 27) hC k_1040 dX10_undo_27 ?_
      refine r_iconst (pc := 30) hC (v := (1 : Int32)) (by decide) dX10_undo_30 ?_
      refine r_isub (pc := 31) hC dX10_undo_31 ?_
      refine pM_0_3 (pc := 32) hC k_1040 dX10_undo_32 ?_
      refine r_letm (fun s2 => ?_)
      refine r_iconst (pc := 35) hC (v := (0 : Int32)) (by decide) dX10_undo_35 ?_
      refine r_istore_n (pc := 36) hC rfl rfl dX10_undo_36 ?_
      refine w_it2 (fun i3 s4 => s4) (fun i3 s4 => [some (.ref (ad κ 0)), some (.int i3)]) (fun self5 ih37_5 i3 s4 => ?_) N (0 : Int32) s2
      unfold M_undo_B37
      refine r_iload_n (pc := 37) hC rfl dX10_undo_37 ?_
      refine r_bipush (pc := 38) hC (v := (9 : Int32)) (by decide) dX10_undo_38 ?_
      refine r_icmp_ge (pc := 40) (tgt := 69) hC dX10_undo_40 (by decide) ?_ ?_
      · refine r_aload_n (pc := 69) hC rfl dX10_undo_69 ?_
        refine gM_0_3 (pc := 70) hC k_1040 dX10_undo_70 ?_
        exact r_retOM hC rfl dX10_undo_73
      · refine r_aload_n (pc := 43) hC rfl dX10_undo_43 ?_
        refine gM_0_1 (pc := 44) hC k_1038 dX10_undo_44 ?_
        refine r_iload_n (pc := 47) hC rfl dX10_undo_47 ?_
        refine r_aload_n (pc := 48) hC rfl dX10_undo_48 ?_
        refine gM_0_2 (pc := 49) hC k_1039 dX10_undo_49 ?_
        refine r_bipush (pc := 52) hC (v := (9 : Int32)) (by decide) dX10_undo_52 ?_
        refine r_aload_n (pc := 54) hC rfl dX10_undo_54 ?_
        refine gM_0_3 (pc := 55) hC k_1040 dX10_undo_55 ?_
        refine r_imul (pc := 58) hC dX10_undo_58 ?_
        refine r_iload_n (pc := 59) hC rfl dX10_undo_59 ?_
        refine r_iadd (pc := 60) hC dX10_undo_60 ?_
        refine aM_2 (pc := 61) hC dX10_undo_61 ?_
        refine bM_1 (pc := 62) hC dX10_undo_62 ?_
        refine r_letm (fun s6 => ?_)
        refine r_iinc (pc := 63) hC (v := (1 : Int32)) rfl (by decide) rfl rfl dX10_undo_63 ?_
        refine r_goto (pc := 66) (tgt := 37) hC dX10_undo_66 (by decide) ?_
        exact ih37_5 (i3 + (1 : Int32)) s6
    · refine r_bipush (pc := 22) hC (v := (-3 : Int32)) (by decide) dX10_undo_22 ?_
      exact r_retOM hC rfl dX10_undo_24
  · refine r_bipush (pc := 12) hC (v := (-2 : Int32)) (by decide) dX10_undo_12 ?_
    exact r_retOM hC rfl dX10_undo_14
set_option maxRecDepth 100000 in
set_option maxHeartbeats 4000000 in
theorem c_M_undo (l : Launch) (w : Wenv) (hw : okw w wM) (N : Nat) (σ : Mem) (r : Int32) (τ : Mem) (hf : f_M_undo N  σ = some (r, τ)) : Ctr l w wM yX10_undo cX10_undo 2 (some .int) 1 20 [.ref (w.2.2.1 0)] σ (cQi w wM r τ) := mk_ctr (Q := fun κ => qOM κ wM) (lv := [some (.ref (w.2.2.1 0)), none]) (by decide) rfl hw (Nat.le_of_ble_eq_true rfl) rfl hf (fun κ h => by subst h; rfl) (fun κ hl h hR hC => by
    subst h
    exact w_M_undo hR hC N  σ)
-- DuelRoundModel.weight(II)I (0, None, None) kind OM
def f_M_weight (N : Nat) (a1 : Int32) (a2 : Int32) (σ : Mem) : Option (Int32 × Mem) :=
  bnd (sI σ 0 0 (0 : Int32)) fun s1 =>
  if (t_M_isPlayer a1 s1) = (0 : Int32) then
  (some ((-2147483648 : Int32), s1))
  else
  (if (t_M_in (a2.toInt64) (0 : Int64) (1 : Int64)) = (0 : Int32) then
  (some ((-2147483648 : Int32), s1))
  else
  (ob2 (f_M_balanced N (t_M_all s1) s1) fun r3 s2 =>
  if a2 = (0 : Int32) then
  (if (t_M_has r3 a1) = (0 : Int32) then
  (some ((0 : Int32), s2))
  else
  (gd (inb a1 8) (some ((gI s2 21 a1.toNatClampNeg), s2))))
  else
  (ob (f_M_gains N a1 s2) fun r4 =>
  some (r4, s2))))
set_option maxRecDepth 100000 in
set_option maxHeartbeats 4000000 in
theorem w_M_weight {κ : Ctx} (hR : kR κ = { frames := 5, cells := 0, slots := 0, locals := 111 }) (hC : ok κ wM cX10_weight 4 RX10 (some .int)) (N : Nat) (a1 : Int32) (a2 : Int32) (σ : Mem) : wF κ wM 4 (qOM κ wM) σ 0 [some (.ref (ad κ 0)), some (.int a1), some (.int a2), none] [] (f_M_weight N a1 a2 σ) := by
  unfold f_M_weight
  refine r_aload_n (pc := 0) hC rfl dX10_weight_0 ?_
  refine r_iconst (pc := 1) hC (v := (0 : Int32)) (by decide) dX10_weight_1 ?_
  refine pM_0_0 (pc := 2) hC k_1037 dX10_weight_2 ?_
  refine r_letm (fun s1 => ?_)
  refine r_aload_n (pc := 5) hC rfl dX10_weight_5 ?_
  refine r_iload_n (pc := 6) hC rfl dX10_weight_6 ?_
  refine r_cT (pc := 7) (rest := []) (runV [.int a1] hC (c_M_isPlayer (kl κ) (kW κ) hC.2.2.2.2.2.2.2.2.1 a1 s1) o_X10_isPlayer k_1220 (q0 := 0) (ci := 10) rfl rfl (rm_ok hR rfl) rfl (Nat.le_of_ble_eq_true rfl) dX10_weight_7) ?_
  refine r_if_eq (pc := 10) (tgt := 23) hC dX10_weight_10 (by decide) ?_ ?_
  · refine r_ldcw (pc := 23) hC (v := (-2147483648 : Int32)) k_1425 dX10_weight_23 ?_
    exact r_retOM hC rfl dX10_weight_26
  · refine r_iload_n (pc := 13) hC rfl dX10_weight_13 ?_
    refine r_i2l (pc := 14) hC dX10_weight_14 ?_
    refine r_lconst (pc := 15) hC (v := (0 : Int64)) (by decide) dX10_weight_15 ?_
    refine r_lconst (pc := 16) hC (v := (1 : Int64)) (by decide) dX10_weight_16 ?_
    refine r_cT (pc := 17) (rest := []) (runS [.long (a2.toInt64), .long (0 : Int64), .long (1 : Int64)] hC (c_M_in (kl κ) (kW κ) hC.2.2.2.2.2.2.2.2.1 (a2.toInt64) (0 : Int64) (1 : Int64) s1) o_X10_in k_1161 (rm_ok hR rfl) rfl (Nat.le_of_ble_eq_true rfl) dX10_weight_17) ?_
    refine r_if_ne (pc := 20) (tgt := 27) hC dX10_weight_20 (by decide) ?_ ?_
    · refine r_aload_n (pc := 27) hC rfl dX10_weight_27 ?_
      refine r_aload_n (pc := 28) hC rfl dX10_weight_28 ?_
      refine r_cT (pc := 29) (rest := [.ref (ad κ 0)]) (runV [] hC (c_M_all (kl κ) (kW κ) hC.2.2.2.2.2.2.2.2.1 s1) o_X10_all k_1228 (q0 := 0) (ci := 10) rfl rfl (rm_ok hR rfl) rfl (Nat.le_of_ble_eq_true rfl) dX10_weight_29) ?_
      refine r_cOM (pc := 32) (rest := []) (fun r3 s2 hf => runV [.int (t_M_all s1)] hC (c_M_balanced (kl κ) (kW κ) hC.2.2.2.2.2.2.2.2.1 N (t_M_all s1) s1 r3 s2 hf) o_X10_balanced k_1345 (q0 := 0) (ci := 10) rfl rfl (rm_ok hR rfl) rfl (Nat.le_of_ble_eq_true rfl) dX10_weight_32) (fun r3 s2 => ?_)
      refine r_istore_n (pc := 35) hC rfl rfl dX10_weight_35 ?_
      refine r_iload_n (pc := 36) hC rfl dX10_weight_36 ?_
      refine r_if_ne (pc := 37) (tgt := 61) hC dX10_weight_37 (by decide) ?_ ?_
      · refine r_aload_n (pc := 61) hC rfl dX10_weight_61 ?_
        refine r_iload_n (pc := 62) hC rfl dX10_weight_62 ?_
        refine r_cO (pc := 63) (rest := []) (fun r4 hf => runV [.int a1] hC (c_M_gains (kl κ) (kW κ) hC.2.2.2.2.2.2.2.2.1 N a1 s2 r4 hf) o_X10_gains k_1368 (q0 := 0) (ci := 10) rfl rfl (rm_ok hR rfl) rfl (Nat.le_of_ble_eq_true rfl) dX10_weight_63) (fun r4 => ?_)
        exact r_retOM hC rfl dX10_weight_66
      · refine r_iload_n (pc := 40) hC rfl dX10_weight_40 ?_
        refine r_iload_n (pc := 41) hC rfl dX10_weight_41 ?_
        refine r_cT (pc := 42) (rest := []) (runS [.int r3, .int a1] hC (c_M_has (kl κ) (kW κ) hC.2.2.2.2.2.2.2.2.1 r3 a1 s2) o_X10_has k_1194 (rm_ok hR rfl) rfl (Nat.le_of_ble_eq_true rfl) dX10_weight_42) ?_
        refine r_if_eq (pc := 45) (tgt := 57) hC dX10_weight_45 (by decide) ?_ ?_
        · refine r_iconst (pc := 57) hC (v := (0 : Int32)) (by decide) dX10_weight_57 ?_
          refine r_goto (pc := 58) (tgt := 66) hC dX10_weight_58 (by decide) ?_
          exact r_retOM hC rfl dX10_weight_66
        · refine r_aload_n (pc := 48) hC rfl dX10_weight_48 ?_
          refine gM_0_21 (pc := 49) hC k_1058 dX10_weight_49 ?_
          refine r_iload_n (pc := 52) hC rfl dX10_weight_52 ?_
          refine aM_15 (pc := 53) hC dX10_weight_53 ?_
          refine r_goto (pc := 54) (tgt := 66) hC dX10_weight_54 (by decide) ?_
          exact r_retOM hC rfl dX10_weight_66
    · refine r_ldcw (pc := 23) hC (v := (-2147483648 : Int32)) k_1425 dX10_weight_23 ?_
      exact r_retOM hC rfl dX10_weight_26
set_option maxRecDepth 100000 in
set_option maxHeartbeats 4000000 in
theorem c_M_weight (l : Launch) (w : Wenv) (hw : okw w wM) (N : Nat) (a1 : Int32) (a2 : Int32) (σ : Mem) (r : Int32) (τ : Mem) (hf : f_M_weight N a1 a2 σ = some (r, τ)) : Ctr l w wM yX10_weight cX10_weight 4 (some .int) 5 111 [.ref (w.2.2.1 0), .int a1, .int a2] σ (cQi w wM r τ) := mk_ctr (Q := fun κ => qOM κ wM) (lv := [some (.ref (w.2.2.1 0)), some (.int a1), some (.int a2), none]) (by decide) rfl hw (Nat.le_of_ble_eq_true rfl) rfl hf (fun κ h => by subst h; rfl) (fun κ hl h hR hC => by
    subst h
    exact w_M_weight hR hC N a1 a2 σ)
-- DuelRoundModel.winner(I)I (0, None) kind OM
def M_winner_K90 (N : Nat) (s2 : Mem) : Option (Int32 × Mem) :=
  ob2 (f_M_wins N s2) fun r4 s3 =>
  some (r4, s3)
def M_winner_J64 (s11 : Mem) (a1 : Int32) (i9 : Int32) (i10 : Int32) (self12 : Int32 → Int32 → Mem → Option (Int32 × Mem)) (v13 : Int32) : Option (Int32 × Mem) :=
  if (t_M_has a1 i10) = v13 then
  (gd (inb i9 8) (bnd (sI s11 26 i9.toNatClampNeg i10) fun s14 =>
  self12 (i9 + (1 : Int32)) (i10 + (1 : Int32)) s14))
  else
  (self12 i9 (i10 + (1 : Int32)) s11)
def M_winner_B40 (a1 : Int32) (i6 : Int32) (self8 : Int32 → Int32 → Mem → Option (Int32 × Mem)) (self12 : Int32 → Int32 → Mem → Option (Int32 × Mem)) (i9 : Int32) (i10 : Int32) (s11 : Mem) : Option (Int32 × Mem) :=
  if (t_M_many s11) ≤ i10 then
  (self8 i9 (i6 + (1 : Int32)) s11)
  else
  (if i6 = (0 : Int32) then
  (M_winner_J64 s11 a1 i9 i10 self12 (1 : Int32))
  else
  (M_winner_J64 s11 a1 i9 i10 self12 (0 : Int32)))
def M_winner_B32 (N : Nat) (a1 : Int32) (self8 : Int32 → Int32 → Mem → Option (Int32 × Mem)) (i5 : Int32) (i6 : Int32) (s7 : Mem) : Option (Int32 × Mem) :=
  if (2 : Int32) ≤ i6 then
  (M_winner_K90 N s7)
  else
  (it3 (M_winner_B40 a1 i6 self8) N i5 (0 : Int32) s7)
def f_M_winner (N : Nat) (a1 : Int32) (σ : Mem) : Option (Int32 × Mem) :=
  bnd (sI σ 0 0 (0 : Int32)) fun s1 =>
  if (t_M_isSome a1 s1) = (0 : Int32) then
  (some ((-1 : Int32), s1))
  else
  (if (t_M_isCup (t_M_many s1)) = (0 : Int32) then
  (some ((-3 : Int32), s1))
  else
  (it3 (M_winner_B32 N a1) N (0 : Int32) (0 : Int32) s1))
set_option maxRecDepth 100000 in
set_option maxHeartbeats 4000000 in
theorem w_M_winner {κ : Ctx} (hR : kR κ = { frames := 2, cells := 0, slots := 0, locals := 45 }) (hC : ok κ wM cX10_winner 5 RX10 (some .int)) (N : Nat) (a1 : Int32) (σ : Mem) : wF κ wM 5 (qOM κ wM) σ 0 [some (.ref (ad κ 0)), some (.int a1), none, none, none] [] (f_M_winner N a1 σ) := by
  unfold f_M_winner
  refine r_aload_n (pc := 0) hC rfl dX10_winner_0 ?_
  refine r_iconst (pc := 1) hC (v := (0 : Int32)) (by decide) dX10_winner_1 ?_
  refine pM_0_0 (pc := 2) hC k_1037 dX10_winner_2 ?_
  refine r_letm (fun s1 => ?_)
  refine r_aload_n (pc := 5) hC rfl dX10_winner_5 ?_
  refine r_iload_n (pc := 6) hC rfl dX10_winner_6 ?_
  refine r_cT (pc := 7) (rest := []) (runV [.int a1] hC (c_M_isSome (kl κ) (kW κ) hC.2.2.2.2.2.2.2.2.1 a1 s1) o_X10_isSome k_1250 (q0 := 0) (ci := 10) rfl rfl (rm_ok hR rfl) rfl (Nat.le_of_ble_eq_true rfl) dX10_winner_7) ?_
  refine r_if_ne (pc := 10) (tgt := 15) hC dX10_winner_10 (by decide) ?_ ?_
  · refine r_aload_n (pc := 15) hC rfl dX10_winner_15 ?_
    refine r_cT (pc := 16) (rest := []) (runV [] hC (c_M_many (kl κ) (kW κ) hC.2.2.2.2.2.2.2.2.1 s1) o_X10_many k_1274 (q0 := 0) (ci := 10) rfl rfl (rm_ok hR rfl) rfl (Nat.le_of_ble_eq_true rfl) dX10_winner_16) ?_
    refine r_cT (pc := 19) (rest := []) (runS [.int (t_M_many s1)] hC (c_M_isCup (kl κ) (kW κ) hC.2.2.2.2.2.2.2.2.1 (t_M_many s1) s1) o_X10_isCup k_1384 (rm_ok hR rfl) rfl (Nat.le_of_ble_eq_true rfl) dX10_winner_19) ?_
    refine r_if_ne (pc := 22) (tgt := 28) hC dX10_winner_22 (by decide) ?_ ?_
    · refine r_iconst (pc := 28) hC (v := (0 : Int32)) (by decide) dX10_winner_28 ?_
      refine r_istore_n (pc := 29) hC rfl rfl dX10_winner_29 ?_
      refine r_iconst (pc := 30) hC (v := (0 : Int32)) (by decide) dX10_winner_30 ?_
      refine r_istore_n (pc := 31) hC rfl rfl dX10_winner_31 ?_
      have hK90_4 : ∀ (s2 : Mem), wF κ wM 5 (qOM κ wM) s2 90 [some (.ref (ad κ 0)), none, none, none, none] [] (M_winner_K90 N s2) := by
        intro s2
        unfold M_winner_K90
        refine r_aload_n (pc := 90) hC rfl dX10_winner_90 ?_
        refine r_cOM (pc := 91) (rest := []) (fun r4 s3 hf => runV [] hC (c_M_wins (kl κ) (kW κ) hC.2.2.2.2.2.2.2.2.1 N s2 r4 s3 hf) o_X10_wins k_1450 (q0 := 0) (ci := 10) rfl rfl (rm_ok hR rfl) rfl (Nat.le_of_ble_eq_true rfl) dX10_winner_91) (fun r4 s3 => ?_)
        exact r_retOM hC rfl dX10_winner_94
      refine w_it3 (fun i5 i6 s7 => s7) (fun i5 i6 s7 => [some (.ref (ad κ 0)), some (.int a1), some (.int i5), some (.int i6), none]) (fun self8 ih32_8 i5 i6 s7 => ?_) N (0 : Int32) (0 : Int32) s1
      unfold M_winner_B32
      refine r_iload_n (pc := 32) hC rfl dX10_winner_32 ?_
      refine r_iconst (pc := 33) hC (v := (2 : Int32)) (by decide) dX10_winner_33 ?_
      refine r_icmp_ge (pc := 34) (tgt := 90) hC dX10_winner_34 (by decide) ?_ ?_
      · exact r_wk [true, false, false, false, false] (hK90_4 s7)
      · refine r_iconst (pc := 37) hC (v := (0 : Int32)) (by decide) dX10_winner_37 ?_
        refine r_istore (pc := 38) hC rfl rfl dX10_winner_38 ?_
        refine w_it3 (fun i9 i10 s11 => s11) (fun i9 i10 s11 => [some (.ref (ad κ 0)), some (.int a1), some (.int i9), some (.int i6), some (.int i10)]) (fun self12 ih40_12 i9 i10 s11 => ?_) N i5 (0 : Int32) s7
        unfold M_winner_B40
        refine r_iload (pc := 40) hC rfl dX10_winner_40 ?_
        refine r_aload_n (pc := 42) hC rfl dX10_winner_42 ?_
        refine r_cT (pc := 43) (rest := [.int i10]) (runV [] hC (c_M_many (kl κ) (kW κ) hC.2.2.2.2.2.2.2.2.1 s11) o_X10_many k_1274 (q0 := 0) (ci := 10) rfl rfl (rm_ok hR rfl) rfl (Nat.le_of_ble_eq_true rfl) dX10_winner_43) ?_
        refine r_icmp_ge (pc := 46) (tgt := 84) hC dX10_winner_46 (by decide) ?_ ?_
        · refine r_iinc (pc := 84) hC (v := (1 : Int32)) rfl (by decide) rfl rfl dX10_winner_84 ?_
          refine r_goto (pc := 87) (tgt := 32) hC dX10_winner_87 (by decide) ?_
          exact r_wk [true, true, true, true, false] (ih32_8 i9 (i6 + (1 : Int32)) s11)
        · refine r_iload_n (pc := 49) hC rfl dX10_winner_49 ?_
          refine r_iload (pc := 50) hC rfl dX10_winner_50 ?_
          refine r_cT (pc := 52) (rest := []) (runS [.int a1, .int i10] hC (c_M_has (kl κ) (kW κ) hC.2.2.2.2.2.2.2.2.1 a1 i10 s11) o_X10_has k_1194 (rm_ok hR rfl) rfl (Nat.le_of_ble_eq_true rfl) dX10_winner_52) ?_
          refine r_iload_n (pc := 55) hC rfl dX10_winner_55 ?_
          have hJ64_14 : ∀ (v13 : Int32), wF κ wM 5 (qOM κ wM) s11 64 [some (.ref (ad κ 0)), some (.int a1), some (.int i9), some (.int i6), some (.int i10)] [.int v13, .int (t_M_has a1 i10)] (M_winner_J64 s11 a1 i9 i10 self12 v13) := by
            intro v13
            unfold M_winner_J64
            refine r_icmp_ne (pc := 64) (tgt := 78) hC dX10_winner_64 (by decide) ?_ ?_
            · refine r_iinc (pc := 78) hC (v := (1 : Int32)) rfl (by decide) rfl rfl dX10_winner_78 ?_
              refine r_goto (pc := 81) (tgt := 40) hC dX10_winner_81 (by decide) ?_
              exact ih40_12 i9 (i10 + (1 : Int32)) s11
            · refine r_aload_n (pc := 67) hC rfl dX10_winner_67 ?_
              refine gM_0_26 (pc := 68) hC k_1063 dX10_winner_68 ?_
              refine r_iload_n (pc := 71) hC rfl dX10_winner_71 ?_
              refine r_iload (pc := 72) hC rfl dX10_winner_72 ?_
              refine bM_20 (pc := 74) hC dX10_winner_74 ?_
              refine r_letm (fun s14 => ?_)
              refine r_iinc (pc := 75) hC (v := (1 : Int32)) rfl (by decide) rfl rfl dX10_winner_75 ?_
              refine r_iinc (pc := 78) hC (v := (1 : Int32)) rfl (by decide) rfl rfl dX10_winner_78 ?_
              refine r_goto (pc := 81) (tgt := 40) hC dX10_winner_81 (by decide) ?_
              exact ih40_12 (i9 + (1 : Int32)) (i10 + (1 : Int32)) s14
          refine r_if_ne (pc := 56) (tgt := 63) hC dX10_winner_56 (by decide) ?_ ?_
          · refine r_iconst (pc := 63) hC (v := (0 : Int32)) (by decide) dX10_winner_63 ?_
            exact hJ64_14 (0 : Int32)
          · refine r_iconst (pc := 59) hC (v := (1 : Int32)) (by decide) dX10_winner_59 ?_
            refine r_goto (pc := 60) (tgt := 64) hC dX10_winner_60 (by decide) ?_
            exact hJ64_14 (1 : Int32)
    · refine r_bipush (pc := 25) hC (v := (-3 : Int32)) (by decide) dX10_winner_25 ?_
      exact r_retOM hC rfl dX10_winner_27
  · refine r_iconst (pc := 13) hC (v := (-1 : Int32)) (by decide) dX10_winner_13 ?_
    exact r_retOM hC rfl dX10_winner_14
set_option maxRecDepth 100000 in
set_option maxHeartbeats 4000000 in
theorem c_M_winner (l : Launch) (w : Wenv) (hw : okw w wM) (N : Nat) (a1 : Int32) (σ : Mem) (r : Int32) (τ : Mem) (hf : f_M_winner N a1 σ = some (r, τ)) : Ctr l w wM yX10_winner cX10_winner 5 (some .int) 2 45 [.ref (w.2.2.1 0), .int a1] σ (cQi w wM r τ) := mk_ctr (Q := fun κ => qOM κ wM) (lv := [some (.ref (w.2.2.1 0)), some (.int a1), none, none, none]) (by decide) rfl hw (Nat.le_of_ble_eq_true rfl) rfl hf (fun κ h => by subst h; rfl) (fun κ hl h hR hC => by
    subst h
    exact w_M_winner hR hC N a1 σ)
-- DuelRoundModel.within(I)I (0, None) kind OM
def M_within_K176 (s2 : Mem) (a1 : Int32) (y3 : Int32) (y4 : Int32) : Option (Int32 × Mem) :=
  if a1 = (0 : Int32) then
  (some (y3, s2))
  else
  (some (y4, s2))
def M_within_J122 (s2 : Mem) (i7 : Int32) (i9 : Int32) (i10 : Int32) (i11 : Int32) (v13 : Int32) (self12 : Int32 → Int32 → Int32 → Option (Int32 × Mem)) (v14 : Int32) : Option (Int32 × Mem) :=
  bnd (i9 + v14) fun x15 =>
  if v13 = (0 : Int32) then
  (self12 x15 i10 (i11 + (1 : Int32)))
  else
  (if i10 = (-1 : Int32) then
  (gd (inb i7 9) (gd (inb i11 9) (if (gI s2 25 i7.toNatClampNeg) = (gI s2 25 i11.toNatClampNeg) then
  (self12 x15 i10 (i11 + (1 : Int32)))
  else
  (bnd (((10 : Int32) * i7) + i11) fun x16 =>
  self12 x15 x16 (i11 + (1 : Int32))))))
  else
  (self12 x15 i10 (i11 + (1 : Int32))))
def M_within_J109 (s2 : Mem) (i7 : Int32) (i9 : Int32) (i10 : Int32) (i11 : Int32) (self12 : Int32 → Int32 → Int32 → Option (Int32 × Mem)) (v13 : Int32) : Option (Int32 × Mem) :=
  if v13 = (0 : Int32) then
  (M_within_J122 s2 i7 i9 i10 i11 v13 self12 (0 : Int32))
  else
  (M_within_J122 s2 i7 i9 i10 i11 v13 self12 (1 : Int32))
def M_within_J108 (s2 : Mem) (i7 : Int32) (i9 : Int32) (i10 : Int32) (i11 : Int32) (self12 : Int32 → Int32 → Int32 → Option (Int32 × Mem)) : Option (Int32 × Mem) :=
  M_within_J109 s2 i7 i9 i10 i11 self12 (0 : Int32)
def M_within_B70 (s2 : Mem) (i7 : Int32) (self8 : Int32 → Int32 → Int32 → Option (Int32 × Mem)) (self12 : Int32 → Int32 → Int32 → Option (Int32 × Mem)) (i9 : Int32) (i10 : Int32) (i11 : Int32) : Option (Int32 × Mem) :=
  if (9 : Int32) ≤ i11 then
  (self8 i9 i10 (i7 + (1 : Int32)))
  else
  (if i7 = i11 then
  (M_within_J108 s2 i7 i9 i10 i11 self12)
  else
  (gd (inb i7 9) (gd (inb i11 9) (if (t_M_isWithin (gI s2 25 i7.toNatClampNeg) (gI s2 25 i11.toNatClampNeg)) = (0 : Int32) then
  (M_within_J108 s2 i7 i9 i10 i11 self12)
  else
  (M_within_J109 s2 i7 i9 i10 i11 self12 (1 : Int32))))))
def M_within_B60 (N : Nat) (s2 : Mem) (a1 : Int32) (self8 : Int32 → Int32 → Int32 → Option (Int32 × Mem)) (i5 : Int32) (i6 : Int32) (i7 : Int32) : Option (Int32 × Mem) :=
  if (9 : Int32) ≤ i7 then
  (M_within_K176 s2 a1 i5 i6)
  else
  (it3 (M_within_B70 s2 i7 self8) N i5 i6 (0 : Int32))
def M_within_K53 (N : Nat) (a1 : Int32) (s2 : Mem) : Option (Int32 × Mem) :=
  it3 (M_within_B60 N s2 a1) N (0 : Int32) (-1 : Int32) (0 : Int32)
def M_within_B26 (N : Nat) (a1 : Int32) (self19 : Int32 → Mem → Option (Int32 × Mem)) (i17 : Int32) (s18 : Mem) : Option (Int32 × Mem) :=
  if (9 : Int32) ≤ i17 then
  (M_within_K53 N a1 s18)
  else
  (ob2 (f_M_setOf N i17 (t_M_all s18) s18) fun r21 s20 =>
  gd (inb i17 9) (bnd (sI s20 25 i17.toNatClampNeg r21) fun s22 =>
  self19 (i17 + (1 : Int32)) s22))
def f_M_within (N : Nat) (a1 : Int32) (σ : Mem) : Option (Int32 × Mem) :=
  bnd (sI σ 0 0 (0 : Int32)) fun s1 =>
  if (t_M_isRound s1) = (0 : Int32) then
  (some ((-1 : Int32), s1))
  else
  (if (t_M_in (a1.toInt64) (0 : Int64) (1 : Int64)) = (0 : Int32) then
  (some ((-1 : Int32), s1))
  else
  (it2 (M_within_B26 N a1) N (0 : Int32) s1))
set_option maxRecDepth 100000 in
set_option maxHeartbeats 4000000 in
theorem w_M_within {κ : Ctx} (hR : kR κ = { frames := 6, cells := 0, slots := 0, locals := 133 }) (hC : ok κ wM cX10_within 7 RX10 (some .int)) (N : Nat) (a1 : Int32) (σ : Mem) : wF κ wM 7 (qOM κ wM) σ 0 [some (.ref (ad κ 0)), some (.int a1), none, none, none, none, none] [] (f_M_within N a1 σ) := by
  unfold f_M_within
  refine r_aload_n (pc := 0) hC rfl dX10_within_0 ?_
  refine r_iconst (pc := 1) hC (v := (0 : Int32)) (by decide) dX10_within_1 ?_
  refine pM_0_0 (pc := 2) hC k_1037 dX10_within_2 ?_
  refine r_letm (fun s1 => ?_)
  refine r_aload_n (pc := 5) hC rfl dX10_within_5 ?_
  refine r_cT (pc := 6) (rest := []) (runV [] hC (c_M_isRound (kl κ) (kW κ) hC.2.2.2.2.2.2.2.2.1 s1) o_X10_isRound k_1254 (q0 := 0) (ci := 10) rfl rfl (rm_ok hR rfl) rfl (Nat.le_of_ble_eq_true rfl) dX10_within_6) ?_
  refine r_if_eq (pc := 9) (tgt := 22) hC dX10_within_9 (by decide) ?_ ?_
  · refine r_iconst (pc := 22) hC (v := (-1 : Int32)) (by decide) dX10_within_22 ?_
    exact r_retOM hC rfl dX10_within_23
  · refine r_iload_n (pc := 12) hC rfl dX10_within_12 ?_
    refine r_i2l (pc := 13) hC dX10_within_13 ?_
    refine r_lconst (pc := 14) hC (v := (0 : Int64)) (by decide) dX10_within_14 ?_
    refine r_lconst (pc := 15) hC (v := (1 : Int64)) (by decide) dX10_within_15 ?_
    refine r_cT (pc := 16) (rest := []) (runS [.long (a1.toInt64), .long (0 : Int64), .long (1 : Int64)] hC (c_M_in (kl κ) (kW κ) hC.2.2.2.2.2.2.2.2.1 (a1.toInt64) (0 : Int64) (1 : Int64) s1) o_X10_in k_1161 (rm_ok hR rfl) rfl (Nat.le_of_ble_eq_true rfl) dX10_within_16) ?_
    refine r_if_ne (pc := 19) (tgt := 24) hC dX10_within_19 (by decide) ?_ ?_
    · refine r_iconst (pc := 24) hC (v := (0 : Int32)) (by decide) dX10_within_24 ?_
      refine r_istore_n (pc := 25) hC rfl rfl dX10_within_25 ?_
      have hK53_16 : ∀ (s2 : Mem), wF κ wM 7 (qOM κ wM) s2 53 [some (.ref (ad κ 0)), some (.int a1), none, none, none, none, none] [] (M_within_K53 N a1 s2) := by
        intro s2
        unfold M_within_K53
        refine r_iconst (pc := 53) hC (v := (0 : Int32)) (by decide) dX10_within_53 ?_
        refine r_istore_n (pc := 54) hC rfl rfl dX10_within_54 ?_
        refine r_iconst (pc := 55) hC (v := (-1 : Int32)) (by decide) dX10_within_55 ?_
        refine r_istore_n (pc := 56) hC rfl rfl dX10_within_56 ?_
        refine r_iconst (pc := 57) hC (v := (0 : Int32)) (by decide) dX10_within_57 ?_
        refine r_istore (pc := 58) hC rfl rfl dX10_within_58 ?_
        have hK176_4 : ∀ (y3 : Int32) (y4 : Int32), wF κ wM 7 (qOM κ wM) s2 176 [none, some (.int a1), some (.int y3), some (.int y4), none, none, none] [] (M_within_K176 s2 a1 y3 y4) := by
          intro y3 y4
          unfold M_within_K176
          refine r_iload_n (pc := 176) hC rfl dX10_within_176 ?_
          refine r_if_ne (pc := 177) (tgt := 184) hC dX10_within_177 (by decide) ?_ ?_
          · refine r_iload_n (pc := 184) hC rfl dX10_within_184 ?_
            exact r_retOM hC rfl dX10_within_185
          · refine r_iload_n (pc := 180) hC rfl dX10_within_180 ?_
            refine r_goto (pc := 181) (tgt := 185) hC dX10_within_181 (by decide) ?_
            exact r_retOM hC rfl dX10_within_185
        refine w_it3 (fun i5 i6 i7 => s2) (fun i5 i6 i7 => [some (.ref (ad κ 0)), some (.int a1), some (.int i5), some (.int i6), some (.int i7), none, none]) (fun self8 ih60_8 i5 i6 i7 => ?_) N (0 : Int32) (-1 : Int32) (0 : Int32)
        unfold M_within_B60
        refine r_iload (pc := 60) hC rfl dX10_within_60 ?_
        refine r_bipush (pc := 62) hC (v := (9 : Int32)) (by decide) dX10_within_62 ?_
        refine r_icmp_ge (pc := 64) (tgt := 176) hC dX10_within_64 (by decide) ?_ ?_
        · exact r_wk [false, true, true, true, false, false, false] (hK176_4 i5 i6)
        · refine r_iconst (pc := 67) hC (v := (0 : Int32)) (by decide) dX10_within_67 ?_
          refine r_istore (pc := 68) hC rfl rfl dX10_within_68 ?_
          refine w_it3 (fun i9 i10 i11 => s2) (fun i9 i10 i11 => [some (.ref (ad κ 0)), some (.int a1), some (.int i9), some (.int i10), some (.int i7), some (.int i11), none]) (fun self12 ih70_12 i9 i10 i11 => ?_) N i5 i6 (0 : Int32)
          unfold M_within_B70
          refine r_iload (pc := 70) hC rfl dX10_within_70 ?_
          refine r_bipush (pc := 72) hC (v := (9 : Int32)) (by decide) dX10_within_72 ?_
          refine r_icmp_ge (pc := 74) (tgt := 170) hC dX10_within_74 (by decide) ?_ ?_
          · refine r_iinc (pc := 170) hC (v := (1 : Int32)) rfl (by decide) rfl rfl dX10_within_170 ?_
            refine r_goto (pc := 173) (tgt := 60) hC dX10_within_173 (by decide) ?_
            exact r_wk [true, true, true, true, true, false, false] (ih60_8 i9 i10 (i7 + (1 : Int32)))
          · refine r_iload (pc := 77) hC rfl dX10_within_77 ?_
            refine r_iload (pc := 79) hC rfl dX10_within_79 ?_
            have hJ109_16 : ∀ (v13 : Int32), wF κ wM 7 (qOM κ wM) s2 109 [some (.ref (ad κ 0)), some (.int a1), some (.int i9), some (.int i10), some (.int i7), some (.int i11), none] [.int v13] (M_within_J109 s2 i7 i9 i10 i11 self12 v13) := by
              intro v13
              unfold M_within_J109
              refine r_istore (pc := 109) hC rfl rfl dX10_within_109 ?_
              refine r_iload_n (pc := 111) hC rfl dX10_within_111 ?_
              refine r_iload (pc := 112) hC rfl dX10_within_112 ?_
              have hJ122_16 : ∀ (v14 : Int32), wF κ wM 7 (qOM κ wM) s2 122 [some (.ref (ad κ 0)), some (.int a1), none, some (.int i10), some (.int i7), some (.int i11), some (.int v13)] [.int v14, .int i9] (M_within_J122 s2 i7 i9 i10 i11 v13 self12 v14) := by
                intro v14
                unfold M_within_J122
                refine r_iadd (pc := 122) hC dX10_within_122 ?_
                refine r_let (fun x15 => ?_)
                refine r_istore_n (pc := 123) hC rfl rfl dX10_within_123 ?_
                refine r_iload (pc := 124) hC rfl dX10_within_124 ?_
                refine r_if_eq (pc := 126) (tgt := 162) hC dX10_within_126 (by decide) ?_ ?_
                · refine r_iload_n (pc := 162) hC rfl dX10_within_162 ?_
                  refine r_istore_n (pc := 163) hC rfl rfl dX10_within_163 ?_
                  refine r_iinc (pc := 164) hC (v := (1 : Int32)) rfl (by decide) rfl rfl dX10_within_164 ?_
                  refine r_goto (pc := 167) (tgt := 70) hC dX10_within_167 (by decide) ?_
                  exact r_wk [true, true, true, true, true, true, false] (ih70_12 x15 i10 (i11 + (1 : Int32)))
                · refine r_iload_n (pc := 129) hC rfl dX10_within_129 ?_
                  refine r_iconst (pc := 130) hC (v := (-1 : Int32)) (by decide) dX10_within_130 ?_
                  refine r_icmp_ne (pc := 131) (tgt := 162) hC dX10_within_131 (by decide) ?_ ?_
                  · refine r_iload_n (pc := 162) hC rfl dX10_within_162 ?_
                    refine r_istore_n (pc := 163) hC rfl rfl dX10_within_163 ?_
                    refine r_iinc (pc := 164) hC (v := (1 : Int32)) rfl (by decide) rfl rfl dX10_within_164 ?_
                    refine r_goto (pc := 167) (tgt := 70) hC dX10_within_167 (by decide) ?_
                    exact r_wk [true, true, true, true, true, true, false] (ih70_12 x15 i10 (i11 + (1 : Int32)))
                  · refine r_aload_n (pc := 134) hC rfl dX10_within_134 ?_
                    refine gM_0_25 (pc := 135) hC k_1062 dX10_within_135 ?_
                    refine r_iload (pc := 138) hC rfl dX10_within_138 ?_
                    refine aM_19 (pc := 140) hC dX10_within_140 ?_
                    refine r_aload_n (pc := 141) hC rfl dX10_within_141 ?_
                    refine gM_0_25 (pc := 142) hC k_1062 dX10_within_142 ?_
                    refine r_iload (pc := 145) hC rfl dX10_within_145 ?_
                    refine aM_19 (pc := 147) hC dX10_within_147 ?_
                    refine r_icmp_eq (pc := 148) (tgt := 162) hC dX10_within_148 (by decide) ?_ ?_
                    · refine r_iload_n (pc := 162) hC rfl dX10_within_162 ?_
                      refine r_istore_n (pc := 163) hC rfl rfl dX10_within_163 ?_
                      refine r_iinc (pc := 164) hC (v := (1 : Int32)) rfl (by decide) rfl rfl dX10_within_164 ?_
                      refine r_goto (pc := 167) (tgt := 70) hC dX10_within_167 (by decide) ?_
                      exact r_wk [true, true, true, true, true, true, false] (ih70_12 x15 i10 (i11 + (1 : Int32)))
                    · refine r_bipush (pc := 151) hC (v := (10 : Int32)) (by decide) dX10_within_151 ?_
                      refine r_iload (pc := 153) hC rfl dX10_within_153 ?_
                      refine r_imul (pc := 155) hC dX10_within_155 ?_
                      refine r_iload (pc := 156) hC rfl dX10_within_156 ?_
                      refine r_iadd (pc := 158) hC dX10_within_158 ?_
                      refine r_goto (pc := 159) (tgt := 163) hC dX10_within_159 (by decide) ?_
                      refine r_let (fun x16 => ?_)
                      refine r_istore_n (pc := 163) hC rfl rfl dX10_within_163 ?_
                      refine r_iinc (pc := 164) hC (v := (1 : Int32)) rfl (by decide) rfl rfl dX10_within_164 ?_
                      refine r_goto (pc := 167) (tgt := 70) hC dX10_within_167 (by decide) ?_
                      exact r_wk [true, true, true, true, true, true, false] (ih70_12 x15 x16 (i11 + (1 : Int32)))
              refine r_if_eq (pc := 114) (tgt := 121) hC dX10_within_114 (by decide) ?_ ?_
              · refine r_iconst (pc := 121) hC (v := (0 : Int32)) (by decide) dX10_within_121 ?_
                exact r_wk [true, true, false, true, true, true, true] (hJ122_16 (0 : Int32))
              · refine r_iconst (pc := 117) hC (v := (1 : Int32)) (by decide) dX10_within_117 ?_
                refine r_goto (pc := 118) (tgt := 122) hC dX10_within_118 (by decide) ?_
                exact r_wk [true, true, false, true, true, true, true] (hJ122_16 (1 : Int32))
            have hJ108_16 : wF κ wM 7 (qOM κ wM) s2 108 [some (.ref (ad κ 0)), some (.int a1), some (.int i9), some (.int i10), some (.int i7), some (.int i11), none] [] (M_within_J108 s2 i7 i9 i10 i11 self12) := by
              unfold M_within_J108
              refine r_iconst (pc := 108) hC (v := (0 : Int32)) (by decide) dX10_within_108 ?_
              exact hJ109_16 (0 : Int32)
            refine r_icmp_eq (pc := 81) (tgt := 108) hC dX10_within_81 (by decide) ?_ ?_
            · exact hJ108_16
            · refine r_aload_n (pc := 84) hC rfl dX10_within_84 ?_
              refine gM_0_25 (pc := 85) hC k_1062 dX10_within_85 ?_
              refine r_iload (pc := 88) hC rfl dX10_within_88 ?_
              refine aM_19 (pc := 90) hC dX10_within_90 ?_
              refine r_aload_n (pc := 91) hC rfl dX10_within_91 ?_
              refine gM_0_25 (pc := 92) hC k_1062 dX10_within_92 ?_
              refine r_iload (pc := 95) hC rfl dX10_within_95 ?_
              refine aM_19 (pc := 97) hC dX10_within_97 ?_
              refine r_cT (pc := 98) (rest := []) (runS [.int (gI s2 25 i7.toNatClampNeg), .int (gI s2 25 i11.toNatClampNeg)] hC (c_M_isWithin (kl κ) (kW κ) hC.2.2.2.2.2.2.2.2.1 (gI s2 25 i7.toNatClampNeg) (gI s2 25 i11.toNatClampNeg) s2) o_X10_isWithin k_1236 (rm_ok hR rfl) rfl (Nat.le_of_ble_eq_true rfl) dX10_within_98) ?_
              refine r_if_eq (pc := 101) (tgt := 108) hC dX10_within_101 (by decide) ?_ ?_
              · exact hJ108_16
              · refine r_iconst (pc := 104) hC (v := (1 : Int32)) (by decide) dX10_within_104 ?_
                refine r_goto (pc := 105) (tgt := 109) hC dX10_within_105 (by decide) ?_
                exact hJ109_16 (1 : Int32)
      refine w_it2 (fun i17 s18 => s18) (fun i17 s18 => [some (.ref (ad κ 0)), some (.int a1), some (.int i17), none, none, none, none]) (fun self19 ih26_19 i17 s18 => ?_) N (0 : Int32) s1
      unfold M_within_B26
      refine r_iload_n (pc := 26) hC rfl dX10_within_26 ?_
      refine r_bipush (pc := 27) hC (v := (9 : Int32)) (by decide) dX10_within_27 ?_
      refine r_icmp_ge (pc := 29) (tgt := 53) hC dX10_within_29 (by decide) ?_ ?_
      · exact r_wk [true, true, false, false, false, false, false] (hK53_16 s18)
      · refine r_aload_n (pc := 32) hC rfl dX10_within_32 ?_
        refine gM_0_25 (pc := 33) hC k_1062 dX10_within_33 ?_
        refine r_iload_n (pc := 36) hC rfl dX10_within_36 ?_
        refine r_aload_n (pc := 37) hC rfl dX10_within_37 ?_
        refine r_iload_n (pc := 38) hC rfl dX10_within_38 ?_
        refine r_aload_n (pc := 39) hC rfl dX10_within_39 ?_
        refine r_cT (pc := 40) (rest := [.int i17, .ref (ad κ 0), .int i17, .ref (ad κ 19)]) (runV [] hC (c_M_all (kl κ) (kW κ) hC.2.2.2.2.2.2.2.2.1 s18) o_X10_all k_1228 (q0 := 0) (ci := 10) rfl rfl (rm_ok hR rfl) rfl (Nat.le_of_ble_eq_true rfl) dX10_within_40) ?_
        refine r_cOM (pc := 43) (rest := [.int i17, .ref (ad κ 19)]) (fun r21 s20 hf => runV [.int i17, .int (t_M_all s18)] hC (c_M_setOf (kl κ) (kW κ) hC.2.2.2.2.2.2.2.2.1 N i17 (t_M_all s18) s18 r21 s20 hf) o_X10_setOf k_1290 (q0 := 0) (ci := 10) rfl rfl (rm_ok hR rfl) rfl (Nat.le_of_ble_eq_true rfl) dX10_within_43) (fun r21 s20 => ?_)
        refine bM_19 (pc := 46) hC dX10_within_46 ?_
        refine r_letm (fun s22 => ?_)
        refine r_iinc (pc := 47) hC (v := (1 : Int32)) rfl (by decide) rfl rfl dX10_within_47 ?_
        refine r_goto (pc := 50) (tgt := 26) hC dX10_within_50 (by decide) ?_
        exact ih26_19 (i17 + (1 : Int32)) s22
    · refine r_iconst (pc := 22) hC (v := (-1 : Int32)) (by decide) dX10_within_22 ?_
      exact r_retOM hC rfl dX10_within_23
set_option maxRecDepth 100000 in
set_option maxHeartbeats 4000000 in
theorem c_M_within (l : Launch) (w : Wenv) (hw : okw w wM) (N : Nat) (a1 : Int32) (σ : Mem) (r : Int32) (τ : Mem) (hf : f_M_within N a1 σ = some (r, τ)) : Ctr l w wM yX10_within cX10_within 7 (some .int) 6 133 [.ref (w.2.2.1 0), .int a1] σ (cQi w wM r τ) := mk_ctr (Q := fun κ => qOM κ wM) (lv := [some (.ref (w.2.2.1 0)), some (.int a1), none, none, none, none, none]) (by decide) rfl hw (Nat.le_of_ble_eq_true rfl) rfl hf (fun κ h => by subst h; rfl) (fun κ hl h hR hC => by
    subst h
    exact w_M_within hR hC N a1 σ)
