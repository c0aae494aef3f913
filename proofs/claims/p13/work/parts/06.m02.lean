-- DuelRound$Orders.firsts(I)I (5, None) kind OM
def Or_firsts_B9 (s1 : Mem) (a1 : Int32) (self4 : Int32 → Int32 → Option (Int32 × Mem)) (i2 : Int32) (i3 : Int32) : Option (Int32 × Mem) :=
  if (gI s1 3 0) ≤ i3 then
  (some (i2, s1))
  else
  (ob (f_Or_isFirstOfBest i3 a1 s1) fun r5 =>
  if r5 = (0 : Int32) then
  (self4 i2 (i3 + (1 : Int32)))
  else
  (bnd (i2 ||| ((1 : Int32) <<< (i3 &&& 31))) fun x6 =>
  self4 x6 (i3 + (1 : Int32))))
def f_Or_firsts (N : Nat) (a1 : Int32) (σ : Mem) : Option (Int32 × Mem) :=
  ob (f_Or_measure N a1 σ) fun s1 =>
  it2 (Or_firsts_B9 s1 a1) N (0 : Int32) (0 : Int32)
set_option maxRecDepth 100000 in
set_option maxHeartbeats 4000000 in
theorem w_Or_firsts {κ : Ctx} (hR : kR κ = { frames := 3, cells := 0, slots := 0, locals := 67 }) (hC : ok κ wC cX3_firsts 4 RX3 (some .int)) (N : Nat) (a1 : Int32) (σ : Mem) : wF κ wC 4 (qOM κ wC) σ 0 [some (.ref (ad κ 5)), some (.int a1), none, none] [] (f_Or_firsts N a1 σ) := by
  unfold f_Or_firsts
  refine r_aload_n (pc := 0) hC rfl dX3_firsts_0 ?_
  refine r_iload_n (pc := 1) hC rfl dX3_firsts_1 ?_
  refine r_cM (pc := 2) (rest := []) (fun s1 hf => runV [.int a1] hC (c_Or_measure (kl κ) (kW κ) hC.2.2.2.2.2.2.2.2.1 N a1 σ s1 hf) o_X3_measure k_559 (q0 := 5) (ci := 3) rfl rfl (rm_ok hR rfl) rfl (Nat.le_of_ble_eq_true rfl) dX3_firsts_2) (fun s1 => ?_)
  refine r_iconst (pc := 5) hC (v := (0 : Int32)) (by decide) dX3_firsts_5 ?_
  refine r_istore_n (pc := 6) hC rfl rfl dX3_firsts_6 ?_
  refine r_iconst (pc := 7) hC (v := (0 : Int32)) (by decide) dX3_firsts_7 ?_
  refine r_istore_n (pc := 8) hC rfl rfl dX3_firsts_8 ?_
  refine w_it2 (fun i2 i3 => s1) (fun i2 i3 => [some (.ref (ad κ 5)), some (.int a1), some (.int i2), some (.int i3)]) (fun self4 ih9_4 i2 i3 => ?_) N (0 : Int32) (0 : Int32)
  unfold Or_firsts_B9
  refine r_iload_n (pc := 9) hC rfl dX3_firsts_9 ?_
  refine r_aload_n (pc := 10) hC rfl dX3_firsts_10 ?_
  refine gC_5_0 (pc := 11) hC k_177 dX3_firsts_11 ?_
  refine gC_2_1 (pc := 14) hC k_140 dX3_firsts_14 ?_
  refine r_icmp_ge (pc := 17) (tgt := 41) hC dX3_firsts_17 (by decide) ?_ ?_
  · refine r_iload_n (pc := 41) hC rfl dX3_firsts_41 ?_
    exact r_retOM hC rfl dX3_firsts_42
  · refine r_aload_n (pc := 20) hC rfl dX3_firsts_20 ?_
    refine r_iload_n (pc := 21) hC rfl dX3_firsts_21 ?_
    refine r_iload_n (pc := 22) hC rfl dX3_firsts_22 ?_
    refine r_cO (pc := 23) (rest := []) (fun r5 hf => runV [.int i3, .int a1] hC (c_Or_isFirstOfBest (kl κ) (kW κ) hC.2.2.2.2.2.2.2.2.1 i3 a1 s1 r5 hf) o_X3_isFirstOfBest k_569 (q0 := 5) (ci := 3) rfl rfl (rm_ok hR rfl) rfl (Nat.le_of_ble_eq_true rfl) dX3_firsts_23) (fun r5 => ?_)
    refine r_if_eq (pc := 26) (tgt := 35) hC dX3_firsts_26 (by decide) ?_ ?_
    · refine r_iinc (pc := 35) hC (v := (1 : Int32)) rfl (by decide) rfl rfl dX3_firsts_35 ?_
      refine r_goto (pc := 38) (tgt := 9) hC dX3_firsts_38 (by decide) ?_
      exact ih9_4 i2 (i3 + (1 : Int32))
    · refine r_iload_n (pc := 29) hC rfl dX3_firsts_29 ?_
      refine r_iconst (pc := 30) hC (v := (1 : Int32)) (by decide) dX3_firsts_30 ?_
      refine r_iload_n (pc := 31) hC rfl dX3_firsts_31 ?_
      refine r_ishl (pc := 32) hC dX3_firsts_32 ?_
      refine r_ior (pc := 33) hC dX3_firsts_33 ?_
      refine r_let (fun x6 => ?_)
      refine r_istore_n (pc := 34) hC rfl rfl dX3_firsts_34 ?_
      refine r_iinc (pc := 35) hC (v := (1 : Int32)) rfl (by decide) rfl rfl dX3_firsts_35 ?_
      refine r_goto (pc := 38) (tgt := 9) hC dX3_firsts_38 (by decide) ?_
      exact ih9_4 x6 (i3 + (1 : Int32))
set_option maxRecDepth 100000 in
set_option maxHeartbeats 4000000 in
theorem c_Or_firsts (l : Launch) (w : Wenv) (hw : okw w wC) (N : Nat) (a1 : Int32) (σ : Mem) (r : Int32) (τ : Mem) (hf : f_Or_firsts N a1 σ = some (r, τ)) : Ctr l w wC yX3_firsts cX3_firsts 4 (some .int) 3 67 [.ref (w.2.2.1 5), .int a1] σ (cQi w wC r τ) := mk_ctr (Q := fun κ => qOM κ wC) (lv := [some (.ref (w.2.2.1 5)), some (.int a1), none, none]) (by decide) rfl hw (Nat.le_of_ble_eq_true rfl) rfl hf (fun κ h => by subst h; rfl) (fun κ hl h hR hC => by
    subst h
    exact w_Or_firsts hR hC N a1 σ)
-- DuelRound$Sets.banks(I)I (8, None) kind OM
def Se_banks_B4 (N : Nat) (a1 : Int32) (self4 : Int32 → Int32 → Mem → Option (Int32 × Mem)) (i1 : Int32) (i2 : Int32) (s3 : Mem) : Option (Int32 × Mem) :=
  if (gI s3 3 0) ≤ i2 then
  (some (i1, s3))
  else
  (if (t_D_bitOf a1 i2) = (1 : Int32) then
  (ob2 (f_Se_leastChain N i2 a1 s3) fun r6 s5 =>
  if r6 ≤ (0 : Int32) then
  (self4 i1 (i2 + (1 : Int32)) s5)
  else
  (bnd (i1 ||| ((1 : Int32) <<< (i2 &&& 31))) fun x7 =>
  self4 x7 (i2 + (1 : Int32)) s5))
  else
  (self4 i1 (i2 + (1 : Int32)) s3))
def f_Se_banks (N : Nat) (a1 : Int32) (σ : Mem) : Option (Int32 × Mem) :=
  it3 (Se_banks_B4 N a1) N (0 : Int32) (0 : Int32) σ
set_option maxRecDepth 100000 in
set_option maxHeartbeats 4000000 in
theorem w_Se_banks {κ : Ctx} (hR : kR κ = { frames := 13, cells := 0, slots := 0, locals := 319 }) (hC : ok κ wC cX6_banks 4 RX6 (some .int)) (N : Nat) (a1 : Int32) (σ : Mem) : wF κ wC 4 (qOM κ wC) σ 0 [some (.ref (ad κ 8)), some (.int a1), none, none] [] (f_Se_banks N a1 σ) := by
  unfold f_Se_banks
  refine r_iconst (pc := 0) hC (v := (0 : Int32)) (by decide) dX6_banks_0 ?_
  refine r_istore_n (pc := 1) hC rfl rfl dX6_banks_1 ?_
  refine r_iconst (pc := 2) hC (v := (0 : Int32)) (by decide) dX6_banks_2 ?_
  refine r_istore_n (pc := 3) hC rfl rfl dX6_banks_3 ?_
  refine w_it3 (fun i1 i2 s3 => s3) (fun i1 i2 s3 => [some (.ref (ad κ 8)), some (.int a1), some (.int i1), some (.int i2)]) (fun self4 ih4_4 i1 i2 s3 => ?_) N (0 : Int32) (0 : Int32) σ
  unfold Se_banks_B4
  refine r_iload_n (pc := 4) hC rfl dX6_banks_4 ?_
  refine r_aload_n (pc := 5) hC rfl dX6_banks_5 ?_
  refine gC_8_0 (pc := 6) hC k_224 dX6_banks_6 ?_
  refine gC_2_1 (pc := 9) hC k_141 dX6_banks_9 ?_
  refine r_icmp_ge (pc := 12) (tgt := 45) hC dX6_banks_12 (by decide) ?_ ?_
  · refine r_iload_n (pc := 45) hC rfl dX6_banks_45 ?_
    exact r_retOM hC rfl dX6_banks_46
  · refine r_iload_n (pc := 15) hC rfl dX6_banks_15 ?_
    refine r_iload_n (pc := 16) hC rfl dX6_banks_16 ?_
    refine r_cT (pc := 17) (rest := []) (runSN [.int a1, .int i2] hC (c_D_bitOf (kl κ) (kW κ) hC.2.2.2.2.2.2.2.2.1 a1 i2 s3) o_X9_bitOf (k_509 hC.2.2.2.2.2.2.2.2.2) (rm_ok hR rfl) rfl (Nat.le_of_ble_eq_true rfl) dX6_banks_17) ?_
    refine r_iconst (pc := 20) hC (v := (1 : Int32)) (by decide) dX6_banks_20 ?_
    refine r_icmp_ne (pc := 21) (tgt := 39) hC dX6_banks_21 (by decide) ?_ ?_
    · refine r_iinc (pc := 39) hC (v := (1 : Int32)) rfl (by decide) rfl rfl dX6_banks_39 ?_
      refine r_goto (pc := 42) (tgt := 4) hC dX6_banks_42 (by decide) ?_
      exact ih4_4 i1 (i2 + (1 : Int32)) s3
    · refine r_aload_n (pc := 24) hC rfl dX6_banks_24 ?_
      refine r_iload_n (pc := 25) hC rfl dX6_banks_25 ?_
      refine r_iload_n (pc := 26) hC rfl dX6_banks_26 ?_
      refine r_cOM (pc := 27) (rest := []) (fun r6 s5 hf => runV [.int i2, .int a1] hC (c_Se_leastChain (kl κ) (kW κ) hC.2.2.2.2.2.2.2.2.1 N i2 a1 s3 r6 s5 hf) o_X6_leastChain k_547 (q0 := 8) (ci := 6) rfl rfl (rm_ok hR rfl) rfl (Nat.le_of_ble_eq_true rfl) dX6_banks_27) (fun r6 s5 => ?_)
      refine r_if_le (pc := 30) (tgt := 39) hC dX6_banks_30 (by decide) ?_ ?_
      · refine r_iinc (pc := 39) hC (v := (1 : Int32)) rfl (by decide) rfl rfl dX6_banks_39 ?_
        refine r_goto (pc := 42) (tgt := 4) hC dX6_banks_42 (by decide) ?_
        exact ih4_4 i1 (i2 + (1 : Int32)) s5
      · refine r_iload_n (pc := 33) hC rfl dX6_banks_33 ?_
        refine r_iconst (pc := 34) hC (v := (1 : Int32)) (by decide) dX6_banks_34 ?_
        refine r_iload_n (pc := 35) hC rfl dX6_banks_35 ?_
        refine r_ishl (pc := 36) hC dX6_banks_36 ?_
        refine r_ior (pc := 37) hC dX6_banks_37 ?_
        refine r_let (fun x7 => ?_)
        refine r_istore_n (pc := 38) hC rfl rfl dX6_banks_38 ?_
        refine r_iinc (pc := 39) hC (v := (1 : Int32)) rfl (by decide) rfl rfl dX6_banks_39 ?_
        refine r_goto (pc := 42) (tgt := 4) hC dX6_banks_42 (by decide) ?_
        exact ih4_4 x7 (i2 + (1 : Int32)) s5
set_option maxRecDepth 100000 in
set_option maxHeartbeats 4000000 in
theorem c_Se_banks (l : Launch) (w : Wenv) (hw : okw w wC) (N : Nat) (a1 : Int32) (σ : Mem) (r : Int32) (τ : Mem) (hf : f_Se_banks N a1 σ = some (r, τ)) : Ctr l w wC yX6_banks cX6_banks 4 (some .int) 13 319 [.ref (w.2.2.1 8), .int a1] σ (cQi w wC r τ) := mk_ctr (Q := fun κ => qOM κ wC) (lv := [some (.ref (w.2.2.1 8)), some (.int a1), none, none]) (by decide) rfl hw (Nat.le_of_ble_eq_true rfl) rfl hf (fun κ h => by subst h; rfl) (fun κ hl h hR hC => by
    subst h
    exact w_Se_banks hR hC N a1 σ)
-- DuelRound$Sets.uncovered(I)I (8, None) kind O
def Se_uncovered_B4 (N : Nat) (σ : Mem) (a1 : Int32) (self3 : Int32 → Int32 → Option Int32) (i1 : Int32) (i2 : Int32) : Option Int32 :=
  if (gI σ 3 0) ≤ i2 then
  (some i1)
  else
  (if (t_D_bitOf a1 i2) = (1 : Int32) then
  (ob (f_Se_isCovered N i2 a1 σ) fun r4 =>
  if r4 = (0 : Int32) then
  (bnd (i1 ||| ((1 : Int32) <<< (i2 &&& 31))) fun x5 =>
  self3 x5 (i2 + (1 : Int32)))
  else
  (self3 i1 (i2 + (1 : Int32))))
  else
  (self3 i1 (i2 + (1 : Int32))))
def f_Se_uncovered (N : Nat) (a1 : Int32) (σ : Mem) : Option Int32 :=
  it2 (Se_uncovered_B4 N σ a1) N (0 : Int32) (0 : Int32)
set_option maxRecDepth 100000 in
set_option maxHeartbeats 4000000 in
theorem w_Se_uncovered {κ : Ctx} (hR : kR κ = { frames := 2, cells := 0, slots := 0, locals := 47 }) (hC : ok κ wC cX6_uncovered 4 RX6 (some .int)) (N : Nat) (a1 : Int32) (σ : Mem) : wF κ wC 4 (qO κ wC σ) σ 0 [some (.ref (ad κ 8)), some (.int a1), none, none] [] (f_Se_uncovered N a1 σ) := by
  unfold f_Se_uncovered
  refine r_iconst (pc := 0) hC (v := (0 : Int32)) (by decide) dX6_uncovered_0 ?_
  refine r_istore_n (pc := 1) hC rfl rfl dX6_uncovered_1 ?_
  refine r_iconst (pc := 2) hC (v := (0 : Int32)) (by decide) dX6_uncovered_2 ?_
  refine r_istore_n (pc := 3) hC rfl rfl dX6_uncovered_3 ?_
  refine w_it2 (fun i1 i2 => σ) (fun i1 i2 => [some (.ref (ad κ 8)), some (.int a1), some (.int i1), some (.int i2)]) (fun self3 ih4_3 i1 i2 => ?_) N (0 : Int32) (0 : Int32)
  unfold Se_uncovered_B4
  refine r_iload_n (pc := 4) hC rfl dX6_uncovered_4 ?_
  refine r_aload_n (pc := 5) hC rfl dX6_uncovered_5 ?_
  refine gC_8_0 (pc := 6) hC k_224 dX6_uncovered_6 ?_
  refine gC_2_1 (pc := 9) hC k_141 dX6_uncovered_9 ?_
  refine r_icmp_ge (pc := 12) (tgt := 45) hC dX6_uncovered_12 (by decide) ?_ ?_
  · refine r_iload_n (pc := 45) hC rfl dX6_uncovered_45 ?_
    exact r_retO hC rfl dX6_uncovered_46
  · refine r_iload_n (pc := 15) hC rfl dX6_uncovered_15 ?_
    refine r_iload_n (pc := 16) hC rfl dX6_uncovered_16 ?_
    refine r_cT (pc := 17) (rest := []) (runSN [.int a1, .int i2] hC (c_D_bitOf (kl κ) (kW κ) hC.2.2.2.2.2.2.2.2.1 a1 i2 σ) o_X9_bitOf (k_509 hC.2.2.2.2.2.2.2.2.2) (rm_ok hR rfl) rfl (Nat.le_of_ble_eq_true rfl) dX6_uncovered_17) ?_
    refine r_iconst (pc := 20) hC (v := (1 : Int32)) (by decide) dX6_uncovered_20 ?_
    refine r_icmp_ne (pc := 21) (tgt := 39) hC dX6_uncovered_21 (by decide) ?_ ?_
    · refine r_iinc (pc := 39) hC (v := (1 : Int32)) rfl (by decide) rfl rfl dX6_uncovered_39 ?_
      refine r_goto (pc := 42) (tgt := 4) hC dX6_uncovered_42 (by decide) ?_
      exact ih4_3 i1 (i2 + (1 : Int32))
    · refine r_aload_n (pc := 24) hC rfl dX6_uncovered_24 ?_
      refine r_iload_n (pc := 25) hC rfl dX6_uncovered_25 ?_
      refine r_iload_n (pc := 26) hC rfl dX6_uncovered_26 ?_
      refine r_cO (pc := 27) (rest := []) (fun r4 hf => runV [.int i2, .int a1] hC (c_Se_isCovered (kl κ) (kW κ) hC.2.2.2.2.2.2.2.2.1 N i2 a1 σ r4 hf) o_X6_isCovered k_531 (q0 := 8) (ci := 6) rfl rfl (rm_ok hR rfl) rfl (Nat.le_of_ble_eq_true rfl) dX6_uncovered_27) (fun r4 => ?_)
      refine r_if_ne (pc := 30) (tgt := 39) hC dX6_uncovered_30 (by decide) ?_ ?_
      · refine r_iinc (pc := 39) hC (v := (1 : Int32)) rfl (by decide) rfl rfl dX6_uncovered_39 ?_
        refine r_goto (pc := 42) (tgt := 4) hC dX6_uncovered_42 (by decide) ?_
        exact ih4_3 i1 (i2 + (1 : Int32))
      · refine r_iload_n (pc := 33) hC rfl dX6_uncovered_33 ?_
        refine r_iconst (pc := 34) hC (v := (1 : Int32)) (by decide) dX6_uncovered_34 ?_
        refine r_iload_n (pc := 35) hC rfl dX6_uncovered_35 ?_
        refine r_ishl (pc := 36) hC dX6_uncovered_36 ?_
        refine r_ior (pc := 37) hC dX6_uncovered_37 ?_
        refine r_let (fun x5 => ?_)
        refine r_istore_n (pc := 38) hC rfl rfl dX6_uncovered_38 ?_
        refine r_iinc (pc := 39) hC (v := (1 : Int32)) rfl (by decide) rfl rfl dX6_uncovered_39 ?_
        refine r_goto (pc := 42) (tgt := 4) hC dX6_uncovered_42 (by decide) ?_
        exact ih4_3 x5 (i2 + (1 : Int32))
set_option maxRecDepth 100000 in
set_option maxHeartbeats 4000000 in
theorem c_Se_uncovered (l : Launch) (w : Wenv) (hw : okw w wC) (N : Nat) (a1 : Int32) (σ : Mem) (r : Int32) (hf : f_Se_uncovered N a1 σ = some r) : Ctr l w wC yX6_uncovered cX6_uncovered 4 (some .int) 2 47 [.ref (w.2.2.1 8), .int a1] σ (cQi w wC r σ) := mk_ctr (Q := fun κ => qO κ wC σ) (lv := [some (.ref (w.2.2.1 8)), some (.int a1), none, none]) (by decide) rfl hw (Nat.le_of_ble_eq_true rfl) rfl hf (fun κ h => by subst h; rfl) (fun κ hl h hR hC => by
    subst h
    exact w_Se_uncovered hR hC N a1 σ)
-- DuelRound$Sets.uncoveredAgain(I)I (8, None) kind O
def Se_uncoveredAgain_B4 (N : Nat) (σ : Mem) (self3 : Int32 → Int32 → Option Int32) (i1 : Int32) (i2 : Int32) : Option Int32 :=
  if (8 : Int32) ≤ i2 then
  (some i1)
  else
  (ob (f_Se_uncovered N i1 σ) fun r4 =>
  self3 r4 (i2 + (1 : Int32)))
def f_Se_uncoveredAgain (N : Nat) (a1 : Int32) (σ : Mem) : Option Int32 :=
  it2 (Se_uncoveredAgain_B4 N σ) N a1 (0 : Int32)
set_option maxRecDepth 100000 in
set_option maxHeartbeats 4000000 in
theorem w_Se_uncoveredAgain {κ : Ctx} (hR : kR κ = { frames := 3, cells := 0, slots := 0, locals := 70 }) (hC : ok κ wC cX6_uncoveredAgain 4 RX6 (some .int)) (N : Nat) (a1 : Int32) (σ : Mem) : wF κ wC 4 (qO κ wC σ) σ 0 [some (.ref (ad κ 8)), some (.int a1), none, none] [] (f_Se_uncoveredAgain N a1 σ) := by
  unfold f_Se_uncoveredAgain
  refine r_iload_n (pc := 0) hC rfl dX6_uncoveredAgain_0 ?_
  refine r_istore_n (pc := 1) hC rfl rfl dX6_uncoveredAgain_1 ?_
  refine r_iconst (pc := 2) hC (v := (0 : Int32)) (by decide) dX6_uncoveredAgain_2 ?_
  refine r_istore_n (pc := 3) hC rfl rfl dX6_uncoveredAgain_3 ?_
  refine r_wk [true, false, true, true] (w_it2 (fun i1 i2 => σ) (fun i1 i2 => [some (.ref (ad κ 8)), none, some (.int i1), some (.int i2)]) (fun self3 ih4_3 i1 i2 => ?_) N a1 (0 : Int32))
  unfold Se_uncoveredAgain_B4
  refine r_iload_n (pc := 4) hC rfl dX6_uncoveredAgain_4 ?_
  refine r_bipush (pc := 5) hC (v := (8 : Int32)) (by decide) dX6_uncoveredAgain_5 ?_
  refine r_icmp_ge (pc := 7) (tgt := 22) hC dX6_uncoveredAgain_7 (by decide) ?_ ?_
  · refine r_iload_n (pc := 22) hC rfl dX6_uncoveredAgain_22 ?_
    exact r_retO hC rfl dX6_uncoveredAgain_23
  · refine r_aload_n (pc := 10) hC rfl dX6_uncoveredAgain_10 ?_
    refine r_iload_n (pc := 11) hC rfl dX6_uncoveredAgain_11 ?_
    refine r_cO (pc := 12) (rest := []) (fun r4 hf => runV [.int i1] hC (c_Se_uncovered (kl κ) (kW κ) hC.2.2.2.2.2.2.2.2.1 N i1 σ r4 hf) o_X6_uncovered k_527 (q0 := 8) (ci := 6) rfl rfl (rm_ok hR rfl) rfl (Nat.le_of_ble_eq_true rfl) dX6_uncoveredAgain_12) (fun r4 => ?_)
    refine r_istore_n (pc := 15) hC rfl rfl dX6_uncoveredAgain_15 ?_
    refine r_iinc (pc := 16) hC (v := (1 : Int32)) rfl (by decide) rfl rfl dX6_uncoveredAgain_16 ?_
    refine r_goto (pc := 19) (tgt := 4) hC dX6_uncoveredAgain_19 (by decide) ?_
    exact ih4_3 r4 (i2 + (1 : Int32))
set_option maxRecDepth 100000 in
set_option maxHeartbeats 4000000 in
theorem c_Se_uncoveredAgain (l : Launch) (w : Wenv) (hw : okw w wC) (N : Nat) (a1 : Int32) (σ : Mem) (r : Int32) (hf : f_Se_uncoveredAgain N a1 σ = some r) : Ctr l w wC yX6_uncoveredAgain cX6_uncoveredAgain 4 (some .int) 3 70 [.ref (w.2.2.1 8), .int a1] σ (cQi w wC r σ) := mk_ctr (Q := fun κ => qO κ wC σ) (lv := [some (.ref (w.2.2.1 8)), some (.int a1), none, none]) (by decide) rfl hw (Nat.le_of_ble_eq_true rfl) rfl hf (fun κ h => by subst h; rfl) (fun κ hl h hR hC => by
    subst h
    exact w_Se_uncoveredAgain hR hC N a1 σ)
-- DuelRound$Sets.most(I)I (8, None) kind O
def Se_most_J59 (i3 : Int32) (x5 : Int32) (self4 : Int32 → Int32 → Int32 → Option Int32) (y6 : Int32) (y7 : Int32) : Option Int32 :=
  if x5 = y6 then
  (bnd (y7 ||| ((1 : Int32) <<< (i3 &&& 31))) fun x8 =>
  self4 y6 x8 (i3 + (1 : Int32)))
  else
  (self4 y6 y7 (i3 + (1 : Int32)))
def Se_most_B7 (σ : Mem) (a1 : Int32) (self4 : Int32 → Int32 → Int32 → Option Int32) (i1 : Int32) (i2 : Int32) (i3 : Int32) : Option Int32 :=
  if (gI σ 3 0) ≤ i3 then
  (some i2)
  else
  (if (t_D_bitOf a1 i3) = (0 : Int32) then
  (self4 i1 i2 (i3 + (1 : Int32)))
  else
  (gd (inb i3 8) (bnd (t_J_bitCount ((gI σ 13 i3.toNatClampNeg) &&& a1)) fun x5 =>
  if x5 ≤ i1 then
  (Se_most_J59 i3 x5 self4 i1 i2)
  else
  (Se_most_J59 i3 x5 self4 x5 (0 : Int32)))))
def f_Se_most (N : Nat) (a1 : Int32) (σ : Mem) : Option Int32 :=
  it3 (Se_most_B7 σ a1) N (-1 : Int32) (0 : Int32) (0 : Int32)
set_option maxRecDepth 100000 in
set_option maxHeartbeats 4000000 in
theorem w_Se_most {κ : Ctx} (hR : kR κ = { frames := 1, cells := 0, slots := 0, locals := 21 }) (hC : ok κ wC cX6_most 6 RX6 (some .int)) (N : Nat) (a1 : Int32) (σ : Mem) : wF κ wC 6 (qO κ wC σ) σ 0 [some (.ref (ad κ 8)), some (.int a1), none, none, none, none] [] (f_Se_most N a1 σ) := by
  unfold f_Se_most
  refine r_iconst (pc := 0) hC (v := (-1 : Int32)) (by decide) dX6_most_0 ?_
  refine r_istore_n (pc := 1) hC rfl rfl dX6_most_1 ?_
  refine r_iconst (pc := 2) hC (v := (0 : Int32)) (by decide) dX6_most_2 ?_
  refine r_istore_n (pc := 3) hC rfl rfl dX6_most_3 ?_
  refine r_iconst (pc := 4) hC (v := (0 : Int32)) (by decide) dX6_most_4 ?_
  refine r_istore (pc := 5) hC rfl rfl dX6_most_5 ?_
  refine w_it3 (fun i1 i2 i3 => σ) (fun i1 i2 i3 => [some (.ref (ad κ 8)), some (.int a1), some (.int i1), some (.int i2), some (.int i3), none]) (fun self4 ih7_4 i1 i2 i3 => ?_) N (-1 : Int32) (0 : Int32) (0 : Int32)
  unfold Se_most_B7
  refine r_iload (pc := 7) hC rfl dX6_most_7 ?_
  refine r_aload_n (pc := 9) hC rfl dX6_most_9 ?_
  refine gC_8_0 (pc := 10) hC k_224 dX6_most_10 ?_
  refine gC_2_1 (pc := 13) hC k_141 dX6_most_13 ?_
  refine r_icmp_ge (pc := 16) (tgt := 78) hC dX6_most_16 (by decide) ?_ ?_
  · refine r_iload_n (pc := 78) hC rfl dX6_most_78 ?_
    exact r_retO hC rfl dX6_most_79
  · refine r_iload_n (pc := 19) hC rfl dX6_most_19 ?_
    refine r_iload (pc := 20) hC rfl dX6_most_20 ?_
    refine r_cT (pc := 22) (rest := []) (runSN [.int a1, .int i3] hC (c_D_bitOf (kl κ) (kW κ) hC.2.2.2.2.2.2.2.2.1 a1 i3 σ) o_X9_bitOf (k_509 hC.2.2.2.2.2.2.2.2.2) (rm_ok hR rfl) rfl (Nat.le_of_ble_eq_true rfl) dX6_most_22) ?_
    refine r_if_ne (pc := 25) (tgt := 31) hC dX6_most_25 (by decide) ?_ ?_
    · refine r_aload_n (pc := 31) hC rfl dX6_most_31 ?_
      refine gC_8_0 (pc := 32) hC k_224 dX6_most_32 ?_
      refine gC_2_0 (pc := 35) hC k_134 dX6_most_35 ?_
      refine r_iload (pc := 38) hC rfl dX6_most_38 ?_
      refine aC_13 (pc := 40) hC dX6_most_40 ?_
      refine r_iload_n (pc := 41) hC rfl dX6_most_41 ?_
      refine r_iand (pc := 42) hC dX6_most_42 ?_
      refine r_cT (pc := 43) (rest := []) (runS [.int ((gI σ 13 i3.toNatClampNeg) &&& a1)] hC (c_J_bitCount (kl κ) (kW κ) hC.2.2.2.2.2.2.2.2.1 ((gI σ 13 i3.toNatClampNeg) &&& a1) σ) o_J6_bitCount_0f7a4 k_526 (rm_ok hR rfl) rfl (Nat.le_of_ble_eq_true rfl) dX6_most_43) ?_
      refine r_let (fun x5 => ?_)
      refine r_istore (pc := 46) hC rfl rfl dX6_most_46 ?_
      refine r_iload (pc := 48) hC rfl dX6_most_48 ?_
      refine r_iload_n (pc := 50) hC rfl dX6_most_50 ?_
      have hJ59_8 : ∀ (y6 : Int32) (y7 : Int32), wF κ wC 6 (qO κ wC σ) σ 59 [some (.ref (ad κ 8)), some (.int a1), some (.int y6), some (.int y7), some (.int i3), some (.int x5)] [] (Se_most_J59 i3 x5 self4 y6 y7) := by
        intro y6 y7
        unfold Se_most_J59
        refine r_iload (pc := 59) hC rfl dX6_most_59 ?_
        refine r_iload_n (pc := 61) hC rfl dX6_most_61 ?_
        refine r_icmp_ne (pc := 62) (tgt := 72) hC dX6_most_62 (by decide) ?_ ?_
        · refine r_iinc (pc := 72) hC (v := (1 : Int32)) rfl (by decide) rfl rfl dX6_most_72 ?_
          refine r_goto (pc := 75) (tgt := 7) hC dX6_most_75 (by decide) ?_
          exact r_wk [true, true, true, true, true, false] (ih7_4 y6 y7 (i3 + (1 : Int32)))
        · refine r_iload_n (pc := 65) hC rfl dX6_most_65 ?_
          refine r_iconst (pc := 66) hC (v := (1 : Int32)) (by decide) dX6_most_66 ?_
          refine r_iload (pc := 67) hC rfl dX6_most_67 ?_
          refine r_ishl (pc := 69) hC dX6_most_69 ?_
          refine r_ior (pc := 70) hC dX6_most_70 ?_
          refine r_let (fun x8 => ?_)
          refine r_istore_n (pc := 71) hC rfl rfl dX6_most_71 ?_
          refine r_iinc (pc := 72) hC (v := (1 : Int32)) rfl (by decide) rfl rfl dX6_most_72 ?_
          refine r_goto (pc := 75) (tgt := 7) hC dX6_most_75 (by decide) ?_
          exact r_wk [true, true, true, true, true, false] (ih7_4 y6 x8 (i3 + (1 : Int32)))
      refine r_icmp_le (pc := 51) (tgt := 59) hC dX6_most_51 (by decide) ?_ ?_
      · exact hJ59_8 i1 i2
      · refine r_iload (pc := 54) hC rfl dX6_most_54 ?_
        refine r_istore_n (pc := 56) hC rfl rfl dX6_most_56 ?_
        refine r_iconst (pc := 57) hC (v := (0 : Int32)) (by decide) dX6_most_57 ?_
        refine r_istore_n (pc := 58) hC rfl rfl dX6_most_58 ?_
        exact hJ59_8 x5 (0 : Int32)
    · refine r_goto (pc := 28) (tgt := 72) hC dX6_most_28 (by decide) ?_
      refine r_iinc (pc := 72) hC (v := (1 : Int32)) rfl (by decide) rfl rfl dX6_most_72 ?_
      refine r_goto (pc := 75) (tgt := 7) hC dX6_most_75 (by decide) ?_
      exact ih7_4 i1 i2 (i3 + (1 : Int32))
set_option maxRecDepth 100000 in
set_option maxHeartbeats 4000000 in
theorem c_Se_most (l : Launch) (w : Wenv) (hw : okw w wC) (N : Nat) (a1 : Int32) (σ : Mem) (r : Int32) (hf : f_Se_most N a1 σ = some r) : Ctr l w wC yX6_most cX6_most 6 (some .int) 1 21 [.ref (w.2.2.1 8), .int a1] σ (cQi w wC r σ) := mk_ctr (Q := fun κ => qO κ wC σ) (lv := [some (.ref (w.2.2.1 8)), some (.int a1), none, none, none, none]) (by decide) rfl hw (Nat.le_of_ble_eq_true rfl) rfl hf (fun κ h => by subst h; rfl) (fun κ hl h hR hC => by
    subst h
    exact w_Se_most hR hC N a1 σ)
-- DuelRound$Sets.top(I)I (8, None) kind OM
def Se_top_K43 (N : Nat) (a1 : Int32) (s1 : Mem) : Option (Int32 × Mem) :=
  ob (f_Se_closeNeeds N (0 : Int32) a1 s1) fun s2 =>
  ob (f_Se_leastClosed N (0 : Int32) a1 s2) fun r3 =>
  some (r3, s2)
def Se_top_B2 (N : Nat) (a1 : Int32) (self6 : Int32 → Mem → Option (Int32 × Mem)) (i4 : Int32) (s5 : Mem) : Option (Int32 × Mem) :=
  if (gI s5 3 0) ≤ i4 then
  (Se_top_K43 N a1 s5)
  else
  (if (t_D_bitOf a1 i4) = (1 : Int32) then
  (ob (f_Du_beatersOfN i4 a1 s5) fun r7 =>
  gd (inb i4 64) (bnd (sI s5 23 i4.toNatClampNeg r7) fun s8 =>
  self6 (i4 + (1 : Int32)) s8))
  else
  (self6 (i4 + (1 : Int32)) s5))
def f_Se_top (N : Nat) (a1 : Int32) (σ : Mem) : Option (Int32 × Mem) :=
  it2 (Se_top_B2 N a1) N (0 : Int32) σ
set_option maxRecDepth 100000 in
set_option maxHeartbeats 4000000 in
theorem w_Se_top {κ : Ctx} (hR : kR κ = { frames := 2, cells := 0, slots := 0, locals := 46 }) (hC : ok κ wC cX6_top 3 RX6 (some .int)) (N : Nat) (a1 : Int32) (σ : Mem) : wF κ wC 3 (qOM κ wC) σ 0 [some (.ref (ad κ 8)), some (.int a1), none] [] (f_Se_top N a1 σ) := by
  unfold f_Se_top
  refine r_iconst (pc := 0) hC (v := (0 : Int32)) (by decide) dX6_top_0 ?_
  refine r_istore_n (pc := 1) hC rfl rfl dX6_top_1 ?_
  have hK43_3 : ∀ (s1 : Mem), wF κ wC 3 (qOM κ wC) s1 43 [some (.ref (ad κ 8)), some (.int a1), none] [] (Se_top_K43 N a1 s1) := by
    intro s1
    unfold Se_top_K43
    refine r_aload_n (pc := 43) hC rfl dX6_top_43 ?_
    refine r_iconst (pc := 44) hC (v := (0 : Int32)) (by decide) dX6_top_44 ?_
    refine r_iload_n (pc := 45) hC rfl dX6_top_45 ?_
    refine r_cM (pc := 46) (rest := []) (fun s2 hf => runV [.int (0 : Int32), .int a1] hC (c_Se_closeNeeds (kl κ) (kW κ) hC.2.2.2.2.2.2.2.2.1 N (0 : Int32) a1 s1 s2 hf) o_X6_closeNeeds k_514 (q0 := 8) (ci := 6) rfl rfl (rm_ok hR rfl) rfl (Nat.le_of_ble_eq_true rfl) dX6_top_46) (fun s2 => ?_)
    refine r_aload_n (pc := 49) hC rfl dX6_top_49 ?_
    refine r_iconst (pc := 50) hC (v := (0 : Int32)) (by decide) dX6_top_50 ?_
    refine r_iload_n (pc := 51) hC rfl dX6_top_51 ?_
    refine r_cO (pc := 52) (rest := []) (fun r3 hf => runV [.int (0 : Int32), .int a1] hC (c_Se_leastClosed (kl κ) (kW κ) hC.2.2.2.2.2.2.2.2.1 N (0 : Int32) a1 s2 r3 hf) o_X6_leastClosed k_518 (q0 := 8) (ci := 6) rfl rfl (rm_ok hR rfl) rfl (Nat.le_of_ble_eq_true rfl) dX6_top_52) (fun r3 => ?_)
    exact r_retOM hC rfl dX6_top_55
  refine w_it2 (fun i4 s5 => s5) (fun i4 s5 => [some (.ref (ad κ 8)), some (.int a1), some (.int i4)]) (fun self6 ih2_6 i4 s5 => ?_) N (0 : Int32) σ
  unfold Se_top_B2
  refine r_iload_n (pc := 2) hC rfl dX6_top_2 ?_
  refine r_aload_n (pc := 3) hC rfl dX6_top_3 ?_
  refine gC_8_0 (pc := 4) hC k_224 dX6_top_4 ?_
  refine gC_2_1 (pc := 7) hC k_141 dX6_top_7 ?_
  refine r_icmp_ge (pc := 10) (tgt := 43) hC dX6_top_10 (by decide) ?_ ?_
  · exact r_wk [true, true, false] (hK43_3 s5)
  · refine r_iload_n (pc := 13) hC rfl dX6_top_13 ?_
    refine r_iload_n (pc := 14) hC rfl dX6_top_14 ?_
    refine r_cT (pc := 15) (rest := []) (runSN [.int a1, .int i4] hC (c_D_bitOf (kl κ) (kW κ) hC.2.2.2.2.2.2.2.2.1 a1 i4 s5) o_X9_bitOf (k_509 hC.2.2.2.2.2.2.2.2.2) (rm_ok hR rfl) rfl (Nat.le_of_ble_eq_true rfl) dX6_top_15) ?_
    refine r_iconst (pc := 18) hC (v := (1 : Int32)) (by decide) dX6_top_18 ?_
    refine r_icmp_ne (pc := 19) (tgt := 37) hC dX6_top_19 (by decide) ?_ ?_
    · refine r_iinc (pc := 37) hC (v := (1 : Int32)) rfl (by decide) rfl rfl dX6_top_37 ?_
      refine r_goto (pc := 40) (tgt := 2) hC dX6_top_40 (by decide) ?_
      exact ih2_6 (i4 + (1 : Int32)) s5
    · refine r_aload_n (pc := 22) hC rfl dX6_top_22 ?_
      refine gC_8_5 (pc := 23) hC k_230 dX6_top_23 ?_
      refine r_iload_n (pc := 26) hC rfl dX6_top_26 ?_
      refine r_aload_n (pc := 27) hC rfl dX6_top_27 ?_
      refine gC_8_0 (pc := 28) hC k_224 dX6_top_28 ?_
      refine r_iload_n (pc := 31) hC rfl dX6_top_31 ?_
      refine r_iload_n (pc := 32) hC rfl dX6_top_32 ?_
      refine r_cO (pc := 33) (rest := [.int i4, .ref (ad κ 23)]) (fun r7 hf => runV [.int i4, .int a1] hC (c_Du_beatersOfN (kl κ) (kW κ) hC.2.2.2.2.2.2.2.2.1 i4 a1 s5 r7 hf) o_X1_beatersOf k_510 (q0 := 2) (ci := 1) rfl rfl (rm_ok hR rfl) rfl (Nat.le_of_ble_eq_true rfl) dX6_top_33) (fun r7 => ?_)
      refine bC_23 (pc := 36) hC dX6_top_36 ?_
      refine r_letm (fun s8 => ?_)
      refine r_iinc (pc := 37) hC (v := (1 : Int32)) rfl (by decide) rfl rfl dX6_top_37 ?_
      refine r_goto (pc := 40) (tgt := 2) hC dX6_top_40 (by decide) ?_
      exact ih2_6 (i4 + (1 : Int32)) s8
set_option maxRecDepth 100000 in
set_option maxHeartbeats 4000000 in
theorem c_Se_top (l : Launch) (w : Wenv) (hw : okw w wC) (N : Nat) (a1 : Int32) (σ : Mem) (r : Int32) (τ : Mem) (hf : f_Se_top N a1 σ = some (r, τ)) : Ctr l w wC yX6_top cX6_top 3 (some .int) 2 46 [.ref (w.2.2.1 8), .int a1] σ (cQi w wC r τ) := mk_ctr (Q := fun κ => qOM κ wC) (lv := [some (.ref (w.2.2.1 8)), some (.int a1), none]) (by decide) rfl hw (Nat.le_of_ble_eq_true rfl) rfl hf (fun κ h => by subst h; rfl) (fun κ hl h hR hC => by
    subst h
    exact w_Se_top hR hC N a1 σ)
-- DuelRound$Sets.ofKind(II)I (8, None, None) kind OM
def f_Se_ofKind (N : Nat) (a1 : Int32) (a2 : Int32) (σ : Mem) : Option (Int32 × Mem) :=
  if a2 = (0 : Int32) then
  (some ((0 : Int32), σ))
  else
  (swc a1 [((0 : Int32), ob2 (f_Se_top N a2 σ) fun r2 s1 =>
  some (r2, s1)),
  ((1 : Int32), ob (f_Se_most N a2 σ) fun r3 =>
  some (r3, σ)),
  ((2 : Int32), ob (f_Se_uncovered N a2 σ) fun r4 =>
  some (r4, σ)),
  ((3 : Int32), ob (f_Se_uncoveredAgain N a2 σ) fun r5 =>
  some (r5, σ)),
  ((4 : Int32), ob2 (f_Se_banks N a2 σ) fun r7 s6 =>
  some (r7, s6)),
  ((5 : Int32), ob2 (f_Or_firsts N a2 σ) fun r9 s8 =>
  some (r9, s8)),
  ((6 : Int32), ob (f_Se_leastCovering N a2 σ) fun r10 =>
  some (r10, σ)),
  ((7 : Int32), ob2 (f_We_balance N a2 σ) fun r12 s11 =>
  some (r12, s11)),
  ((8 : Int32), ob2 (f_Se_keeping N 10 a2 (0 : Int32) σ) fun r14 s13 =>
  some (r14, s13)),
  ((9 : Int32), ob2 (f_Cu_winners N a2 σ) fun r16 s15 =>
  some (r16, s15))]
  (some ((0 : Int32), σ)))
set_option maxRecDepth 100000 in
set_option maxHeartbeats 4000000 in
theorem w_Se_ofKind {κ : Ctx} (hR : kR κ = { frames := 14, cells := 0, slots := 0, locals := 342 }) (hC : ok κ wC cX6_ofKind 3 RX6 (some .int)) (N : Nat) (a1 : Int32) (a2 : Int32) (σ : Mem) : wF κ wC 3 (qOM κ wC) σ 0 [some (.ref (ad κ 8)), some (.int a1), some (.int a2)] [] (f_Se_ofKind N a1 a2 σ) := by
  unfold f_Se_ofKind
  refine r_iload_n (pc := 0) hC rfl dX6_ofKind_0 ?_
  refine r_if_ne (pc := 1) (tgt := 6) hC dX6_ofKind_1 (by decide) ?_ ?_
  · refine r_iload_n (pc := 6) hC rfl dX6_ofKind_6 ?_
    refine r_table (pc := 7) (tg := fun i => ([60, 66, 72, 78, 84, 90, 99, 105, 114, 121] : List Nat).getD i 0) (dt := 130) hC 10 dX6_ofKind_7 (by decide) (by decide) rfl (fun i hi => ?_) ?_
    · rcases (show i = 0 ∨ i = 1 ∨ i = 2 ∨ i = 3 ∨ i = 4 ∨ i = 5 ∨ i = 6 ∨ i = 7 ∨ i = 8 ∨ i = 9 by omega) with rfl | rfl | rfl | rfl | rfl | rfl | rfl | rfl | rfl | rfl
      · refine ⟨_, _, _, rfl, by decide, rfl, by decide, ?_⟩
        refine r_aload_n (pc := 60) hC rfl dX6_ofKind_60 ?_
        refine r_iload_n (pc := 61) hC rfl dX6_ofKind_61 ?_
        refine r_cOM (pc := 62) (rest := []) (fun r2 s1 hf => runV [.int a2] hC (c_Se_top (kl κ) (kW κ) hC.2.2.2.2.2.2.2.2.1 N a2 σ r2 s1 hf) o_X6_top k_505 (q0 := 8) (ci := 6) rfl rfl (rm_ok hR rfl) rfl (Nat.le_of_ble_eq_true rfl) dX6_ofKind_62) (fun r2 s1 => ?_)
        exact r_retOM hC rfl dX6_ofKind_65
      · refine ⟨_, _, _, rfl, by decide, rfl, by decide, ?_⟩
        refine r_aload_n (pc := 66) hC rfl dX6_ofKind_66 ?_
        refine r_iload_n (pc := 67) hC rfl dX6_ofKind_67 ?_
        refine r_cO (pc := 68) (rest := []) (fun r3 hf => runV [.int a2] hC (c_Se_most (kl κ) (kW κ) hC.2.2.2.2.2.2.2.2.1 N a2 σ r3 hf) o_X6_most k_522 (q0 := 8) (ci := 6) rfl rfl (rm_ok hR rfl) rfl (Nat.le_of_ble_eq_true rfl) dX6_ofKind_68) (fun r3 => ?_)
        exact r_retOM hC rfl dX6_ofKind_71
      · refine ⟨_, _, _, rfl, by decide, rfl, by decide, ?_⟩
        refine r_aload_n (pc := 72) hC rfl dX6_ofKind_72 ?_
        refine r_iload_n (pc := 73) hC rfl dX6_ofKind_73 ?_
        refine r_cO (pc := 74) (rest := []) (fun r4 hf => runV [.int a2] hC (c_Se_uncovered (kl κ) (kW κ) hC.2.2.2.2.2.2.2.2.1 N a2 σ r4 hf) o_X6_uncovered k_527 (q0 := 8) (ci := 6) rfl rfl (rm_ok hR rfl) rfl (Nat.le_of_ble_eq_true rfl) dX6_ofKind_74) (fun r4 => ?_)
        exact r_retOM hC rfl dX6_ofKind_77
      · refine ⟨_, _, _, rfl, by decide, rfl, by decide, ?_⟩
        refine r_aload_n (pc := 78) hC rfl dX6_ofKind_78 ?_
        refine r_iload_n (pc := 79) hC rfl dX6_ofKind_79 ?_
        refine r_cO (pc := 80) (rest := []) (fun r5 hf => runV [.int a2] hC (c_Se_uncoveredAgain (kl κ) (kW κ) hC.2.2.2.2.2.2.2.2.1 N a2 σ r5 hf) o_X6_uncoveredAgain k_539 (q0 := 8) (ci := 6) rfl rfl (rm_ok hR rfl) rfl (Nat.le_of_ble_eq_true rfl) dX6_ofKind_80) (fun r5 => ?_)
        exact r_retOM hC rfl dX6_ofKind_83
      · refine ⟨_, _, _, rfl, by decide, rfl, by decide, ?_⟩
        refine r_aload_n (pc := 84) hC rfl dX6_ofKind_84 ?_
        refine r_iload_n (pc := 85) hC rfl dX6_ofKind_85 ?_
        refine r_cOM (pc := 86) (rest := []) (fun r7 s6 hf => runV [.int a2] hC (c_Se_banks (kl κ) (kW κ) hC.2.2.2.2.2.2.2.2.1 N a2 σ r7 s6 hf) o_X6_banks k_543 (q0 := 8) (ci := 6) rfl rfl (rm_ok hR rfl) rfl (Nat.le_of_ble_eq_true rfl) dX6_ofKind_86) (fun r7 s6 => ?_)
        exact r_retOM hC rfl dX6_ofKind_89
      · refine ⟨_, _, _, rfl, by decide, rfl, by decide, ?_⟩
        refine r_aload_n (pc := 90) hC rfl dX6_ofKind_90 ?_
        refine gC_8_1 (pc := 91) hC k_225 dX6_ofKind_91 ?_
        refine r_iload_n (pc := 94) hC rfl dX6_ofKind_94 ?_
        refine r_cOM (pc := 95) (rest := []) (fun r9 s8 hf => runV [.int a2] hC (c_Or_firsts (kl κ) (kW κ) hC.2.2.2.2.2.2.2.2.1 N a2 σ r9 s8 hf) o_X3_firsts k_555 (q0 := 5) (ci := 3) rfl rfl (rm_ok hR rfl) rfl (Nat.le_of_ble_eq_true rfl) dX6_ofKind_95) (fun r9 s8 => ?_)
        exact r_retOM hC rfl dX6_ofKind_98
      · refine ⟨_, _, _, rfl, by decide, rfl, by decide, ?_⟩
        refine r_aload_n (pc := 99) hC rfl dX6_ofKind_99 ?_
        refine r_iload_n (pc := 100) hC rfl dX6_ofKind_100 ?_
        refine r_cO (pc := 101) (rest := []) (fun r10 hf => runV [.int a2] hC (c_Se_leastCovering (kl κ) (kW κ) hC.2.2.2.2.2.2.2.2.1 N a2 σ r10 hf) o_X6_leastCovering k_573 (q0 := 8) (ci := 6) rfl rfl (rm_ok hR rfl) rfl (Nat.le_of_ble_eq_true rfl) dX6_ofKind_101) (fun r10 => ?_)
        exact r_retOM hC rfl dX6_ofKind_104
      · refine ⟨_, _, _, rfl, by decide, rfl, by decide, ?_⟩
        refine r_aload_n (pc := 105) hC rfl dX6_ofKind_105 ?_
        refine gC_8_2 (pc := 106) hC k_226 dX6_ofKind_106 ?_
        refine r_iload_n (pc := 109) hC rfl dX6_ofKind_109 ?_
        refine r_cOM (pc := 110) (rest := []) (fun r12 s11 hf => runV [.int a2] hC (c_We_balance (kl κ) (kW κ) hC.2.2.2.2.2.2.2.2.1 N a2 σ r12 s11 hf) o_X8_balance k_581 (q0 := 6) (ci := 8) rfl rfl (rm_ok hR rfl) rfl (Nat.le_of_ble_eq_true rfl) dX6_ofKind_110) (fun r12 s11 => ?_)
        exact r_retOM hC rfl dX6_ofKind_113
      · refine ⟨_, _, _, rfl, by decide, rfl, by decide, ?_⟩
        refine r_aload_n (pc := 114) hC rfl dX6_ofKind_114 ?_
        refine r_iload_n (pc := 115) hC rfl dX6_ofKind_115 ?_
        refine r_iconst (pc := 116) hC (v := (0 : Int32)) (by decide) dX6_ofKind_116 ?_
        refine r_cOM (pc := 117) (rest := []) (fun r14 s13 hf => runV [.int a2, .int (0 : Int32)] hC (c_Se_keeping (kl κ) (kW κ) hC.2.2.2.2.2.2.2.2.1 N 10 a2 (0 : Int32) σ r14 s13 hf) o_X6_keeping k_619 (q0 := 8) (ci := 6) rfl rfl (rm_ok hR rfl) rfl (Nat.le_of_ble_eq_true rfl) dX6_ofKind_117) (fun r14 s13 => ?_)
        exact r_retOM hC rfl dX6_ofKind_120
      · refine ⟨_, _, _, rfl, by decide, rfl, by decide, ?_⟩
        refine r_aload_n (pc := 121) hC rfl dX6_ofKind_121 ?_
        refine gC_8_3 (pc := 122) hC k_227 dX6_ofKind_122 ?_
        refine r_iload_n (pc := 125) hC rfl dX6_ofKind_125 ?_
        refine r_cOM (pc := 126) (rest := []) (fun r16 s15 hf => runV [.int a2] hC (c_Cu_winners (kl κ) (kW κ) hC.2.2.2.2.2.2.2.2.1 N a2 σ r16 s15 hf) o_X0_winners k_628 (q0 := 7) (ci := 0) rfl rfl (rm_ok hR rfl) rfl (Nat.le_of_ble_eq_true rfl) dX6_ofKind_126) (fun r16 s15 => ?_)
        exact r_retOM hC rfl dX6_ofKind_129
    · refine r_iconst (pc := 130) hC (v := (0 : Int32)) (by decide) dX6_ofKind_130 ?_
      exact r_retOM hC rfl dX6_ofKind_131
  · refine r_iconst (pc := 4) hC (v := (0 : Int32)) (by decide) dX6_ofKind_4 ?_
    exact r_retOM hC rfl dX6_ofKind_5
set_option maxRecDepth 100000 in
set_option maxHeartbeats 4000000 in
theorem c_Se_ofKind (l : Launch) (w : Wenv) (hw : okw w wC) (N : Nat) (a1 : Int32) (a2 : Int32) (σ : Mem) (r : Int32) (τ : Mem) (hf : f_Se_ofKind N a1 a2 σ = some (r, τ)) : Ctr l w wC yX6_ofKind cX6_ofKind 3 (some .int) 14 342 [.ref (w.2.2.1 8), .int a1, .int a2] σ (cQi w wC r τ) := mk_ctr (Q := fun κ => qOM κ wC) (lv := [some (.ref (w.2.2.1 8)), some (.int a1), some (.int a2)]) (by decide) rfl hw (Nat.le_of_ble_eq_true rfl) rfl hf (fun κ h => by subst h; rfl) (fun κ hl h hR hC => by
    subst h
    exact w_Se_ofKind hR hC N a1 a2 σ)
-- DuelRound$Duels.flip(II)V (2, None, None) kind M
def f_Du_flipN (a1 : Int32) (a2 : Int32) (σ : Mem) : Option Mem :=
  gd (inb a1 8) (gd (inb a1 8) (bnd (sI σ 13 a1.toNatClampNeg ((gI σ 13 a1.toNatClampNeg) ^^^ ((1 : Int32) <<< (a2 &&& 31)))) fun s1 =>
  gd (inb a2 8) (gd (inb a2 8) (bnd (sI s1 13 a2.toNatClampNeg ((gI s1 13 a2.toNatClampNeg) ^^^ ((1 : Int32) <<< (a1 &&& 31)))) fun s2 =>
  some s2))))
set_option maxRecDepth 100000 in
set_option maxHeartbeats 4000000 in
theorem w_Du_flipN {κ : Ctx} (hR : kR κ = { frames := 0, cells := 0, slots := 0, locals := 0 }) (hC : ok κ wC cX1_flip 3 RX1 none) (a1 : Int32) (a2 : Int32) (σ : Mem) : wF κ wC 3 (qM κ wC) σ 0 [some (.ref (ad κ 2)), some (.int a1), some (.int a2)] [] (f_Du_flipN a1 a2 σ) := by
  unfold f_Du_flipN
  refine r_aload_n (pc := 0) hC rfl dX1_flip_0 ?_
  refine gC_2_0 (pc := 1) hC k_132 dX1_flip_1 ?_
  refine r_iload_n (pc := 4) hC rfl dX1_flip_4 ?_
  refine r_dup2 (pc := 5) hC rfl rfl dX1_flip_5 ?_
  refine aC_13 (pc := 6) hC dX1_flip_6 ?_
  refine r_iconst (pc := 7) hC (v := (1 : Int32)) (by decide) dX1_flip_7 ?_
  refine r_iload_n (pc := 8) hC rfl dX1_flip_8 ?_
  refine r_ishl (pc := 9) hC dX1_flip_9 ?_
  refine r_ixor (pc := 10) hC dX1_flip_10 ?_
  refine bC_13 (pc := 11) hC dX1_flip_11 ?_
  refine r_letm (fun s1 => ?_)
  refine r_aload_n (pc := 12) hC rfl dX1_flip_12 ?_
  refine gC_2_0 (pc := 13) hC k_132 dX1_flip_13 ?_
  refine r_iload_n (pc := 16) hC rfl dX1_flip_16 ?_
  refine r_dup2 (pc := 17) hC rfl rfl dX1_flip_17 ?_
  refine aC_13 (pc := 18) hC dX1_flip_18 ?_
  refine r_iconst (pc := 19) hC (v := (1 : Int32)) (by decide) dX1_flip_19 ?_
  refine r_iload_n (pc := 20) hC rfl dX1_flip_20 ?_
  refine r_ishl (pc := 21) hC dX1_flip_21 ?_
  refine r_ixor (pc := 22) hC dX1_flip_22 ?_
  refine bC_13 (pc := 23) hC dX1_flip_23 ?_
  refine r_letm (fun s2 => ?_)
  exact r_retM hC dX1_flip_24
set_option maxRecDepth 100000 in
set_option maxHeartbeats 4000000 in
theorem c_Du_flipN (l : Launch) (w : Wenv) (hw : okw w wC) (a1 : Int32) (a2 : Int32) (σ : Mem) (τ : Mem) (hf : f_Du_flipN a1 a2 σ = some τ) : Ctr l w wC yX1_flip cX1_flip 3 none 0 0 [.ref (w.2.2.1 2), .int a1, .int a2] σ (cQv w wC τ) := mk_ctr (Q := fun κ => qM κ wC) (lv := [some (.ref (w.2.2.1 2)), some (.int a1), some (.int a2)]) (by decide) rfl hw (Nat.le_of_ble_eq_true rfl) rfl hf (fun κ h => by subst h; rfl) (fun κ hl h hR hC => by
    subst h
    exact w_Du_flipN hR hC a1 a2 σ)
-- DuelRound.getsInto(IIII)Z (0, None, None, None, None) kind OM
def D_getsInto_B49 (a1 : Int32) (a2 : Int32) (a3 : Int32) (self : Int32 → Int32 → Int32 → Int32 → Mem → Option (Int32 × Mem)) (self5 : Int32 → Mem → Option (Int32 × Mem)) (i3 : Int32) (s4 : Mem) : Option (Int32 × Mem) :=
  if (64 : Int32) ≤ i3 then
  (some ((0 : Int32), s4))
  else
  (bnd (i3 / (8 : Int32)) fun x6 =>
  bnd (i3 - i3 / (8 : Int32) * (8 : Int32)) fun x7 =>
  if x7 ≤ x6 then
  (self5 (i3 + (1 : Int32)) s4)
  else
  (if x7 < (gI s4 3 0) then
  (ob (f_Du_flipN x6 x7 s4) fun s8 =>
  ob2 (self a1 a2 (a3 - (1 : Int32)) (i3 + (1 : Int32)) s8) fun r10 s9 =>
  ob (f_Du_flipN x6 x7 s9) fun s11 =>
  if r10 = (0 : Int32) then
  (self5 (i3 + (1 : Int32)) s11)
  else
  (some ((1 : Int32), s11)))
  else
  (self5 (i3 + (1 : Int32)) s4)))
def D_getsInto_R (N : Nat) (self : Int32 → Int32 → Int32 → Int32 → Mem → Option (Int32 × Mem)) (a1 : Int32) (a2 : Int32) (a3 : Int32) (a4 : Int32) (σ : Mem) : Option (Int32 × Mem) :=
  ob2 (f_D_isTooFar N a1 a2 a3 σ) fun r2 s1 =>
  if r2 = (0 : Int32) then
  (if (0 : Int32) < a3 then
  (it2 (D_getsInto_B49 a1 a2 a3 self) N a4 s1)
  else
  (ob2 (f_Se_ofKind N a2 (t_Du_everybodyN s1) s1) fun r13 s12 =>
  if (t_D_bitOf r13 a1) = (1 : Int32) then
  (some ((1 : Int32), s12))
  else
  (some ((0 : Int32), s12))))
  else
  (some ((0 : Int32), s1))
def f_D_getsInto (N d : Nat) (a1 : Int32) (a2 : Int32) (a3 : Int32) (a4 : Int32) (σ : Mem) : Option (Int32 × Mem) := it5 (D_getsInto_R N) d a1 a2 a3 a4 σ
set_option maxRecDepth 100000 in
set_option maxHeartbeats 4000000 in
theorem w_D_getsInto {κ : Ctx} {d : Nat} (hR : kR κ = { frames := 15 + (d + 1), cells := 0, slots := 0, locals := 364 + (d + 1) * 28 }) (hC : ok κ wC cX9_getsInto 9 RX9 (some .boolean)) (N : Nat) (self : Int32 → Int32 → Int32 → Int32 → Mem → Option (Int32 × Mem)) (hself : ∀ (a1 : Int32) (a2 : Int32) (a3 : Int32) (a4 : Int32) (σ : Mem) (r : Int32) (τ : Mem), self a1 a2 a3 a4 σ = some (r, τ) → Ctr (kl κ) (kW κ) wC yX9_getsInto cX9_getsInto 9 (some .boolean) (15 + d) (364 + d * 28) [.ref ((kW κ).2.2.1 0), .int a1, .int a2, .int a3, .int a4] σ (cQi (kW κ) wC r τ)) (a1 : Int32) (a2 : Int32) (a3 : Int32) (a4 : Int32) (σ : Mem) : wF κ wC 9 (qOM κ wC) σ 0 [some (.ref (ad κ 0)), some (.int a1), some (.int a2), some (.int a3), some (.int a4), none, none, none, none] [] (D_getsInto_R N self a1 a2 a3 a4 σ) := by
  have hRs : 15 + d + 1 ≤ (kR κ).frames ∧ 8 + (9 + 11) + (364 + d * 28) ≤ (kR κ).locals := by rw [hR]; exact ⟨by dsimp only; omega, by dsimp only; omega⟩
  have hRb : 15 ≤ (kR κ).frames ∧ 364 ≤ (kR κ).locals := by rw [hR]; exact ⟨by dsimp only; omega, by dsimp only; omega⟩
  unfold D_getsInto_R
  refine r_aload_n (pc := 0) hC rfl dX9_getsInto_0 ?_
  refine r_iload_n (pc := 1) hC rfl dX9_getsInto_1 ?_
  refine r_iload_n (pc := 2) hC rfl dX9_getsInto_2 ?_
  refine r_iload_n (pc := 3) hC rfl dX9_getsInto_3 ?_
  refine r_cOM (pc := 4) (rest := []) (fun r2 s1 hf => runV [.int a1, .int a2, .int a3] hC (c_D_isTooFar (kl κ) (kW κ) hC.2.2.2.2.2.2.2.2.1 N a1 a2 a3 σ r2 s1 hf) o_X9_isTooFar k_886 (q0 := 0) (ci := 9) rfl rfl (rm_le hRb rfl) rfl (Nat.le_of_ble_eq_true rfl) dX9_getsInto_4) (fun r2 s1 => ?_)
  refine r_if_eq (pc := 7) (tgt := 12) hC dX9_getsInto_7 (by decide) ?_ ?_
  · refine r_iload_n (pc := 12) hC rfl dX9_getsInto_12 ?_
    refine r_if_gt (pc := 13) (tgt := 45) hC dX9_getsInto_13 (by decide) ?_ ?_
    · refine r_iload (pc := 45) hC rfl dX9_getsInto_45 ?_
      refine r_istore (pc := 47) hC rfl rfl dX9_getsInto_47 ?_
      refine r_wk [true, true, true, true, false, true, false, false, false] (w_it2 (fun i3 s4 => s4) (fun i3 s4 => [some (.ref (ad κ 0)), some (.int a1), some (.int a2), some (.int a3), none, some (.int i3), none, none, none]) (fun self5 ih49_5 i3 s4 => ?_) N a4 s1)
      unfold D_getsInto_B49
      refine r_iload (pc := 49) hC rfl dX9_getsInto_49 ?_
      refine r_bipush (pc := 51) hC (v := (64 : Int32)) (by decide) dX9_getsInto_51 ?_
      refine r_icmp_ge (pc := 53) (tgt := 142) hC dX9_getsInto_53 (by decide) ?_ ?_
      · refine r_iconst (pc := 142) hC (v := (0 : Int32)) (by decide) dX9_getsInto_142 ?_
        exact r_retOM hC rfl dX9_getsInto_143
      · refine r_iload (pc := 56) hC rfl dX9_getsInto_56 ?_
        refine r_bipush (pc := 58) hC (v := (8 : Int32)) (by decide) dX9_getsInto_58 ?_
        refine r_idiv (pc := 60) hC (by decide) dX9_getsInto_60 ?_
        refine r_let (fun x6 => ?_)
        refine r_istore (pc := 61) hC rfl rfl dX9_getsInto_61 ?_
        refine r_iload (pc := 63) hC rfl dX9_getsInto_63 ?_
        refine r_bipush (pc := 65) hC (v := (8 : Int32)) (by decide) dX9_getsInto_65 ?_
        refine r_irem (pc := 67) hC (by decide) dX9_getsInto_67 ?_
        refine r_let (fun x7 => ?_)
        refine r_istore (pc := 68) hC rfl rfl dX9_getsInto_68 ?_
        refine r_iload (pc := 70) hC rfl dX9_getsInto_70 ?_
        refine r_iload (pc := 72) hC rfl dX9_getsInto_72 ?_
        refine r_icmp_ge (pc := 74) (tgt := 136) hC dX9_getsInto_74 (by decide) ?_ ?_
        · refine r_iinc (pc := 136) hC (v := (1 : Int32)) rfl (by decide) rfl rfl dX9_getsInto_136 ?_
          refine r_goto (pc := 139) (tgt := 49) hC dX9_getsInto_139 (by decide) ?_
          exact r_wk [true, true, true, true, false, true, false, false, false] (ih49_5 (i3 + (1 : Int32)) s4)
        · refine r_iload (pc := 77) hC rfl dX9_getsInto_77 ?_
          refine r_aload_n (pc := 79) hC rfl dX9_getsInto_79 ?_
          refine gC_0_1 (pc := 80) hC k_312 dX9_getsInto_80 ?_
          refine gC_2_1 (pc := 83) hC k_144 dX9_getsInto_83 ?_
          refine r_icmp_lt (pc := 86) (tgt := 92) hC dX9_getsInto_86 (by decide) ?_ ?_
          · refine r_aload_n (pc := 92) hC rfl dX9_getsInto_92 ?_
            refine gC_0_1 (pc := 93) hC k_312 dX9_getsInto_93 ?_
            refine r_iload (pc := 96) hC rfl dX9_getsInto_96 ?_
            refine r_iload (pc := 98) hC rfl dX9_getsInto_98 ?_
            refine r_cM (pc := 100) (rest := []) (fun s8 hf => runV [.int x6, .int x7] hC (c_Du_flipN (kl κ) (kW κ) hC.2.2.2.2.2.2.2.2.1 x6 x7 s4 s8 hf) o_X1_flip k_470 (q0 := 2) (ci := 1) rfl rfl (rm_le hRb rfl) rfl (Nat.le_of_ble_eq_true rfl) dX9_getsInto_100) (fun s8 => ?_)
            refine r_aload_n (pc := 103) hC rfl dX9_getsInto_103 ?_
            refine r_iload_n (pc := 104) hC rfl dX9_getsInto_104 ?_
            refine r_iload_n (pc := 105) hC rfl dX9_getsInto_105 ?_
            refine r_iload_n (pc := 106) hC rfl dX9_getsInto_106 ?_
            refine r_iconst (pc := 107) hC (v := (1 : Int32)) (by decide) dX9_getsInto_107 ?_
            refine r_isub (pc := 108) hC dX9_getsInto_108 ?_
            refine r_iload (pc := 109) hC rfl dX9_getsInto_109 ?_
            refine r_iconst (pc := 111) hC (v := (1 : Int32)) (by decide) dX9_getsInto_111 ?_
            refine r_iadd (pc := 112) hC dX9_getsInto_112 ?_
            refine r_cOM (pc := 113) (rest := []) (fun r10 s9 hf => runV [.int a1, .int a2, .int (a3 - (1 : Int32)), .int (i3 + (1 : Int32))] hC (hself a1 a2 (a3 - (1 : Int32)) (i3 + (1 : Int32)) s8 r10 s9 hf) o_X9_getsInto k_882 (q0 := 0) (ci := 9) rfl rfl hRs rfl (Nat.le_of_ble_eq_true rfl) dX9_getsInto_113) (fun r10 s9 => ?_)
            refine r_istore (pc := 116) hC rfl rfl dX9_getsInto_116 ?_
            refine r_aload_n (pc := 118) hC rfl dX9_getsInto_118 ?_
            refine gC_0_1 (pc := 119) hC k_312 dX9_getsInto_119 ?_
            refine r_iload (pc := 122) hC rfl dX9_getsInto_122 ?_
            refine r_iload (pc := 124) hC rfl dX9_getsInto_124 ?_
            refine r_cM (pc := 126) (rest := []) (fun s11 hf => runV [.int x6, .int x7] hC (c_Du_flipN (kl κ) (kW κ) hC.2.2.2.2.2.2.2.2.1 x6 x7 s9 s11 hf) o_X1_flip k_470 (q0 := 2) (ci := 1) rfl rfl (rm_le hRb rfl) rfl (Nat.le_of_ble_eq_true rfl) dX9_getsInto_126) (fun s11 => ?_)
            refine r_iload (pc := 129) hC rfl dX9_getsInto_129 ?_
            refine r_if_eq (pc := 131) (tgt := 136) hC dX9_getsInto_131 (by decide) ?_ ?_
            · refine r_iinc (pc := 136) hC (v := (1 : Int32)) rfl (by decide) rfl rfl dX9_getsInto_136 ?_
              refine r_goto (pc := 139) (tgt := 49) hC dX9_getsInto_139 (by decide) ?_
              exact r_wk [true, true, true, true, false, true, false, false, false] (ih49_5 (i3 + (1 : Int32)) s11)
            · refine r_iconst (pc := 134) hC (v := (1 : Int32)) (by decide) dX9_getsInto_134 ?_
              exact r_retOM hC rfl dX9_getsInto_135
          · refine r_goto (pc := 89) (tgt := 136) hC dX9_getsInto_89 (by decide) ?_
            refine r_iinc (pc := 136) hC (v := (1 : Int32)) rfl (by decide) rfl rfl dX9_getsInto_136 ?_
            refine r_goto (pc := 139) (tgt := 49) hC dX9_getsInto_139 (by decide) ?_
            exact r_wk [true, true, true, true, false, true, false, false, false] (ih49_5 (i3 + (1 : Int32)) s4)
    · refine r_aload_n (pc := 16) hC rfl dX9_getsInto_16 ?_
      refine gC_0_7 (pc := 17) hC k_318 dX9_getsInto_17 ?_
      refine r_iload_n (pc := 20) hC rfl dX9_getsInto_20 ?_
      refine r_aload_n (pc := 21) hC rfl dX9_getsInto_21 ?_
      refine gC_0_1 (pc := 22) hC k_312 dX9_getsInto_22 ?_
      refine r_cT (pc := 25) (rest := [.int a2, .ref (ad κ 8)]) (runV [] hC (c_Du_everybodyN (kl κ) (kW κ) hC.2.2.2.2.2.2.2.2.1 s1) o_X1_everybody k_659 (q0 := 2) (ci := 1) rfl rfl (rm_le hRb rfl) rfl (Nat.le_of_ble_eq_true rfl) dX9_getsInto_25) ?_
      refine r_cOM (pc := 28) (rest := []) (fun r13 s12 hf => runV [.int a2, .int (t_Du_everybodyN s1)] hC (c_Se_ofKind (kl κ) (kW κ) hC.2.2.2.2.2.2.2.2.1 N a2 (t_Du_everybodyN s1) s1 r13 s12 hf) o_X6_ofKind k_501 (q0 := 8) (ci := 6) rfl rfl (rm_le hRb rfl) rfl (Nat.le_of_ble_eq_true rfl) dX9_getsInto_28) (fun r13 s12 => ?_)
      refine r_iload_n (pc := 31) hC rfl dX9_getsInto_31 ?_
      refine r_cT (pc := 32) (rest := []) (runS [.int r13, .int a1] hC (c_D_bitOf (kl κ) (kW κ) hC.2.2.2.2.2.2.2.2.1 r13 a1 s12) o_X9_bitOf k_597 (rm_le hRb rfl) rfl (Nat.le_of_ble_eq_true rfl) dX9_getsInto_32) ?_
      refine r_iconst (pc := 35) hC (v := (1 : Int32)) (by decide) dX9_getsInto_35 ?_
      refine r_icmp_ne (pc := 36) (tgt := 43) hC dX9_getsInto_36 (by decide) ?_ ?_
      · refine r_iconst (pc := 43) hC (v := (0 : Int32)) (by decide) dX9_getsInto_43 ?_
        exact r_retOM hC rfl dX9_getsInto_44
      · refine r_iconst (pc := 39) hC (v := (1 : Int32)) (by decide) dX9_getsInto_39 ?_
        refine r_goto (pc := 40) (tgt := 44) hC dX9_getsInto_40 (by decide) ?_
        exact r_retOM hC rfl dX9_getsInto_44
  · refine r_iconst (pc := 10) hC (v := (0 : Int32)) (by decide) dX9_getsInto_10 ?_
    exact r_retOM hC rfl dX9_getsInto_11
set_option maxRecDepth 100000 in
set_option maxHeartbeats 4000000 in
theorem c_D_getsInto (l : Launch) (w : Wenv) (hw : okw w wC) (N : Nat) : ∀ (d : Nat) (a1 : Int32) (a2 : Int32) (a3 : Int32) (a4 : Int32) (σ : Mem) (r : Int32) (τ : Mem) (hf : f_D_getsInto N d a1 a2 a3 a4 σ = some (r, τ)), Ctr l w wC yX9_getsInto cX9_getsInto 9 (some .boolean) (15 + d) (364 + d * 28) [.ref (w.2.2.1 0), .int a1, .int a2, .int a3, .int a4] σ (cQi w wC r τ)
  | 0, a1, a2, a3, a4, σ, r, τ, hf => by cases hf
  | d + 1, a1, a2, a3, a4, σ, r, τ, hf => mk_ctr (Q := fun κ => qOM κ wC) (lv := [some (.ref (w.2.2.1 0)), some (.int a1), some (.int a2), some (.int a3), some (.int a4), none, none, none, none]) (by decide) rfl hw (Nat.le_of_ble_eq_true rfl) rfl hf (fun κ h => by subst h; rfl) (fun κ hl h hR hC => by
      subst h; subst hl
      exact w_D_getsInto hR hC N _ (fun a1 a2 a3 a4 σ r τ h => c_D_getsInto (kl κ) (kW κ) hw N d a1 a2 a3 a4 σ r τ h) a1 a2 a3 a4 σ)
-- DuelRound.fewest(II)I (0, None, None) kind OM
def D_fewest_B22 (N : Nat) (a1 : Int32) (a2 : Int32) (self3 : Int32 → Mem → Option (Int32 × Mem)) (i1 : Int32) (s2 : Mem) : Option (Int32 × Mem) :=
  if (2 : Int32) < i1 then
  (some ((-2 : Int32), s2))
  else
  (ob2 (f_D_getsInto N 10 a1 a2 i1 (0 : Int32) s2) fun r5 s4 =>
  if r5 = (0 : Int32) then
  (self3 (i1 + (1 : Int32)) s4)
  else
  (some (i1, s4)))
def f_D_fewest (N : Nat) (a1 : Int32) (a2 : Int32) (σ : Mem) : Option (Int32 × Mem) :=
  if (t_Du_isPlayerN a1 σ) = (0 : Int32) then
  (some ((-1 : Int32), σ))
  else
  (if (t_D_isKind a2) = (0 : Int32) then
  (some ((-1 : Int32), σ))
  else
  (it2 (D_fewest_B22 N a1 a2) N (0 : Int32) σ))
set_option maxRecDepth 100000 in
set_option maxHeartbeats 4000000 in
theorem w_D_fewest {κ : Ctx} (hR : kR κ = { frames := 26, cells := 0, slots := 0, locals := 672 }) (hC : ok κ wC cX9_fewest 4 RX9 (some .int)) (N : Nat) (a1 : Int32) (a2 : Int32) (σ : Mem) : wF κ wC 4 (qOM κ wC) σ 0 [some (.ref (ad κ 0)), some (.int a1), some (.int a2), none] [] (f_D_fewest N a1 a2 σ) := by
  unfold f_D_fewest
  refine r_aload_n (pc := 0) hC rfl dX9_fewest_0 ?_
  refine gC_0_1 (pc := 1) hC k_312 dX9_fewest_1 ?_
  refine r_iload_n (pc := 4) hC rfl dX9_fewest_4 ?_
  refine r_cT (pc := 5) (rest := []) (runV [.int a1] hC (c_Du_isPlayerN (kl κ) (kW κ) hC.2.2.2.2.2.2.2.2.1 a1 σ) o_X1_isPlayer k_447 (q0 := 2) (ci := 1) rfl rfl (rm_ok hR rfl) rfl (Nat.le_of_ble_eq_true rfl) dX9_fewest_5) ?_
  refine r_if_eq (pc := 8) (tgt := 18) hC dX9_fewest_8 (by decide) ?_ ?_
  · refine r_iconst (pc := 18) hC (v := (-1 : Int32)) (by decide) dX9_fewest_18 ?_
    exact r_retOM hC rfl dX9_fewest_19
  · refine r_iload_n (pc := 11) hC rfl dX9_fewest_11 ?_
    refine r_cT (pc := 12) (rest := []) (runS [.int a2] hC (c_D_isKind (kl κ) (kW κ) hC.2.2.2.2.2.2.2.2.1 a2 σ) o_X9_isKind k_498 (rm_ok hR rfl) rfl (Nat.le_of_ble_eq_true rfl) dX9_fewest_12) ?_
    refine r_if_ne (pc := 15) (tgt := 20) hC dX9_fewest_15 (by decide) ?_ ?_
    · refine r_iconst (pc := 20) hC (v := (0 : Int32)) (by decide) dX9_fewest_20 ?_
      refine r_istore_n (pc := 21) hC rfl rfl dX9_fewest_21 ?_
      refine w_it2 (fun i1 s2 => s2) (fun i1 s2 => [some (.ref (ad κ 0)), some (.int a1), some (.int a2), some (.int i1)]) (fun self3 ih22_3 i1 s2 => ?_) N (0 : Int32) σ
      unfold D_fewest_B22
      refine r_iload_n (pc := 22) hC rfl dX9_fewest_22 ?_
      refine r_iconst (pc := 23) hC (v := (2 : Int32)) (by decide) dX9_fewest_23 ?_
      refine r_icmp_gt (pc := 24) (tgt := 46) hC dX9_fewest_24 (by decide) ?_ ?_
      · refine r_bipush (pc := 46) hC (v := (-2 : Int32)) (by decide) dX9_fewest_46 ?_
        exact r_retOM hC rfl dX9_fewest_48
      · refine r_aload_n (pc := 27) hC rfl dX9_fewest_27 ?_
        refine r_iload_n (pc := 28) hC rfl dX9_fewest_28 ?_
        refine r_iload_n (pc := 29) hC rfl dX9_fewest_29 ?_
        refine r_iload_n (pc := 30) hC rfl dX9_fewest_30 ?_
        refine r_iconst (pc := 31) hC (v := (0 : Int32)) (by decide) dX9_fewest_31 ?_
        refine r_cOM (pc := 32) (rest := []) (fun r5 s4 hf => runV [.int a1, .int a2, .int i1, .int (0 : Int32)] hC (c_D_getsInto (kl κ) (kW κ) hC.2.2.2.2.2.2.2.2.1 N 10 a1 a2 i1 (0 : Int32) s2 r5 s4 hf) o_X9_getsInto k_882 (q0 := 0) (ci := 9) rfl rfl (rm_ok hR rfl) rfl (Nat.le_of_ble_eq_true rfl) dX9_fewest_32) (fun r5 s4 => ?_)
        refine r_if_eq (pc := 35) (tgt := 40) hC dX9_fewest_35 (by decide) ?_ ?_
        · refine r_iinc (pc := 40) hC (v := (1 : Int32)) rfl (by decide) rfl rfl dX9_fewest_40 ?_
          refine r_goto (pc := 43) (tgt := 22) hC dX9_fewest_43 (by decide) ?_
          exact ih22_3 (i1 + (1 : Int32)) s4
        · refine r_iload_n (pc := 38) hC rfl dX9_fewest_38 ?_
          exact r_retOM hC rfl dX9_fewest_39
    · refine r_iconst (pc := 18) hC (v := (-1 : Int32)) (by decide) dX9_fewest_18 ?_
      exact r_retOM hC rfl dX9_fewest_19
set_option maxRecDepth 100000 in
set_option maxHeartbeats 4000000 in
theorem c_D_fewest (l : Launch) (w : Wenv) (hw : okw w wC) (N : Nat) (a1 : Int32) (a2 : Int32) (σ : Mem) (r : Int32) (τ : Mem) (hf : f_D_fewest N a1 a2 σ = some (r, τ)) : Ctr l w wC yX9_fewest cX9_fewest 4 (some .int) 26 672 [.ref (w.2.2.1 0), .int a1, .int a2] σ (cQi w wC r τ) := mk_ctr (Q := fun κ => qOM κ wC) (lv := [some (.ref (w.2.2.1 0)), some (.int a1), some (.int a2), none]) (by decide) rfl hw (Nat.le_of_ble_eq_true rfl) rfl hf (fun κ h => by subst h; rfl) (fun κ hl h hR hC => by
    subst h
    exact w_D_fewest hR hC N a1 a2 σ)
-- DuelRound$Sets.isKeepingSet(II)Z (8, None, None) kind OM
def Se_isKeepingSet_K51 (a1 : Int32) (s1 : Mem) : Option (Int32 × Mem) :=
  if a1 = (0 : Int32) then
  (some ((0 : Int32), s1))
  else
  (some ((1 : Int32), s1))
def Se_isKeepingSet_B2 (N : Nat) (a1 : Int32) (a2 : Int32) (self4 : Int32 → Mem → Option (Int32 × Mem)) (i2 : Int32) (s3 : Mem) : Option (Int32 × Mem) :=
  if (gI s3 3 0) ≤ i2 then
  (Se_isKeepingSet_K51 a1 s3)
  else
  (if (t_D_bitOf a1 i2) = (1 : Int32) then
  (ob (f_Du_beatersOfN i2 a2 s3) fun r5 =>
  ob2 (f_Se_keeping N 10 r5 (0 : Int32) s3) fun r7 s6 =>
  if (r7 &&& (a1 ^^^ (-1 : Int32))) = (0 : Int32) then
  (self4 (i2 + (1 : Int32)) s6)
  else
  (some ((0 : Int32), s6)))
  else
  (self4 (i2 + (1 : Int32)) s3))
def f_Se_isKeepingSet (N : Nat) (a1 : Int32) (a2 : Int32) (σ : Mem) : Option (Int32 × Mem) :=
  it2 (Se_isKeepingSet_B2 N a1 a2) N (0 : Int32) σ
set_option maxRecDepth 100000 in
set_option maxHeartbeats 4000000 in
theorem w_Se_isKeepingSet {κ : Ctx} (hR : kR κ = { frames := 13, cells := 0, slots := 0, locals := 321 }) (hC : ok κ wC cX6_isKeepingSet 4 RX6 (some .boolean)) (N : Nat) (a1 : Int32) (a2 : Int32) (σ : Mem) : wF κ wC 4 (qOM κ wC) σ 0 [some (.ref (ad κ 8)), some (.int a1), some (.int a2), none] [] (f_Se_isKeepingSet N a1 a2 σ) := by
  unfold f_Se_isKeepingSet
  refine r_iconst (pc := 0) hC (v := (0 : Int32)) (by decide) dX6_isKeepingSet_0 ?_
  refine r_istore_n (pc := 1) hC rfl rfl dX6_isKeepingSet_1 ?_
  have hK51_1 : ∀ (s1 : Mem), wF κ wC 4 (qOM κ wC) s1 51 [none, some (.int a1), none, none] [] (Se_isKeepingSet_K51 a1 s1) := by
    intro s1
    unfold Se_isKeepingSet_K51
    refine r_iload_n (pc := 51) hC rfl dX6_isKeepingSet_51 ?_
    refine r_if_eq (pc := 52) (tgt := 59) hC dX6_isKeepingSet_52 (by decide) ?_ ?_
    · refine r_iconst (pc := 59) hC (v := (0 : Int32)) (by decide) dX6_isKeepingSet_59 ?_
      exact r_retOM hC rfl dX6_isKeepingSet_60
    · refine r_iconst (pc := 55) hC (v := (1 : Int32)) (by decide) dX6_isKeepingSet_55 ?_
      refine r_goto (pc := 56) (tgt := 60) hC dX6_isKeepingSet_56 (by decide) ?_
      exact r_retOM hC rfl dX6_isKeepingSet_60
  refine w_it2 (fun i2 s3 => s3) (fun i2 s3 => [some (.ref (ad κ 8)), some (.int a1), some (.int a2), some (.int i2)]) (fun self4 ih2_4 i2 s3 => ?_) N (0 : Int32) σ
  unfold Se_isKeepingSet_B2
  refine r_iload_n (pc := 2) hC rfl dX6_isKeepingSet_2 ?_
  refine r_aload_n (pc := 3) hC rfl dX6_isKeepingSet_3 ?_
  refine gC_8_0 (pc := 4) hC k_224 dX6_isKeepingSet_4 ?_
  refine gC_2_1 (pc := 7) hC k_141 dX6_isKeepingSet_7 ?_
  refine r_icmp_ge (pc := 10) (tgt := 51) hC dX6_isKeepingSet_10 (by decide) ?_ ?_
  · exact r_wk [false, true, false, false] (hK51_1 s3)
  · refine r_iload_n (pc := 13) hC rfl dX6_isKeepingSet_13 ?_
    refine r_iload_n (pc := 14) hC rfl dX6_isKeepingSet_14 ?_
    refine r_cT (pc := 15) (rest := []) (runSN [.int a1, .int i2] hC (c_D_bitOf (kl κ) (kW κ) hC.2.2.2.2.2.2.2.2.1 a1 i2 s3) o_X9_bitOf (k_509 hC.2.2.2.2.2.2.2.2.2) (rm_ok hR rfl) rfl (Nat.le_of_ble_eq_true rfl) dX6_isKeepingSet_15) ?_
    refine r_iconst (pc := 18) hC (v := (1 : Int32)) (by decide) dX6_isKeepingSet_18 ?_
    refine r_icmp_ne (pc := 19) (tgt := 45) hC dX6_isKeepingSet_19 (by decide) ?_ ?_
    · refine r_iinc (pc := 45) hC (v := (1 : Int32)) rfl (by decide) rfl rfl dX6_isKeepingSet_45 ?_
      refine r_goto (pc := 48) (tgt := 2) hC dX6_isKeepingSet_48 (by decide) ?_
      exact ih2_4 (i2 + (1 : Int32)) s3
    · refine r_aload_n (pc := 22) hC rfl dX6_isKeepingSet_22 ?_
      refine r_aload_n (pc := 23) hC rfl dX6_isKeepingSet_23 ?_
      refine gC_8_0 (pc := 24) hC k_224 dX6_isKeepingSet_24 ?_
      refine r_iload_n (pc := 27) hC rfl dX6_isKeepingSet_27 ?_
      refine r_iload_n (pc := 28) hC rfl dX6_isKeepingSet_28 ?_
      refine r_cO (pc := 29) (rest := [.ref (ad κ 8)]) (fun r5 hf => runV [.int i2, .int a2] hC (c_Du_beatersOfN (kl κ) (kW κ) hC.2.2.2.2.2.2.2.2.1 i2 a2 s3 r5 hf) o_X1_beatersOf k_510 (q0 := 2) (ci := 1) rfl rfl (rm_ok hR rfl) rfl (Nat.le_of_ble_eq_true rfl) dX6_isKeepingSet_29) (fun r5 => ?_)
      refine r_iconst (pc := 32) hC (v := (0 : Int32)) (by decide) dX6_isKeepingSet_32 ?_
      refine r_cOM (pc := 33) (rest := []) (fun r7 s6 hf => runV [.int r5, .int (0 : Int32)] hC (c_Se_keeping (kl κ) (kW κ) hC.2.2.2.2.2.2.2.2.1 N 10 r5 (0 : Int32) s3 r7 s6 hf) o_X6_keeping k_619 (q0 := 8) (ci := 6) rfl rfl (rm_ok hR rfl) rfl (Nat.le_of_ble_eq_true rfl) dX6_isKeepingSet_33) (fun r7 s6 => ?_)
      refine r_iload_n (pc := 36) hC rfl dX6_isKeepingSet_36 ?_
      refine r_iconst (pc := 37) hC (v := (-1 : Int32)) (by decide) dX6_isKeepingSet_37 ?_
      refine r_ixor (pc := 38) hC dX6_isKeepingSet_38 ?_
      refine r_iand (pc := 39) hC dX6_isKeepingSet_39 ?_
      refine r_if_eq (pc := 40) (tgt := 45) hC dX6_isKeepingSet_40 (by decide) ?_ ?_
      · refine r_iinc (pc := 45) hC (v := (1 : Int32)) rfl (by decide) rfl rfl dX6_isKeepingSet_45 ?_
        refine r_goto (pc := 48) (tgt := 2) hC dX6_isKeepingSet_48 (by decide) ?_
        exact ih2_4 (i2 + (1 : Int32)) s6
      · refine r_iconst (pc := 43) hC (v := (0 : Int32)) (by decide) dX6_isKeepingSet_43 ?_
        exact r_retOM hC rfl dX6_isKeepingSet_44
set_option maxRecDepth 100000 in
set_option maxHeartbeats 4000000 in
theorem c_Se_isKeepingSet (l : Launch) (w : Wenv) (hw : okw w wC) (N : Nat) (a1 : Int32) (a2 : Int32) (σ : Mem) (r : Int32) (τ : Mem) (hf : f_Se_isKeepingSet N a1 a2 σ = some (r, τ)) : Ctr l w wC yX6_isKeepingSet cX6_isKeepingSet 4 (some .boolean) 13 321 [.ref (w.2.2.1 8), .int a1, .int a2] σ (cQi w wC r τ) := mk_ctr (Q := fun κ => qOM κ wC) (lv := [some (.ref (w.2.2.1 8)), some (.int a1), some (.int a2), none]) (by decide) rfl hw (Nat.le_of_ble_eq_true rfl) rfl hf (fun κ h => by subst h; rfl) (fun κ hl h hR hC => by
    subst h
    exact w_Se_isKeepingSet hR hC N a1 a2 σ)
-- DuelRound.is(II)I (0, None, None) kind OM
def D_is_J69 (v1 : Int32) (s2 : Mem) : Option (Int32 × Mem) :=
  if v1 = (0 : Int32) then
  (some ((0 : Int32), s2))
  else
  (some ((1 : Int32), s2))
def f_D_is (N : Nat) (a1 : Int32) (a2 : Int32) (σ : Mem) : Option (Int32 × Mem) :=
  if (gI σ 3 0) = (0 : Int32) then
  (some ((-1 : Int32), σ))
  else
  (if (t_Du_arePlayersN a1 σ) = (0 : Int32) then
  (some ((-1 : Int32), σ))
  else
  (if a2 < (0 : Int32) then
  (some ((-1 : Int32), σ))
  else
  (if a2 ≤ (1 : Int32) then
  (if a2 = (0 : Int32) then
  (ob (f_Se_isCoveringSet N a1 (t_Du_everybodyN σ) σ) fun r5 =>
  D_is_J69 r5 σ)
  else
  (ob2 (f_Se_isKeepingSet N a1 (t_Du_everybodyN σ) σ) fun r4 s3 =>
  D_is_J69 r4 s3))
  else
  (some ((-1 : Int32), σ)))))
set_option maxRecDepth 100000 in
set_option maxHeartbeats 4000000 in
theorem w_D_is {κ : Ctx} (hR : kR κ = { frames := 14, cells := 0, slots := 0, locals := 344 }) (hC : ok κ wC cX9_is 4 RX9 (some .int)) (N : Nat) (a1 : Int32) (a2 : Int32) (σ : Mem) : wF κ wC 4 (qOM κ wC) σ 0 [some (.ref (ad κ 0)), some (.int a1), some (.int a2), none] [] (f_D_is N a1 a2 σ) := by
  unfold f_D_is
  refine r_aload_n (pc := 0) hC rfl dX9_is_0 ?_
  refine gC_0_1 (pc := 1) hC k_312 dX9_is_1 ?_
  refine gC_2_1 (pc := 4) hC k_144 dX9_is_4 ?_
  refine r_if_eq (pc := 7) (tgt := 30) hC dX9_is_7 (by decide) ?_ ?_
  · refine r_iconst (pc := 30) hC (v := (-1 : Int32)) (by decide) dX9_is_30 ?_
    exact r_retOM hC rfl dX9_is_31
  · refine r_aload_n (pc := 10) hC rfl dX9_is_10 ?_
    refine gC_0_1 (pc := 11) hC k_312 dX9_is_11 ?_
    refine r_iload_n (pc := 14) hC rfl dX9_is_14 ?_
    refine r_cT (pc := 15) (rest := []) (runV [.int a1] hC (c_Du_arePlayersN (kl κ) (kW κ) hC.2.2.2.2.2.2.2.2.1 a1 σ) o_X1_arePlayers k_451 (q0 := 2) (ci := 1) rfl rfl (rm_ok hR rfl) rfl (Nat.le_of_ble_eq_true rfl) dX9_is_15) ?_
    refine r_if_eq (pc := 18) (tgt := 30) hC dX9_is_18 (by decide) ?_ ?_
    · refine r_iconst (pc := 30) hC (v := (-1 : Int32)) (by decide) dX9_is_30 ?_
      exact r_retOM hC rfl dX9_is_31
    · refine r_iload_n (pc := 21) hC rfl dX9_is_21 ?_
      refine r_if_lt (pc := 22) (tgt := 30) hC dX9_is_22 (by decide) ?_ ?_
      · refine r_iconst (pc := 30) hC (v := (-1 : Int32)) (by decide) dX9_is_30 ?_
        exact r_retOM hC rfl dX9_is_31
      · refine r_iload_n (pc := 25) hC rfl dX9_is_25 ?_
        refine r_iconst (pc := 26) hC (v := (1 : Int32)) (by decide) dX9_is_26 ?_
        refine r_icmp_le (pc := 27) (tgt := 32) hC dX9_is_27 (by decide) ?_ ?_
        · refine r_iload_n (pc := 32) hC rfl dX9_is_32 ?_
          have hJ69_2 : ∀ (v1 : Int32) (s2 : Mem), wF κ wC 4 (qOM κ wC) s2 69 [none, none, none, none] [.int v1] (D_is_J69 v1 s2) := by
            intro v1 s2
            unfold D_is_J69
            refine r_istore_n (pc := 69) hC rfl rfl dX9_is_69 ?_
            refine r_iload_n (pc := 70) hC rfl dX9_is_70 ?_
            refine r_if_eq (pc := 71) (tgt := 78) hC dX9_is_71 (by decide) ?_ ?_
            · refine r_iconst (pc := 78) hC (v := (0 : Int32)) (by decide) dX9_is_78 ?_
              exact r_retOM hC rfl dX9_is_79
            · refine r_iconst (pc := 74) hC (v := (1 : Int32)) (by decide) dX9_is_74 ?_
              refine r_goto (pc := 75) (tgt := 79) hC dX9_is_75 (by decide) ?_
              exact r_retOM hC rfl dX9_is_79
          refine r_if_ne (pc := 33) (tgt := 54) hC dX9_is_33 (by decide) ?_ ?_
          · refine r_aload_n (pc := 54) hC rfl dX9_is_54 ?_
            refine gC_0_7 (pc := 55) hC k_318 dX9_is_55 ?_
            refine r_iload_n (pc := 58) hC rfl dX9_is_58 ?_
            refine r_aload_n (pc := 59) hC rfl dX9_is_59 ?_
            refine gC_0_1 (pc := 60) hC k_312 dX9_is_60 ?_
            refine r_cT (pc := 63) (rest := [.int a1, .ref (ad κ 8)]) (runV [] hC (c_Du_everybodyN (kl κ) (kW κ) hC.2.2.2.2.2.2.2.2.1 σ) o_X1_everybody k_659 (q0 := 2) (ci := 1) rfl rfl (rm_ok hR rfl) rfl (Nat.le_of_ble_eq_true rfl) dX9_is_63) ?_
            refine r_cOM (pc := 66) (rest := []) (fun r4 s3 hf => runV [.int a1, .int (t_Du_everybodyN σ)] hC (c_Se_isKeepingSet (kl κ) (kW κ) hC.2.2.2.2.2.2.2.2.1 N a1 (t_Du_everybodyN σ) σ r4 s3 hf) o_X6_isKeepingSet k_723 (q0 := 8) (ci := 6) rfl rfl (rm_ok hR rfl) rfl (Nat.le_of_ble_eq_true rfl) dX9_is_66) (fun r4 s3 => ?_)
            exact r_wk [false, false, false, false] (hJ69_2 r4 s3)
          · refine r_aload_n (pc := 36) hC rfl dX9_is_36 ?_
            refine gC_0_7 (pc := 37) hC k_318 dX9_is_37 ?_
            refine r_iload_n (pc := 40) hC rfl dX9_is_40 ?_
            refine r_aload_n (pc := 41) hC rfl dX9_is_41 ?_
            refine gC_0_1 (pc := 42) hC k_312 dX9_is_42 ?_
            refine r_cT (pc := 45) (rest := [.int a1, .ref (ad κ 8)]) (runV [] hC (c_Du_everybodyN (kl κ) (kW κ) hC.2.2.2.2.2.2.2.2.1 σ) o_X1_everybody k_659 (q0 := 2) (ci := 1) rfl rfl (rm_ok hR rfl) rfl (Nat.le_of_ble_eq_true rfl) dX9_is_45) ?_
            refine r_cO (pc := 48) (rest := []) (fun r5 hf => runV [.int a1, .int (t_Du_everybodyN σ)] hC (c_Se_isCoveringSet (kl κ) (kW κ) hC.2.2.2.2.2.2.2.2.1 N a1 (t_Du_everybodyN σ) σ r5 hf) o_X6_isCoveringSet k_722 (q0 := 8) (ci := 6) rfl rfl (rm_ok hR rfl) rfl (Nat.le_of_ble_eq_true rfl) dX9_is_48) (fun r5 => ?_)
            refine r_goto (pc := 51) (tgt := 69) hC dX9_is_51 (by decide) ?_
            exact r_wk [false, false, false, false] (hJ69_2 r5 σ)
        · refine r_iconst (pc := 30) hC (v := (-1 : Int32)) (by decide) dX9_is_30 ?_
          exact r_retOM hC rfl dX9_is_31
set_option maxRecDepth 100000 in
set_option maxHeartbeats 4000000 in
theorem c_D_is (l : Launch) (w : Wenv) (hw : okw w wC) (N : Nat) (a1 : Int32) (a2 : Int32) (σ : Mem) (r : Int32) (τ : Mem) (hf : f_D_is N a1 a2 σ = some (r, τ)) : Ctr l w wC yX9_is cX9_is 4 (some .int) 14 344 [.ref (w.2.2.1 0), .int a1, .int a2] σ (cQi w wC r τ) := mk_ctr (Q := fun κ => qOM κ wC) (lv := [some (.ref (w.2.2.1 0)), some (.int a1), some (.int a2), none]) (by decide) rfl hw (Nat.le_of_ble_eq_true rfl) rfl hf (fun κ h => by subst h; rfl) (fun κ hl h hR hC => by
    subst h
    exact w_D_is hR hC N a1 a2 σ)
-- DuelRound$Duels.addPlayer(I)V (2, None) kind M
def Du_addPlayerN_K38 (a1 : Int32) (x1 : Int32) (s2 : Mem) : Option Mem :=
  gd (inb x1 8) (bnd (sI s2 13 x1.toNatClampNeg a1) fun s3 =>
  bnd (sI s3 3 0 ((gI s3 3 0) + (1 : Int32))) fun s4 =>
  some s4)
def Du_addPlayerN_B7 (a1 : Int32) (x1 : Int32) (self7 : Int32 → Mem → Option Mem) (i5 : Int32) (s6 : Mem) : Option Mem :=
  if x1 ≤ i5 then
  (Du_addPlayerN_K38 a1 x1 s6)
  else
  (if (t_D_bitOf a1 i5) = (0 : Int32) then
  (gd (inb i5 8) (gd (inb i5 8) (bnd (sI s6 13 i5.toNatClampNeg ((gI s6 13 i5.toNatClampNeg) ||| ((1 : Int32) <<< (x1 &&& 31)))) fun s8 =>
  self7 (i5 + (1 : Int32)) s8)))
  else
  (self7 (i5 + (1 : Int32)) s6))
def f_Du_addPlayerN (N : Nat) (a1 : Int32) (σ : Mem) : Option Mem :=
  bnd (gI σ 3 0) fun x1 =>
  it2 (Du_addPlayerN_B7 a1 x1) N (0 : Int32) σ
set_option maxRecDepth 100000 in
set_option maxHeartbeats 4000000 in
theorem w_Du_addPlayerN {κ : Ctx} (hR : kR κ = { frames := 1, cells := 0, slots := 0, locals := 21 }) (hC : ok κ wC cX1_addPlayer 4 RX1 none) (N : Nat) (a1 : Int32) (σ : Mem) : wF κ wC 4 (qM κ wC) σ 0 [some (.ref (ad κ 2)), some (.int a1), none, none] [] (f_Du_addPlayerN N a1 σ) := by
  unfold f_Du_addPlayerN
  refine r_aload_n (pc := 0) hC rfl dX1_addPlayer_0 ?_
  refine gC_2_1 (pc := 1) hC k_139 dX1_addPlayer_1 ?_
  refine r_let (fun x1 => ?_)
  refine r_istore_n (pc := 4) hC rfl rfl dX1_addPlayer_4 ?_
  refine r_iconst (pc := 5) hC (v := (0 : Int32)) (by decide) dX1_addPlayer_5 ?_
  refine r_istore_n (pc := 6) hC rfl rfl dX1_addPlayer_6 ?_
  have hK38_4 : ∀ (s2 : Mem), wF κ wC 4 (qM κ wC) s2 38 [some (.ref (ad κ 2)), some (.int a1), some (.int x1), none] [] (Du_addPlayerN_K38 a1 x1 s2) := by
    intro s2
    unfold Du_addPlayerN_K38
    refine r_aload_n (pc := 38) hC rfl dX1_addPlayer_38 ?_
    refine gC_2_0 (pc := 39) hC k_132 dX1_addPlayer_39 ?_
    refine r_iload_n (pc := 42) hC rfl dX1_addPlayer_42 ?_
    refine r_iload_n (pc := 43) hC rfl dX1_addPlayer_43 ?_
    refine bC_13 (pc := 44) hC dX1_addPlayer_44 ?_
    refine r_letm (fun s3 => ?_)
    refine r_aload_n (pc := 45) hC rfl dX1_addPlayer_45 ?_
    refine r_dup (pc := 46) hC rfl dX1_addPlayer_46 ?_
    refine gC_2_1 (pc := 47) hC k_139 dX1_addPlayer_47 ?_
    refine r_iconst (pc := 50) hC (v := (1 : Int32)) (by decide) dX1_addPlayer_50 ?_
    refine r_iadd (pc := 51) hC dX1_addPlayer_51 ?_
    refine pC_2_1 (pc := 52) hC k_139 dX1_addPlayer_52 ?_
    refine r_letm (fun s4 => ?_)
    exact r_retM hC dX1_addPlayer_55
  refine w_it2 (fun i5 s6 => s6) (fun i5 s6 => [some (.ref (ad κ 2)), some (.int a1), some (.int x1), some (.int i5)]) (fun self7 ih7_7 i5 s6 => ?_) N (0 : Int32) σ
  unfold Du_addPlayerN_B7
  refine r_iload_n (pc := 7) hC rfl dX1_addPlayer_7 ?_
  refine r_iload_n (pc := 8) hC rfl dX1_addPlayer_8 ?_
  refine r_icmp_ge (pc := 9) (tgt := 38) hC dX1_addPlayer_9 (by decide) ?_ ?_
  · exact r_wk [true, true, true, false] (hK38_4 s6)
  · refine r_iload_n (pc := 12) hC rfl dX1_addPlayer_12 ?_
    refine r_iload_n (pc := 13) hC rfl dX1_addPlayer_13 ?_
    refine r_cT (pc := 14) (rest := []) (runSN [.int a1, .int i5] hC (c_D_bitOf (kl κ) (kW κ) hC.2.2.2.2.2.2.2.2.1 a1 i5 s6) o_X9_bitOf (k_423 hC.2.2.2.2.2.2.2.2.2) (rm_ok hR rfl) rfl (Nat.le_of_ble_eq_true rfl) dX1_addPlayer_14) ?_
    refine r_if_ne (pc := 17) (tgt := 32) hC dX1_addPlayer_17 (by decide) ?_ ?_
    · refine r_iinc (pc := 32) hC (v := (1 : Int32)) rfl (by decide) rfl rfl dX1_addPlayer_32 ?_
      refine r_goto (pc := 35) (tgt := 7) hC dX1_addPlayer_35 (by decide) ?_
      exact ih7_7 (i5 + (1 : Int32)) s6
    · refine r_aload_n (pc := 20) hC rfl dX1_addPlayer_20 ?_
      refine gC_2_0 (pc := 21) hC k_132 dX1_addPlayer_21 ?_
      refine r_iload_n (pc := 24) hC rfl dX1_addPlayer_24 ?_
      refine r_dup2 (pc := 25) hC rfl rfl dX1_addPlayer_25 ?_
      refine aC_13 (pc := 26) hC dX1_addPlayer_26 ?_
      refine r_iconst (pc := 27) hC (v := (1 : Int32)) (by decide) dX1_addPlayer_27 ?_
      refine r_iload_n (pc := 28) hC rfl dX1_addPlayer_28 ?_
      refine r_ishl (pc := 29) hC dX1_addPlayer_29 ?_
      refine r_ior (pc := 30) hC dX1_addPlayer_30 ?_
      refine bC_13 (pc := 31) hC dX1_addPlayer_31 ?_
      refine r_letm (fun s8 => ?_)
      refine r_iinc (pc := 32) hC (v := (1 : Int32)) rfl (by decide) rfl rfl dX1_addPlayer_32 ?_
      refine r_goto (pc := 35) (tgt := 7) hC dX1_addPlayer_35 (by decide) ?_
      exact ih7_7 (i5 + (1 : Int32)) s8
set_option maxRecDepth 100000 in
set_option maxHeartbeats 4000000 in
theorem c_Du_addPlayerN (l : Launch) (w : Wenv) (hw : okw w wC) (N : Nat) (a1 : Int32) (σ : Mem) (τ : Mem) (hf : f_Du_addPlayerN N a1 σ = some τ) : Ctr l w wC yX1_addPlayer cX1_addPlayer 4 none 1 21 [.ref (w.2.2.1 2), .int a1] σ (cQv w wC τ) := mk_ctr (Q := fun κ => qM κ wC) (lv := [some (.ref (w.2.2.1 2)), some (.int a1), none, none]) (by decide) rfl hw (Nat.le_of_ble_eq_true rfl) rfl hf (fun κ h => by subst h; rfl) (fun κ hl h hR hC => by
    subst h
    exact w_Du_addPlayerN hR hC N a1 σ)
-- DuelRound.join(I)I (0, None) kind OM
def f_D_join (N : Nat) (a1 : Int32) (σ : Mem) : Option (Int32 × Mem) :=
  if (t_Du_arePlayersN a1 σ) = (0 : Int32) then
  (some ((-1 : Int32), σ))
  else
  (if (gI σ 3 0) = (0 : Int32) then
  (some ((-2 : Int32), σ))
  else
  (if (gI σ 3 0) < (8 : Int32) then
  (ob (f_Du_packedN N σ) fun r1 =>
  ob (f_Pa_remember r1 σ) fun s2 =>
  ob (f_Du_addPlayerN N a1 s2) fun s3 =>
  some ((gI s3 3 0), s3))
  else
  (some ((-3 : Int32), σ))))
set_option maxRecDepth 100000 in
set_option maxHeartbeats 4000000 in
theorem w_D_join {κ : Ctx} (hR : kR κ = { frames := 2, cells := 0, slots := 0, locals := 82 }) (hC : ok κ wC cX9_join 2 RX9 (some .int)) (N : Nat) (a1 : Int32) (σ : Mem) : wF κ wC 2 (qOM κ wC) σ 0 [some (.ref (ad κ 0)), some (.int a1)] [] (f_D_join N a1 σ) := by
  unfold f_D_join
  refine r_aload_n (pc := 0) hC rfl dX9_join_0 ?_
  refine gC_0_1 (pc := 1) hC k_312 dX9_join_1 ?_
  refine r_iload_n (pc := 4) hC rfl dX9_join_4 ?_
  refine r_cT (pc := 5) (rest := []) (runV [.int a1] hC (c_Du_arePlayersN (kl κ) (kW κ) hC.2.2.2.2.2.2.2.2.1 a1 σ) o_X1_arePlayers k_451 (q0 := 2) (ci := 1) rfl rfl (rm_ok hR rfl) rfl (Nat.le_of_ble_eq_true rfl) dX9_join_5) ?_
  refine r_if_ne (pc := 8) (tgt := 13) hC dX9_join_8 (by decide) ?_ ?_
  · refine r_aload_n (pc := 13) hC rfl dX9_join_13 ?_
    refine gC_0_1 (pc := 14) hC k_312 dX9_join_14 ?_
    refine gC_2_1 (pc := 17) hC k_144 dX9_join_17 ?_
    refine r_if_ne (pc := 20) (tgt := 26) hC dX9_join_20 (by decide) ?_ ?_
    · refine r_aload_n (pc := 26) hC rfl dX9_join_26 ?_
      refine gC_0_1 (pc := 27) hC k_312 dX9_join_27 ?_
      refine gC_2_1 (pc := 30) hC k_144 dX9_join_30 ?_
      refine r_bipush (pc := 33) hC (v := (8 : Int32)) (by decide) dX9_join_33 ?_
      refine r_icmp_lt (pc := 35) (tgt := 41) hC dX9_join_35 (by decide) ?_ ?_
      · refine r_aload_n (pc := 41) hC rfl dX9_join_41 ?_
        refine gC_0_3 (pc := 42) hC k_314 dX9_join_42 ?_
        refine r_aload_n (pc := 45) hC rfl dX9_join_45 ?_
        refine gC_0_1 (pc := 46) hC k_312 dX9_join_46 ?_
        refine r_cL (pc := 49) (rest := [.ref (ad κ 4)]) (fun r1 hf => runV [] hC (c_Du_packedN (kl κ) (kW κ) hC.2.2.2.2.2.2.2.2.1 N σ r1 hf) o_X1_packed k_419 (q0 := 2) (ci := 1) rfl rfl (rm_ok hR rfl) rfl (Nat.le_of_ble_eq_true rfl) dX9_join_49) (fun r1 => ?_)
        refine r_cM (pc := 52) (rest := []) (fun s2 hf => runV [.long r1] hC (c_Pa_remember (kl κ) (kW κ) hC.2.2.2.2.2.2.2.2.1 r1 σ s2 hf) o_X4_remember k_463 (q0 := 4) (ci := 4) rfl rfl (rm_ok hR rfl) rfl (Nat.le_of_ble_eq_true rfl) dX9_join_52) (fun s2 => ?_)
        refine r_aload_n (pc := 55) hC rfl dX9_join_55 ?_
        refine gC_0_1 (pc := 56) hC k_312 dX9_join_56 ?_
        refine r_iload_n (pc := 59) hC rfl dX9_join_59 ?_
        refine r_cM (pc := 60) (rest := []) (fun s3 hf => runV [.int a1] hC (c_Du_addPlayerN (kl κ) (kW κ) hC.2.2.2.2.2.2.2.2.1 N a1 s2 s3 hf) o_X1_addPlayer k_482 (q0 := 2) (ci := 1) rfl rfl (rm_ok hR rfl) rfl (Nat.le_of_ble_eq_true rfl) dX9_join_60) (fun s3 => ?_)
        refine r_aload_n (pc := 63) hC rfl dX9_join_63 ?_
        refine gC_0_1 (pc := 64) hC k_312 dX9_join_64 ?_
        refine gC_2_1 (pc := 67) hC k_144 dX9_join_67 ?_
        exact r_retOM hC rfl dX9_join_70
      · refine r_bipush (pc := 38) hC (v := (-3 : Int32)) (by decide) dX9_join_38 ?_
        exact r_retOM hC rfl dX9_join_40
    · refine r_bipush (pc := 23) hC (v := (-2 : Int32)) (by decide) dX9_join_23 ?_
      exact r_retOM hC rfl dX9_join_25
  · refine r_iconst (pc := 11) hC (v := (-1 : Int32)) (by decide) dX9_join_11 ?_
    exact r_retOM hC rfl dX9_join_12
set_option maxRecDepth 100000 in
set_option maxHeartbeats 4000000 in
theorem c_D_join (l : Launch) (w : Wenv) (hw : okw w wC) (N : Nat) (a1 : Int32) (σ : Mem) (r : Int32) (τ : Mem) (hf : f_D_join N a1 σ = some (r, τ)) : Ctr l w wC yX9_join cX9_join 2 (some .int) 2 82 [.ref (w.2.2.1 0), .int a1] σ (cQi w wC r τ) := mk_ctr (Q := fun κ => qOM κ wC) (lv := [some (.ref (w.2.2.1 0)), some (.int a1)]) (by decide) rfl hw (Nat.le_of_ble_eq_true rfl) rfl hf (fun κ h => by subst h; rfl) (fun κ hl h hR hC => by
    subst h
    exact w_D_join hR hC N a1 σ)
-- DuelRound$Signs.next()I (1,) kind OM
def Sg_next_K38 (s1 : Mem) : Option (Int32 × Mem) :=
  if (gI s1 1 0) ≤ (gI s1 2 0) then
  (some ((-1 : Int32), s1))
  else
  (gd (inb (gI s1 2 0) 300) (some ((gI s1 12 (gI s1 2 0).toNatClampNeg), s1)))
def Sg_next_B0 (self3 : Mem → Option (Int32 × Mem)) (s2 : Mem) : Option (Int32 × Mem) :=
  if (gI s2 1 0) ≤ (gI s2 2 0) then
  (Sg_next_K38 s2)
  else
  (gd (inb (gI s2 2 0) 300) (if (gI s2 12 (gI s2 2 0).toNatClampNeg) = (32 : Int32) then
  (bnd (sI s2 2 0 ((gI s2 2 0) + (1 : Int32))) fun s4 =>
  self3 s4)
  else
  (Sg_next_K38 s2)))
def f_Sg_next (N : Nat) (σ : Mem) : Option (Int32 × Mem) :=
  it1 (Sg_next_B0) N σ
set_option maxRecDepth 100000 in
set_option maxHeartbeats 4000000 in
theorem w_Sg_next {κ : Ctx} (hR : kR κ = { frames := 0, cells := 0, slots := 0, locals := 0 }) (hC : ok κ wC cX7_next 1 RX7 (some .int)) (N : Nat) (σ : Mem) : wF κ wC 1 (qOM κ wC) σ 0 [some (.ref (ad κ 1))] [] (f_Sg_next N  σ) := by
  unfold f_Sg_next
  have hK38_1 : ∀ (s1 : Mem), wF κ wC 1 (qOM κ wC) s1 38 [some (.ref (ad κ 1))] [] (Sg_next_K38 s1) := by
    intro s1
    unfold Sg_next_K38
    refine r_aload_n (pc := 38) hC rfl dX7_next_38 ?_
    refine gC_1_2 (pc := 39) hC k_116 dX7_next_39 ?_
    refine r_aload_n (pc := 42) hC rfl dX7_next_42 ?_
    refine gC_1_1 (pc := 43) hC k_113 dX7_next_43 ?_
    refine r_icmp_ge (pc := 46) (tgt := 61) hC dX7_next_46 (by decide) ?_ ?_
    · refine r_iconst (pc := 61) hC (v := (-1 : Int32)) (by decide) dX7_next_61 ?_
      exact r_retOM hC rfl dX7_next_62
    · refine r_aload_n (pc := 49) hC rfl dX7_next_49 ?_
      refine gC_1_0 (pc := 50) hC k_112 dX7_next_50 ?_
      refine r_aload_n (pc := 53) hC rfl dX7_next_53 ?_
      refine gC_1_2 (pc := 54) hC k_116 dX7_next_54 ?_
      refine aC_12 (pc := 57) hC dX7_next_57 ?_
      refine r_goto (pc := 58) (tgt := 62) hC dX7_next_58 (by decide) ?_
      exact r_retOM hC rfl dX7_next_62
  refine w_it1 (fun s2 => s2) (fun s2 => [some (.ref (ad κ 1))]) (fun self3 ih0_3 s2 => ?_) N σ
  unfold Sg_next_B0
  refine r_aload_n (pc := 0) hC rfl dX7_next_0 ?_
  refine gC_1_2 (pc := 1) hC k_116 dX7_next_1 ?_
  refine r_aload_n (pc := 4) hC rfl dX7_next_4 ?_
  refine gC_1_1 (pc := 5) hC k_113 dX7_next_5 ?_
  refine r_icmp_ge (pc := 8) (tgt := 38) hC dX7_next_8 (by decide) ?_ ?_
  · exact hK38_1 s2
  · refine r_aload_n (pc := 11) hC rfl dX7_next_11 ?_
    refine gC_1_0 (pc := 12) hC k_112 dX7_next_12 ?_
    refine r_aload_n (pc := 15) hC rfl dX7_next_15 ?_
    refine gC_1_2 (pc := 16) hC k_116 dX7_next_16 ?_
    refine aC_12 (pc := 19) hC dX7_next_19 ?_
    refine r_bipush (pc := 20) hC (v := (32 : Int32)) (by decide) dX7_next_20 ?_
    refine r_icmp_ne (pc := 22) (tgt := 38) hC dX7_next_22 (by decide) ?_ ?_
    · exact hK38_1 s2
    · refine r_aload_n (pc := 25) hC rfl dX7_next_25 ?_
      refine r_dup (pc := 26) hC rfl dX7_next_26 ?_
      refine gC_1_2 (pc := 27) hC k_116 dX7_next_27 ?_
      refine r_iconst (pc := 30) hC (v := (1 : Int32)) (by decide) dX7_next_30 ?_
      refine r_iadd (pc := 31) hC dX7_next_31 ?_
      refine pC_1_2 (pc := 32) hC k_116 dX7_next_32 ?_
      refine r_letm (fun s4 => ?_)
      refine r_goto (pc := 35) (tgt := 0) hC dX7_next_35 (by decide) ?_
      exact ih0_3 s4
set_option maxRecDepth 100000 in
set_option maxHeartbeats 4000000 in
theorem c_Sg_next (l : Launch) (w : Wenv) (hw : okw w wC) (N : Nat) (σ : Mem) (r : Int32) (τ : Mem) (hf : f_Sg_next N  σ = some (r, τ)) : Ctr l w wC yX7_next cX7_next 1 (some .int) 0 0 [.ref (w.2.2.1 1)] σ (cQi w wC r τ) := mk_ctr (Q := fun κ => qOM κ wC) (lv := [some (.ref (w.2.2.1 1))]) (by decide) rfl hw (Nat.le_of_ble_eq_true rfl) rfl hf (fun κ h => by subst h; rfl) (fun κ hl h hR hC => by
    subst h
    exact w_Sg_next hR hC N  σ)
-- DuelRound$Proofs.addWord(I)V (9, None) kind M
def f_Pr_addWord (a1 : Int32) (σ : Mem) : Option Mem :=
  if (300 : Int32) ≤ (gI σ 6 0) then
  (some σ)
  else
  (gd (inb (gI σ 6 0) 300) (bnd (sI σ 24 (gI σ 6 0).toNatClampNeg a1) fun s1 =>
  bnd (sI s1 6 0 ((gI s1 6 0) + (1 : Int32))) fun s2 =>
  some s2))
set_option maxRecDepth 100000 in
set_option maxHeartbeats 4000000 in
theorem w_Pr_addWord {κ : Ctx} (hR : kR κ = { frames := 0, cells := 0, slots := 0, locals := 0 }) (hC : ok κ wC cX5_addWord 2 RX5 none) (a1 : Int32) (σ : Mem) : wF κ wC 2 (qM κ wC) σ 0 [some (.ref (ad κ 9)), some (.int a1)] [] (f_Pr_addWord a1 σ) := by
  unfold f_Pr_addWord
  refine r_aload_n (pc := 0) hC rfl dX5_addWord_0 ?_
  refine gC_9_8 (pc := 1) hC k_258 dX5_addWord_1 ?_
  refine r_sipush (pc := 4) hC (v := (300 : Int32)) (by decide) dX5_addWord_4 ?_
  refine r_icmp_ge (pc := 7) (tgt := 30) hC dX5_addWord_7 (by decide) ?_ ?_
  · exact r_retM hC dX5_addWord_30
  · refine r_aload_n (pc := 10) hC rfl dX5_addWord_10 ?_
    refine gC_9_5 (pc := 11) hC k_255 dX5_addWord_11 ?_
    refine r_aload_n (pc := 14) hC rfl dX5_addWord_14 ?_
    refine gC_9_8 (pc := 15) hC k_258 dX5_addWord_15 ?_
    refine r_iload_n (pc := 18) hC rfl dX5_addWord_18 ?_
    refine bC_24 (pc := 19) hC dX5_addWord_19 ?_
    refine r_letm (fun s1 => ?_)
    refine r_aload_n (pc := 20) hC rfl dX5_addWord_20 ?_
    refine r_dup (pc := 21) hC rfl dX5_addWord_21 ?_
    refine gC_9_8 (pc := 22) hC k_258 dX5_addWord_22 ?_
    refine r_iconst (pc := 25) hC (v := (1 : Int32)) (by decide) dX5_addWord_25 ?_
    refine r_iadd (pc := 26) hC dX5_addWord_26 ?_
    refine pC_9_8 (pc := 27) hC k_258 dX5_addWord_27 ?_
    refine r_letm (fun s2 => ?_)
    exact r_retM hC dX5_addWord_30
set_option maxRecDepth 100000 in
set_option maxHeartbeats 4000000 in
theorem c_Pr_addWord (l : Launch) (w : Wenv) (hw : okw w wC) (a1 : Int32) (σ : Mem) (τ : Mem) (hf : f_Pr_addWord a1 σ = some τ) : Ctr l w wC yX5_addWord cX5_addWord 2 none 0 0 [.ref (w.2.2.1 9), .int a1] σ (cQv w wC τ) := mk_ctr (Q := fun κ => qM κ wC) (lv := [some (.ref (w.2.2.1 9)), some (.int a1)]) (by decide) rfl hw (Nat.le_of_ble_eq_true rfl) rfl hf (fun κ h => by subst h; rfl) (fun κ hl h hR hC => by
    subst h
    exact w_Pr_addWord hR hC a1 σ)
-- DuelRound$Proofs.addSign(I)V (9, None) kind M
def f_Pr_addSign (a1 : Int32) (σ : Mem) : Option Mem :=
  bnd (sI σ 2 0 ((gI σ 2 0) + (1 : Int32))) fun s1 =>
  ob (f_Pr_addWord a1 s1) fun s2 =>
  some s2
set_option maxRecDepth 100000 in
set_option maxHeartbeats 4000000 in
theorem w_Pr_addSign {κ : Ctx} (hR : kR κ = { frames := 1, cells := 0, slots := 0, locals := 21 }) (hC : ok κ wC cX5_addSign 2 RX5 none) (a1 : Int32) (σ : Mem) : wF κ wC 2 (qM κ wC) σ 0 [some (.ref (ad κ 9)), some (.int a1)] [] (f_Pr_addSign a1 σ) := by
  unfold f_Pr_addSign
  refine r_aload_n (pc := 0) hC rfl dX5_addSign_0 ?_
  refine gC_9_1 (pc := 1) hC k_251 dX5_addSign_1 ?_
  refine r_dup (pc := 4) hC rfl dX5_addSign_4 ?_
  refine gC_1_2 (pc := 5) hC k_115 dX5_addSign_5 ?_
  refine r_iconst (pc := 8) hC (v := (1 : Int32)) (by decide) dX5_addSign_8 ?_
  refine r_iadd (pc := 9) hC dX5_addSign_9 ?_
  refine pC_1_2 (pc := 10) hC k_115 dX5_addSign_10 ?_
  refine r_letm (fun s1 => ?_)
  refine r_aload_n (pc := 13) hC rfl dX5_addSign_13 ?_
  refine r_iload_n (pc := 14) hC rfl dX5_addSign_14 ?_
  refine r_cM (pc := 15) (rest := []) (fun s2 hf => runV [.int a1] hC (c_Pr_addWord (kl κ) (kW κ) hC.2.2.2.2.2.2.2.2.1 a1 s1 s2 hf) o_X5_addWord k_789 (q0 := 9) (ci := 5) rfl rfl (rm_ok hR rfl) rfl (Nat.le_of_ble_eq_true rfl) dX5_addSign_15) (fun s2 => ?_)
  exact r_retM hC dX5_addSign_18
set_option maxRecDepth 100000 in
set_option maxHeartbeats 4000000 in
theorem c_Pr_addSign (l : Launch) (w : Wenv) (hw : okw w wC) (a1 : Int32) (σ : Mem) (τ : Mem) (hf : f_Pr_addSign a1 σ = some τ) : Ctr l w wC yX5_addSign cX5_addSign 2 none 1 21 [.ref (w.2.2.1 9), .int a1] σ (cQv w wC τ) := mk_ctr (Q := fun κ => qM κ wC) (lv := [some (.ref (w.2.2.1 9)), some (.int a1)]) (by decide) rfl hw (Nat.le_of_ble_eq_true rfl) rfl hf (fun κ h => by subst h; rfl) (fun κ hl h hR hC => by
    subst h
    exact w_Pr_addSign hR hC a1 σ)
-- DuelRound$Signs.nextLetter()I (1,) kind OM
def f_Sg_nextLetter (N : Nat) (σ : Mem) : Option (Int32 × Mem) :=
  ob2 (f_Sg_next N σ) fun r2 s1 =>
  if r2 < (97 : Int32) then
  (some ((-1 : Int32), s1))
  else
  (if (105 : Int32) ≤ r2 then
  (some ((-1 : Int32), s1))
  else
  (some ((r2 - (97 : Int32)), s1)))
set_option maxRecDepth 100000 in
set_option maxHeartbeats 4000000 in
theorem w_Sg_nextLetter {κ : Ctx} (hR : kR κ = { frames := 1, cells := 0, slots := 0, locals := 20 }) (hC : ok κ wC cX7_nextLetter 2 RX7 (some .int)) (N : Nat) (σ : Mem) : wF κ wC 2 (qOM κ wC) σ 0 [some (.ref (ad κ 1)), none] [] (f_Sg_nextLetter N  σ) := by
  unfold f_Sg_nextLetter
  refine r_aload_n (pc := 0) hC rfl dX7_nextLetter_0 ?_
  refine r_cOM (pc := 1) (rest := []) (fun r2 s1 hf => runV [] hC (c_Sg_next (kl κ) (kW κ) hC.2.2.2.2.2.2.2.2.1 N σ r2 s1 hf) o_X7_next k_381 (q0 := 1) (ci := 7) rfl rfl (rm_ok hR rfl) rfl (Nat.le_of_ble_eq_true rfl) dX7_nextLetter_1) (fun r2 s1 => ?_)
  refine r_istore_n (pc := 4) hC rfl rfl dX7_nextLetter_4 ?_
  refine r_iload_n (pc := 5) hC rfl dX7_nextLetter_5 ?_
  refine r_bipush (pc := 6) hC (v := (97 : Int32)) (by decide) dX7_nextLetter_6 ?_
  refine r_icmp_lt (pc := 8) (tgt := 24) hC dX7_nextLetter_8 (by decide) ?_ ?_
  · refine r_iconst (pc := 24) hC (v := (-1 : Int32)) (by decide) dX7_nextLetter_24 ?_
    exact r_retOM hC rfl dX7_nextLetter_25
  · refine r_iload_n (pc := 11) hC rfl dX7_nextLetter_11 ?_
    refine r_bipush (pc := 12) hC (v := (105 : Int32)) (by decide) dX7_nextLetter_12 ?_
    refine r_icmp_ge (pc := 14) (tgt := 24) hC dX7_nextLetter_14 (by decide) ?_ ?_
    · refine r_iconst (pc := 24) hC (v := (-1 : Int32)) (by decide) dX7_nextLetter_24 ?_
      exact r_retOM hC rfl dX7_nextLetter_25
    · refine r_iload_n (pc := 17) hC rfl dX7_nextLetter_17 ?_
      refine r_bipush (pc := 18) hC (v := (97 : Int32)) (by decide) dX7_nextLetter_18 ?_
      refine r_isub (pc := 20) hC dX7_nextLetter_20 ?_
      refine r_goto (pc := 21) (tgt := 25) hC dX7_nextLetter_21 (by decide) ?_
      exact r_retOM hC rfl dX7_nextLetter_25
set_option maxRecDepth 100000 in
set_option maxHeartbeats 4000000 in
theorem c_Sg_nextLetter (l : Launch) (w : Wenv) (hw : okw w wC) (N : Nat) (σ : Mem) (r : Int32) (τ : Mem) (hf : f_Sg_nextLetter N  σ = some (r, τ)) : Ctr l w wC yX7_nextLetter cX7_nextLetter 2 (some .int) 1 20 [.ref (w.2.2.1 1)] σ (cQi w wC r τ) := mk_ctr (Q := fun κ => qOM κ wC) (lv := [some (.ref (w.2.2.1 1)), none]) (by decide) rfl hw (Nat.le_of_ble_eq_true rfl) rfl hf (fun κ h => by subst h; rfl) (fun κ hl h hR hC => by
    subst h
    exact w_Sg_nextLetter hR hC N  σ)
-- DuelRound$Proofs.readLetter()Z (9,) kind OM
def f_Pr_readLetter (N : Nat) (σ : Mem) : Option (Int32 × Mem) :=
  ob2 (f_Sg_nextLetter N σ) fun r2 s1 =>
  if r2 = (-1 : Int32) then
  (some ((0 : Int32), s1))
  else
  (ob (f_Pr_addSign r2 s1) fun s3 =>
  some ((1 : Int32), s3))
set_option maxRecDepth 100000 in
set_option maxHeartbeats 4000000 in
theorem w_Pr_readLetter {κ : Ctx} (hR : kR κ = { frames := 2, cells := 0, slots := 0, locals := 42 }) (hC : ok κ wC cX5_readLetter 2 RX5 (some .boolean)) (N : Nat) (σ : Mem) : wF κ wC 2 (qOM κ wC) σ 0 [some (.ref (ad κ 9)), none] [] (f_Pr_readLetter N  σ) := by
  unfold f_Pr_readLetter
  refine r_aload_n (pc := 0) hC rfl dX5_readLetter_0 ?_
  refine gC_9_1 (pc := 1) hC k_251 dX5_readLetter_1 ?_
  refine r_cOM (pc := 4) (rest := []) (fun r2 s1 hf => runV [] hC (c_Sg_nextLetter (kl κ) (kW κ) hC.2.2.2.2.2.2.2.2.1 N σ r2 s1 hf) o_X7_nextLetter k_797 (q0 := 1) (ci := 7) rfl rfl (rm_ok hR rfl) rfl (Nat.le_of_ble_eq_true rfl) dX5_readLetter_4) (fun r2 s1 => ?_)
  refine r_istore_n (pc := 7) hC rfl rfl dX5_readLetter_7 ?_
  refine r_iload_n (pc := 8) hC rfl dX5_readLetter_8 ?_
  refine r_iconst (pc := 9) hC (v := (-1 : Int32)) (by decide) dX5_readLetter_9 ?_
  refine r_icmp_ne (pc := 10) (tgt := 15) hC dX5_readLetter_10 (by decide) ?_ ?_
  · refine r_aload_n (pc := 15) hC rfl dX5_readLetter_15 ?_
    refine r_iload_n (pc := 16) hC rfl dX5_readLetter_16 ?_
    refine r_cM (pc := 17) (rest := []) (fun s3 hf => runV [.int r2] hC (c_Pr_addSign (kl κ) (kW κ) hC.2.2.2.2.2.2.2.2.1 r2 s1 s3 hf) o_X5_addSign k_785 (q0 := 9) (ci := 5) rfl rfl (rm_ok hR rfl) rfl (Nat.le_of_ble_eq_true rfl) dX5_readLetter_17) (fun s3 => ?_)
    refine r_iconst (pc := 20) hC (v := (1 : Int32)) (by decide) dX5_readLetter_20 ?_
    exact r_retOM hC rfl dX5_readLetter_21
  · refine r_iconst (pc := 13) hC (v := (0 : Int32)) (by decide) dX5_readLetter_13 ?_
    exact r_retOM hC rfl dX5_readLetter_14
set_option maxRecDepth 100000 in
set_option maxHeartbeats 4000000 in
theorem c_Pr_readLetter (l : Launch) (w : Wenv) (hw : okw w wC) (N : Nat) (σ : Mem) (r : Int32) (τ : Mem) (hf : f_Pr_readLetter N  σ = some (r, τ)) : Ctr l w wC yX5_readLetter cX5_readLetter 2 (some .boolean) 2 42 [.ref (w.2.2.1 9)] σ (cQi w wC r τ) := mk_ctr (Q := fun κ => qOM κ wC) (lv := [some (.ref (w.2.2.1 9)), none]) (by decide) rfl hw (Nat.le_of_ble_eq_true rfl) rfl hf (fun κ h => by subst h; rfl) (fun κ hl h hR hC => by
    subst h
    exact w_Pr_readLetter hR hC N  σ)
-- DuelRound$Signs.nextDigit()I (1,) kind OM
def f_Sg_nextDigit (N : Nat) (σ : Mem) : Option (Int32 × Mem) :=
  ob2 (f_Sg_next N σ) fun r2 s1 =>
  if r2 < (48 : Int32) then
  (some ((-1 : Int32), s1))
  else
  (if (57 : Int32) < r2 then
  (some ((-1 : Int32), s1))
  else
  (some ((r2 - (48 : Int32)), s1)))
set_option maxRecDepth 100000 in
set_option maxHeartbeats 4000000 in
theorem w_Sg_nextDigit {κ : Ctx} (hR : kR κ = { frames := 1, cells := 0, slots := 0, locals := 20 }) (hC : ok κ wC cX7_nextDigit 2 RX7 (some .int)) (N : Nat) (σ : Mem) : wF κ wC 2 (qOM κ wC) σ 0 [some (.ref (ad κ 1)), none] [] (f_Sg_nextDigit N  σ) := by
  unfold f_Sg_nextDigit
  refine r_aload_n (pc := 0) hC rfl dX7_nextDigit_0 ?_
  refine r_cOM (pc := 1) (rest := []) (fun r2 s1 hf => runV [] hC (c_Sg_next (kl κ) (kW κ) hC.2.2.2.2.2.2.2.2.1 N σ r2 s1 hf) o_X7_next k_381 (q0 := 1) (ci := 7) rfl rfl (rm_ok hR rfl) rfl (Nat.le_of_ble_eq_true rfl) dX7_nextDigit_1) (fun r2 s1 => ?_)
  refine r_istore_n (pc := 4) hC rfl rfl dX7_nextDigit_4 ?_
  refine r_iload_n (pc := 5) hC rfl dX7_nextDigit_5 ?_
  refine r_bipush (pc := 6) hC (v := (48 : Int32)) (by decide) dX7_nextDigit_6 ?_
  refine r_icmp_lt (pc := 8) (tgt := 24) hC dX7_nextDigit_8 (by decide) ?_ ?_
  · refine r_iconst (pc := 24) hC (v := (-1 : Int32)) (by decide) dX7_nextDigit_24 ?_
    exact r_retOM hC rfl dX7_nextDigit_25
  · refine r_iload_n (pc := 11) hC rfl dX7_nextDigit_11 ?_
    refine r_bipush (pc := 12) hC (v := (57 : Int32)) (by decide) dX7_nextDigit_12 ?_
    refine r_icmp_gt (pc := 14) (tgt := 24) hC dX7_nextDigit_14 (by decide) ?_ ?_
    · refine r_iconst (pc := 24) hC (v := (-1 : Int32)) (by decide) dX7_nextDigit_24 ?_
      exact r_retOM hC rfl dX7_nextDigit_25
    · refine r_iload_n (pc := 17) hC rfl dX7_nextDigit_17 ?_
      refine r_bipush (pc := 18) hC (v := (48 : Int32)) (by decide) dX7_nextDigit_18 ?_
      refine r_isub (pc := 20) hC dX7_nextDigit_20 ?_
      refine r_goto (pc := 21) (tgt := 25) hC dX7_nextDigit_21 (by decide) ?_
      exact r_retOM hC rfl dX7_nextDigit_25
set_option maxRecDepth 100000 in
set_option maxHeartbeats 4000000 in
theorem c_Sg_nextDigit (l : Launch) (w : Wenv) (hw : okw w wC) (N : Nat) (σ : Mem) (r : Int32) (τ : Mem) (hf : f_Sg_nextDigit N  σ = some (r, τ)) : Ctr l w wC yX7_nextDigit cX7_nextDigit 2 (some .int) 1 20 [.ref (w.2.2.1 1)] σ (cQi w wC r τ) := mk_ctr (Q := fun κ => qOM κ wC) (lv := [some (.ref (w.2.2.1 1)), none]) (by decide) rfl hw (Nat.le_of_ble_eq_true rfl) rfl hf (fun κ h => by subst h; rfl) (fun κ hl h hR hC => by
    subst h
    exact w_Sg_nextDigit hR hC N  σ)
-- DuelRound$Proofs.readNumber()Z (9,) kind OM
def Pr_readNumber_K63 (y3 : Int32) (s4 : Mem) : Option (Int32 × Mem) :=
  ob (f_Pr_addWord ((8 : Int32) + y3) s4) fun s5 =>
  some ((1 : Int32), s5)
def Pr_readNumber_B19 (N : Nat) (self10 : Int32 → Int32 → Int32 → Mem → Option (Int32 × Mem)) (i6 : Int32) (i7 : Int32) (i8 : Int32) (s9 : Mem) : Option (Int32 × Mem) :=
  if (3 : Int32) ≤ i8 then
  (Pr_readNumber_K63 i7 s9)
  else
  (if i6 = (-1 : Int32) then
  (Pr_readNumber_K63 i7 s9)
  else
  (bnd (((10 : Int32) * i7) + i6) fun x11 =>
  bnd (sI s9 2 0 ((gI s9 2 0) + (1 : Int32))) fun s12 =>
  ob2 (f_Sg_nextDigit N s12) fun r14 s13 =>
  self10 r14 x11 (i8 + (1 : Int32)) s13))
def f_Pr_readNumber (N : Nat) (σ : Mem) : Option (Int32 × Mem) :=
  ob2 (f_Sg_nextDigit N σ) fun r2 s1 =>
  if r2 = (-1 : Int32) then
  (some ((0 : Int32), s1))
  else
  (it4 (Pr_readNumber_B19 N) N r2 (0 : Int32) (0 : Int32) s1)
set_option maxRecDepth 100000 in
set_option maxHeartbeats 4000000 in
theorem w_Pr_readNumber {κ : Ctx} (hR : kR κ = { frames := 2, cells := 0, slots := 0, locals := 41 }) (hC : ok κ wC cX5_readNumber 4 RX5 (some .boolean)) (N : Nat) (σ : Mem) : wF κ wC 4 (qOM κ wC) σ 0 [some (.ref (ad κ 9)), none, none, none] [] (f_Pr_readNumber N  σ) := by
  unfold f_Pr_readNumber
  refine r_aload_n (pc := 0) hC rfl dX5_readNumber_0 ?_
  refine gC_9_1 (pc := 1) hC k_251 dX5_readNumber_1 ?_
  refine r_cOM (pc := 4) (rest := []) (fun r2 s1 hf => runV [] hC (c_Sg_nextDigit (kl κ) (kW κ) hC.2.2.2.2.2.2.2.2.1 N σ r2 s1 hf) o_X7_nextDigit k_806 (q0 := 1) (ci := 7) rfl rfl (rm_ok hR rfl) rfl (Nat.le_of_ble_eq_true rfl) dX5_readNumber_4) (fun r2 s1 => ?_)
  refine r_istore_n (pc := 7) hC rfl rfl dX5_readNumber_7 ?_
  refine r_iload_n (pc := 8) hC rfl dX5_readNumber_8 ?_
  refine r_iconst (pc := 9) hC (v := (-1 : Int32)) (by decide) dX5_readNumber_9 ?_
  refine r_icmp_ne (pc := 10) (tgt := 15) hC dX5_readNumber_10 (by decide) ?_ ?_
  · refine r_iconst (pc := 15) hC (v := (0 : Int32)) (by decide) dX5_readNumber_15 ?_
    refine r_istore_n (pc := 16) hC rfl rfl dX5_readNumber_16 ?_
    refine r_iconst (pc := 17) hC (v := (0 : Int32)) (by decide) dX5_readNumber_17 ?_
    refine r_istore_n (pc := 18) hC rfl rfl dX5_readNumber_18 ?_
    have hK63_5 : ∀ (y3 : Int32) (s4 : Mem), wF κ wC 4 (qOM κ wC) s4 63 [some (.ref (ad κ 9)), none, some (.int y3), none] [] (Pr_readNumber_K63 y3 s4) := by
      intro y3 s4
      unfold Pr_readNumber_K63
      refine r_aload_n (pc := 63) hC rfl dX5_readNumber_63 ?_
      refine r_bipush (pc := 64) hC (v := (8 : Int32)) (by decide) dX5_readNumber_64 ?_
      refine r_iload_n (pc := 66) hC rfl dX5_readNumber_66 ?_
      refine r_iadd (pc := 67) hC dX5_readNumber_67 ?_
      refine r_cM (pc := 68) (rest := []) (fun s5 hf => runV [.int ((8 : Int32) + y3)] hC (c_Pr_addWord (kl κ) (kW κ) hC.2.2.2.2.2.2.2.2.1 ((8 : Int32) + y3) s4 s5 hf) o_X5_addWord k_789 (q0 := 9) (ci := 5) rfl rfl (rm_ok hR rfl) rfl (Nat.le_of_ble_eq_true rfl) dX5_readNumber_68) (fun s5 => ?_)
      refine r_iconst (pc := 71) hC (v := (1 : Int32)) (by decide) dX5_readNumber_71 ?_
      exact r_retOM hC rfl dX5_readNumber_72
    refine w_it4 (fun i6 i7 i8 s9 => s9) (fun i6 i7 i8 s9 => [some (.ref (ad κ 9)), some (.int i6), some (.int i7), some (.int i8)]) (fun self10 ih19_10 i6 i7 i8 s9 => ?_) N r2 (0 : Int32) (0 : Int32) s1
    unfold Pr_readNumber_B19
    refine r_iload_n (pc := 19) hC rfl dX5_readNumber_19 ?_
    refine r_iconst (pc := 20) hC (v := (3 : Int32)) (by decide) dX5_readNumber_20 ?_
    refine r_icmp_ge (pc := 21) (tgt := 63) hC dX5_readNumber_21 (by decide) ?_ ?_
    · exact r_wk [true, false, true, false] (hK63_5 i7 s9)
    · refine r_iload_n (pc := 24) hC rfl dX5_readNumber_24 ?_
      refine r_iconst (pc := 25) hC (v := (-1 : Int32)) (by decide) dX5_readNumber_25 ?_
      refine r_icmp_eq (pc := 26) (tgt := 63) hC dX5_readNumber_26 (by decide) ?_ ?_
      · exact r_wk [true, false, true, false] (hK63_5 i7 s9)
      · refine r_bipush (pc := 29) hC (v := (10 : Int32)) (by decide) dX5_readNumber_29 ?_
        refine r_iload_n (pc := 31) hC rfl dX5_readNumber_31 ?_
        refine r_imul (pc := 32) hC dX5_readNumber_32 ?_
        refine r_iload_n (pc := 33) hC rfl dX5_readNumber_33 ?_
        refine r_iadd (pc := 34) hC dX5_readNumber_34 ?_
        refine r_let (fun x11 => ?_)
        refine r_istore_n (pc := 35) hC rfl rfl dX5_readNumber_35 ?_
        refine r_aload_n (pc := 36) hC rfl dX5_readNumber_36 ?_
        refine gC_9_1 (pc := 37) hC k_251 dX5_readNumber_37 ?_
        refine r_dup (pc := 40) hC rfl dX5_readNumber_40 ?_
        refine gC_1_2 (pc := 41) hC k_115 dX5_readNumber_41 ?_
        refine r_iconst (pc := 44) hC (v := (1 : Int32)) (by decide) dX5_readNumber_44 ?_
        refine r_iadd (pc := 45) hC dX5_readNumber_45 ?_
        refine pC_1_2 (pc := 46) hC k_115 dX5_readNumber_46 ?_
        refine r_letm (fun s12 => ?_)
        refine r_aload_n (pc := 49) hC rfl dX5_readNumber_49 ?_
        refine gC_9_1 (pc := 50) hC k_251 dX5_readNumber_50 ?_
        refine r_cOM (pc := 53) (rest := []) (fun r14 s13 hf => runV [] hC (c_Sg_nextDigit (kl κ) (kW κ) hC.2.2.2.2.2.2.2.2.1 N s12 r14 s13 hf) o_X7_nextDigit k_806 (q0 := 1) (ci := 7) rfl rfl (rm_ok hR rfl) rfl (Nat.le_of_ble_eq_true rfl) dX5_readNumber_53) (fun r14 s13 => ?_)
        refine r_istore_n (pc := 56) hC rfl rfl dX5_readNumber_56 ?_
        refine r_iinc (pc := 57) hC (v := (1 : Int32)) rfl (by decide) rfl rfl dX5_readNumber_57 ?_
        refine r_goto (pc := 60) (tgt := 19) hC dX5_readNumber_60 (by decide) ?_
        exact ih19_10 r14 x11 (i8 + (1 : Int32)) s13
  · refine r_iconst (pc := 13) hC (v := (0 : Int32)) (by decide) dX5_readNumber_13 ?_
    exact r_retOM hC rfl dX5_readNumber_14
set_option maxRecDepth 100000 in
set_option maxHeartbeats 4000000 in
theorem c_Pr_readNumber (l : Launch) (w : Wenv) (hw : okw w wC) (N : Nat) (σ : Mem) (r : Int32) (τ : Mem) (hf : f_Pr_readNumber N  σ = some (r, τ)) : Ctr l w wC yX5_readNumber cX5_readNumber 4 (some .boolean) 2 41 [.ref (w.2.2.1 9)] σ (cQi w wC r τ) := mk_ctr (Q := fun κ => qOM κ wC) (lv := [some (.ref (w.2.2.1 9)), none, none, none]) (by decide) rfl hw (Nat.le_of_ble_eq_true rfl) rfl hf (fun κ h => by subst h; rfl) (fun κ hl h hR hC => by
    subst h
    exact w_Pr_readNumber hR hC N  σ)
-- DuelRound$Proofs.readWeights()Z (9,) kind OM
def Pr_readWeights_B2 (N : Nat) (self3 : Int32 → Mem → Option (Int32 × Mem)) (i1 : Int32) (s2 : Mem) : Option (Int32 × Mem) :=
  if (300 : Int32) < i1 then
  (some ((1 : Int32), s2))
  else
  (ob2 (f_Pr_readLetter N s2) fun r5 s4 =>
  if r5 = (0 : Int32) then
  (some ((0 : Int32), s4))
  else
  (ob2 (f_Pr_readNumber N s4) fun r7 s6 =>
  if r7 = (0 : Int32) then
  (some ((0 : Int32), s6))
  else
  (ob2 (f_Sg_nextLetter N s6) fun r9 s8 =>
  if r9 = (-1 : Int32) then
  (some ((1 : Int32), s8))
  else
  (self3 (i1 + (1 : Int32)) s8))))
def f_Pr_readWeights (N : Nat) (σ : Mem) : Option (Int32 × Mem) :=
  it2 (Pr_readWeights_B2 N) N (0 : Int32) σ
set_option maxRecDepth 100000 in
set_option maxHeartbeats 4000000 in
theorem w_Pr_readWeights {κ : Ctx} (hR : kR κ = { frames := 3, cells := 0, slots := 0, locals := 64 }) (hC : ok κ wC cX5_readWeights 2 RX5 (some .boolean)) (N : Nat) (σ : Mem) : wF κ wC 2 (qOM κ wC) σ 0 [some (.ref (ad κ 9)), none] [] (f_Pr_readWeights N  σ) := by
  unfold f_Pr_readWeights
  refine r_iconst (pc := 0) hC (v := (0 : Int32)) (by decide) dX5_readWeights_0 ?_
  refine r_istore_n (pc := 1) hC rfl rfl dX5_readWeights_1 ?_
  refine w_it2 (fun i1 s2 => s2) (fun i1 s2 => [some (.ref (ad κ 9)), some (.int i1)]) (fun self3 ih2_3 i1 s2 => ?_) N (0 : Int32) σ
  unfold Pr_readWeights_B2
  refine r_iload_n (pc := 2) hC rfl dX5_readWeights_2 ?_
  refine r_sipush (pc := 3) hC (v := (300 : Int32)) (by decide) dX5_readWeights_3 ?_
  refine r_icmp_gt (pc := 6) (tgt := 45) hC dX5_readWeights_6 (by decide) ?_ ?_
  · refine r_iconst (pc := 45) hC (v := (1 : Int32)) (by decide) dX5_readWeights_45 ?_
    exact r_retOM hC rfl dX5_readWeights_46
  · refine r_aload_n (pc := 9) hC rfl dX5_readWeights_9 ?_
    refine r_cOM (pc := 10) (rest := []) (fun r5 s4 hf => runV [] hC (c_Pr_readLetter (kl κ) (kW κ) hC.2.2.2.2.2.2.2.2.1 N s2 r5 s4 hf) o_X5_readLetter k_793 (q0 := 9) (ci := 5) rfl rfl (rm_ok hR rfl) rfl (Nat.le_of_ble_eq_true rfl) dX5_readWeights_10) (fun r5 s4 => ?_)
    refine r_if_eq (pc := 13) (tgt := 23) hC dX5_readWeights_13 (by decide) ?_ ?_
    · refine r_iconst (pc := 23) hC (v := (0 : Int32)) (by decide) dX5_readWeights_23 ?_
      exact r_retOM hC rfl dX5_readWeights_24
    · refine r_aload_n (pc := 16) hC rfl dX5_readWeights_16 ?_
      refine r_cOM (pc := 17) (rest := []) (fun r7 s6 hf => runV [] hC (c_Pr_readNumber (kl κ) (kW κ) hC.2.2.2.2.2.2.2.2.1 N s4 r7 s6 hf) o_X5_readNumber k_802 (q0 := 9) (ci := 5) rfl rfl (rm_ok hR rfl) rfl (Nat.le_of_ble_eq_true rfl) dX5_readWeights_17) (fun r7 s6 => ?_)
      refine r_if_ne (pc := 20) (tgt := 25) hC dX5_readWeights_20 (by decide) ?_ ?_
      · refine r_aload_n (pc := 25) hC rfl dX5_readWeights_25 ?_
        refine gC_9_1 (pc := 26) hC k_251 dX5_readWeights_26 ?_
        refine r_cOM (pc := 29) (rest := []) (fun r9 s8 hf => runV [] hC (c_Sg_nextLetter (kl κ) (kW κ) hC.2.2.2.2.2.2.2.2.1 N s6 r9 s8 hf) o_X7_nextLetter k_797 (q0 := 1) (ci := 7) rfl rfl (rm_ok hR rfl) rfl (Nat.le_of_ble_eq_true rfl) dX5_readWeights_29) (fun r9 s8 => ?_)
        refine r_iconst (pc := 32) hC (v := (-1 : Int32)) (by decide) dX5_readWeights_32 ?_
        refine r_icmp_ne (pc := 33) (tgt := 39) hC dX5_readWeights_33 (by decide) ?_ ?_
        · refine r_iinc (pc := 39) hC (v := (1 : Int32)) rfl (by decide) rfl rfl dX5_readWeights_39 ?_
          refine r_goto (pc := 42) (tgt := 2) hC dX5_readWeights_42 (by decide) ?_
          exact ih2_3 (i1 + (1 : Int32)) s8
        · refine r_goto (pc := 36) (tgt := 45) hC dX5_readWeights_36 (by decide) ?_
          refine r_iconst (pc := 45) hC (v := (1 : Int32)) (by decide) dX5_readWeights_45 ?_
          exact r_retOM hC rfl dX5_readWeights_46
      · refine r_iconst (pc := 23) hC (v := (0 : Int32)) (by decide) dX5_readWeights_23 ?_
        exact r_retOM hC rfl dX5_readWeights_24
set_option maxRecDepth 100000 in
set_option maxHeartbeats 4000000 in
theorem c_Pr_readWeights (l : Launch) (w : Wenv) (hw : okw w wC) (N : Nat) (σ : Mem) (r : Int32) (τ : Mem) (hf : f_Pr_readWeights N  σ = some (r, τ)) : Ctr l w wC yX5_readWeights cX5_readWeights 2 (some .boolean) 3 64 [.ref (w.2.2.1 9)] σ (cQi w wC r τ) := mk_ctr (Q := fun κ => qOM κ wC) (lv := [some (.ref (w.2.2.1 9)), none]) (by decide) rfl hw (Nat.le_of_ble_eq_true rfl) rfl hf (fun κ h => by subst h; rfl) (fun κ hl h hR hC => by
    subst h
    exact w_Pr_readWeights hR hC N  σ)
-- DuelRound$Proofs.readMoreLetters(I)Z (9, None) kind OM
def Pr_readMoreLetters_B2 (N : Nat) (a1 : Int32) (self3 : Int32 → Mem → Option (Int32 × Mem)) (i1 : Int32) (s2 : Mem) : Option (Int32 × Mem) :=
  if a1 ≤ i1 then
  (some ((1 : Int32), s2))
  else
  (ob2 (f_Pr_readLetter N s2) fun r5 s4 =>
  if r5 = (0 : Int32) then
  (some ((1 : Int32), s4))
  else
  (self3 (i1 + (1 : Int32)) s4))
def f_Pr_readMoreLetters (N : Nat) (a1 : Int32) (σ : Mem) : Option (Int32 × Mem) :=
  it2 (Pr_readMoreLetters_B2 N a1) N (0 : Int32) σ
set_option maxRecDepth 100000 in
set_option maxHeartbeats 4000000 in
theorem w_Pr_readMoreLetters {κ : Ctx} (hR : kR κ = { frames := 3, cells := 0, slots := 0, locals := 63 }) (hC : ok κ wC cX5_readMoreLetters 3 RX5 (some .boolean)) (N : Nat) (a1 : Int32) (σ : Mem) : wF κ wC 3 (qOM κ wC) σ 0 [some (.ref (ad κ 9)), some (.int a1), none] [] (f_Pr_readMoreLetters N a1 σ) := by
  unfold f_Pr_readMoreLetters
  refine r_iconst (pc := 0) hC (v := (0 : Int32)) (by decide) dX5_readMoreLetters_0 ?_
  refine r_istore_n (pc := 1) hC rfl rfl dX5_readMoreLetters_1 ?_
  refine w_it2 (fun i1 s2 => s2) (fun i1 s2 => [some (.ref (ad κ 9)), some (.int a1), some (.int i1)]) (fun self3 ih2_3 i1 s2 => ?_) N (0 : Int32) σ
  unfold Pr_readMoreLetters_B2
  refine r_iload_n (pc := 2) hC rfl dX5_readMoreLetters_2 ?_
  refine r_iload_n (pc := 3) hC rfl dX5_readMoreLetters_3 ?_
  refine r_icmp_ge (pc := 4) (tgt := 23) hC dX5_readMoreLetters_4 (by decide) ?_ ?_
  · refine r_iconst (pc := 23) hC (v := (1 : Int32)) (by decide) dX5_readMoreLetters_23 ?_
    exact r_retOM hC rfl dX5_readMoreLetters_24
  · refine r_aload_n (pc := 7) hC rfl dX5_readMoreLetters_7 ?_
    refine r_cOM (pc := 8) (rest := []) (fun r5 s4 hf => runV [] hC (c_Pr_readLetter (kl κ) (kW κ) hC.2.2.2.2.2.2.2.2.1 N s2 r5 s4 hf) o_X5_readLetter k_793 (q0 := 9) (ci := 5) rfl rfl (rm_ok hR rfl) rfl (Nat.le_of_ble_eq_true rfl) dX5_readMoreLetters_8) (fun r5 s4 => ?_)
    refine r_if_ne (pc := 11) (tgt := 17) hC dX5_readMoreLetters_11 (by decide) ?_ ?_
    · refine r_iinc (pc := 17) hC (v := (1 : Int32)) rfl (by decide) rfl rfl dX5_readMoreLetters_17 ?_
      refine r_goto (pc := 20) (tgt := 2) hC dX5_readMoreLetters_20 (by decide) ?_
      exact ih2_3 (i1 + (1 : Int32)) s4
    · refine r_goto (pc := 14) (tgt := 23) hC dX5_readMoreLetters_14 (by decide) ?_
      refine r_iconst (pc := 23) hC (v := (1 : Int32)) (by decide) dX5_readMoreLetters_23 ?_
      exact r_retOM hC rfl dX5_readMoreLetters_24
set_option maxRecDepth 100000 in
set_option maxHeartbeats 4000000 in
theorem c_Pr_readMoreLetters (l : Launch) (w : Wenv) (hw : okw w wC) (N : Nat) (a1 : Int32) (σ : Mem) (r : Int32) (τ : Mem) (hf : f_Pr_readMoreLetters N a1 σ = some (r, τ)) : Ctr l w wC yX5_readMoreLetters cX5_readMoreLetters 3 (some .boolean) 3 63 [.ref (w.2.2.1 9), .int a1] σ (cQi w wC r τ) := mk_ctr (Q := fun κ => qOM κ wC) (lv := [some (.ref (w.2.2.1 9)), some (.int a1), none]) (by decide) rfl hw (Nat.le_of_ble_eq_true rfl) rfl hf (fun κ h => by subst h; rfl) (fun κ hl h hR hC => by
    subst h
    exact w_Pr_readMoreLetters hR hC N a1 σ)
-- DuelRound$Proofs.readLine()Z (9,) kind OM
def f_Pr_readLine (N : Nat) (σ : Mem) : Option (Int32 × Mem) :=
  ob2 (f_Sg_next N σ) fun r2 s1 =>
  swc r2 [((99 : Int32), ob (f_Pr_addSign r2 s1) fun s3 =>
  ob2 (f_Pr_readLetter N s3) fun r5 s4 =>
  if r5 = (0 : Int32) then
  (some ((0 : Int32), s4))
  else
  (ob2 (f_Pr_readMoreLetters N (300 : Int32) s4) fun r7 s6 =>
  if r7 = (0 : Int32) then
  (some ((0 : Int32), s6))
  else
  (some ((1 : Int32), s6)))),
  ((107 : Int32), ob (f_Pr_addSign r2 s1) fun s8 =>
  ob2 (f_Pr_readLetter N s8) fun r10 s9 =>
  if r10 = (0 : Int32) then
  (some ((0 : Int32), s9))
  else
  (ob2 (f_Pr_readMoreLetters N (300 : Int32) s9) fun r12 s11 =>
  if r12 = (0 : Int32) then
  (some ((0 : Int32), s11))
  else
  (some ((1 : Int32), s11)))),
  ((114 : Int32), ob (f_Pr_addSign r2 s1) fun s13 =>
  ob2 (f_Pr_readLetter N s13) fun r15 s14 =>
  if r15 = (0 : Int32) then
  (some ((0 : Int32), s14))
  else
  (ob2 (f_Pr_readMoreLetters N (300 : Int32) s14) fun r17 s16 =>
  if r17 = (0 : Int32) then
  (some ((0 : Int32), s16))
  else
  (some ((1 : Int32), s16)))),
  ((115 : Int32), ob (f_Pr_addSign r2 s1) fun s18 =>
  ob2 (f_Pr_readNumber N s18) fun r20 s19 =>
  if r20 = (0 : Int32) then
  (some ((0 : Int32), s19))
  else
  (ob2 (f_Pr_readLetter N s19) fun r22 s21 =>
  if r22 = (0 : Int32) then
  (some ((0 : Int32), s21))
  else
  (ob2 (f_Pr_readMoreLetters N (300 : Int32) s21) fun r24 s23 =>
  if r24 = (0 : Int32) then
  (some ((0 : Int32), s23))
  else
  (some ((1 : Int32), s23))))),
  ((117 : Int32), ob (f_Pr_addSign r2 s1) fun s25 =>
  ob2 (f_Pr_readLetter N s25) fun r27 s26 =>
  if r27 = (0 : Int32) then
  (some ((0 : Int32), s26))
  else
  (ob2 (f_Pr_readLetter N s26) fun r29 s28 =>
  if r29 = (0 : Int32) then
  (some ((0 : Int32), s28))
  else
  (ob2 (f_Pr_readMoreLetters N (1 : Int32) s28) fun r31 s30 =>
  if r31 = (0 : Int32) then
  (some ((0 : Int32), s30))
  else
  (some ((1 : Int32), s30))))),
  ((119 : Int32), ob (f_Pr_addSign r2 s1) fun s32 =>
  ob2 (f_Pr_readWeights N s32) fun r34 s33 =>
  gd (isb r34) (some (r34, s33)))]
  (some ((0 : Int32), s1))
set_option maxRecDepth 100000 in
set_option maxHeartbeats 4000000 in
theorem w_Pr_readLine {κ : Ctx} (hR : kR κ = { frames := 4, cells := 0, slots := 0, locals := 85 }) (hC : ok κ wC cX5_readLine 2 RX5 (some .boolean)) (N : Nat) (σ : Mem) : wF κ wC 2 (qOM κ wC) σ 0 [some (.ref (ad κ 9)), none] [] (f_Pr_readLine N  σ) := by
  unfold f_Pr_readLine
  refine r_aload_n (pc := 0) hC rfl dX5_readLine_0 ?_
  refine gC_9_1 (pc := 1) hC k_251 dX5_readLine_1 ?_
  refine r_cOM (pc := 4) (rest := []) (fun r2 s1 hf => runV [] hC (c_Sg_next (kl κ) (kW κ) hC.2.2.2.2.2.2.2.2.1 N σ r2 s1 hf) o_X7_next k_784 (q0 := 1) (ci := 7) rfl rfl (rm_ok hR rfl) rfl (Nat.le_of_ble_eq_true rfl) dX5_readLine_4) (fun r2 s1 => ?_)
  refine r_istore_n (pc := 7) hC rfl rfl dX5_readLine_7 ?_
  refine r_iload_n (pc := 8) hC rfl dX5_readLine_8 ?_
  refine r_lookup (pc := 9) (tg := fun i => ([101, 101, 101, 129, 68, 164] : List Nat).getD i 0) (dt := 174) hC dX5_readLine_9 (by decide) (by decide) (fun i v a hi => ?_) (fun hno => ?_) ?_
  · have hl : i < 6 := (List.getElem?_eq_some_iff.mp hi).1
    rcases (show i = 0 ∨ i = 1 ∨ i = 2 ∨ i = 3 ∨ i = 4 ∨ i = 5 by omega) with rfl | rfl | rfl | rfl | rfl | rfl
    · cases hi
      refine ⟨by decide, ?_⟩
      refine r_aload_n (pc := 101) hC rfl dX5_readLine_101 ?_
      refine r_iload_n (pc := 102) hC rfl dX5_readLine_102 ?_
      refine r_cM (pc := 103) (rest := []) (fun s3 hf => runV [.int r2] hC (c_Pr_addSign (kl κ) (kW κ) hC.2.2.2.2.2.2.2.2.1 r2 s1 s3 hf) o_X5_addSign k_785 (q0 := 9) (ci := 5) rfl rfl (rm_ok hR rfl) rfl (Nat.le_of_ble_eq_true rfl) dX5_readLine_103) (fun s3 => ?_)
      refine r_aload_n (pc := 106) hC rfl dX5_readLine_106 ?_
      refine r_cOM (pc := 107) (rest := []) (fun r5 s4 hf => runV [] hC (c_Pr_readLetter (kl κ) (kW κ) hC.2.2.2.2.2.2.2.2.1 N s3 r5 s4 hf) o_X5_readLetter k_793 (q0 := 9) (ci := 5) rfl rfl (rm_ok hR rfl) rfl (Nat.le_of_ble_eq_true rfl) dX5_readLine_107) (fun r5 s4 => ?_)
      refine r_if_eq (pc := 110) (tgt := 127) hC dX5_readLine_110 (by decide) ?_ ?_
      · refine r_iconst (pc := 127) hC (v := (0 : Int32)) (by decide) dX5_readLine_127 ?_
        exact r_retOM hC rfl dX5_readLine_128
      · refine r_aload_n (pc := 113) hC rfl dX5_readLine_113 ?_
        refine r_sipush (pc := 114) hC (v := (300 : Int32)) (by decide) dX5_readLine_114 ?_
        refine r_cOM (pc := 117) (rest := []) (fun r7 s6 hf => runV [.int (300 : Int32)] hC (c_Pr_readMoreLetters (kl κ) (kW κ) hC.2.2.2.2.2.2.2.2.1 N (300 : Int32) s4 r7 s6 hf) o_X5_readMoreLetters k_798 (q0 := 9) (ci := 5) rfl rfl (rm_ok hR rfl) rfl (Nat.le_of_ble_eq_true rfl) dX5_readLine_117) (fun r7 s6 => ?_)
        refine r_if_eq (pc := 120) (tgt := 127) hC dX5_readLine_120 (by decide) ?_ ?_
        · refine r_iconst (pc := 127) hC (v := (0 : Int32)) (by decide) dX5_readLine_127 ?_
          exact r_retOM hC rfl dX5_readLine_128
        · refine r_iconst (pc := 123) hC (v := (1 : Int32)) (by decide) dX5_readLine_123 ?_
          refine r_goto (pc := 124) (tgt := 128) hC dX5_readLine_124 (by decide) ?_
          exact r_retOM hC rfl dX5_readLine_128
    · cases hi
      refine ⟨by decide, ?_⟩
      refine r_aload_n (pc := 101) hC rfl dX5_readLine_101 ?_
      refine r_iload_n (pc := 102) hC rfl dX5_readLine_102 ?_
      refine r_cM (pc := 103) (rest := []) (fun s8 hf => runV [.int r2] hC (c_Pr_addSign (kl κ) (kW κ) hC.2.2.2.2.2.2.2.2.1 r2 s1 s8 hf) o_X5_addSign k_785 (q0 := 9) (ci := 5) rfl rfl (rm_ok hR rfl) rfl (Nat.le_of_ble_eq_true rfl) dX5_readLine_103) (fun s8 => ?_)
      refine r_aload_n (pc := 106) hC rfl dX5_readLine_106 ?_
      refine r_cOM (pc := 107) (rest := []) (fun r10 s9 hf => runV [] hC (c_Pr_readLetter (kl κ) (kW κ) hC.2.2.2.2.2.2.2.2.1 N s8 r10 s9 hf) o_X5_readLetter k_793 (q0 := 9) (ci := 5) rfl rfl (rm_ok hR rfl) rfl (Nat.le_of_ble_eq_true rfl) dX5_readLine_107) (fun r10 s9 => ?_)
      refine r_if_eq (pc := 110) (tgt := 127) hC dX5_readLine_110 (by decide) ?_ ?_
      · refine r_iconst (pc := 127) hC (v := (0 : Int32)) (by decide) dX5_readLine_127 ?_
        exact r_retOM hC rfl dX5_readLine_128
      · refine r_aload_n (pc := 113) hC rfl dX5_readLine_113 ?_
        refine r_sipush (pc := 114) hC (v := (300 : Int32)) (by decide) dX5_readLine_114 ?_
        refine r_cOM (pc := 117) (rest := []) (fun r12 s11 hf => runV [.int (300 : Int32)] hC (c_Pr_readMoreLetters (kl κ) (kW κ) hC.2.2.2.2.2.2.2.2.1 N (300 : Int32) s9 r12 s11 hf) o_X5_readMoreLetters k_798 (q0 := 9) (ci := 5) rfl rfl (rm_ok hR rfl) rfl (Nat.le_of_ble_eq_true rfl) dX5_readLine_117) (fun r12 s11 => ?_)
        refine r_if_eq (pc := 120) (tgt := 127) hC dX5_readLine_120 (by decide) ?_ ?_
        · refine r_iconst (pc := 127) hC (v := (0 : Int32)) (by decide) dX5_readLine_127 ?_
          exact r_retOM hC rfl dX5_readLine_128
        · refine r_iconst (pc := 123) hC (v := (1 : Int32)) (by decide) dX5_readLine_123 ?_
          refine r_goto (pc := 124) (tgt := 128) hC dX5_readLine_124 (by decide) ?_
          exact r_retOM hC rfl dX5_readLine_128
    · cases hi
      refine ⟨by decide, ?_⟩
      refine r_aload_n (pc := 101) hC rfl dX5_readLine_101 ?_
      refine r_iload_n (pc := 102) hC rfl dX5_readLine_102 ?_
      refine r_cM (pc := 103) (rest := []) (fun s13 hf => runV [.int r2] hC (c_Pr_addSign (kl κ) (kW κ) hC.2.2.2.2.2.2.2.2.1 r2 s1 s13 hf) o_X5_addSign k_785 (q0 := 9) (ci := 5) rfl rfl (rm_ok hR rfl) rfl (Nat.le_of_ble_eq_true rfl) dX5_readLine_103) (fun s13 => ?_)
      refine r_aload_n (pc := 106) hC rfl dX5_readLine_106 ?_
      refine r_cOM (pc := 107) (rest := []) (fun r15 s14 hf => runV [] hC (c_Pr_readLetter (kl κ) (kW κ) hC.2.2.2.2.2.2.2.2.1 N s13 r15 s14 hf) o_X5_readLetter k_793 (q0 := 9) (ci := 5) rfl rfl (rm_ok hR rfl) rfl (Nat.le_of_ble_eq_true rfl) dX5_readLine_107) (fun r15 s14 => ?_)
      refine r_if_eq (pc := 110) (tgt := 127) hC dX5_readLine_110 (by decide) ?_ ?_
      · refine r_iconst (pc := 127) hC (v := (0 : Int32)) (by decide) dX5_readLine_127 ?_
        exact r_retOM hC rfl dX5_readLine_128
      · refine r_aload_n (pc := 113) hC rfl dX5_readLine_113 ?_
        refine r_sipush (pc := 114) hC (v := (300 : Int32)) (by decide) dX5_readLine_114 ?_
        refine r_cOM (pc := 117) (rest := []) (fun r17 s16 hf => runV [.int (300 : Int32)] hC (c_Pr_readMoreLetters (kl κ) (kW κ) hC.2.2.2.2.2.2.2.2.1 N (300 : Int32) s14 r17 s16 hf) o_X5_readMoreLetters k_798 (q0 := 9) (ci := 5) rfl rfl (rm_ok hR rfl) rfl (Nat.le_of_ble_eq_true rfl) dX5_readLine_117) (fun r17 s16 => ?_)
        refine r_if_eq (pc := 120) (tgt := 127) hC dX5_readLine_120 (by decide) ?_ ?_
        · refine r_iconst (pc := 127) hC (v := (0 : Int32)) (by decide) dX5_readLine_127 ?_
          exact r_retOM hC rfl dX5_readLine_128
        · refine r_iconst (pc := 123) hC (v := (1 : Int32)) (by decide) dX5_readLine_123 ?_
          refine r_goto (pc := 124) (tgt := 128) hC dX5_readLine_124 (by decide) ?_
          exact r_retOM hC rfl dX5_readLine_128
    · cases hi
      refine ⟨by decide, ?_⟩
      refine r_aload_n (pc := 129) hC rfl dX5_readLine_129 ?_
      refine r_iload_n (pc := 130) hC rfl dX5_readLine_130 ?_
      refine r_cM (pc := 131) (rest := []) (fun s18 hf => runV [.int r2] hC (c_Pr_addSign (kl κ) (kW κ) hC.2.2.2.2.2.2.2.2.1 r2 s1 s18 hf) o_X5_addSign k_785 (q0 := 9) (ci := 5) rfl rfl (rm_ok hR rfl) rfl (Nat.le_of_ble_eq_true rfl) dX5_readLine_131) (fun s18 => ?_)
      refine r_aload_n (pc := 134) hC rfl dX5_readLine_134 ?_
      refine r_cOM (pc := 135) (rest := []) (fun r20 s19 hf => runV [] hC (c_Pr_readNumber (kl κ) (kW κ) hC.2.2.2.2.2.2.2.2.1 N s18 r20 s19 hf) o_X5_readNumber k_802 (q0 := 9) (ci := 5) rfl rfl (rm_ok hR rfl) rfl (Nat.le_of_ble_eq_true rfl) dX5_readLine_135) (fun r20 s19 => ?_)
      refine r_if_eq (pc := 138) (tgt := 162) hC dX5_readLine_138 (by decide) ?_ ?_
      · refine r_iconst (pc := 162) hC (v := (0 : Int32)) (by decide) dX5_readLine_162 ?_
        exact r_retOM hC rfl dX5_readLine_163
      · refine r_aload_n (pc := 141) hC rfl dX5_readLine_141 ?_
        refine r_cOM (pc := 142) (rest := []) (fun r22 s21 hf => runV [] hC (c_Pr_readLetter (kl κ) (kW κ) hC.2.2.2.2.2.2.2.2.1 N s19 r22 s21 hf) o_X5_readLetter k_793 (q0 := 9) (ci := 5) rfl rfl (rm_ok hR rfl) rfl (Nat.le_of_ble_eq_true rfl) dX5_readLine_142) (fun r22 s21 => ?_)
        refine r_if_eq (pc := 145) (tgt := 162) hC dX5_readLine_145 (by decide) ?_ ?_
        · refine r_iconst (pc := 162) hC (v := (0 : Int32)) (by decide) dX5_readLine_162 ?_
          exact r_retOM hC rfl dX5_readLine_163
        · refine r_aload_n (pc := 148) hC rfl dX5_readLine_148 ?_
          refine r_sipush (pc := 149) hC (v := (300 : Int32)) (by decide) dX5_readLine_149 ?_
          refine r_cOM (pc := 152) (rest := []) (fun r24 s23 hf => runV [.int (300 : Int32)] hC (c_Pr_readMoreLetters (kl κ) (kW κ) hC.2.2.2.2.2.2.2.2.1 N (300 : Int32) s21 r24 s23 hf) o_X5_readMoreLetters k_798 (q0 := 9) (ci := 5) rfl rfl (rm_ok hR rfl) rfl (Nat.le_of_ble_eq_true rfl) dX5_readLine_152) (fun r24 s23 => ?_)
          refine r_if_eq (pc := 155) (tgt := 162) hC dX5_readLine_155 (by decide) ?_ ?_
          · refine r_iconst (pc := 162) hC (v := (0 : Int32)) (by decide) dX5_readLine_162 ?_
            exact r_retOM hC rfl dX5_readLine_163
          · refine r_iconst (pc := 158) hC (v := (1 : Int32)) (by decide) dX5_readLine_158 ?_
            refine r_goto (pc := 159) (tgt := 163) hC dX5_readLine_159 (by decide) ?_
            exact r_retOM hC rfl dX5_readLine_163
    · cases hi
      refine ⟨by decide, ?_⟩
      refine r_aload_n (pc := 68) hC rfl dX5_readLine_68 ?_
      refine r_iload_n (pc := 69) hC rfl dX5_readLine_69 ?_
      refine r_cM (pc := 70) (rest := []) (fun s25 hf => runV [.int r2] hC (c_Pr_addSign (kl κ) (kW κ) hC.2.2.2.2.2.2.2.2.1 r2 s1 s25 hf) o_X5_addSign k_785 (q0 := 9) (ci := 5) rfl rfl (rm_ok hR rfl) rfl (Nat.le_of_ble_eq_true rfl) dX5_readLine_70) (fun s25 => ?_)
      refine r_aload_n (pc := 73) hC rfl dX5_readLine_73 ?_
      refine r_cOM (pc := 74) (rest := []) (fun r27 s26 hf => runV [] hC (c_Pr_readLetter (kl κ) (kW κ) hC.2.2.2.2.2.2.2.2.1 N s25 r27 s26 hf) o_X5_readLetter k_793 (q0 := 9) (ci := 5) rfl rfl (rm_ok hR rfl) rfl (Nat.le_of_ble_eq_true rfl) dX5_readLine_74) (fun r27 s26 => ?_)
      refine r_if_eq (pc := 77) (tgt := 99) hC dX5_readLine_77 (by decide) ?_ ?_
      · refine r_iconst (pc := 99) hC (v := (0 : Int32)) (by decide) dX5_readLine_99 ?_
        exact r_retOM hC rfl dX5_readLine_100
      · refine r_aload_n (pc := 80) hC rfl dX5_readLine_80 ?_
        refine r_cOM (pc := 81) (rest := []) (fun r29 s28 hf => runV [] hC (c_Pr_readLetter (kl κ) (kW κ) hC.2.2.2.2.2.2.2.2.1 N s26 r29 s28 hf) o_X5_readLetter k_793 (q0 := 9) (ci := 5) rfl rfl (rm_ok hR rfl) rfl (Nat.le_of_ble_eq_true rfl) dX5_readLine_81) (fun r29 s28 => ?_)
        refine r_if_eq (pc := 84) (tgt := 99) hC dX5_readLine_84 (by decide) ?_ ?_
        · refine r_iconst (pc := 99) hC (v := (0 : Int32)) (by decide) dX5_readLine_99 ?_
          exact r_retOM hC rfl dX5_readLine_100
        · refine r_aload_n (pc := 87) hC rfl dX5_readLine_87 ?_
          refine r_iconst (pc := 88) hC (v := (1 : Int32)) (by decide) dX5_readLine_88 ?_
          refine r_cOM (pc := 89) (rest := []) (fun r31 s30 hf => runV [.int (1 : Int32)] hC (c_Pr_readMoreLetters (kl κ) (kW κ) hC.2.2.2.2.2.2.2.2.1 N (1 : Int32) s28 r31 s30 hf) o_X5_readMoreLetters k_798 (q0 := 9) (ci := 5) rfl rfl (rm_ok hR rfl) rfl (Nat.le_of_ble_eq_true rfl) dX5_readLine_89) (fun r31 s30 => ?_)
          refine r_if_eq (pc := 92) (tgt := 99) hC dX5_readLine_92 (by decide) ?_ ?_
          · refine r_iconst (pc := 99) hC (v := (0 : Int32)) (by decide) dX5_readLine_99 ?_
            exact r_retOM hC rfl dX5_readLine_100
          · refine r_iconst (pc := 95) hC (v := (1 : Int32)) (by decide) dX5_readLine_95 ?_
            refine r_goto (pc := 96) (tgt := 100) hC dX5_readLine_96 (by decide) ?_
            exact r_retOM hC rfl dX5_readLine_100
    · cases hi
      refine ⟨by decide, ?_⟩
      refine r_aload_n (pc := 164) hC rfl dX5_readLine_164 ?_
      refine r_iload_n (pc := 165) hC rfl dX5_readLine_165 ?_
      refine r_cM (pc := 166) (rest := []) (fun s32 hf => runV [.int r2] hC (c_Pr_addSign (kl κ) (kW κ) hC.2.2.2.2.2.2.2.2.1 r2 s1 s32 hf) o_X5_addSign k_785 (q0 := 9) (ci := 5) rfl rfl (rm_ok hR rfl) rfl (Nat.le_of_ble_eq_true rfl) dX5_readLine_166) (fun s32 => ?_)
      refine r_aload_n (pc := 169) hC rfl dX5_readLine_169 ?_
      refine r_cOM (pc := 170) (rest := []) (fun r34 s33 hf => runV [] hC (c_Pr_readWeights (kl κ) (kW κ) hC.2.2.2.2.2.2.2.2.1 N s32 r34 s33 hf) o_X5_readWeights k_810 (q0 := 9) (ci := 5) rfl rfl (rm_ok hR rfl) rfl (Nat.le_of_ble_eq_true rfl) dX5_readLine_170) (fun r34 s33 => ?_)
      exact r_retOMb hC dX5_readLine_173
  · refine lk_no ([(99, 92), (107, 92), (114, 92), (115, 120), (117, 59), (119, 155)] : List (Int × Int)) _ _ (fun q hq => ?_)
    simp only [List.mem_cons, List.not_mem_nil, or_false] at hq
    rcases hq with rfl | rfl | rfl | rfl | rfl | rfl
    · exact fun h => hno 0 _ _ rfl (lk_eq h (by decide))
    · exact fun h => hno 1 _ _ rfl (lk_eq h (by decide))
    · exact fun h => hno 2 _ _ rfl (lk_eq h (by decide))
    · exact fun h => hno 3 _ _ rfl (lk_eq h (by decide))
    · exact fun h => hno 4 _ _ rfl (lk_eq h (by decide))
    · exact fun h => hno 5 _ _ rfl (lk_eq h (by decide))
  · refine r_iconst (pc := 174) hC (v := (0 : Int32)) (by decide) dX5_readLine_174 ?_
    exact r_retOM hC rfl dX5_readLine_175
set_option maxRecDepth 100000 in
set_option maxHeartbeats 4000000 in
theorem c_Pr_readLine (l : Launch) (w : Wenv) (hw : okw w wC) (N : Nat) (σ : Mem) (r : Int32) (τ : Mem) (hf : f_Pr_readLine N  σ = some (r, τ)) : Ctr l w wC yX5_readLine cX5_readLine 2 (some .boolean) 4 85 [.ref (w.2.2.1 9)] σ (cQi w wC r τ) := mk_ctr (Q := fun κ => qOM κ wC) (lv := [some (.ref (w.2.2.1 9)), none]) (by decide) rfl hw (Nat.le_of_ble_eq_true rfl) rfl hf (fun κ h => by subst h; rfl) (fun κ hl h hR hC => by
    subst h
    exact w_Pr_readLine hR hC N  σ)
-- DuelRound$Proofs.readLines()I (9,) kind OM
def Pr_readLines_K102 (N : Nat) (s5 : Mem) : Option (Int32 × Mem) :=
  ob2 (f_Sg_next N s5) fun r7 s6 =>
  if r7 = (-1 : Int32) then
  (some ((-1 : Int32), s6))
  else
  (some ((gI s6 2 0), s6))
def Pr_readLines_K80 (N : Nat) (s8 : Mem) : Option (Int32 × Mem) :=
  Pr_readLines_K102 N s8
def Pr_readLines_B27 (N : Nat) (self11 : Int32 → Mem → Option (Int32 × Mem)) (i9 : Int32) (s10 : Mem) : Option (Int32 × Mem) :=
  if (100 : Int32) < i9 then
  (Pr_readLines_K102 N s10)
  else
  (ob2 (f_Pr_readLine N s10) fun r13 s12 =>
  if r13 = (0 : Int32) then
  (some ((gI s12 2 0), s12))
  else
  (bnd (sI s12 7 0 (i9 + (1 : Int32))) fun s14 =>
  gd (inb (gI s14 7 0) 102) (bnd (sI s14 25 (gI s14 7 0).toNatClampNeg (gI s14 6 0)) fun s15 =>
  ob2 (f_Sg_next N s15) fun r17 s16 =>
  if r17 = (59 : Int32) then
  (bnd (sI s16 2 0 ((gI s16 2 0) + (1 : Int32))) fun s18 =>
  self11 (i9 + (1 : Int32)) s18)
  else
  (Pr_readLines_K80 N s16))))
def f_Pr_readLines (N : Nat) (σ : Mem) : Option (Int32 × Mem) :=
  bnd (sI σ 2 0 (0 : Int32)) fun s1 =>
  bnd (sI s1 6 0 (0 : Int32)) fun s2 =>
  bnd (sI s2 7 0 (0 : Int32)) fun s3 =>
  bnd (sI s3 25 (0 : Int32).toNatClampNeg (0 : Int32)) fun s4 =>
  it2 (Pr_readLines_B27 N) N (0 : Int32) s4
set_option maxRecDepth 100000 in
set_option maxHeartbeats 4000000 in
theorem w_Pr_readLines {κ : Ctx} (hR : kR κ = { frames := 5, cells := 0, slots := 0, locals := 106 }) (hC : ok κ wC cX5_readLines 2 RX5 (some .int)) (N : Nat) (σ : Mem) : wF κ wC 2 (qOM κ wC) σ 0 [some (.ref (ad κ 9)), none] [] (f_Pr_readLines N  σ) := by
  unfold f_Pr_readLines
  refine r_aload_n (pc := 0) hC rfl dX5_readLines_0 ?_
  refine gC_9_1 (pc := 1) hC k_251 dX5_readLines_1 ?_
  refine r_iconst (pc := 4) hC (v := (0 : Int32)) (by decide) dX5_readLines_4 ?_
  refine pC_1_2 (pc := 5) hC k_115 dX5_readLines_5 ?_
  refine r_letm (fun s1 => ?_)
  refine r_aload_n (pc := 8) hC rfl dX5_readLines_8 ?_
  refine r_iconst (pc := 9) hC (v := (0 : Int32)) (by decide) dX5_readLines_9 ?_
  refine pC_9_8 (pc := 10) hC k_258 dX5_readLines_10 ?_
  refine r_letm (fun s2 => ?_)
  refine r_aload_n (pc := 13) hC rfl dX5_readLines_13 ?_
  refine r_iconst (pc := 14) hC (v := (0 : Int32)) (by decide) dX5_readLines_14 ?_
  refine pC_9_9 (pc := 15) hC k_259 dX5_readLines_15 ?_
  refine r_letm (fun s3 => ?_)
  refine r_aload_n (pc := 18) hC rfl dX5_readLines_18 ?_
  refine gC_9_6 (pc := 19) hC k_256 dX5_readLines_19 ?_
  refine r_iconst (pc := 22) hC (v := (0 : Int32)) (by decide) dX5_readLines_22 ?_
  refine r_iconst (pc := 23) hC (v := (0 : Int32)) (by decide) dX5_readLines_23 ?_
  refine r_ung (b := inb (0 : Int32) 102) (by decide) ?_
  refine bC_25 (pc := 24) hC dX5_readLines_24 ?_
  refine r_letm (fun s4 => ?_)
  refine r_iconst (pc := 25) hC (v := (0 : Int32)) (by decide) dX5_readLines_25 ?_
  refine r_istore_n (pc := 26) hC rfl rfl dX5_readLines_26 ?_
  have hK102_7 : ∀ (s5 : Mem), wF κ wC 2 (qOM κ wC) s5 102 [some (.ref (ad κ 9)), none] [] (Pr_readLines_K102 N s5) := by
    intro s5
    unfold Pr_readLines_K102
    refine r_aload_n (pc := 102) hC rfl dX5_readLines_102 ?_
    refine gC_9_1 (pc := 103) hC k_251 dX5_readLines_103 ?_
    refine r_cOM (pc := 106) (rest := []) (fun r7 s6 hf => runV [] hC (c_Sg_next (kl κ) (kW κ) hC.2.2.2.2.2.2.2.2.1 N s5 r7 s6 hf) o_X7_next k_784 (q0 := 1) (ci := 7) rfl rfl (rm_ok hR rfl) rfl (Nat.le_of_ble_eq_true rfl) dX5_readLines_106) (fun r7 s6 => ?_)
    refine r_iconst (pc := 109) hC (v := (-1 : Int32)) (by decide) dX5_readLines_109 ?_
    refine r_icmp_ne (pc := 110) (tgt := 117) hC dX5_readLines_110 (by decide) ?_ ?_
    · refine r_aload_n (pc := 117) hC rfl dX5_readLines_117 ?_
      refine gC_9_1 (pc := 118) hC k_251 dX5_readLines_118 ?_
      refine gC_1_2 (pc := 121) hC k_115 dX5_readLines_121 ?_
      exact r_retOM hC rfl dX5_readLines_124
    · refine r_iconst (pc := 113) hC (v := (-1 : Int32)) (by decide) dX5_readLines_113 ?_
      refine r_goto (pc := 114) (tgt := 124) hC dX5_readLines_114 (by decide) ?_
      exact r_retOM hC rfl dX5_readLines_124
  have hK80_8 : ∀ (s8 : Mem), wF κ wC 2 (qOM κ wC) s8 80 [some (.ref (ad κ 9)), none] [] (Pr_readLines_K80 N s8) := by
    intro s8
    unfold Pr_readLines_K80
    refine r_goto (pc := 80) (tgt := 102) hC dX5_readLines_80 (by decide) ?_
    exact hK102_7 s8
  refine w_it2 (fun i9 s10 => s10) (fun i9 s10 => [some (.ref (ad κ 9)), some (.int i9)]) (fun self11 ih27_11 i9 s10 => ?_) N (0 : Int32) s4
  unfold Pr_readLines_B27
  refine r_iload_n (pc := 27) hC rfl dX5_readLines_27 ?_
  refine r_bipush (pc := 28) hC (v := (100 : Int32)) (by decide) dX5_readLines_28 ?_
  refine r_icmp_gt (pc := 30) (tgt := 102) hC dX5_readLines_30 (by decide) ?_ ?_
  · exact r_wk [true, false] (hK102_7 s10)
  · refine r_aload_n (pc := 33) hC rfl dX5_readLines_33 ?_
    refine r_cOM (pc := 34) (rest := []) (fun r13 s12 hf => runV [] hC (c_Pr_readLine (kl κ) (kW κ) hC.2.2.2.2.2.2.2.2.1 N s10 r13 s12 hf) o_X5_readLine k_780 (q0 := 9) (ci := 5) rfl rfl (rm_ok hR rfl) rfl (Nat.le_of_ble_eq_true rfl) dX5_readLines_34) (fun r13 s12 => ?_)
    refine r_if_ne (pc := 37) (tgt := 48) hC dX5_readLines_37 (by decide) ?_ ?_
    · refine r_aload_n (pc := 48) hC rfl dX5_readLines_48 ?_
      refine r_iload_n (pc := 49) hC rfl dX5_readLines_49 ?_
      refine r_iconst (pc := 50) hC (v := (1 : Int32)) (by decide) dX5_readLines_50 ?_
      refine r_iadd (pc := 51) hC dX5_readLines_51 ?_
      refine pC_9_9 (pc := 52) hC k_259 dX5_readLines_52 ?_
      refine r_letm (fun s14 => ?_)
      refine r_aload_n (pc := 55) hC rfl dX5_readLines_55 ?_
      refine gC_9_6 (pc := 56) hC k_256 dX5_readLines_56 ?_
      refine r_aload_n (pc := 59) hC rfl dX5_readLines_59 ?_
      refine gC_9_9 (pc := 60) hC k_259 dX5_readLines_60 ?_
      refine r_aload_n (pc := 63) hC rfl dX5_readLines_63 ?_
      refine gC_9_8 (pc := 64) hC k_258 dX5_readLines_64 ?_
      refine bC_25 (pc := 67) hC dX5_readLines_67 ?_
      refine r_letm (fun s15 => ?_)
      refine r_aload_n (pc := 68) hC rfl dX5_readLines_68 ?_
      refine gC_9_1 (pc := 69) hC k_251 dX5_readLines_69 ?_
      refine r_cOM (pc := 72) (rest := []) (fun r17 s16 hf => runV [] hC (c_Sg_next (kl κ) (kW κ) hC.2.2.2.2.2.2.2.2.1 N s15 r17 s16 hf) o_X7_next k_784 (q0 := 1) (ci := 7) rfl rfl (rm_ok hR rfl) rfl (Nat.le_of_ble_eq_true rfl) dX5_readLines_72) (fun r17 s16 => ?_)
      refine r_bipush (pc := 75) hC (v := (59 : Int32)) (by decide) dX5_readLines_75 ?_
      refine r_icmp_eq (pc := 77) (tgt := 83) hC dX5_readLines_77 (by decide) ?_ ?_
      · refine r_aload_n (pc := 83) hC rfl dX5_readLines_83 ?_
        refine gC_9_1 (pc := 84) hC k_251 dX5_readLines_84 ?_
        refine r_dup (pc := 87) hC rfl dX5_readLines_87 ?_
        refine gC_1_2 (pc := 88) hC k_115 dX5_readLines_88 ?_
        refine r_iconst (pc := 91) hC (v := (1 : Int32)) (by decide) dX5_readLines_91 ?_
        refine r_iadd (pc := 92) hC dX5_readLines_92 ?_
        refine pC_1_2 (pc := 93) hC k_115 dX5_readLines_93 ?_
        refine r_letm (fun s18 => ?_)
        refine r_iinc (pc := 96) hC (v := (1 : Int32)) rfl (by decide) rfl rfl dX5_readLines_96 ?_
        refine r_goto (pc := 99) (tgt := 27) hC dX5_readLines_99 (by decide) ?_
        exact ih27_11 (i9 + (1 : Int32)) s18
      · exact r_wk [true, false] (hK80_8 s16)
    · refine r_aload_n (pc := 40) hC rfl dX5_readLines_40 ?_
      refine gC_9_1 (pc := 41) hC k_251 dX5_readLines_41 ?_
      refine gC_1_2 (pc := 44) hC k_115 dX5_readLines_44 ?_
      exact r_retOM hC rfl dX5_readLines_47
set_option maxRecDepth 100000 in
set_option maxHeartbeats 4000000 in
theorem c_Pr_readLines (l : Launch) (w : Wenv) (hw : okw w wC) (N : Nat) (σ : Mem) (r : Int32) (τ : Mem) (hf : f_Pr_readLines N  σ = some (r, τ)) : Ctr l w wC yX5_readLines cX5_readLines 2 (some .int) 5 106 [.ref (w.2.2.1 9)] σ (cQi w wC r τ) := mk_ctr (Q := fun κ => qOM κ wC) (lv := [some (.ref (w.2.2.1 9)), none]) (by decide) rfl hw (Nat.le_of_ble_eq_true rfl) rfl hf (fun κ h => by subst h; rfl) (fun κ hl h hR hC => by
    subst h
    exact w_Pr_readLines hR hC N  σ)
-- DuelRound$Proofs.lettersOf(II)I (9, None, None) kind O
def Pr_lettersOf_B5 (σ : Mem) (a2 : Int32) (self3 : Int32 → Int32 → Option Int32) (i1 : Int32) (i2 : Int32) : Option Int32 :=
  if a2 ≤ i2 then
  (some i1)
  else
  (gd (inb i2 300) (if (8 : Int32) ≤ (gI σ 24 i2.toNatClampNeg) then
  (self3 i1 (i2 + (1 : Int32)))
  else
  (gd (inb i2 300) (bnd (i1 ||| ((1 : Int32) <<< ((gI σ 24 i2.toNatClampNeg) &&& 31))) fun x4 =>
  self3 x4 (i2 + (1 : Int32))))))
def f_Pr_lettersOf (N : Nat) (a1 : Int32) (a2 : Int32) (σ : Mem) : Option Int32 :=
  it2 (Pr_lettersOf_B5 σ a2) N (0 : Int32) a1
set_option maxRecDepth 100000 in
set_option maxHeartbeats 4000000 in
theorem w_Pr_lettersOf {κ : Ctx} (hR : kR κ = { frames := 0, cells := 0, slots := 0, locals := 0 }) (hC : ok κ wC cX5_lettersOf 5 RX5 (some .int)) (N : Nat) (a1 : Int32) (a2 : Int32) (σ : Mem) : wF κ wC 5 (qO κ wC σ) σ 0 [some (.ref (ad κ 9)), some (.int a1), some (.int a2), none, none] [] (f_Pr_lettersOf N a1 a2 σ) := by
  unfold f_Pr_lettersOf
  refine r_iconst (pc := 0) hC (v := (0 : Int32)) (by decide) dX5_lettersOf_0 ?_
  refine r_istore_n (pc := 1) hC rfl rfl dX5_lettersOf_1 ?_
  refine r_iload_n (pc := 2) hC rfl dX5_lettersOf_2 ?_
  refine r_istore (pc := 3) hC rfl rfl dX5_lettersOf_3 ?_
  refine r_wk [true, false, true, true, true] (w_it2 (fun i1 i2 => σ) (fun i1 i2 => [some (.ref (ad κ 9)), none, some (.int a2), some (.int i1), some (.int i2)]) (fun self3 ih5_3 i1 i2 => ?_) N (0 : Int32) a1)
  unfold Pr_lettersOf_B5
  refine r_iload (pc := 5) hC rfl dX5_lettersOf_5 ?_
  refine r_iload_n (pc := 7) hC rfl dX5_lettersOf_7 ?_
  refine r_icmp_ge (pc := 8) (tgt := 41) hC dX5_lettersOf_8 (by decide) ?_ ?_
  · refine r_iload_n (pc := 41) hC rfl dX5_lettersOf_41 ?_
    exact r_retO hC rfl dX5_lettersOf_42
  · refine r_aload_n (pc := 11) hC rfl dX5_lettersOf_11 ?_
    refine gC_9_5 (pc := 12) hC k_255 dX5_lettersOf_12 ?_
    refine r_iload (pc := 15) hC rfl dX5_lettersOf_15 ?_
    refine aC_24 (pc := 17) hC dX5_lettersOf_17 ?_
    refine r_bipush (pc := 18) hC (v := (8 : Int32)) (by decide) dX5_lettersOf_18 ?_
    refine r_icmp_ge (pc := 20) (tgt := 35) hC dX5_lettersOf_20 (by decide) ?_ ?_
    · refine r_iinc (pc := 35) hC (v := (1 : Int32)) rfl (by decide) rfl rfl dX5_lettersOf_35 ?_
      refine r_goto (pc := 38) (tgt := 5) hC dX5_lettersOf_38 (by decide) ?_
      exact ih5_3 i1 (i2 + (1 : Int32))
    · refine r_iload_n (pc := 23) hC rfl dX5_lettersOf_23 ?_
      refine r_iconst (pc := 24) hC (v := (1 : Int32)) (by decide) dX5_lettersOf_24 ?_
      refine r_aload_n (pc := 25) hC rfl dX5_lettersOf_25 ?_
      refine gC_9_5 (pc := 26) hC k_255 dX5_lettersOf_26 ?_
      refine r_iload (pc := 29) hC rfl dX5_lettersOf_29 ?_
      refine aC_24 (pc := 31) hC dX5_lettersOf_31 ?_
      refine r_ishl (pc := 32) hC dX5_lettersOf_32 ?_
      refine r_ior (pc := 33) hC dX5_lettersOf_33 ?_
      refine r_let (fun x4 => ?_)
      refine r_istore_n (pc := 34) hC rfl rfl dX5_lettersOf_34 ?_
      refine r_iinc (pc := 35) hC (v := (1 : Int32)) rfl (by decide) rfl rfl dX5_lettersOf_35 ?_
      refine r_goto (pc := 38) (tgt := 5) hC dX5_lettersOf_38 (by decide) ?_
      exact ih5_3 x4 (i2 + (1 : Int32))
set_option maxRecDepth 100000 in
set_option maxHeartbeats 4000000 in
theorem c_Pr_lettersOf (l : Launch) (w : Wenv) (hw : okw w wC) (N : Nat) (a1 : Int32) (a2 : Int32) (σ : Mem) (r : Int32) (hf : f_Pr_lettersOf N a1 a2 σ = some r) : Ctr l w wC yX5_lettersOf cX5_lettersOf 5 (some .int) 0 0 [.ref (w.2.2.1 9), .int a1, .int a2] σ (cQi w wC r σ) := mk_ctr (Q := fun κ => qO κ wC σ) (lv := [some (.ref (w.2.2.1 9)), some (.int a1), some (.int a2), none, none]) (by decide) rfl hw (Nat.le_of_ble_eq_true rfl) rfl hf (fun κ h => by subst h; rfl) (fun κ hl h hR hC => by
    subst h
    exact w_Pr_lettersOf hR hC N a1 a2 σ)
-- DuelRound$Proofs.countLetters(II)I (9, None, None) kind O
def Pr_countLetters_B5 (σ : Mem) (a2 : Int32) (self3 : Int32 → Int32 → Option Int32) (i1 : Int32) (i2 : Int32) : Option Int32 :=
  if a2 ≤ i2 then
  (some i1)
  else
  (gd (inb i2 300) (if (8 : Int32) ≤ (gI σ 24 i2.toNatClampNeg) then
  (self3 i1 (i2 + (1 : Int32)))
  else
  (self3 (i1 + (1 : Int32)) (i2 + (1 : Int32)))))
def f_Pr_countLetters (N : Nat) (a1 : Int32) (a2 : Int32) (σ : Mem) : Option Int32 :=
  it2 (Pr_countLetters_B5 σ a2) N (0 : Int32) a1
set_option maxRecDepth 100000 in
set_option maxHeartbeats 4000000 in
theorem w_Pr_countLetters {κ : Ctx} (hR : kR κ = { frames := 0, cells := 0, slots := 0, locals := 0 }) (hC : ok κ wC cX5_countLetters 5 RX5 (some .int)) (N : Nat) (a1 : Int32) (a2 : Int32) (σ : Mem) : wF κ wC 5 (qO κ wC σ) σ 0 [some (.ref (ad κ 9)), some (.int a1), some (.int a2), none, none] [] (f_Pr_countLetters N a1 a2 σ) := by
  unfold f_Pr_countLetters
  refine r_iconst (pc := 0) hC (v := (0 : Int32)) (by decide) dX5_countLetters_0 ?_
  refine r_istore_n (pc := 1) hC rfl rfl dX5_countLetters_1 ?_
  refine r_iload_n (pc := 2) hC rfl dX5_countLetters_2 ?_
  refine r_istore (pc := 3) hC rfl rfl dX5_countLetters_3 ?_
  refine r_wk [true, false, true, true, true] (w_it2 (fun i1 i2 => σ) (fun i1 i2 => [some (.ref (ad κ 9)), none, some (.int a2), some (.int i1), some (.int i2)]) (fun self3 ih5_3 i1 i2 => ?_) N (0 : Int32) a1)
  unfold Pr_countLetters_B5
  refine r_iload (pc := 5) hC rfl dX5_countLetters_5 ?_
  refine r_iload_n (pc := 7) hC rfl dX5_countLetters_7 ?_
  refine r_icmp_ge (pc := 8) (tgt := 32) hC dX5_countLetters_8 (by decide) ?_ ?_
  · refine r_iload_n (pc := 32) hC rfl dX5_countLetters_32 ?_
    exact r_retO hC rfl dX5_countLetters_33
  · refine r_aload_n (pc := 11) hC rfl dX5_countLetters_11 ?_
    refine gC_9_5 (pc := 12) hC k_255 dX5_countLetters_12 ?_
    refine r_iload (pc := 15) hC rfl dX5_countLetters_15 ?_
    refine aC_24 (pc := 17) hC dX5_countLetters_17 ?_
    refine r_bipush (pc := 18) hC (v := (8 : Int32)) (by decide) dX5_countLetters_18 ?_
    refine r_icmp_ge (pc := 20) (tgt := 26) hC dX5_countLetters_20 (by decide) ?_ ?_
    · refine r_iinc (pc := 26) hC (v := (1 : Int32)) rfl (by decide) rfl rfl dX5_countLetters_26 ?_
      refine r_goto (pc := 29) (tgt := 5) hC dX5_countLetters_29 (by decide) ?_
      exact ih5_3 i1 (i2 + (1 : Int32))
    · refine r_iinc (pc := 23) hC (v := (1 : Int32)) rfl (by decide) rfl rfl dX5_countLetters_23 ?_
      refine r_iinc (pc := 26) hC (v := (1 : Int32)) rfl (by decide) rfl rfl dX5_countLetters_26 ?_
      refine r_goto (pc := 29) (tgt := 5) hC dX5_countLetters_29 (by decide) ?_
      exact ih5_3 (i1 + (1 : Int32)) (i2 + (1 : Int32))
set_option maxRecDepth 100000 in
set_option maxHeartbeats 4000000 in
theorem c_Pr_countLetters (l : Launch) (w : Wenv) (hw : okw w wC) (N : Nat) (a1 : Int32) (a2 : Int32) (σ : Mem) (r : Int32) (hf : f_Pr_countLetters N a1 a2 σ = some r) : Ctr l w wC yX5_countLetters cX5_countLetters 5 (some .int) 0 0 [.ref (w.2.2.1 9), .int a1, .int a2] σ (cQi w wC r σ) := mk_ctr (Q := fun κ => qO κ wC σ) (lv := [some (.ref (w.2.2.1 9)), some (.int a1), some (.int a2), none, none]) (by decide) rfl hw (Nat.le_of_ble_eq_true rfl) rfl hf (fun κ h => by subst h; rfl) (fun κ hl h hR hC => by
    subst h
    exact w_Pr_countLetters hR hC N a1 a2 σ)
-- DuelRound$Weights.gainOf(I[I)I (6, None, 26) kind O
def We_gainOfG_B5 (σ : Mem) (a1 : Int32) (self3 : Int32 → Int32 → Option Int32) (i1 : Int32) (i2 : Int32) : Option Int32 :=
  if (gI σ 3 0) ≤ i2 then
  (some i1)
  else
  (if i2 = a1 then
  (self3 i1 (i2 + (1 : Int32)))
  else
  (ob (f_Du_isBeatingN a1 i2 σ) fun r4 =>
  if r4 = (0 : Int32) then
  (gd (inb i2 8) (bnd (i1 + (-(gI σ 26 i2.toNatClampNeg))) fun x5 =>
  self3 x5 (i2 + (1 : Int32))))
  else
  (gd (inb i2 8) (bnd (i1 + (gI σ 26 i2.toNatClampNeg)) fun x6 =>
  self3 x6 (i2 + (1 : Int32))))))
def f_We_gainOfG (N : Nat) (a1 : Int32) (σ : Mem) : Option Int32 :=
  it2 (We_gainOfG_B5 σ a1) N (0 : Int32) (0 : Int32)
set_option maxRecDepth 100000 in
set_option maxHeartbeats 4000000 in
theorem w_We_gainOfG {κ : Ctx} (hR : kR κ = { frames := 1, cells := 0, slots := 0, locals := 22 }) (hC : ok κ wC cX8_gainOf 5 RX8 (some .int)) (N : Nat) (a1 : Int32) (σ : Mem) : wF κ wC 5 (qO κ wC σ) σ 0 [some (.ref (ad κ 6)), some (.int a1), some (.ref (ad κ 26)), none, none] [] (f_We_gainOfG N a1 σ) := by
  unfold f_We_gainOfG
  refine r_iconst (pc := 0) hC (v := (0 : Int32)) (by decide) dX8_gainOf_0 ?_
  refine r_istore_n (pc := 1) hC rfl rfl dX8_gainOf_1 ?_
  refine r_iconst (pc := 2) hC (v := (0 : Int32)) (by decide) dX8_gainOf_2 ?_
  refine r_istore (pc := 3) hC rfl rfl dX8_gainOf_3 ?_
  refine w_it2 (fun i1 i2 => σ) (fun i1 i2 => [some (.ref (ad κ 6)), some (.int a1), some (.ref (ad κ 26)), some (.int i1), some (.int i2)]) (fun self3 ih5_3 i1 i2 => ?_) N (0 : Int32) (0 : Int32)
  unfold We_gainOfG_B5
  refine r_iload (pc := 5) hC rfl dX8_gainOf_5 ?_
  refine r_aload_n (pc := 7) hC rfl dX8_gainOf_7 ?_
  refine gC_6_0 (pc := 8) hC k_194 dX8_gainOf_8 ?_
  refine gC_2_1 (pc := 11) hC k_143 dX8_gainOf_11 ?_
  refine r_icmp_ge (pc := 14) (tgt := 57) hC dX8_gainOf_14 (by decide) ?_ ?_
  · refine r_iload_n (pc := 57) hC rfl dX8_gainOf_57 ?_
    exact r_retO hC rfl dX8_gainOf_58
  · refine r_iload (pc := 17) hC rfl dX8_gainOf_17 ?_
    refine r_iload_n (pc := 19) hC rfl dX8_gainOf_19 ?_
    refine r_icmp_eq (pc := 20) (tgt := 51) hC dX8_gainOf_20 (by decide) ?_ ?_
    · refine r_iinc (pc := 51) hC (v := (1 : Int32)) rfl (by decide) rfl rfl dX8_gainOf_51 ?_
      refine r_goto (pc := 54) (tgt := 5) hC dX8_gainOf_54 (by decide) ?_
      exact ih5_3 i1 (i2 + (1 : Int32))
    · refine r_iload_n (pc := 23) hC rfl dX8_gainOf_23 ?_
      refine r_aload_n (pc := 24) hC rfl dX8_gainOf_24 ?_
      refine gC_6_0 (pc := 25) hC k_194 dX8_gainOf_25 ?_
      refine r_iload_n (pc := 28) hC rfl dX8_gainOf_28 ?_
      refine r_iload (pc := 29) hC rfl dX8_gainOf_29 ?_
      refine r_cO (pc := 31) (rest := [.int i1]) (fun r4 hf => runV [.int a1, .int i2] hC (c_Du_isBeatingN (kl κ) (kW κ) hC.2.2.2.2.2.2.2.2.1 a1 i2 σ r4 hf) o_X1_isBeating k_599 (q0 := 2) (ci := 1) rfl rfl (rm_ok hR rfl) rfl (Nat.le_of_ble_eq_true rfl) dX8_gainOf_31) (fun r4 => ?_)
      refine r_if_eq (pc := 34) (tgt := 44) hC dX8_gainOf_34 (by decide) ?_ ?_
      · refine r_aload_n (pc := 44) hC rfl dX8_gainOf_44 ?_
        refine r_iload (pc := 45) hC rfl dX8_gainOf_45 ?_
        refine aC_26 (pc := 47) hC dX8_gainOf_47 ?_
        refine r_ineg (pc := 48) hC dX8_gainOf_48 ?_
        refine r_iadd (pc := 49) hC dX8_gainOf_49 ?_
        refine r_let (fun x5 => ?_)
        refine r_istore_n (pc := 50) hC rfl rfl dX8_gainOf_50 ?_
        refine r_iinc (pc := 51) hC (v := (1 : Int32)) rfl (by decide) rfl rfl dX8_gainOf_51 ?_
        refine r_goto (pc := 54) (tgt := 5) hC dX8_gainOf_54 (by decide) ?_
        exact ih5_3 x5 (i2 + (1 : Int32))
      · refine r_aload_n (pc := 37) hC rfl dX8_gainOf_37 ?_
        refine r_iload (pc := 38) hC rfl dX8_gainOf_38 ?_
        refine aC_26 (pc := 40) hC dX8_gainOf_40 ?_
        refine r_goto (pc := 41) (tgt := 49) hC dX8_gainOf_41 (by decide) ?_
        refine r_iadd (pc := 49) hC dX8_gainOf_49 ?_
        refine r_let (fun x6 => ?_)
        refine r_istore_n (pc := 50) hC rfl rfl dX8_gainOf_50 ?_
        refine r_iinc (pc := 51) hC (v := (1 : Int32)) rfl (by decide) rfl rfl dX8_gainOf_51 ?_
        refine r_goto (pc := 54) (tgt := 5) hC dX8_gainOf_54 (by decide) ?_
        exact ih5_3 x6 (i2 + (1 : Int32))
set_option maxRecDepth 100000 in
set_option maxHeartbeats 4000000 in
theorem c_We_gainOfG (l : Launch) (w : Wenv) (hw : okw w wC) (N : Nat) (a1 : Int32) (σ : Mem) (r : Int32) (hf : f_We_gainOfG N a1 σ = some r) : Ctr l w wC yX8_gainOf cX8_gainOf 5 (some .int) 1 22 [.ref (w.2.2.1 6), .int a1, .ref (w.2.2.1 26)] σ (cQi w wC r σ) := mk_ctr (Q := fun κ => qO κ wC σ) (lv := [some (.ref (w.2.2.1 6)), some (.int a1), some (.ref (w.2.2.1 26)), none, none]) (by decide) rfl hw (Nat.le_of_ble_eq_true rfl) rfl hf (fun κ h => by subst h; rfl) (fun κ hl h hR hC => by
    subst h
    exact w_We_gainOfG hR hC N a1 σ)
-- DuelRound$Weights.nobodyGains(I[I)Z (6, None, 26) kind O
def We_nobodyGainsG_B2 (N : Nat) (σ : Mem) (a1 : Int32) (self2 : Int32 → Option Int32) (i1 : Int32) : Option Int32 :=
  if (gI σ 3 0) ≤ i1 then
  (some (1 : Int32))
  else
  (if (t_D_bitOf a1 i1) = (1 : Int32) then
  (ob (f_We_gainOfG N i1 σ) fun r3 =>
  if r3 ≤ (0 : Int32) then
  (self2 (i1 + (1 : Int32)))
  else
  (some (0 : Int32)))
  else
  (self2 (i1 + (1 : Int32))))
def f_We_nobodyGainsG (N : Nat) (a1 : Int32) (σ : Mem) : Option Int32 :=
  it1 (We_nobodyGainsG_B2 N σ a1) N (0 : Int32)
set_option maxRecDepth 100000 in
set_option maxHeartbeats 4000000 in
theorem w_We_nobodyGainsG {κ : Ctx} (hR : kR κ = { frames := 2, cells := 0, slots := 0, locals := 46 }) (hC : ok κ wC cX8_nobodyGains 4 RX8 (some .boolean)) (N : Nat) (a1 : Int32) (σ : Mem) : wF κ wC 4 (qO κ wC σ) σ 0 [some (.ref (ad κ 6)), some (.int a1), some (.ref (ad κ 26)), none] [] (f_We_nobodyGainsG N a1 σ) := by
  unfold f_We_nobodyGainsG
  refine r_iconst (pc := 0) hC (v := (0 : Int32)) (by decide) dX8_nobodyGains_0 ?_
  refine r_istore_n (pc := 1) hC rfl rfl dX8_nobodyGains_1 ?_
  refine w_it1 (fun i1 => σ) (fun i1 => [some (.ref (ad κ 6)), some (.int a1), some (.ref (ad κ 26)), some (.int i1)]) (fun self2 ih2_2 i1 => ?_) N (0 : Int32)
  unfold We_nobodyGainsG_B2
  refine r_iload_n (pc := 2) hC rfl dX8_nobodyGains_2 ?_
  refine r_aload_n (pc := 3) hC rfl dX8_nobodyGains_3 ?_
  refine gC_6_0 (pc := 4) hC k_194 dX8_nobodyGains_4 ?_
  refine gC_2_1 (pc := 7) hC k_143 dX8_nobodyGains_7 ?_
  refine r_icmp_ge (pc := 10) (tgt := 39) hC dX8_nobodyGains_10 (by decide) ?_ ?_
  · refine r_iconst (pc := 39) hC (v := (1 : Int32)) (by decide) dX8_nobodyGains_39 ?_
    exact r_retO hC rfl dX8_nobodyGains_40
  · refine r_iload_n (pc := 13) hC rfl dX8_nobodyGains_13 ?_
    refine r_iload_n (pc := 14) hC rfl dX8_nobodyGains_14 ?_
    refine r_cT (pc := 15) (rest := []) (runSN [.int a1, .int i1] hC (c_D_bitOf (kl κ) (kW κ) hC.2.2.2.2.2.2.2.2.1 a1 i1 σ) o_X9_bitOf (k_598 hC.2.2.2.2.2.2.2.2.2) (rm_ok hR rfl) rfl (Nat.le_of_ble_eq_true rfl) dX8_nobodyGains_15) ?_
    refine r_iconst (pc := 18) hC (v := (1 : Int32)) (by decide) dX8_nobodyGains_18 ?_
    refine r_icmp_ne (pc := 19) (tgt := 33) hC dX8_nobodyGains_19 (by decide) ?_ ?_
    · refine r_iinc (pc := 33) hC (v := (1 : Int32)) rfl (by decide) rfl rfl dX8_nobodyGains_33 ?_
      refine r_goto (pc := 36) (tgt := 2) hC dX8_nobodyGains_36 (by decide) ?_
      exact ih2_2 (i1 + (1 : Int32))
    · refine r_aload_n (pc := 22) hC rfl dX8_nobodyGains_22 ?_
      refine r_iload_n (pc := 23) hC rfl dX8_nobodyGains_23 ?_
      refine r_aload_n (pc := 24) hC rfl dX8_nobodyGains_24 ?_
      refine r_cO (pc := 25) (rest := []) (fun r3 hf => runV [.int i1, .ref (ad κ 26)] hC (c_We_gainOfG (kl κ) (kW κ) hC.2.2.2.2.2.2.2.2.1 N i1 σ r3 hf) o_X8_gainOf k_608 (q0 := 6) (ci := 8) rfl rfl (rm_ok hR rfl) rfl (Nat.le_of_ble_eq_true rfl) dX8_nobodyGains_25) (fun r3 => ?_)
      refine r_if_le (pc := 28) (tgt := 33) hC dX8_nobodyGains_28 (by decide) ?_ ?_
      · refine r_iinc (pc := 33) hC (v := (1 : Int32)) rfl (by decide) rfl rfl dX8_nobodyGains_33 ?_
        refine r_goto (pc := 36) (tgt := 2) hC dX8_nobodyGains_36 (by decide) ?_
        exact ih2_2 (i1 + (1 : Int32))
      · refine r_iconst (pc := 31) hC (v := (0 : Int32)) (by decide) dX8_nobodyGains_31 ?_
        exact r_retO hC rfl dX8_nobodyGains_32
set_option maxRecDepth 100000 in
set_option maxHeartbeats 4000000 in
theorem c_We_nobodyGainsG (l : Launch) (w : Wenv) (hw : okw w wC) (N : Nat) (a1 : Int32) (σ : Mem) (r : Int32) (hf : f_We_nobodyGainsG N a1 σ = some r) : Ctr l w wC yX8_nobodyGains cX8_nobodyGains 4 (some .boolean) 2 46 [.ref (w.2.2.1 6), .int a1, .ref (w.2.2.1 26)] σ (cQi w wC r σ) := mk_ctr (Q := fun κ => qO κ wC σ) (lv := [some (.ref (w.2.2.1 6)), some (.int a1), some (.ref (w.2.2.1 26)), none]) (by decide) rfl hw (Nat.le_of_ble_eq_true rfl) rfl hf (fun κ h => by subst h; rfl) (fun κ hl h hR hC => by
    subst h
    exact w_We_nobodyGainsG hR hC N a1 σ)
-- DuelRound$Proofs.whyNoWeights(II)I (9, None, None) kind OM
def Pr_whyNoWeights_K79 (N : Nat) (y2 : Int32) (s3 : Mem) : Option (Int32 × Mem) :=
  if y2 = (0 : Int32) then
  (some ((4 : Int32), s3))
  else
  (ob (f_We_nobodyGainsG N (t_Du_everybodyN s3) s3) fun r4 =>
  if r4 = (0 : Int32) then
  (some ((5 : Int32), s3))
  else
  (some ((0 : Int32), s3)))
def Pr_whyNoWeights_B26 (N : Nat) (a2 : Int32) (self8 : Int32 → Int32 → Mem → Option (Int32 × Mem)) (i5 : Int32) (i6 : Int32) (s7 : Mem) : Option (Int32 × Mem) :=
  if a2 ≤ (i6 + (1 : Int32)) then
  (Pr_whyNoWeights_K79 N i5 s7)
  else
  (gd (inb i6 300) (gd (inb (i6 + (1 : Int32)) 300) (gd (inb (gI s7 24 i6.toNatClampNeg) 8) (bnd (sI s7 26 (gI s7 24 i6.toNatClampNeg).toNatClampNeg ((gI s7 24 (i6 + (1 : Int32)).toNatClampNeg) - (8 : Int32))) fun s9 =>
  gd (inb i6 300) (gd (inb (gI s9 24 i6.toNatClampNeg) 8) (bnd (i5 + (gI s9 26 (gI s9 24 i6.toNatClampNeg).toNatClampNeg)) fun x10 =>
  self8 x10 (i6 + (2 : Int32)) s9))))))
def Pr_whyNoWeights_K21 (N : Nat) (a1 : Int32) (a2 : Int32) (s1 : Mem) : Option (Int32 × Mem) :=
  it3 (Pr_whyNoWeights_B26 N a2) N (0 : Int32) a1 s1
def Pr_whyNoWeights_B2 (N : Nat) (a1 : Int32) (a2 : Int32) (self13 : Int32 → Mem → Option (Int32 × Mem)) (i11 : Int32) (s12 : Mem) : Option (Int32 × Mem) :=
  if (8 : Int32) ≤ i11 then
  (Pr_whyNoWeights_K21 N a1 a2 s12)
  else
  (gd (inb i11 8) (bnd (sI s12 26 i11.toNatClampNeg (0 : Int32)) fun s14 =>
  self13 (i11 + (1 : Int32)) s14))
def f_Pr_whyNoWeights (N : Nat) (a1 : Int32) (a2 : Int32) (σ : Mem) : Option (Int32 × Mem) :=
  it2 (Pr_whyNoWeights_B2 N a1 a2) N (0 : Int32) σ
set_option maxRecDepth 100000 in
set_option maxHeartbeats 4000000 in
theorem w_Pr_whyNoWeights {κ : Ctx} (hR : kR κ = { frames := 3, cells := 0, slots := 0, locals := 69 }) (hC : ok κ wC cX5_whyNoWeights 5 RX5 (some .int)) (N : Nat) (a1 : Int32) (a2 : Int32) (σ : Mem) : wF κ wC 5 (qOM κ wC) σ 0 [some (.ref (ad κ 9)), some (.int a1), some (.int a2), none, none] [] (f_Pr_whyNoWeights N a1 a2 σ) := by
  unfold f_Pr_whyNoWeights
  refine r_iconst (pc := 0) hC (v := (0 : Int32)) (by decide) dX5_whyNoWeights_0 ?_
  refine r_istore_n (pc := 1) hC rfl rfl dX5_whyNoWeights_1 ?_
  have hK21_10 : ∀ (s1 : Mem), wF κ wC 5 (qOM κ wC) s1 21 [some (.ref (ad κ 9)), some (.int a1), some (.int a2), none, none] [] (Pr_whyNoWeights_K21 N a1 a2 s1) := by
    intro s1
    unfold Pr_whyNoWeights_K21
    refine r_iconst (pc := 21) hC (v := (0 : Int32)) (by decide) dX5_whyNoWeights_21 ?_
    refine r_istore_n (pc := 22) hC rfl rfl dX5_whyNoWeights_22 ?_
    refine r_iload_n (pc := 23) hC rfl dX5_whyNoWeights_23 ?_
    refine r_istore (pc := 24) hC rfl rfl dX5_whyNoWeights_24 ?_
    have hK79_4 : ∀ (y2 : Int32) (s3 : Mem), wF κ wC 5 (qOM κ wC) s3 79 [some (.ref (ad κ 9)), none, none, some (.int y2), none] [] (Pr_whyNoWeights_K79 N y2 s3) := by
      intro y2 s3
      unfold Pr_whyNoWeights_K79
      refine r_iload_n (pc := 79) hC rfl dX5_whyNoWeights_79 ?_
      refine r_if_ne (pc := 80) (tgt := 85) hC dX5_whyNoWeights_80 (by decide) ?_ ?_
      · refine r_aload_n (pc := 85) hC rfl dX5_whyNoWeights_85 ?_
        refine gC_9_4 (pc := 86) hC k_254 dX5_whyNoWeights_86 ?_
        refine r_aload_n (pc := 89) hC rfl dX5_whyNoWeights_89 ?_
        refine gC_9_0 (pc := 90) hC k_250 dX5_whyNoWeights_90 ?_
        refine r_cT (pc := 93) (rest := [.ref (ad κ 6)]) (runV [] hC (c_Du_everybodyN (kl κ) (kW κ) hC.2.2.2.2.2.2.2.2.1 s3) o_X1_everybody k_836 (q0 := 2) (ci := 1) rfl rfl (rm_ok hR rfl) rfl (Nat.le_of_ble_eq_true rfl) dX5_whyNoWeights_93) ?_
        refine r_aload_n (pc := 96) hC rfl dX5_whyNoWeights_96 ?_
        refine gC_9_7 (pc := 97) hC k_257 dX5_whyNoWeights_97 ?_
        refine r_cO (pc := 100) (rest := []) (fun r4 hf => runV [.int (t_Du_everybodyN s3), .ref (ad κ 26)] hC (c_We_nobodyGainsG (kl κ) (kW κ) hC.2.2.2.2.2.2.2.2.1 N (t_Du_everybodyN s3) s3 r4 hf) o_X8_nobodyGains k_859 (q0 := 6) (ci := 8) rfl rfl (rm_ok hR rfl) rfl (Nat.le_of_ble_eq_true rfl) dX5_whyNoWeights_100) (fun r4 => ?_)
        refine r_if_eq (pc := 103) (tgt := 110) hC dX5_whyNoWeights_103 (by decide) ?_ ?_
        · refine r_iconst (pc := 110) hC (v := (5 : Int32)) (by decide) dX5_whyNoWeights_110 ?_
          exact r_retOM hC rfl dX5_whyNoWeights_111
        · refine r_iconst (pc := 106) hC (v := (0 : Int32)) (by decide) dX5_whyNoWeights_106 ?_
          refine r_goto (pc := 107) (tgt := 111) hC dX5_whyNoWeights_107 (by decide) ?_
          exact r_retOM hC rfl dX5_whyNoWeights_111
      · refine r_iconst (pc := 83) hC (v := (4 : Int32)) (by decide) dX5_whyNoWeights_83 ?_
        exact r_retOM hC rfl dX5_whyNoWeights_84
    refine r_wk [true, false, true, true, true] (w_it3 (fun i5 i6 s7 => s7) (fun i5 i6 s7 => [some (.ref (ad κ 9)), none, some (.int a2), some (.int i5), some (.int i6)]) (fun self8 ih26_8 i5 i6 s7 => ?_) N (0 : Int32) a1 s1)
    unfold Pr_whyNoWeights_B26
    refine r_iload (pc := 26) hC rfl dX5_whyNoWeights_26 ?_
    refine r_iconst (pc := 28) hC (v := (1 : Int32)) (by decide) dX5_whyNoWeights_28 ?_
    refine r_iadd (pc := 29) hC dX5_whyNoWeights_29 ?_
    refine r_iload_n (pc := 30) hC rfl dX5_whyNoWeights_30 ?_
    refine r_icmp_ge (pc := 31) (tgt := 79) hC dX5_whyNoWeights_31 (by decide) ?_ ?_
    · exact r_wk [true, false, false, true, false] (hK79_4 i5 s7)
    · refine r_aload_n (pc := 34) hC rfl dX5_whyNoWeights_34 ?_
      refine gC_9_7 (pc := 35) hC k_257 dX5_whyNoWeights_35 ?_
      refine r_aload_n (pc := 38) hC rfl dX5_whyNoWeights_38 ?_
      refine gC_9_5 (pc := 39) hC k_255 dX5_whyNoWeights_39 ?_
      refine r_iload (pc := 42) hC rfl dX5_whyNoWeights_42 ?_
      refine aC_24 (pc := 44) hC dX5_whyNoWeights_44 ?_
      refine r_aload_n (pc := 45) hC rfl dX5_whyNoWeights_45 ?_
      refine gC_9_5 (pc := 46) hC k_255 dX5_whyNoWeights_46 ?_
      refine r_iload (pc := 49) hC rfl dX5_whyNoWeights_49 ?_
      refine r_iconst (pc := 51) hC (v := (1 : Int32)) (by decide) dX5_whyNoWeights_51 ?_
      refine r_iadd (pc := 52) hC dX5_whyNoWeights_52 ?_
      refine aC_24 (pc := 53) hC dX5_whyNoWeights_53 ?_
      refine r_bipush (pc := 54) hC (v := (8 : Int32)) (by decide) dX5_whyNoWeights_54 ?_
      refine r_isub (pc := 56) hC dX5_whyNoWeights_56 ?_
      refine bC_26 (pc := 57) hC dX5_whyNoWeights_57 ?_
      refine r_letm (fun s9 => ?_)
      refine r_iload_n (pc := 58) hC rfl dX5_whyNoWeights_58 ?_
      refine r_aload_n (pc := 59) hC rfl dX5_whyNoWeights_59 ?_
      refine gC_9_7 (pc := 60) hC k_257 dX5_whyNoWeights_60 ?_
      refine r_aload_n (pc := 63) hC rfl dX5_whyNoWeights_63 ?_
      refine gC_9_5 (pc := 64) hC k_255 dX5_whyNoWeights_64 ?_
      refine r_iload (pc := 67) hC rfl dX5_whyNoWeights_67 ?_
      refine aC_24 (pc := 69) hC dX5_whyNoWeights_69 ?_
      refine aC_26 (pc := 70) hC dX5_whyNoWeights_70 ?_
      refine r_iadd (pc := 71) hC dX5_whyNoWeights_71 ?_
      refine r_let (fun x10 => ?_)
      refine r_istore_n (pc := 72) hC rfl rfl dX5_whyNoWeights_72 ?_
      refine r_iinc (pc := 73) hC (v := (2 : Int32)) rfl (by decide) rfl rfl dX5_whyNoWeights_73 ?_
      refine r_goto (pc := 76) (tgt := 26) hC dX5_whyNoWeights_76 (by decide) ?_
      exact ih26_8 x10 (i6 + (2 : Int32)) s9
  refine w_it2 (fun i11 s12 => s12) (fun i11 s12 => [some (.ref (ad κ 9)), some (.int a1), some (.int a2), some (.int i11), none]) (fun self13 ih2_13 i11 s12 => ?_) N (0 : Int32) σ
  unfold Pr_whyNoWeights_B2
  refine r_iload_n (pc := 2) hC rfl dX5_whyNoWeights_2 ?_
  refine r_bipush (pc := 3) hC (v := (8 : Int32)) (by decide) dX5_whyNoWeights_3 ?_
  refine r_icmp_ge (pc := 5) (tgt := 21) hC dX5_whyNoWeights_5 (by decide) ?_ ?_
  · exact r_wk [true, true, true, false, false] (hK21_10 s12)
  · refine r_aload_n (pc := 8) hC rfl dX5_whyNoWeights_8 ?_
    refine gC_9_7 (pc := 9) hC k_257 dX5_whyNoWeights_9 ?_
    refine r_iload_n (pc := 12) hC rfl dX5_whyNoWeights_12 ?_
    refine r_iconst (pc := 13) hC (v := (0 : Int32)) (by decide) dX5_whyNoWeights_13 ?_
    refine bC_26 (pc := 14) hC dX5_whyNoWeights_14 ?_
    refine r_letm (fun s14 => ?_)
    refine r_iinc (pc := 15) hC (v := (1 : Int32)) rfl (by decide) rfl rfl dX5_whyNoWeights_15 ?_
    refine r_goto (pc := 18) (tgt := 2) hC dX5_whyNoWeights_18 (by decide) ?_
    exact ih2_13 (i11 + (1 : Int32)) s14
set_option maxRecDepth 100000 in
set_option maxHeartbeats 4000000 in
theorem c_Pr_whyNoWeights (l : Launch) (w : Wenv) (hw : okw w wC) (N : Nat) (a1 : Int32) (a2 : Int32) (σ : Mem) (r : Int32) (τ : Mem) (hf : f_Pr_whyNoWeights N a1 a2 σ = some (r, τ)) : Ctr l w wC yX5_whyNoWeights cX5_whyNoWeights 5 (some .int) 3 69 [.ref (w.2.2.1 9), .int a1, .int a2] σ (cQi w wC r τ) := mk_ctr (Q := fun κ => qOM κ wC) (lv := [some (.ref (w.2.2.1 9)), some (.int a1), some (.int a2), none, none]) (by decide) rfl hw (Nat.le_of_ble_eq_true rfl) rfl hf (fun κ h => by subst h; rfl) (fun κ hl h hR hC => by
    subst h
    exact w_Pr_whyNoWeights hR hC N a1 a2 σ)
-- DuelRound$Proofs.isStep(II)Z (9, None, None) kind O
def f_Pr_isStep (a1 : Int32) (a2 : Int32) (σ : Mem) : Option Int32 :=
  gd (inb a1 300) (bnd (gI σ 24 a1.toNatClampNeg) fun x1 =>
  gd (inb (a1 + (1 : Int32)) 300) (bnd (gI σ 24 (a1 + (1 : Int32)).toNatClampNeg) fun x2 =>
  if (a2 - a1) = (2 : Int32) then
  (ob (f_Du_isBeatingN x1 x2 σ) fun r6 =>
  gd (isb r6) (some r6))
  else
  (gd (inb (a1 + (2 : Int32)) 300) (bnd (gI σ 24 (a1 + (2 : Int32)).toNatClampNeg) fun x3 =>
  ob (f_Du_isBeatingN x1 x3 σ) fun r4 =>
  if r4 = (0 : Int32) then
  (some (0 : Int32))
  else
  (ob (f_Du_isBeatingN x3 x2 σ) fun r5 =>
  if r5 = (0 : Int32) then
  (some (0 : Int32))
  else
  (some (1 : Int32)))))))
set_option maxRecDepth 100000 in
set_option maxHeartbeats 4000000 in
theorem w_Pr_isStep {κ : Ctx} (hR : kR κ = { frames := 1, cells := 0, slots := 0, locals := 22 }) (hC : ok κ wC cX5_isStep 6 RX5 (some .boolean)) (a1 : Int32) (a2 : Int32) (σ : Mem) : wF κ wC 6 (qO κ wC σ) σ 0 [some (.ref (ad κ 9)), some (.int a1), some (.int a2), none, none, none] [] (f_Pr_isStep a1 a2 σ) := by
  unfold f_Pr_isStep
  refine r_aload_n (pc := 0) hC rfl dX5_isStep_0 ?_
  refine gC_9_5 (pc := 1) hC k_255 dX5_isStep_1 ?_
  refine r_iload_n (pc := 4) hC rfl dX5_isStep_4 ?_
  refine aC_24 (pc := 5) hC dX5_isStep_5 ?_
  refine r_let (fun x1 => ?_)
  refine r_istore_n (pc := 6) hC rfl rfl dX5_isStep_6 ?_
  refine r_aload_n (pc := 7) hC rfl dX5_isStep_7 ?_
  refine gC_9_5 (pc := 8) hC k_255 dX5_isStep_8 ?_
  refine r_iload_n (pc := 11) hC rfl dX5_isStep_11 ?_
  refine r_iconst (pc := 12) hC (v := (1 : Int32)) (by decide) dX5_isStep_12 ?_
  refine r_iadd (pc := 13) hC dX5_isStep_13 ?_
  refine aC_24 (pc := 14) hC dX5_isStep_14 ?_
  refine r_let (fun x2 => ?_)
  refine r_istore (pc := 15) hC rfl rfl dX5_isStep_15 ?_
  refine r_iload_n (pc := 17) hC rfl dX5_isStep_17 ?_
  refine r_iload_n (pc := 18) hC rfl dX5_isStep_18 ?_
  refine r_isub (pc := 19) hC dX5_isStep_19 ?_
  refine r_iconst (pc := 20) hC (v := (2 : Int32)) (by decide) dX5_isStep_20 ?_
  refine r_icmp_ne (pc := 21) (tgt := 35) hC dX5_isStep_21 (by decide) ?_ ?_
  · refine r_aload_n (pc := 35) hC rfl dX5_isStep_35 ?_
    refine gC_9_5 (pc := 36) hC k_255 dX5_isStep_36 ?_
    refine r_iload_n (pc := 39) hC rfl dX5_isStep_39 ?_
    refine r_iconst (pc := 40) hC (v := (2 : Int32)) (by decide) dX5_isStep_40 ?_
    refine r_iadd (pc := 41) hC dX5_isStep_41 ?_
    refine aC_24 (pc := 42) hC dX5_isStep_42 ?_
    refine r_let (fun x3 => ?_)
    refine r_istore (pc := 43) hC rfl rfl dX5_isStep_43 ?_
    refine r_aload_n (pc := 45) hC rfl dX5_isStep_45 ?_
    refine gC_9_0 (pc := 46) hC k_250 dX5_isStep_46 ?_
    refine r_iload_n (pc := 49) hC rfl dX5_isStep_49 ?_
    refine r_iload (pc := 50) hC rfl dX5_isStep_50 ?_
    refine r_cO (pc := 52) (rest := []) (fun r4 hf => runV [.int x1, .int x3] hC (c_Du_isBeatingN (kl κ) (kW κ) hC.2.2.2.2.2.2.2.2.1 x1 x3 σ r4 hf) o_X1_isBeating k_841 (q0 := 2) (ci := 1) rfl rfl (rm_ok hR rfl) rfl (Nat.le_of_ble_eq_true rfl) dX5_isStep_52) (fun r4 => ?_)
    refine r_if_eq (pc := 55) (tgt := 76) hC dX5_isStep_55 (by decide) ?_ ?_
    · refine r_iconst (pc := 76) hC (v := (0 : Int32)) (by decide) dX5_isStep_76 ?_
      exact r_retO hC rfl dX5_isStep_77
    · refine r_aload_n (pc := 58) hC rfl dX5_isStep_58 ?_
      refine gC_9_0 (pc := 59) hC k_250 dX5_isStep_59 ?_
      refine r_iload (pc := 62) hC rfl dX5_isStep_62 ?_
      refine r_iload (pc := 64) hC rfl dX5_isStep_64 ?_
      refine r_cO (pc := 66) (rest := []) (fun r5 hf => runV [.int x3, .int x2] hC (c_Du_isBeatingN (kl κ) (kW κ) hC.2.2.2.2.2.2.2.2.1 x3 x2 σ r5 hf) o_X1_isBeating k_841 (q0 := 2) (ci := 1) rfl rfl (rm_ok hR rfl) rfl (Nat.le_of_ble_eq_true rfl) dX5_isStep_66) (fun r5 => ?_)
      refine r_if_eq (pc := 69) (tgt := 76) hC dX5_isStep_69 (by decide) ?_ ?_
      · refine r_iconst (pc := 76) hC (v := (0 : Int32)) (by decide) dX5_isStep_76 ?_
        exact r_retO hC rfl dX5_isStep_77
      · refine r_iconst (pc := 72) hC (v := (1 : Int32)) (by decide) dX5_isStep_72 ?_
        refine r_goto (pc := 73) (tgt := 77) hC dX5_isStep_73 (by decide) ?_
        exact r_retO hC rfl dX5_isStep_77
  · refine r_aload_n (pc := 24) hC rfl dX5_isStep_24 ?_
    refine gC_9_0 (pc := 25) hC k_250 dX5_isStep_25 ?_
    refine r_iload_n (pc := 28) hC rfl dX5_isStep_28 ?_
    refine r_iload (pc := 29) hC rfl dX5_isStep_29 ?_
    refine r_cO (pc := 31) (rest := []) (fun r6 hf => runV [.int x1, .int x2] hC (c_Du_isBeatingN (kl κ) (kW κ) hC.2.2.2.2.2.2.2.2.1 x1 x2 σ r6 hf) o_X1_isBeating k_841 (q0 := 2) (ci := 1) rfl rfl (rm_ok hR rfl) rfl (Nat.le_of_ble_eq_true rfl) dX5_isStep_31) (fun r6 => ?_)
    exact r_retOb hC dX5_isStep_34
set_option maxRecDepth 100000 in
set_option maxHeartbeats 4000000 in
theorem c_Pr_isStep (l : Launch) (w : Wenv) (hw : okw w wC) (a1 : Int32) (a2 : Int32) (σ : Mem) (r : Int32) (hf : f_Pr_isStep a1 a2 σ = some r) : Ctr l w wC yX5_isStep cX5_isStep 6 (some .boolean) 1 22 [.ref (w.2.2.1 9), .int a1, .int a2] σ (cQi w wC r σ) := mk_ctr (Q := fun κ => qO κ wC σ) (lv := [some (.ref (w.2.2.1 9)), some (.int a1), some (.int a2), none, none, none]) (by decide) rfl hw (Nat.le_of_ble_eq_true rfl) rfl hf (fun κ h => by subst h; rfl) (fun κ hl h hR hC => by
    subst h
    exact w_Pr_isStep hR hC a1 a2 σ)
-- DuelRound$Proofs.countTurned(II)I (9, None, None) kind O
def Pr_countTurned_B17 (σ : Mem) (a2 : Int32) (i2 : Int32) (self3 : Int32 → Int32 → Option Int32) (self7 : Int32 → Int32 → Option Int32) (i5 : Int32) (i6 : Int32) : Option Int32 :=
  if a2 ≤ i6 then
  (self3 i5 (i2 + (1 : Int32)))
  else
  (gd (inb i6 300) (gd (inb i2 300) (ob (f_Du_isBeatingN (gI σ 24 i6.toNatClampNeg) (gI σ 24 i2.toNatClampNeg) σ) fun r8 =>
  if r8 = (0 : Int32) then
  (self7 i5 (i6 + (1 : Int32)))
  else
  (self7 (i5 + (1 : Int32)) (i6 + (1 : Int32))))))
def Pr_countTurned_B5 (N : Nat) (σ : Mem) (a2 : Int32) (self3 : Int32 → Int32 → Option Int32) (i1 : Int32) (i2 : Int32) : Option Int32 :=
  if a2 ≤ i2 then
  (some i1)
  else
  (bnd (i2 + (1 : Int32)) fun x4 =>
  it2 (Pr_countTurned_B17 σ a2 i2 self3) N i1 x4)
def f_Pr_countTurned (N : Nat) (a1 : Int32) (a2 : Int32) (σ : Mem) : Option Int32 :=
  it2 (Pr_countTurned_B5 N σ a2) N (0 : Int32) a1
set_option maxRecDepth 100000 in
set_option maxHeartbeats 4000000 in
theorem w_Pr_countTurned {κ : Ctx} (hR : kR κ = { frames := 1, cells := 0, slots := 0, locals := 22 }) (hC : ok κ wC cX5_countTurned 6 RX5 (some .int)) (N : Nat) (a1 : Int32) (a2 : Int32) (σ : Mem) : wF κ wC 6 (qO κ wC σ) σ 0 [some (.ref (ad κ 9)), some (.int a1), some (.int a2), none, none, none] [] (f_Pr_countTurned N a1 a2 σ) := by
  unfold f_Pr_countTurned
  refine r_iconst (pc := 0) hC (v := (0 : Int32)) (by decide) dX5_countTurned_0 ?_
  refine r_istore_n (pc := 1) hC rfl rfl dX5_countTurned_1 ?_
  refine r_iload_n (pc := 2) hC rfl dX5_countTurned_2 ?_
  refine r_istore (pc := 3) hC rfl rfl dX5_countTurned_3 ?_
  refine r_wk [true, false, true, true, true, false] (w_it2 (fun i1 i2 => σ) (fun i1 i2 => [some (.ref (ad κ 9)), none, some (.int a2), some (.int i1), some (.int i2), none]) (fun self3 ih5_3 i1 i2 => ?_) N (0 : Int32) a1)
  unfold Pr_countTurned_B5
  refine r_iload (pc := 5) hC rfl dX5_countTurned_5 ?_
  refine r_iload_n (pc := 7) hC rfl dX5_countTurned_7 ?_
  refine r_icmp_ge (pc := 8) (tgt := 62) hC dX5_countTurned_8 (by decide) ?_ ?_
  · refine r_iload_n (pc := 62) hC rfl dX5_countTurned_62 ?_
    exact r_retO hC rfl dX5_countTurned_63
  · refine r_iload (pc := 11) hC rfl dX5_countTurned_11 ?_
    refine r_iconst (pc := 13) hC (v := (1 : Int32)) (by decide) dX5_countTurned_13 ?_
    refine r_iadd (pc := 14) hC dX5_countTurned_14 ?_
    refine r_let (fun x4 => ?_)
    refine r_istore (pc := 15) hC rfl rfl dX5_countTurned_15 ?_
    refine w_it2 (fun i5 i6 => σ) (fun i5 i6 => [some (.ref (ad κ 9)), none, some (.int a2), some (.int i5), some (.int i2), some (.int i6)]) (fun self7 ih17_7 i5 i6 => ?_) N i1 x4
    unfold Pr_countTurned_B17
    refine r_iload (pc := 17) hC rfl dX5_countTurned_17 ?_
    refine r_iload_n (pc := 19) hC rfl dX5_countTurned_19 ?_
    refine r_icmp_ge (pc := 20) (tgt := 56) hC dX5_countTurned_20 (by decide) ?_ ?_
    · refine r_iinc (pc := 56) hC (v := (1 : Int32)) rfl (by decide) rfl rfl dX5_countTurned_56 ?_
      refine r_goto (pc := 59) (tgt := 5) hC dX5_countTurned_59 (by decide) ?_
      exact r_wk [true, false, true, true, true, false] (ih5_3 i5 (i2 + (1 : Int32)))
    · refine r_aload_n (pc := 23) hC rfl dX5_countTurned_23 ?_
      refine gC_9_0 (pc := 24) hC k_250 dX5_countTurned_24 ?_
      refine r_aload_n (pc := 27) hC rfl dX5_countTurned_27 ?_
      refine gC_9_5 (pc := 28) hC k_255 dX5_countTurned_28 ?_
      refine r_iload (pc := 31) hC rfl dX5_countTurned_31 ?_
      refine aC_24 (pc := 33) hC dX5_countTurned_33 ?_
      refine r_aload_n (pc := 34) hC rfl dX5_countTurned_34 ?_
      refine gC_9_5 (pc := 35) hC k_255 dX5_countTurned_35 ?_
      refine r_iload (pc := 38) hC rfl dX5_countTurned_38 ?_
      refine aC_24 (pc := 40) hC dX5_countTurned_40 ?_
      refine r_cO (pc := 41) (rest := []) (fun r8 hf => runV [.int (gI σ 24 i6.toNatClampNeg), .int (gI σ 24 i2.toNatClampNeg)] hC (c_Du_isBeatingN (kl κ) (kW κ) hC.2.2.2.2.2.2.2.2.1 (gI σ 24 i6.toNatClampNeg) (gI σ 24 i2.toNatClampNeg) σ r8 hf) o_X1_isBeating k_841 (q0 := 2) (ci := 1) rfl rfl (rm_ok hR rfl) rfl (Nat.le_of_ble_eq_true rfl) dX5_countTurned_41) (fun r8 => ?_)
      refine r_if_eq (pc := 44) (tgt := 50) hC dX5_countTurned_44 (by decide) ?_ ?_
      · refine r_iinc (pc := 50) hC (v := (1 : Int32)) rfl (by decide) rfl rfl dX5_countTurned_50 ?_
        refine r_goto (pc := 53) (tgt := 17) hC dX5_countTurned_53 (by decide) ?_
        exact ih17_7 i5 (i6 + (1 : Int32))
      · refine r_iinc (pc := 47) hC (v := (1 : Int32)) rfl (by decide) rfl rfl dX5_countTurned_47 ?_
        refine r_iinc (pc := 50) hC (v := (1 : Int32)) rfl (by decide) rfl rfl dX5_countTurned_50 ?_
        refine r_goto (pc := 53) (tgt := 17) hC dX5_countTurned_53 (by decide) ?_
        exact ih17_7 (i5 + (1 : Int32)) (i6 + (1 : Int32))
set_option maxRecDepth 100000 in
set_option maxHeartbeats 4000000 in
theorem c_Pr_countTurned (l : Launch) (w : Wenv) (hw : okw w wC) (N : Nat) (a1 : Int32) (a2 : Int32) (σ : Mem) (r : Int32) (hf : f_Pr_countTurned N a1 a2 σ = some r) : Ctr l w wC yX5_countTurned cX5_countTurned 6 (some .int) 1 22 [.ref (w.2.2.1 9), .int a1, .int a2] σ (cQi w wC r σ) := mk_ctr (Q := fun κ => qO κ wC σ) (lv := [some (.ref (w.2.2.1 9)), some (.int a1), some (.int a2), none, none, none]) (by decide) rfl hw (Nat.le_of_ble_eq_true rfl) rfl hf (fun κ h => by subst h; rfl) (fun κ hl h hR hC => by
    subst h
    exact w_Pr_countTurned hR hC N a1 a2 σ)
-- DuelRound$Proofs.whyNoBestOrder(III)I (9, None, None, None) kind OM
def Pr_whyNoBestOrder_J64 (s1 : Mem) (v4 : Int32) : Option (Int32 × Mem) :=
  if v4 = (0 : Int32) then
  (some ((5 : Int32), s1))
  else
  (some ((0 : Int32), s1))
def Pr_whyNoBestOrder_J63 (s1 : Mem) : Option (Int32 × Mem) :=
  Pr_whyNoBestOrder_J64 s1 (0 : Int32)
def f_Pr_whyNoBestOrder (N : Nat) (a1 : Int32) (a2 : Int32) (a3 : Int32) (σ : Mem) : Option (Int32 × Mem) :=
  if a3 = (t_Du_everybodyN σ) then
  (ob (f_Or_measure N a3 σ) fun s1 =>
  gd (inb a1 300) (bnd ((gI s1 24 a1.toNatClampNeg) - (8 : Int32)) fun x2 =>
  ob (f_Pr_countTurned N (a1 + (1 : Int32)) a2 s1) fun r3 =>
  if r3 = x2 then
  (gd (inb a3 256) (if (gI s1 17 a3.toNatClampNeg) = x2 then
  (Pr_whyNoBestOrder_J64 s1 (1 : Int32))
  else
  (Pr_whyNoBestOrder_J63 s1)))
  else
  (Pr_whyNoBestOrder_J63 s1)))
  else
  (some ((4 : Int32), σ))
set_option maxRecDepth 100000 in
set_option maxHeartbeats 4000000 in
theorem w_Pr_whyNoBestOrder {κ : Ctx} (hR : kR κ = { frames := 3, cells := 0, slots := 0, locals := 67 }) (hC : ok κ wC cX5_whyNoBestOrder 6 RX5 (some .int)) (N : Nat) (a1 : Int32) (a2 : Int32) (a3 : Int32) (σ : Mem) : wF κ wC 6 (qOM κ wC) σ 0 [some (.ref (ad κ 9)), some (.int a1), some (.int a2), some (.int a3), none, none] [] (f_Pr_whyNoBestOrder N a1 a2 a3 σ) := by
  unfold f_Pr_whyNoBestOrder
  refine r_iload_n (pc := 0) hC rfl dX5_whyNoBestOrder_0 ?_
  refine r_aload_n (pc := 1) hC rfl dX5_whyNoBestOrder_1 ?_
  refine gC_9_0 (pc := 2) hC k_250 dX5_whyNoBestOrder_2 ?_
  refine r_cT (pc := 5) (rest := [.int a3]) (runV [] hC (c_Du_everybodyN (kl κ) (kW κ) hC.2.2.2.2.2.2.2.2.1 σ) o_X1_everybody k_836 (q0 := 2) (ci := 1) rfl rfl (rm_ok hR rfl) rfl (Nat.le_of_ble_eq_true rfl) dX5_whyNoBestOrder_5) ?_
  refine r_icmp_eq (pc := 8) (tgt := 13) hC dX5_whyNoBestOrder_8 (by decide) ?_ ?_
  · refine r_aload_n (pc := 13) hC rfl dX5_whyNoBestOrder_13 ?_
    refine gC_9_3 (pc := 14) hC k_253 dX5_whyNoBestOrder_14 ?_
    refine r_iload_n (pc := 17) hC rfl dX5_whyNoBestOrder_17 ?_
    refine r_cM (pc := 18) (rest := []) (fun s1 hf => runV [.int a3] hC (c_Or_measure (kl κ) (kW κ) hC.2.2.2.2.2.2.2.2.1 N a3 σ s1 hf) o_X3_measure k_854 (q0 := 5) (ci := 3) rfl rfl (rm_ok hR rfl) rfl (Nat.le_of_ble_eq_true rfl) dX5_whyNoBestOrder_18) (fun s1 => ?_)
    refine r_aload_n (pc := 21) hC rfl dX5_whyNoBestOrder_21 ?_
    refine gC_9_5 (pc := 22) hC k_255 dX5_whyNoBestOrder_22 ?_
    refine r_iload_n (pc := 25) hC rfl dX5_whyNoBestOrder_25 ?_
    refine aC_24 (pc := 26) hC dX5_whyNoBestOrder_26 ?_
    refine r_bipush (pc := 27) hC (v := (8 : Int32)) (by decide) dX5_whyNoBestOrder_27 ?_
    refine r_isub (pc := 29) hC dX5_whyNoBestOrder_29 ?_
    refine r_let (fun x2 => ?_)
    refine r_istore (pc := 30) hC rfl rfl dX5_whyNoBestOrder_30 ?_
    refine r_aload_n (pc := 32) hC rfl dX5_whyNoBestOrder_32 ?_
    refine r_iload_n (pc := 33) hC rfl dX5_whyNoBestOrder_33 ?_
    refine r_iconst (pc := 34) hC (v := (1 : Int32)) (by decide) dX5_whyNoBestOrder_34 ?_
    refine r_iadd (pc := 35) hC dX5_whyNoBestOrder_35 ?_
    refine r_iload_n (pc := 36) hC rfl dX5_whyNoBestOrder_36 ?_
    refine r_cO (pc := 37) (rest := []) (fun r3 hf => runV [.int (a1 + (1 : Int32)), .int a2] hC (c_Pr_countTurned (kl κ) (kW κ) hC.2.2.2.2.2.2.2.2.1 N (a1 + (1 : Int32)) a2 s1 r3 hf) o_X5_countTurned k_846 (q0 := 9) (ci := 5) rfl rfl (rm_ok hR rfl) rfl (Nat.le_of_ble_eq_true rfl) dX5_whyNoBestOrder_37) (fun r3 => ?_)
    refine r_iload (pc := 40) hC rfl dX5_whyNoBestOrder_40 ?_
    have hJ64_4 : ∀ (v4 : Int32), wF κ wC 6 (qOM κ wC) s1 64 [none, none, none, none, none, none] [.int v4] (Pr_whyNoBestOrder_J64 s1 v4) := by
      intro v4
      unfold Pr_whyNoBestOrder_J64
      refine r_istore (pc := 64) hC rfl rfl dX5_whyNoBestOrder_64 ?_
      refine r_iload (pc := 66) hC rfl dX5_whyNoBestOrder_66 ?_
      refine r_if_eq (pc := 68) (tgt := 75) hC dX5_whyNoBestOrder_68 (by decide) ?_ ?_
      · refine r_iconst (pc := 75) hC (v := (5 : Int32)) (by decide) dX5_whyNoBestOrder_75 ?_
        exact r_retOM hC rfl dX5_whyNoBestOrder_76
      · refine r_iconst (pc := 71) hC (v := (0 : Int32)) (by decide) dX5_whyNoBestOrder_71 ?_
        refine r_goto (pc := 72) (tgt := 76) hC dX5_whyNoBestOrder_72 (by decide) ?_
        exact r_retOM hC rfl dX5_whyNoBestOrder_76
    have hJ63_4 : wF κ wC 6 (qOM κ wC) s1 63 [none, none, none, none, none, none] [] (Pr_whyNoBestOrder_J63 s1) := by
      unfold Pr_whyNoBestOrder_J63
      refine r_iconst (pc := 63) hC (v := (0 : Int32)) (by decide) dX5_whyNoBestOrder_63 ?_
      exact hJ64_4 (0 : Int32)
    refine r_icmp_ne (pc := 42) (tgt := 63) hC dX5_whyNoBestOrder_42 (by decide) ?_ ?_
    · exact r_wk [false, false, false, false, false, false] (hJ63_4)
    · refine r_aload_n (pc := 45) hC rfl dX5_whyNoBestOrder_45 ?_
      refine gC_9_3 (pc := 46) hC k_253 dX5_whyNoBestOrder_46 ?_
      refine gC_5_1 (pc := 49) hC k_179 dX5_whyNoBestOrder_49 ?_
      refine r_iload_n (pc := 52) hC rfl dX5_whyNoBestOrder_52 ?_
      refine aC_17 (pc := 53) hC dX5_whyNoBestOrder_53 ?_
      refine r_iload (pc := 54) hC rfl dX5_whyNoBestOrder_54 ?_
      refine r_icmp_ne (pc := 56) (tgt := 63) hC dX5_whyNoBestOrder_56 (by decide) ?_ ?_
      · exact r_wk [false, false, false, false, false, false] (hJ63_4)
      · refine r_iconst (pc := 59) hC (v := (1 : Int32)) (by decide) dX5_whyNoBestOrder_59 ?_
        refine r_goto (pc := 60) (tgt := 64) hC dX5_whyNoBestOrder_60 (by decide) ?_
        exact r_wk [false, false, false, false, false, false] (hJ64_4 (1 : Int32))
  · refine r_iconst (pc := 11) hC (v := (4 : Int32)) (by decide) dX5_whyNoBestOrder_11 ?_
    exact r_retOM hC rfl dX5_whyNoBestOrder_12
set_option maxRecDepth 100000 in
set_option maxHeartbeats 4000000 in
theorem c_Pr_whyNoBestOrder (l : Launch) (w : Wenv) (hw : okw w wC) (N : Nat) (a1 : Int32) (a2 : Int32) (a3 : Int32) (σ : Mem) (r : Int32) (τ : Mem) (hf : f_Pr_whyNoBestOrder N a1 a2 a3 σ = some (r, τ)) : Ctr l w wC yX5_whyNoBestOrder cX5_whyNoBestOrder 6 (some .int) 3 67 [.ref (w.2.2.1 9), .int a1, .int a2, .int a3] σ (cQi w wC r τ) := mk_ctr (Q := fun κ => qOM κ wC) (lv := [some (.ref (w.2.2.1 9)), some (.int a1), some (.int a2), some (.int a3), none, none]) (by decide) rfl hw (Nat.le_of_ble_eq_true rfl) rfl hf (fun κ h => by subst h; rfl) (fun κ hl h hR hC => by
    subst h
    exact w_Pr_whyNoBestOrder hR hC N a1 a2 a3 σ)
-- DuelRound$Proofs.whyNoChain(III)I (9, None, None, None) kind O
def Pr_whyNoChain_B14 (σ : Mem) (a3 : Int32) (self3 : Int32 → Option Int32) (i2 : Int32) : Option Int32 :=
  if (gI σ 3 0) ≤ i2 then
  (some (0 : Int32))
  else
  (gd (inb i2 8) (if (a3 &&& ((gI σ 13 i2.toNatClampNeg) ^^^ (-1 : Int32))) = (0 : Int32) then
  (some (4 : Int32))
  else
  (self3 (i2 + (1 : Int32)))))
def f_Pr_whyNoChain (N : Nat) (a1 : Int32) (a2 : Int32) (a3 : Int32) (σ : Mem) : Option Int32 :=
  ob (f_Pr_countTurned N a1 a2 σ) fun r1 =>
  if r1 ≤ (0 : Int32) then
  (it1 (Pr_whyNoChain_B14 σ a3) N (0 : Int32))
  else
  (some (3 : Int32))
set_option maxRecDepth 100000 in
set_option maxHeartbeats 4000000 in
theorem w_Pr_whyNoChain {κ : Ctx} (hR : kR κ = { frames := 2, cells := 0, slots := 0, locals := 47 }) (hC : ok κ wC cX5_whyNoChain 5 RX5 (some .int)) (N : Nat) (a1 : Int32) (a2 : Int32) (a3 : Int32) (σ : Mem) : wF κ wC 5 (qO κ wC σ) σ 0 [some (.ref (ad κ 9)), some (.int a1), some (.int a2), some (.int a3), none] [] (f_Pr_whyNoChain N a1 a2 a3 σ) := by
  unfold f_Pr_whyNoChain
  refine r_aload_n (pc := 0) hC rfl dX5_whyNoChain_0 ?_
  refine r_iload_n (pc := 1) hC rfl dX5_whyNoChain_1 ?_
  refine r_iload_n (pc := 2) hC rfl dX5_whyNoChain_2 ?_
  refine r_cO (pc := 3) (rest := []) (fun r1 hf => runV [.int a1, .int a2] hC (c_Pr_countTurned (kl κ) (kW κ) hC.2.2.2.2.2.2.2.2.1 N a1 a2 σ r1 hf) o_X5_countTurned k_846 (q0 := 9) (ci := 5) rfl rfl (rm_ok hR rfl) rfl (Nat.le_of_ble_eq_true rfl) dX5_whyNoChain_3) (fun r1 => ?_)
  refine r_if_le (pc := 6) (tgt := 11) hC dX5_whyNoChain_6 (by decide) ?_ ?_
  · refine r_iconst (pc := 11) hC (v := (0 : Int32)) (by decide) dX5_whyNoChain_11 ?_
    refine r_istore (pc := 12) hC rfl rfl dX5_whyNoChain_12 ?_
    refine r_wk [true, false, false, true, true] (w_it1 (fun i2 => σ) (fun i2 => [some (.ref (ad κ 9)), none, none, some (.int a3), some (.int i2)]) (fun self3 ih14_3 i2 => ?_) N (0 : Int32))
    unfold Pr_whyNoChain_B14
    refine r_iload (pc := 14) hC rfl dX5_whyNoChain_14 ?_
    refine r_aload_n (pc := 16) hC rfl dX5_whyNoChain_16 ?_
    refine gC_9_0 (pc := 17) hC k_250 dX5_whyNoChain_17 ?_
    refine gC_2_1 (pc := 20) hC k_145 dX5_whyNoChain_20 ?_
    refine r_icmp_ge (pc := 23) (tgt := 51) hC dX5_whyNoChain_23 (by decide) ?_ ?_
    · refine r_iconst (pc := 51) hC (v := (0 : Int32)) (by decide) dX5_whyNoChain_51 ?_
      exact r_retO hC rfl dX5_whyNoChain_52
    · refine r_iload_n (pc := 26) hC rfl dX5_whyNoChain_26 ?_
      refine r_aload_n (pc := 27) hC rfl dX5_whyNoChain_27 ?_
      refine gC_9_0 (pc := 28) hC k_250 dX5_whyNoChain_28 ?_
      refine gC_2_0 (pc := 31) hC k_137 dX5_whyNoChain_31 ?_
      refine r_iload (pc := 34) hC rfl dX5_whyNoChain_34 ?_
      refine aC_13 (pc := 36) hC dX5_whyNoChain_36 ?_
      refine r_iconst (pc := 37) hC (v := (-1 : Int32)) (by decide) dX5_whyNoChain_37 ?_
      refine r_ixor (pc := 38) hC dX5_whyNoChain_38 ?_
      refine r_iand (pc := 39) hC dX5_whyNoChain_39 ?_
      refine r_if_ne (pc := 40) (tgt := 45) hC dX5_whyNoChain_40 (by decide) ?_ ?_
      · refine r_iinc (pc := 45) hC (v := (1 : Int32)) rfl (by decide) rfl rfl dX5_whyNoChain_45 ?_
        refine r_goto (pc := 48) (tgt := 14) hC dX5_whyNoChain_48 (by decide) ?_
        exact ih14_3 (i2 + (1 : Int32))
      · refine r_iconst (pc := 43) hC (v := (4 : Int32)) (by decide) dX5_whyNoChain_43 ?_
        exact r_retO hC rfl dX5_whyNoChain_44
  · refine r_iconst (pc := 9) hC (v := (3 : Int32)) (by decide) dX5_whyNoChain_9 ?_
    exact r_retO hC rfl dX5_whyNoChain_10
set_option maxRecDepth 100000 in
set_option maxHeartbeats 4000000 in
theorem c_Pr_whyNoChain (l : Launch) (w : Wenv) (hw : okw w wC) (N : Nat) (a1 : Int32) (a2 : Int32) (a3 : Int32) (σ : Mem) (r : Int32) (hf : f_Pr_whyNoChain N a1 a2 a3 σ = some r) : Ctr l w wC yX5_whyNoChain cX5_whyNoChain 5 (some .int) 2 47 [.ref (w.2.2.1 9), .int a1, .int a2, .int a3] σ (cQi w wC r σ) := mk_ctr (Q := fun κ => qO κ wC σ) (lv := [some (.ref (w.2.2.1 9)), some (.int a1), some (.int a2), some (.int a3), none]) (by decide) rfl hw (Nat.le_of_ble_eq_true rfl) rfl hf (fun κ h => by subst h; rfl) (fun κ hl h hR hC => by
    subst h
    exact w_Pr_whyNoChain hR hC N a1 a2 a3 σ)
-- DuelRound$Proofs.whyNotSo(IIII)I (9, None, None, None, None) kind OM
def f_Pr_whyNotSo (N : Nat) (a1 : Int32) (a2 : Int32) (a3 : Int32) (a4 : Int32) (σ : Mem) : Option (Int32 × Mem) :=
  bnd (t_Du_everybodyN σ) fun x1 =>
  swc a1 [((99 : Int32), ob (f_Se_isCoveringSet N a4 x1 σ) fun r2 =>
  if r2 = (0 : Int32) then
  (some ((5 : Int32), σ))
  else
  (some ((0 : Int32), σ))),
  ((107 : Int32), ob (f_Pr_whyNoChain N a2 a3 a4 σ) fun r3 =>
  some (r3, σ)),
  ((115 : Int32), ob2 (f_Pr_whyNoBestOrder N a2 a3 a4 σ) fun r5 s4 =>
  some (r5, s4)),
  ((117 : Int32), ob (f_Pr_isStep a2 a3 σ) fun r6 =>
  if r6 = (0 : Int32) then
  (some ((3 : Int32), σ))
  else
  (some ((0 : Int32), σ))),
  ((119 : Int32), ob2 (f_Pr_whyNoWeights N a2 a3 σ) fun r8 s7 =>
  some (r8, s7))]
  (ob2 (f_Se_isKeepingSet N a4 x1 σ) fun r10 s9 =>
  if r10 = (0 : Int32) then
  (some ((5 : Int32), s9))
  else
  (some ((0 : Int32), s9)))
set_option maxRecDepth 100000 in
set_option maxHeartbeats 4000000 in
theorem w_Pr_whyNotSo {κ : Ctx} (hR : kR κ = { frames := 14, cells := 0, slots := 0, locals := 344 }) (hC : ok κ wC cX5_whyNotSo 6 RX5 (some .int)) (N : Nat) (a1 : Int32) (a2 : Int32) (a3 : Int32) (a4 : Int32) (σ : Mem) : wF κ wC 6 (qOM κ wC) σ 0 [some (.ref (ad κ 9)), some (.int a1), some (.int a2), some (.int a3), some (.int a4), none] [] (f_Pr_whyNotSo N a1 a2 a3 a4 σ) := by
  unfold f_Pr_whyNotSo
  refine r_aload_n (pc := 0) hC rfl dX5_whyNotSo_0 ?_
  refine gC_9_0 (pc := 1) hC k_250 dX5_whyNotSo_1 ?_
  refine r_cT (pc := 4) (rest := []) (runV [] hC (c_Du_everybodyN (kl κ) (kW κ) hC.2.2.2.2.2.2.2.2.1 σ) o_X1_everybody k_836 (q0 := 2) (ci := 1) rfl rfl (rm_ok hR rfl) rfl (Nat.le_of_ble_eq_true rfl) dX5_whyNotSo_4) ?_
  refine r_let (fun x1 => ?_)
  refine r_istore (pc := 7) hC rfl rfl dX5_whyNotSo_7 ?_
  refine r_iload_n (pc := 9) hC rfl dX5_whyNotSo_9 ?_
  refine r_lookup (pc := 10) (tg := fun i => ([100, 75, 84, 60, 93] : List Nat).getD i 0) (dt := 120) hC dX5_whyNotSo_10 (by decide) (by decide) (fun i v a hi => ?_) (fun hno => ?_) ?_
  · have hl : i < 5 := (List.getElem?_eq_some_iff.mp hi).1
    rcases (show i = 0 ∨ i = 1 ∨ i = 2 ∨ i = 3 ∨ i = 4 by omega) with rfl | rfl | rfl | rfl | rfl
    · cases hi
      refine ⟨by decide, ?_⟩
      refine r_aload_n (pc := 100) hC rfl dX5_whyNotSo_100 ?_
      refine gC_9_2 (pc := 101) hC k_252 dX5_whyNotSo_101 ?_
      refine r_iload (pc := 104) hC rfl dX5_whyNotSo_104 ?_
      refine r_iload (pc := 106) hC rfl dX5_whyNotSo_106 ?_
      refine r_cO (pc := 108) (rest := []) (fun r2 hf => runV [.int a4, .int x1] hC (c_Se_isCoveringSet (kl κ) (kW κ) hC.2.2.2.2.2.2.2.2.1 N a4 x1 σ r2 hf) o_X6_isCoveringSet k_860 (q0 := 8) (ci := 6) rfl rfl (rm_ok hR rfl) rfl (Nat.le_of_ble_eq_true rfl) dX5_whyNotSo_108) (fun r2 => ?_)
      refine r_if_eq (pc := 111) (tgt := 118) hC dX5_whyNotSo_111 (by decide) ?_ ?_
      · refine r_iconst (pc := 118) hC (v := (5 : Int32)) (by decide) dX5_whyNotSo_118 ?_
        exact r_retOM hC rfl dX5_whyNotSo_119
      · refine r_iconst (pc := 114) hC (v := (0 : Int32)) (by decide) dX5_whyNotSo_114 ?_
        refine r_goto (pc := 115) (tgt := 119) hC dX5_whyNotSo_115 (by decide) ?_
        exact r_retOM hC rfl dX5_whyNotSo_119
    · cases hi
      refine ⟨by decide, ?_⟩
      refine r_aload_n (pc := 75) hC rfl dX5_whyNotSo_75 ?_
      refine r_iload_n (pc := 76) hC rfl dX5_whyNotSo_76 ?_
      refine r_iload_n (pc := 77) hC rfl dX5_whyNotSo_77 ?_
      refine r_iload (pc := 78) hC rfl dX5_whyNotSo_78 ?_
      refine r_cO (pc := 80) (rest := []) (fun r3 hf => runV [.int a2, .int a3, .int a4] hC (c_Pr_whyNoChain (kl κ) (kW κ) hC.2.2.2.2.2.2.2.2.1 N a2 a3 a4 σ r3 hf) o_X5_whyNoChain k_842 (q0 := 9) (ci := 5) rfl rfl (rm_ok hR rfl) rfl (Nat.le_of_ble_eq_true rfl) dX5_whyNotSo_80) (fun r3 => ?_)
      exact r_retOM hC rfl dX5_whyNotSo_83
    · cases hi
      refine ⟨by decide, ?_⟩
      refine r_aload_n (pc := 84) hC rfl dX5_whyNotSo_84 ?_
      refine r_iload_n (pc := 85) hC rfl dX5_whyNotSo_85 ?_
      refine r_iload_n (pc := 86) hC rfl dX5_whyNotSo_86 ?_
      refine r_iload (pc := 87) hC rfl dX5_whyNotSo_87 ?_
      refine r_cOM (pc := 89) (rest := []) (fun r5 s4 hf => runV [.int a2, .int a3, .int a4] hC (c_Pr_whyNoBestOrder (kl κ) (kW κ) hC.2.2.2.2.2.2.2.2.1 N a2 a3 a4 σ r5 s4 hf) o_X5_whyNoBestOrder k_850 (q0 := 9) (ci := 5) rfl rfl (rm_ok hR rfl) rfl (Nat.le_of_ble_eq_true rfl) dX5_whyNotSo_89) (fun r5 s4 => ?_)
      exact r_retOM hC rfl dX5_whyNotSo_92
    · cases hi
      refine ⟨by decide, ?_⟩
      refine r_aload_n (pc := 60) hC rfl dX5_whyNotSo_60 ?_
      refine r_iload_n (pc := 61) hC rfl dX5_whyNotSo_61 ?_
      refine r_iload_n (pc := 62) hC rfl dX5_whyNotSo_62 ?_
      refine r_cO (pc := 63) (rest := []) (fun r6 hf => runV [.int a2, .int a3] hC (c_Pr_isStep (kl κ) (kW κ) hC.2.2.2.2.2.2.2.2.1 a2 a3 σ r6 hf) o_X5_isStep k_837 (q0 := 9) (ci := 5) rfl rfl (rm_ok hR rfl) rfl (Nat.le_of_ble_eq_true rfl) dX5_whyNotSo_63) (fun r6 => ?_)
      refine r_if_eq (pc := 66) (tgt := 73) hC dX5_whyNotSo_66 (by decide) ?_ ?_
      · refine r_iconst (pc := 73) hC (v := (3 : Int32)) (by decide) dX5_whyNotSo_73 ?_
        exact r_retOM hC rfl dX5_whyNotSo_74
      · refine r_iconst (pc := 69) hC (v := (0 : Int32)) (by decide) dX5_whyNotSo_69 ?_
        refine r_goto (pc := 70) (tgt := 74) hC dX5_whyNotSo_70 (by decide) ?_
        exact r_retOM hC rfl dX5_whyNotSo_74
    · cases hi
      refine ⟨by decide, ?_⟩
      refine r_aload_n (pc := 93) hC rfl dX5_whyNotSo_93 ?_
      refine r_iload_n (pc := 94) hC rfl dX5_whyNotSo_94 ?_
      refine r_iload_n (pc := 95) hC rfl dX5_whyNotSo_95 ?_
      refine r_cOM (pc := 96) (rest := []) (fun r8 s7 hf => runV [.int a2, .int a3] hC (c_Pr_whyNoWeights (kl κ) (kW κ) hC.2.2.2.2.2.2.2.2.1 N a2 a3 σ r8 s7 hf) o_X5_whyNoWeights k_855 (q0 := 9) (ci := 5) rfl rfl (rm_ok hR rfl) rfl (Nat.le_of_ble_eq_true rfl) dX5_whyNotSo_96) (fun r8 s7 => ?_)
      exact r_retOM hC rfl dX5_whyNotSo_99
  · refine lk_no ([(99, 90), (107, 65), (115, 74), (117, 50), (119, 83)] : List (Int × Int)) _ _ (fun q hq => ?_)
    simp only [List.mem_cons, List.not_mem_nil, or_false] at hq
    rcases hq with rfl | rfl | rfl | rfl | rfl
    · exact fun h => hno 0 _ _ rfl (lk_eq h (by decide))
    · exact fun h => hno 1 _ _ rfl (lk_eq h (by decide))
    · exact fun h => hno 2 _ _ rfl (lk_eq h (by decide))
    · exact fun h => hno 3 _ _ rfl (lk_eq h (by decide))
    · exact fun h => hno 4 _ _ rfl (lk_eq h (by decide))
  · refine r_aload_n (pc := 120) hC rfl dX5_whyNotSo_120 ?_
    refine gC_9_2 (pc := 121) hC k_252 dX5_whyNotSo_121 ?_
    refine r_iload (pc := 124) hC rfl dX5_whyNotSo_124 ?_
    refine r_iload (pc := 126) hC rfl dX5_whyNotSo_126 ?_
    refine r_cOM (pc := 128) (rest := []) (fun r10 s9 hf => runV [.int a4, .int x1] hC (c_Se_isKeepingSet (kl κ) (kW κ) hC.2.2.2.2.2.2.2.2.1 N a4 x1 σ r10 s9 hf) o_X6_isKeepingSet k_861 (q0 := 8) (ci := 6) rfl rfl (rm_ok hR rfl) rfl (Nat.le_of_ble_eq_true rfl) dX5_whyNotSo_128) (fun r10 s9 => ?_)
    refine r_if_eq (pc := 131) (tgt := 138) hC dX5_whyNotSo_131 (by decide) ?_ ?_
    · refine r_iconst (pc := 138) hC (v := (5 : Int32)) (by decide) dX5_whyNotSo_138 ?_
      exact r_retOM hC rfl dX5_whyNotSo_139
    · refine r_iconst (pc := 134) hC (v := (0 : Int32)) (by decide) dX5_whyNotSo_134 ?_
      refine r_goto (pc := 135) (tgt := 139) hC dX5_whyNotSo_135 (by decide) ?_
      exact r_retOM hC rfl dX5_whyNotSo_139
set_option maxRecDepth 100000 in
set_option maxHeartbeats 4000000 in
theorem c_Pr_whyNotSo (l : Launch) (w : Wenv) (hw : okw w wC) (N : Nat) (a1 : Int32) (a2 : Int32) (a3 : Int32) (a4 : Int32) (σ : Mem) (r : Int32) (τ : Mem) (hf : f_Pr_whyNotSo N a1 a2 a3 a4 σ = some (r, τ)) : Ctr l w wC yX5_whyNotSo cX5_whyNotSo 6 (some .int) 14 344 [.ref (w.2.2.1 9), .int a1, .int a2, .int a3, .int a4] σ (cQi w wC r τ) := mk_ctr (Q := fun κ => qOM κ wC) (lv := [some (.ref (w.2.2.1 9)), some (.int a1), some (.int a2), some (.int a3), some (.int a4), none]) (by decide) rfl hw (Nat.le_of_ble_eq_true rfl) rfl hf (fun κ h => by subst h; rfl) (fun κ hl h hR hC => by
    subst h
    exact w_Pr_whyNotSo hR hC N a1 a2 a3 a4 σ)
-- DuelRound$Proofs.saysTheSame(II)Z (9, None, None) kind O
def Pr_saysTheSame_B40 (σ : Mem) (a1 : Int32) (x1 : Int32) (a2 : Int32) (self3 : Int32 → Option Int32) (i2 : Int32) : Option Int32 :=
  if x1 ≤ i2 then
  (some (1 : Int32))
  else
  (gd (inb a1 102) (gd (inb ((gI σ 25 a1.toNatClampNeg) + i2) 300) (gd (inb a2 102) (gd (inb ((gI σ 25 a2.toNatClampNeg) + i2) 300) (if (gI σ 24 ((gI σ 25 a1.toNatClampNeg) + i2).toNatClampNeg) = (gI σ 24 ((gI σ 25 a2.toNatClampNeg) + i2).toNatClampNeg) then
  (self3 (i2 + (1 : Int32)))
  else
  (some (0 : Int32)))))))
def f_Pr_saysTheSame (N : Nat) (a1 : Int32) (a2 : Int32) (σ : Mem) : Option Int32 :=
  gd (inb (a1 + (1 : Int32)) 102) (gd (inb a1 102) (bnd ((gI σ 25 (a1 + (1 : Int32)).toNatClampNeg) - (gI σ 25 a1.toNatClampNeg)) fun x1 =>
  gd (inb (a2 + (1 : Int32)) 102) (gd (inb a2 102) (if x1 = ((gI σ 25 (a2 + (1 : Int32)).toNatClampNeg) - (gI σ 25 a2.toNatClampNeg)) then
  (it1 (Pr_saysTheSame_B40 σ a1 x1 a2) N (0 : Int32))
  else
  (some (0 : Int32))))))
set_option maxRecDepth 100000 in
set_option maxHeartbeats 4000000 in
theorem w_Pr_saysTheSame {κ : Ctx} (hR : kR κ = { frames := 0, cells := 0, slots := 0, locals := 0 }) (hC : ok κ wC cX5_saysTheSame 5 RX5 (some .boolean)) (N : Nat) (a1 : Int32) (a2 : Int32) (σ : Mem) : wF κ wC 5 (qO κ wC σ) σ 0 [some (.ref (ad κ 9)), some (.int a1), some (.int a2), none, none] [] (f_Pr_saysTheSame N a1 a2 σ) := by
  unfold f_Pr_saysTheSame
  refine r_aload_n (pc := 0) hC rfl dX5_saysTheSame_0 ?_
  refine gC_9_6 (pc := 1) hC k_256 dX5_saysTheSame_1 ?_
  refine r_iload_n (pc := 4) hC rfl dX5_saysTheSame_4 ?_
  refine r_iconst (pc := 5) hC (v := (1 : Int32)) (by decide) dX5_saysTheSame_5 ?_
  refine r_iadd (pc := 6) hC dX5_saysTheSame_6 ?_
  refine aC_25 (pc := 7) hC dX5_saysTheSame_7 ?_
  refine r_aload_n (pc := 8) hC rfl dX5_saysTheSame_8 ?_
  refine gC_9_6 (pc := 9) hC k_256 dX5_saysTheSame_9 ?_
  refine r_iload_n (pc := 12) hC rfl dX5_saysTheSame_12 ?_
  refine aC_25 (pc := 13) hC dX5_saysTheSame_13 ?_
  refine r_isub (pc := 14) hC dX5_saysTheSame_14 ?_
  refine r_let (fun x1 => ?_)
  refine r_istore_n (pc := 15) hC rfl rfl dX5_saysTheSame_15 ?_
  refine r_iload_n (pc := 16) hC rfl dX5_saysTheSame_16 ?_
  refine r_aload_n (pc := 17) hC rfl dX5_saysTheSame_17 ?_
  refine gC_9_6 (pc := 18) hC k_256 dX5_saysTheSame_18 ?_
  refine r_iload_n (pc := 21) hC rfl dX5_saysTheSame_21 ?_
  refine r_iconst (pc := 22) hC (v := (1 : Int32)) (by decide) dX5_saysTheSame_22 ?_
  refine r_iadd (pc := 23) hC dX5_saysTheSame_23 ?_
  refine aC_25 (pc := 24) hC dX5_saysTheSame_24 ?_
  refine r_aload_n (pc := 25) hC rfl dX5_saysTheSame_25 ?_
  refine gC_9_6 (pc := 26) hC k_256 dX5_saysTheSame_26 ?_
  refine r_iload_n (pc := 29) hC rfl dX5_saysTheSame_29 ?_
  refine aC_25 (pc := 30) hC dX5_saysTheSame_30 ?_
  refine r_isub (pc := 31) hC dX5_saysTheSame_31 ?_
  refine r_icmp_eq (pc := 32) (tgt := 37) hC dX5_saysTheSame_32 (by decide) ?_ ?_
  · refine r_iconst (pc := 37) hC (v := (0 : Int32)) (by decide) dX5_saysTheSame_37 ?_
    refine r_istore (pc := 38) hC rfl rfl dX5_saysTheSame_38 ?_
    refine w_it1 (fun i2 => σ) (fun i2 => [some (.ref (ad κ 9)), some (.int a1), some (.int a2), some (.int x1), some (.int i2)]) (fun self3 ih40_3 i2 => ?_) N (0 : Int32)
    unfold Pr_saysTheSame_B40
    refine r_iload (pc := 40) hC rfl dX5_saysTheSame_40 ?_
    refine r_iload_n (pc := 42) hC rfl dX5_saysTheSame_42 ?_
    refine r_icmp_ge (pc := 43) (tgt := 85) hC dX5_saysTheSame_43 (by decide) ?_ ?_
    · refine r_iconst (pc := 85) hC (v := (1 : Int32)) (by decide) dX5_saysTheSame_85 ?_
      exact r_retO hC rfl dX5_saysTheSame_86
    · refine r_aload_n (pc := 46) hC rfl dX5_saysTheSame_46 ?_
      refine gC_9_5 (pc := 47) hC k_255 dX5_saysTheSame_47 ?_
      refine r_aload_n (pc := 50) hC rfl dX5_saysTheSame_50 ?_
      refine gC_9_6 (pc := 51) hC k_256 dX5_saysTheSame_51 ?_
      refine r_iload_n (pc := 54) hC rfl dX5_saysTheSame_54 ?_
      refine aC_25 (pc := 55) hC dX5_saysTheSame_55 ?_
      refine r_iload (pc := 56) hC rfl dX5_saysTheSame_56 ?_
      refine r_iadd (pc := 58) hC dX5_saysTheSame_58 ?_
      refine aC_24 (pc := 59) hC dX5_saysTheSame_59 ?_
      refine r_aload_n (pc := 60) hC rfl dX5_saysTheSame_60 ?_
      refine gC_9_5 (pc := 61) hC k_255 dX5_saysTheSame_61 ?_
      refine r_aload_n (pc := 64) hC rfl dX5_saysTheSame_64 ?_
      refine gC_9_6 (pc := 65) hC k_256 dX5_saysTheSame_65 ?_
      refine r_iload_n (pc := 68) hC rfl dX5_saysTheSame_68 ?_
      refine aC_25 (pc := 69) hC dX5_saysTheSame_69 ?_
      refine r_iload (pc := 70) hC rfl dX5_saysTheSame_70 ?_
      refine r_iadd (pc := 72) hC dX5_saysTheSame_72 ?_
      refine aC_24 (pc := 73) hC dX5_saysTheSame_73 ?_
      refine r_icmp_eq (pc := 74) (tgt := 79) hC dX5_saysTheSame_74 (by decide) ?_ ?_
      · refine r_iinc (pc := 79) hC (v := (1 : Int32)) rfl (by decide) rfl rfl dX5_saysTheSame_79 ?_
        refine r_goto (pc := 82) (tgt := 40) hC dX5_saysTheSame_82 (by decide) ?_
        exact ih40_3 (i2 + (1 : Int32))
      · refine r_iconst (pc := 77) hC (v := (0 : Int32)) (by decide) dX5_saysTheSame_77 ?_
        exact r_retO hC rfl dX5_saysTheSame_78
  · refine r_iconst (pc := 35) hC (v := (0 : Int32)) (by decide) dX5_saysTheSame_35 ?_
    exact r_retO hC rfl dX5_saysTheSame_36
set_option maxRecDepth 100000 in
set_option maxHeartbeats 4000000 in
theorem c_Pr_saysTheSame (l : Launch) (w : Wenv) (hw : okw w wC) (N : Nat) (a1 : Int32) (a2 : Int32) (σ : Mem) (r : Int32) (hf : f_Pr_saysTheSame N a1 a2 σ = some r) : Ctr l w wC yX5_saysTheSame cX5_saysTheSame 5 (some .boolean) 0 0 [.ref (w.2.2.1 9), .int a1, .int a2] σ (cQi w wC r σ) := mk_ctr (Q := fun κ => qO κ wC σ) (lv := [some (.ref (w.2.2.1 9)), some (.int a1), some (.int a2), none, none]) (by decide) rfl hw (Nat.le_of_ble_eq_true rfl) rfl hf (fun κ h => by subst h; rfl) (fun κ hl h hR hC => by
    subst h
    exact w_Pr_saysTheSame hR hC N a1 a2 σ)
-- DuelRound$Proofs.isSaidAhead(I)Z (9, None) kind O
def Pr_isSaidAhead_B2 (N : Nat) (σ : Mem) (a1 : Int32) (self2 : Int32 → Option Int32) (i1 : Int32) : Option Int32 :=
  if a1 ≤ i1 then
  (some (0 : Int32))
  else
  (ob (f_Pr_saysTheSame N i1 a1 σ) fun r3 =>
  if r3 = (0 : Int32) then
  (self2 (i1 + (1 : Int32)))
  else
  (some (1 : Int32)))
def f_Pr_isSaidAhead (N : Nat) (a1 : Int32) (σ : Mem) : Option Int32 :=
  it1 (Pr_isSaidAhead_B2 N σ a1) N (0 : Int32)
set_option maxRecDepth 100000 in
set_option maxHeartbeats 4000000 in
theorem w_Pr_isSaidAhead {κ : Ctx} (hR : kR κ = { frames := 1, cells := 0, slots := 0, locals := 24 }) (hC : ok κ wC cX5_isSaidAhead 3 RX5 (some .boolean)) (N : Nat) (a1 : Int32) (σ : Mem) : wF κ wC 3 (qO κ wC σ) σ 0 [some (.ref (ad κ 9)), some (.int a1), none] [] (f_Pr_isSaidAhead N a1 σ) := by
  unfold f_Pr_isSaidAhead
  refine r_iconst (pc := 0) hC (v := (0 : Int32)) (by decide) dX5_isSaidAhead_0 ?_
  refine r_istore_n (pc := 1) hC rfl rfl dX5_isSaidAhead_1 ?_
  refine w_it1 (fun i1 => σ) (fun i1 => [some (.ref (ad κ 9)), some (.int a1), some (.int i1)]) (fun self2 ih2_2 i1 => ?_) N (0 : Int32)
  unfold Pr_isSaidAhead_B2
  refine r_iload_n (pc := 2) hC rfl dX5_isSaidAhead_2 ?_
  refine r_iload_n (pc := 3) hC rfl dX5_isSaidAhead_3 ?_
  refine r_icmp_ge (pc := 4) (tgt := 24) hC dX5_isSaidAhead_4 (by decide) ?_ ?_
  · refine r_iconst (pc := 24) hC (v := (0 : Int32)) (by decide) dX5_isSaidAhead_24 ?_
    exact r_retO hC rfl dX5_isSaidAhead_25
  · refine r_aload_n (pc := 7) hC rfl dX5_isSaidAhead_7 ?_
    refine r_iload_n (pc := 8) hC rfl dX5_isSaidAhead_8 ?_
    refine r_iload_n (pc := 9) hC rfl dX5_isSaidAhead_9 ?_
    refine r_cO (pc := 10) (rest := []) (fun r3 hf => runV [.int i1, .int a1] hC (c_Pr_saysTheSame (kl κ) (kW κ) hC.2.2.2.2.2.2.2.2.1 N i1 a1 σ r3 hf) o_X5_saysTheSame k_866 (q0 := 9) (ci := 5) rfl rfl (rm_ok hR rfl) rfl (Nat.le_of_ble_eq_true rfl) dX5_isSaidAhead_10) (fun r3 => ?_)
    refine r_if_eq (pc := 13) (tgt := 18) hC dX5_isSaidAhead_13 (by decide) ?_ ?_
    · refine r_iinc (pc := 18) hC (v := (1 : Int32)) rfl (by decide) rfl rfl dX5_isSaidAhead_18 ?_
      refine r_goto (pc := 21) (tgt := 2) hC dX5_isSaidAhead_21 (by decide) ?_
      exact ih2_2 (i1 + (1 : Int32))
    · refine r_iconst (pc := 16) hC (v := (1 : Int32)) (by decide) dX5_isSaidAhead_16 ?_
      exact r_retO hC rfl dX5_isSaidAhead_17
set_option maxRecDepth 100000 in
set_option maxHeartbeats 4000000 in
theorem c_Pr_isSaidAhead (l : Launch) (w : Wenv) (hw : okw w wC) (N : Nat) (a1 : Int32) (σ : Mem) (r : Int32) (hf : f_Pr_isSaidAhead N a1 σ = some r) : Ctr l w wC yX5_isSaidAhead cX5_isSaidAhead 3 (some .boolean) 1 24 [.ref (w.2.2.1 9), .int a1] σ (cQi w wC r σ) := mk_ctr (Q := fun κ => qO κ wC σ) (lv := [some (.ref (w.2.2.1 9)), some (.int a1), none]) (by decide) rfl hw (Nat.le_of_ble_eq_true rfl) rfl hf (fun κ h => by subst h; rfl) (fun κ hl h hR hC => by
    subst h
    exact w_Pr_isSaidAhead hR hC N a1 σ)
-- DuelRound$Proofs.judgeLine(I)V (9, None) kind M
def Pr_judgeLine_J88 (N : Nat) (a1 : Int32) (s4 : Mem) : Option Mem :=
  if (gI s4 10 0) = (0 : Int32) then
  (ob (f_Pr_isSaidAhead N a1 s4) fun r5 =>
  if r5 = (0 : Int32) then
  (some s4)
  else
  (bnd (sI s4 10 0 (6 : Int32)) fun s6 =>
  some s6))
  else
  (some s4)
def f_Pr_judgeLine (N : Nat) (a1 : Int32) (σ : Mem) : Option Mem :=
  gd (inb a1 102) (bnd ((gI σ 25 a1.toNatClampNeg) + (1 : Int32)) fun x1 =>
  gd (inb (a1 + (1 : Int32)) 102) (bnd (gI σ 25 (a1 + (1 : Int32)).toNatClampNeg) fun x2 =>
  ob (f_Pr_lettersOf N x1 x2 σ) fun r3 =>
  if (t_Du_arePlayersN r3 σ) = (0 : Int32) then
  (bnd (sI σ 10 0 (1 : Int32)) fun s12 =>
  Pr_judgeLine_J88 N a1 s12)
  else
  (ob (f_Pr_countLetters N x1 x2 σ) fun r7 =>
  if r7 ≤ (t_J_bitCount r3) then
  (gd (inb (x1 - (1 : Int32)) 300) (ob2 (f_Pr_whyNotSo N (gI σ 24 (x1 - (1 : Int32)).toNatClampNeg) x1 x2 r3 σ) fun r9 s8 =>
  bnd (sI s8 10 0 r9) fun s10 =>
  Pr_judgeLine_J88 N a1 s10))
  else
  (bnd (sI σ 10 0 (2 : Int32)) fun s11 =>
  Pr_judgeLine_J88 N a1 s11))))
set_option maxRecDepth 100000 in
set_option maxHeartbeats 4000000 in
theorem w_Pr_judgeLine {κ : Ctx} (hR : kR κ = { frames := 15, cells := 0, slots := 0, locals := 369 }) (hC : ok κ wC cX5_judgeLine 5 RX5 none) (N : Nat) (a1 : Int32) (σ : Mem) : wF κ wC 5 (qM κ wC) σ 0 [some (.ref (ad κ 9)), some (.int a1), none, none, none] [] (f_Pr_judgeLine N a1 σ) := by
  unfold f_Pr_judgeLine
  refine r_aload_n (pc := 0) hC rfl dX5_judgeLine_0 ?_
  refine gC_9_6 (pc := 1) hC k_256 dX5_judgeLine_1 ?_
  refine r_iload_n (pc := 4) hC rfl dX5_judgeLine_4 ?_
  refine aC_25 (pc := 5) hC dX5_judgeLine_5 ?_
  refine r_iconst (pc := 6) hC (v := (1 : Int32)) (by decide) dX5_judgeLine_6 ?_
  refine r_iadd (pc := 7) hC dX5_judgeLine_7 ?_
  refine r_let (fun x1 => ?_)
  refine r_istore_n (pc := 8) hC rfl rfl dX5_judgeLine_8 ?_
  refine r_aload_n (pc := 9) hC rfl dX5_judgeLine_9 ?_
  refine gC_9_6 (pc := 10) hC k_256 dX5_judgeLine_10 ?_
  refine r_iload_n (pc := 13) hC rfl dX5_judgeLine_13 ?_
  refine r_iconst (pc := 14) hC (v := (1 : Int32)) (by decide) dX5_judgeLine_14 ?_
  refine r_iadd (pc := 15) hC dX5_judgeLine_15 ?_
  refine aC_25 (pc := 16) hC dX5_judgeLine_16 ?_
  refine r_let (fun x2 => ?_)
  refine r_istore_n (pc := 17) hC rfl rfl dX5_judgeLine_17 ?_
  refine r_aload_n (pc := 18) hC rfl dX5_judgeLine_18 ?_
  refine r_iload_n (pc := 19) hC rfl dX5_judgeLine_19 ?_
  refine r_iload_n (pc := 20) hC rfl dX5_judgeLine_20 ?_
  refine r_cO (pc := 21) (rest := []) (fun r3 hf => runV [.int x1, .int x2] hC (c_Pr_lettersOf (kl κ) (kW κ) hC.2.2.2.2.2.2.2.2.1 N x1 x2 σ r3 hf) o_X5_lettersOf k_822 (q0 := 9) (ci := 5) rfl rfl (rm_ok hR rfl) rfl (Nat.le_of_ble_eq_true rfl) dX5_judgeLine_21) (fun r3 => ?_)
  refine r_istore (pc := 24) hC rfl rfl dX5_judgeLine_24 ?_
  refine r_aload_n (pc := 26) hC rfl dX5_judgeLine_26 ?_
  refine gC_9_0 (pc := 27) hC k_250 dX5_judgeLine_27 ?_
  refine r_iload (pc := 30) hC rfl dX5_judgeLine_30 ?_
  refine r_cT (pc := 32) (rest := []) (runV [.int r3] hC (c_Du_arePlayersN (kl κ) (kW κ) hC.2.2.2.2.2.2.2.2.1 r3 σ) o_X1_arePlayers k_826 (q0 := 2) (ci := 1) rfl rfl (rm_ok hR rfl) rfl (Nat.le_of_ble_eq_true rfl) dX5_judgeLine_32) ?_
  have hJ88_6 : ∀ (s4 : Mem), wF κ wC 5 (qM κ wC) s4 88 [some (.ref (ad κ 9)), some (.int a1), none, none, none] [] (Pr_judgeLine_J88 N a1 s4) := by
    intro s4
    unfold Pr_judgeLine_J88
    refine r_aload_n (pc := 88) hC rfl dX5_judgeLine_88 ?_
    refine gC_9_12 (pc := 89) hC k_264 dX5_judgeLine_89 ?_
    refine r_if_ne (pc := 92) (tgt := 109) hC dX5_judgeLine_92 (by decide) ?_ ?_
    · exact r_retM hC dX5_judgeLine_109
    · refine r_aload_n (pc := 95) hC rfl dX5_judgeLine_95 ?_
      refine r_iload_n (pc := 96) hC rfl dX5_judgeLine_96 ?_
      refine r_cO (pc := 97) (rest := []) (fun r5 hf => runV [.int a1] hC (c_Pr_isSaidAhead (kl κ) (kW κ) hC.2.2.2.2.2.2.2.2.1 N a1 s4 r5 hf) o_X5_isSaidAhead k_862 (q0 := 9) (ci := 5) rfl rfl (rm_ok hR rfl) rfl (Nat.le_of_ble_eq_true rfl) dX5_judgeLine_97) (fun r5 => ?_)
      refine r_if_eq (pc := 100) (tgt := 109) hC dX5_judgeLine_100 (by decide) ?_ ?_
      · exact r_retM hC dX5_judgeLine_109
      · refine r_aload_n (pc := 103) hC rfl dX5_judgeLine_103 ?_
        refine r_bipush (pc := 104) hC (v := (6 : Int32)) (by decide) dX5_judgeLine_104 ?_
        refine pC_9_12 (pc := 106) hC k_264 dX5_judgeLine_106 ?_
        refine r_letm (fun s6 => ?_)
        exact r_retM hC dX5_judgeLine_109
  refine r_if_ne (pc := 35) (tgt := 46) hC dX5_judgeLine_35 (by decide) ?_ ?_
  · refine r_iload (pc := 46) hC rfl dX5_judgeLine_46 ?_
    refine r_cT (pc := 48) (rest := []) (runS [.int r3] hC (c_J_bitCount (kl κ) (kW κ) hC.2.2.2.2.2.2.2.2.1 r3 σ) o_J6_bitCount_0f7a4 k_827 (rm_ok hR rfl) rfl (Nat.le_of_ble_eq_true rfl) dX5_judgeLine_48) ?_
    refine r_aload_n (pc := 51) hC rfl dX5_judgeLine_51 ?_
    refine r_iload_n (pc := 52) hC rfl dX5_judgeLine_52 ?_
    refine r_iload_n (pc := 53) hC rfl dX5_judgeLine_53 ?_
    refine r_cO (pc := 54) (rest := [.int (t_J_bitCount r3)]) (fun r7 hf => runV [.int x1, .int x2] hC (c_Pr_countLetters (kl κ) (kW κ) hC.2.2.2.2.2.2.2.2.1 N x1 x2 σ r7 hf) o_X5_countLetters k_828 (q0 := 9) (ci := 5) rfl rfl (rm_ok hR rfl) rfl (Nat.le_of_ble_eq_true rfl) dX5_judgeLine_54) (fun r7 => ?_)
    refine r_icmp_ge (pc := 57) (tgt := 68) hC dX5_judgeLine_57 (by decide) ?_ ?_
    · refine r_aload_n (pc := 68) hC rfl dX5_judgeLine_68 ?_
      refine r_aload_n (pc := 69) hC rfl dX5_judgeLine_69 ?_
      refine r_aload_n (pc := 70) hC rfl dX5_judgeLine_70 ?_
      refine gC_9_5 (pc := 71) hC k_255 dX5_judgeLine_71 ?_
      refine r_iload_n (pc := 74) hC rfl dX5_judgeLine_74 ?_
      refine r_iconst (pc := 75) hC (v := (1 : Int32)) (by decide) dX5_judgeLine_75 ?_
      refine r_isub (pc := 76) hC dX5_judgeLine_76 ?_
      refine aC_24 (pc := 77) hC dX5_judgeLine_77 ?_
      refine r_iload_n (pc := 78) hC rfl dX5_judgeLine_78 ?_
      refine r_iload_n (pc := 79) hC rfl dX5_judgeLine_79 ?_
      refine r_iload (pc := 80) hC rfl dX5_judgeLine_80 ?_
      refine r_cOM (pc := 82) (rest := [.ref (ad κ 9)]) (fun r9 s8 hf => runV [.int (gI σ 24 (x1 - (1 : Int32)).toNatClampNeg), .int x1, .int x2, .int r3] hC (c_Pr_whyNotSo (kl κ) (kW κ) hC.2.2.2.2.2.2.2.2.1 N (gI σ 24 (x1 - (1 : Int32)).toNatClampNeg) x1 x2 r3 σ r9 s8 hf) o_X5_whyNotSo k_832 (q0 := 9) (ci := 5) rfl rfl (rm_ok hR rfl) rfl (Nat.le_of_ble_eq_true rfl) dX5_judgeLine_82) (fun r9 s8 => ?_)
      refine pC_9_12 (pc := 85) hC k_264 dX5_judgeLine_85 ?_
      refine r_letm (fun s10 => ?_)
      exact r_wk [true, true, false, false, false] (hJ88_6 s10)
    · refine r_aload_n (pc := 60) hC rfl dX5_judgeLine_60 ?_
      refine r_iconst (pc := 61) hC (v := (2 : Int32)) (by decide) dX5_judgeLine_61 ?_
      refine pC_9_12 (pc := 62) hC k_264 dX5_judgeLine_62 ?_
      refine r_letm (fun s11 => ?_)
      refine r_goto (pc := 65) (tgt := 88) hC dX5_judgeLine_65 (by decide) ?_
      exact r_wk [true, true, false, false, false] (hJ88_6 s11)
  · refine r_aload_n (pc := 38) hC rfl dX5_judgeLine_38 ?_
    refine r_iconst (pc := 39) hC (v := (1 : Int32)) (by decide) dX5_judgeLine_39 ?_
    refine pC_9_12 (pc := 40) hC k_264 dX5_judgeLine_40 ?_
    refine r_letm (fun s12 => ?_)
    refine r_goto (pc := 43) (tgt := 88) hC dX5_judgeLine_43 (by decide) ?_
    exact r_wk [true, true, false, false, false] (hJ88_6 s12)
set_option maxRecDepth 100000 in
set_option maxHeartbeats 4000000 in
theorem c_Pr_judgeLine (l : Launch) (w : Wenv) (hw : okw w wC) (N : Nat) (a1 : Int32) (σ : Mem) (τ : Mem) (hf : f_Pr_judgeLine N a1 σ = some τ) : Ctr l w wC yX5_judgeLine cX5_judgeLine 5 none 15 369 [.ref (w.2.2.1 9), .int a1] σ (cQv w wC τ) := mk_ctr (Q := fun κ => qM κ wC) (lv := [some (.ref (w.2.2.1 9)), some (.int a1), none, none, none]) (by decide) rfl hw (Nat.le_of_ble_eq_true rfl) rfl hf (fun κ h => by subst h; rfl) (fun κ hl h hR hC => by
    subst h
    exact w_Pr_judgeLine hR hC N a1 σ)
