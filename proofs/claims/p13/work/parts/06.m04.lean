-- DuelRoundModel.isWithin(II)Z (None, None) kind T
def t_M_isWithin (a1 : Int32) (a2 : Int32) : Int32 :=
  (if (a1 &&& (a2 ^^^ (-1 : Int32))) = (0 : Int32) then (1 : Int32) else (0 : Int32))
def f_M_isWithin (a1 : Int32) (a2 : Int32) : Option Int32 :=
  if (a1 &&& (a2 ^^^ (-1 : Int32))) = (0 : Int32) then
  (some (1 : Int32))
  else
  (some (0 : Int32))
theorem e_M_isWithin (a1 : Int32) (a2 : Int32) : f_M_isWithin a1 a2 = some (t_M_isWithin a1 a2) := by
  unfold f_M_isWithin t_M_isWithin
  try first | rfl | (repeat' split) <;> rfl
theorem z_M_isWithin (a1 : Int32) (a2 : Int32) : isb (t_M_isWithin a1 a2) = true := by
  unfold t_M_isWithin
  (repeat' split) <;> rfl
set_option maxRecDepth 100000 in
set_option maxHeartbeats 4000000 in
theorem w_M_isWithin {κ : Ctx} (hR : kR κ = { frames := 0, cells := 0, slots := 0, locals := 0 }) (hC : ok κ wM cX10_isWithin 2 RX10 (some .boolean)) (a1 : Int32) (a2 : Int32) (σ : Mem) : wF κ wM 2 (qO κ wM σ) σ 0 [some (.int a1), some (.int a2)] [] (f_M_isWithin a1 a2) := by
  unfold f_M_isWithin
  refine r_iload_n (pc := 0) hC rfl dX10_isWithin_0 ?_
  refine r_iload_n (pc := 1) hC rfl dX10_isWithin_1 ?_
  refine r_iconst (pc := 2) hC (v := (-1 : Int32)) (by decide) dX10_isWithin_2 ?_
  refine r_ixor (pc := 3) hC dX10_isWithin_3 ?_
  refine r_iand (pc := 4) hC dX10_isWithin_4 ?_
  refine r_if_ne (pc := 5) (tgt := 12) hC dX10_isWithin_5 (by decide) ?_ ?_
  · refine r_iconst (pc := 12) hC (v := (0 : Int32)) (by decide) dX10_isWithin_12 ?_
    exact r_retO hC rfl dX10_isWithin_13
  · refine r_iconst (pc := 8) hC (v := (1 : Int32)) (by decide) dX10_isWithin_8 ?_
    refine r_goto (pc := 9) (tgt := 13) hC dX10_isWithin_9 (by decide) ?_
    exact r_retO hC rfl dX10_isWithin_13
set_option maxRecDepth 100000 in
set_option maxHeartbeats 4000000 in
theorem c_M_isWithin (l : Launch) (w : Wenv) (hw : okw w wM) (a1 : Int32) (a2 : Int32) (σ : Mem) : Ctr l w wM yX10_isWithin cX10_isWithin 2 (some .boolean) 0 0 [.int a1, .int a2] σ (cQi w wM (t_M_isWithin a1 a2) σ) := mk_ctr (Q := fun κ => qO κ wM σ) (lv := [some (.int a1), some (.int a2)]) (by decide) rfl hw (Nat.le_of_ble_eq_true rfl) rfl (e_M_isWithin a1 a2) (fun κ h => by subst h; rfl) (fun κ hl h hR hC => by
    subst h
    exact w_M_isWithin hR hC a1 a2 σ)
-- DuelRoundModel.isSome(I)Z (0, None) kind T
def t_M_isSome (a1 : Int32) (σ : Mem) : Int32 :=
  (if (t_M_isRound σ) = (0 : Int32) then (0 : Int32) else (if a1 < (0 : Int32) then (0 : Int32) else (if (t_M_isWithin a1 (t_M_all σ)) = (0 : Int32) then (0 : Int32) else (1 : Int32))))
def f_M_isSome (a1 : Int32) (σ : Mem) : Option Int32 :=
  if (t_M_isRound σ) = (0 : Int32) then
  (some (0 : Int32))
  else
  (if a1 < (0 : Int32) then
  (some (0 : Int32))
  else
  (if (t_M_isWithin a1 (t_M_all σ)) = (0 : Int32) then
  (some (0 : Int32))
  else
  (some (1 : Int32))))
theorem e_M_isSome (a1 : Int32) (σ : Mem) : f_M_isSome a1 σ = some (t_M_isSome a1 σ) := by
  unfold f_M_isSome t_M_isSome
  try first | rfl | (repeat' split) <;> rfl
theorem z_M_isSome (a1 : Int32) (σ : Mem) : isb (t_M_isSome a1 σ) = true := by
  unfold t_M_isSome
  (repeat' split) <;> rfl
set_option maxRecDepth 100000 in
set_option maxHeartbeats 4000000 in
theorem w_M_isSome {κ : Ctx} (hR : kR κ = { frames := 1, cells := 0, slots := 0, locals := 21 }) (hC : ok κ wM cX10_isSome 2 RX10 (some .boolean)) (a1 : Int32) (σ : Mem) : wF κ wM 2 (qO κ wM σ) σ 0 [some (.ref (ad κ 0)), some (.int a1)] [] (f_M_isSome a1 σ) := by
  unfold f_M_isSome
  refine r_aload_n (pc := 0) hC rfl dX10_isSome_0 ?_
  refine r_cT (pc := 1) (rest := []) (runV [] hC (c_M_isRound (kl κ) (kW κ) hC.2.2.2.2.2.2.2.2.1 σ) o_X10_isRound k_1254 (q0 := 0) (ci := 10) rfl rfl (rm_ok hR rfl) rfl (Nat.le_of_ble_eq_true rfl) dX10_isSome_1) ?_
  refine r_if_eq (pc := 4) (tgt := 26) hC dX10_isSome_4 (by decide) ?_ ?_
  · refine r_iconst (pc := 26) hC (v := (0 : Int32)) (by decide) dX10_isSome_26 ?_
    exact r_retO hC rfl dX10_isSome_27
  · refine r_iload_n (pc := 7) hC rfl dX10_isSome_7 ?_
    refine r_if_lt (pc := 8) (tgt := 26) hC dX10_isSome_8 (by decide) ?_ ?_
    · refine r_iconst (pc := 26) hC (v := (0 : Int32)) (by decide) dX10_isSome_26 ?_
      exact r_retO hC rfl dX10_isSome_27
    · refine r_iload_n (pc := 11) hC rfl dX10_isSome_11 ?_
      refine r_aload_n (pc := 12) hC rfl dX10_isSome_12 ?_
      refine r_cT (pc := 13) (rest := [.int a1]) (runV [] hC (c_M_all (kl κ) (kW κ) hC.2.2.2.2.2.2.2.2.1 σ) o_X10_all k_1228 (q0 := 0) (ci := 10) rfl rfl (rm_ok hR rfl) rfl (Nat.le_of_ble_eq_true rfl) dX10_isSome_13) ?_
      refine r_cT (pc := 16) (rest := []) (runS [.int a1, .int (t_M_all σ)] hC (c_M_isWithin (kl κ) (kW κ) hC.2.2.2.2.2.2.2.2.1 a1 (t_M_all σ) σ) o_X10_isWithin k_1236 (rm_ok hR rfl) rfl (Nat.le_of_ble_eq_true rfl) dX10_isSome_16) ?_
      refine r_if_eq (pc := 19) (tgt := 26) hC dX10_isSome_19 (by decide) ?_ ?_
      · refine r_iconst (pc := 26) hC (v := (0 : Int32)) (by decide) dX10_isSome_26 ?_
        exact r_retO hC rfl dX10_isSome_27
      · refine r_iconst (pc := 22) hC (v := (1 : Int32)) (by decide) dX10_isSome_22 ?_
        refine r_goto (pc := 23) (tgt := 27) hC dX10_isSome_23 (by decide) ?_
        exact r_retO hC rfl dX10_isSome_27
set_option maxRecDepth 100000 in
set_option maxHeartbeats 4000000 in
theorem c_M_isSome (l : Launch) (w : Wenv) (hw : okw w wM) (a1 : Int32) (σ : Mem) : Ctr l w wM yX10_isSome cX10_isSome 2 (some .boolean) 1 21 [.ref (w.2.2.1 0), .int a1] σ (cQi w wM (t_M_isSome a1 σ) σ) := mk_ctr (Q := fun κ => qO κ wM σ) (lv := [some (.ref (w.2.2.1 0)), some (.int a1)]) (by decide) rfl hw (Nat.le_of_ble_eq_true rfl) rfl (e_M_isSome a1 σ) (fun κ h => by subst h; rfl) (fun κ hl h hR hC => by
    subst h
    exact w_M_isSome hR hC a1 σ)
-- DuelRoundModel.beaten(II)I (0, None, None) kind OM
def f_M_beaten (a1 : Int32) (a2 : Int32) (σ : Mem) : Option (Int32 × Mem) :=
  bnd (sI σ 0 0 (0 : Int32)) fun s1 =>
  if (t_M_isPlayer a1 s1) = (0 : Int32) then
  (some ((-1 : Int32), s1))
  else
  (if (t_M_isSome a2 s1) = (0 : Int32) then
  (some ((-1 : Int32), s1))
  else
  (ob (f_M_beats a1 s1) fun r2 =>
  some ((r2 &&& a2), s1)))
set_option maxRecDepth 100000 in
set_option maxHeartbeats 4000000 in
theorem w_M_beaten {κ : Ctx} (hR : kR κ = { frames := 2, cells := 0, slots := 0, locals := 46 }) (hC : ok κ wM cX10_beaten 3 RX10 (some .int)) (a1 : Int32) (a2 : Int32) (σ : Mem) : wF κ wM 3 (qOM κ wM) σ 0 [some (.ref (ad κ 0)), some (.int a1), some (.int a2)] [] (f_M_beaten a1 a2 σ) := by
  unfold f_M_beaten
  refine r_aload_n (pc := 0) hC rfl dX10_beaten_0 ?_
  refine r_iconst (pc := 1) hC (v := (0 : Int32)) (by decide) dX10_beaten_1 ?_
  refine pM_0_0 (pc := 2) hC k_1037 dX10_beaten_2 ?_
  refine r_letm (fun s1 => ?_)
  refine r_aload_n (pc := 5) hC rfl dX10_beaten_5 ?_
  refine r_iload_n (pc := 6) hC rfl dX10_beaten_6 ?_
  refine r_cT (pc := 7) (rest := []) (runV [.int a1] hC (c_M_isPlayer (kl κ) (kW κ) hC.2.2.2.2.2.2.2.2.1 a1 s1) o_X10_isPlayer k_1220 (q0 := 0) (ci := 10) rfl rfl (rm_ok hR rfl) rfl (Nat.le_of_ble_eq_true rfl) dX10_beaten_7) ?_
  refine r_if_eq (pc := 10) (tgt := 31) hC dX10_beaten_10 (by decide) ?_ ?_
  · refine r_iconst (pc := 31) hC (v := (-1 : Int32)) (by decide) dX10_beaten_31 ?_
    exact r_retOM hC rfl dX10_beaten_32
  · refine r_aload_n (pc := 13) hC rfl dX10_beaten_13 ?_
    refine r_iload_n (pc := 14) hC rfl dX10_beaten_14 ?_
    refine r_cT (pc := 15) (rest := []) (runV [.int a2] hC (c_M_isSome (kl κ) (kW κ) hC.2.2.2.2.2.2.2.2.1 a2 s1) o_X10_isSome k_1250 (q0 := 0) (ci := 10) rfl rfl (rm_ok hR rfl) rfl (Nat.le_of_ble_eq_true rfl) dX10_beaten_15) ?_
    refine r_if_eq (pc := 18) (tgt := 31) hC dX10_beaten_18 (by decide) ?_ ?_
    · refine r_iconst (pc := 31) hC (v := (-1 : Int32)) (by decide) dX10_beaten_31 ?_
      exact r_retOM hC rfl dX10_beaten_32
    · refine r_aload_n (pc := 21) hC rfl dX10_beaten_21 ?_
      refine r_iload_n (pc := 22) hC rfl dX10_beaten_22 ?_
      refine r_cO (pc := 23) (rest := []) (fun r2 hf => runV [.int a1] hC (c_M_beats (kl κ) (kW κ) hC.2.2.2.2.2.2.2.2.1 a1 s1 r2 hf) o_X10_beats k_1224 (q0 := 0) (ci := 10) rfl rfl (rm_ok hR rfl) rfl (Nat.le_of_ble_eq_true rfl) dX10_beaten_23) (fun r2 => ?_)
      refine r_iload_n (pc := 26) hC rfl dX10_beaten_26 ?_
      refine r_iand (pc := 27) hC dX10_beaten_27 ?_
      refine r_goto (pc := 28) (tgt := 32) hC dX10_beaten_28 (by decide) ?_
      exact r_retOM hC rfl dX10_beaten_32
set_option maxRecDepth 100000 in
set_option maxHeartbeats 4000000 in
theorem c_M_beaten (l : Launch) (w : Wenv) (hw : okw w wM) (a1 : Int32) (a2 : Int32) (σ : Mem) (r : Int32) (τ : Mem) (hf : f_M_beaten a1 a2 σ = some (r, τ)) : Ctr l w wM yX10_beaten cX10_beaten 3 (some .int) 2 46 [.ref (w.2.2.1 0), .int a1, .int a2] σ (cQi w wM r τ) := mk_ctr (Q := fun κ => qOM κ wM) (lv := [some (.ref (w.2.2.1 0)), some (.int a1), some (.int a2)]) (by decide) rfl hw (Nat.le_of_ble_eq_true rfl) rfl hf (fun κ h => by subst h; rfl) (fun κ hl h hR hC => by
    subst h
    exact w_M_beaten hR hC a1 a2 σ)
-- DuelRoundModel.over(I)I (0, None) kind O
def f_M_over (a1 : Int32) (σ : Mem) : Option Int32 :=
  gd (inb ((1 : Int32) + a1) 9) (some (((t_M_all σ) &&& ((gI σ 1 ((1 : Int32) + a1).toNatClampNeg) ^^^ (-1 : Int32))) &&& (((1 : Int32) <<< (a1 &&& 31)) ^^^ (-1 : Int32))))
set_option maxRecDepth 100000 in
set_option maxHeartbeats 4000000 in
theorem w_M_over {κ : Ctx} (hR : kR κ = { frames := 1, cells := 0, slots := 0, locals := 20 }) (hC : ok κ wM cX10_over 2 RX10 (some .int)) (a1 : Int32) (σ : Mem) : wF κ wM 2 (qO κ wM σ) σ 0 [some (.ref (ad κ 0)), some (.int a1)] [] (f_M_over a1 σ) := by
  unfold f_M_over
  refine r_aload_n (pc := 0) hC rfl dX10_over_0 ?_
  refine r_cT (pc := 1) (rest := []) (runV [] hC (c_M_all (kl κ) (kW κ) hC.2.2.2.2.2.2.2.2.1 σ) o_X10_all k_1228 (q0 := 0) (ci := 10) rfl rfl (rm_ok hR rfl) rfl (Nat.le_of_ble_eq_true rfl) dX10_over_1) ?_
  refine r_aload_n (pc := 4) hC rfl dX10_over_4 ?_
  refine gM_0_1 (pc := 5) hC k_1038 dX10_over_5 ?_
  refine r_iconst (pc := 8) hC (v := (1 : Int32)) (by decide) dX10_over_8 ?_
  refine r_iload_n (pc := 9) hC rfl dX10_over_9 ?_
  refine r_iadd (pc := 10) hC dX10_over_10 ?_
  refine aM_1 (pc := 11) hC dX10_over_11 ?_
  refine r_iconst (pc := 12) hC (v := (-1 : Int32)) (by decide) dX10_over_12 ?_
  refine r_ixor (pc := 13) hC dX10_over_13 ?_
  refine r_iand (pc := 14) hC dX10_over_14 ?_
  refine r_iconst (pc := 15) hC (v := (1 : Int32)) (by decide) dX10_over_15 ?_
  refine r_iload_n (pc := 16) hC rfl dX10_over_16 ?_
  refine r_ishl (pc := 17) hC dX10_over_17 ?_
  refine r_iconst (pc := 18) hC (v := (-1 : Int32)) (by decide) dX10_over_18 ?_
  refine r_ixor (pc := 19) hC dX10_over_19 ?_
  refine r_iand (pc := 20) hC dX10_over_20 ?_
  exact r_retO hC rfl dX10_over_21
set_option maxRecDepth 100000 in
set_option maxHeartbeats 4000000 in
theorem c_M_over (l : Launch) (w : Wenv) (hw : okw w wM) (a1 : Int32) (σ : Mem) (r : Int32) (hf : f_M_over a1 σ = some r) : Ctr l w wM yX10_over cX10_over 2 (some .int) 1 20 [.ref (w.2.2.1 0), .int a1] σ (cQi w wM r σ) := mk_ctr (Q := fun κ => qO κ wM σ) (lv := [some (.ref (w.2.2.1 0)), some (.int a1)]) (by decide) rfl hw (Nat.le_of_ble_eq_true rfl) rfl hf (fun κ h => by subst h; rfl) (fun κ hl h hR hC => by
    subst h
    exact w_M_over hR hC a1 σ)
-- DuelRoundModel.sizeOf(I)I (None,) kind O
def M_sizeOf_B4 (self3 : Int32 → Int32 → Option Int32) (i1 : Int32) (i2 : Int32) : Option Int32 :=
  if i2 = (0 : Int32) then
  (some i1)
  else
  (bnd (i2 &&& (i2 - (1 : Int32))) fun x4 =>
  self3 (i1 + (1 : Int32)) x4)
def f_M_sizeOf (N : Nat) (a1 : Int32) : Option Int32 :=
  it2 (M_sizeOf_B4) N (0 : Int32) a1
set_option maxRecDepth 100000 in
set_option maxHeartbeats 4000000 in
theorem w_M_sizeOf {κ : Ctx} (hR : kR κ = { frames := 0, cells := 0, slots := 0, locals := 0 }) (hC : ok κ wM cX10_sizeOf 3 RX10 (some .int)) (N : Nat) (a1 : Int32) (σ : Mem) : wF κ wM 3 (qO κ wM σ) σ 0 [some (.int a1), none, none] [] (f_M_sizeOf N a1) := by
  unfold f_M_sizeOf
  refine r_iconst (pc := 0) hC (v := (0 : Int32)) (by decide) dX10_sizeOf_0 ?_
  refine r_istore_n (pc := 1) hC rfl rfl dX10_sizeOf_1 ?_
  refine r_iload_n (pc := 2) hC rfl dX10_sizeOf_2 ?_
  refine r_istore_n (pc := 3) hC rfl rfl dX10_sizeOf_3 ?_
  refine r_wk [false, true, true] (w_it2 (fun i1 i2 => σ) (fun i1 i2 => [none, some (.int i1), some (.int i2)]) (fun self3 ih4_3 i1 i2 => ?_) N (0 : Int32) a1)
  unfold M_sizeOf_B4
  refine r_iload_n (pc := 4) hC rfl dX10_sizeOf_4 ?_
  refine r_if_eq (pc := 5) (tgt := 20) hC dX10_sizeOf_5 (by decide) ?_ ?_
  · refine r_iload_n (pc := 20) hC rfl dX10_sizeOf_20 ?_
    exact r_retO hC rfl dX10_sizeOf_21
  · refine r_iinc (pc := 8) hC (v := (1 : Int32)) rfl (by decide) rfl rfl dX10_sizeOf_8 ?_
    refine r_iload_n (pc := 11) hC rfl dX10_sizeOf_11 ?_
    refine r_iload_n (pc := 12) hC rfl dX10_sizeOf_12 ?_
    refine r_iconst (pc := 13) hC (v := (1 : Int32)) (by decide) dX10_sizeOf_13 ?_
    refine r_isub (pc := 14) hC dX10_sizeOf_14 ?_
    refine r_iand (pc := 15) hC dX10_sizeOf_15 ?_
    refine r_let (fun x4 => ?_)
    refine r_istore_n (pc := 16) hC rfl rfl dX10_sizeOf_16 ?_
    refine r_goto (pc := 17) (tgt := 4) hC dX10_sizeOf_17 (by decide) ?_
    exact ih4_3 (i1 + (1 : Int32)) x4
set_option maxRecDepth 100000 in
set_option maxHeartbeats 4000000 in
theorem c_M_sizeOf (l : Launch) (w : Wenv) (hw : okw w wM) (N : Nat) (a1 : Int32) (σ : Mem) (r : Int32) (hf : f_M_sizeOf N a1 = some r) : Ctr l w wM yX10_sizeOf cX10_sizeOf 3 (some .int) 0 0 [.int a1] σ (cQi w wM r σ) := mk_ctr (Q := fun κ => qO κ wM σ) (lv := [some (.int a1), none, none]) (by decide) rfl hw (Nat.le_of_ble_eq_true rfl) rfl hf (fun κ h => by subst h; rfl) (fun κ hl h hR hC => by
    subst h
    exact w_M_sizeOf hR hC N a1 σ)
-- DuelRoundModel.turnedBy(II)I (0, None, None) kind O
def f_M_turnedBy (N : Nat) (a1 : Int32) (a2 : Int32) (σ : Mem) : Option Int32 :=
  ob (f_M_over a1 σ) fun r1 =>
  ob (f_M_sizeOf N (r1 &&& a2)) fun r2 =>
  gd (inb (a2 &&& (((1 : Int32) <<< (a1 &&& 31)) ^^^ (-1 : Int32))) 256) (some (r2 + (gI σ 18 (a2 &&& (((1 : Int32) <<< (a1 &&& 31)) ^^^ (-1 : Int32))).toNatClampNeg)))
set_option maxRecDepth 100000 in
set_option maxHeartbeats 4000000 in
theorem w_M_turnedBy {κ : Ctx} (hR : kR κ = { frames := 2, cells := 0, slots := 0, locals := 41 }) (hC : ok κ wM cX10_turnedBy 3 RX10 (some .int)) (N : Nat) (a1 : Int32) (a2 : Int32) (σ : Mem) : wF κ wM 3 (qO κ wM σ) σ 0 [some (.ref (ad κ 0)), some (.int a1), some (.int a2)] [] (f_M_turnedBy N a1 a2 σ) := by
  unfold f_M_turnedBy
  refine r_aload_n (pc := 0) hC rfl dX10_turnedBy_0 ?_
  refine r_iload_n (pc := 1) hC rfl dX10_turnedBy_1 ?_
  refine r_cO (pc := 2) (rest := []) (fun r1 hf => runV [.int a1] hC (c_M_over (kl κ) (kW κ) hC.2.2.2.2.2.2.2.2.1 a1 σ r1 hf) o_X10_over k_1239 (q0 := 0) (ci := 10) rfl rfl (rm_ok hR rfl) rfl (Nat.le_of_ble_eq_true rfl) dX10_turnedBy_2) (fun r1 => ?_)
  refine r_iload_n (pc := 5) hC rfl dX10_turnedBy_5 ?_
  refine r_iand (pc := 6) hC dX10_turnedBy_6 ?_
  refine r_cO (pc := 7) (rest := []) (fun r2 hf => runS [.int (r1 &&& a2)] hC (c_M_sizeOf (kl κ) (kW κ) hC.2.2.2.2.2.2.2.2.1 N (r1 &&& a2) σ r2 hf) o_X10_sizeOf k_1298 (rm_ok hR rfl) rfl (Nat.le_of_ble_eq_true rfl) dX10_turnedBy_7) (fun r2 => ?_)
  refine r_aload_n (pc := 10) hC rfl dX10_turnedBy_10 ?_
  refine gM_0_18 (pc := 11) hC k_1055 dX10_turnedBy_11 ?_
  refine r_iload_n (pc := 14) hC rfl dX10_turnedBy_14 ?_
  refine r_iconst (pc := 15) hC (v := (1 : Int32)) (by decide) dX10_turnedBy_15 ?_
  refine r_iload_n (pc := 16) hC rfl dX10_turnedBy_16 ?_
  refine r_ishl (pc := 17) hC dX10_turnedBy_17 ?_
  refine r_iconst (pc := 18) hC (v := (-1 : Int32)) (by decide) dX10_turnedBy_18 ?_
  refine r_ixor (pc := 19) hC dX10_turnedBy_19 ?_
  refine r_iand (pc := 20) hC dX10_turnedBy_20 ?_
  refine aM_12 (pc := 21) hC dX10_turnedBy_21 ?_
  refine r_iadd (pc := 22) hC dX10_turnedBy_22 ?_
  exact r_retO hC rfl dX10_turnedBy_23
set_option maxRecDepth 100000 in
set_option maxHeartbeats 4000000 in
theorem c_M_turnedBy (l : Launch) (w : Wenv) (hw : okw w wM) (N : Nat) (a1 : Int32) (a2 : Int32) (σ : Mem) (r : Int32) (hf : f_M_turnedBy N a1 a2 σ = some r) : Ctr l w wM yX10_turnedBy cX10_turnedBy 3 (some .int) 2 41 [.ref (w.2.2.1 0), .int a1, .int a2] σ (cQi w wM r σ) := mk_ctr (Q := fun κ => qO κ wM σ) (lv := [some (.ref (w.2.2.1 0)), some (.int a1), some (.int a2)]) (by decide) rfl hw (Nat.le_of_ble_eq_true rfl) rfl hf (fun κ h => by subst h; rfl) (fun κ hl h hR hC => by
    subst h
    exact w_M_turnedBy hR hC N a1 a2 σ)
-- DuelRoundModel.layOrders()V (0,) kind M
def M_layOrders_J102 (N : Nat) (s9 : Mem) (i3 : Int32) (i8 : Int32) (self10 : Int32 → Mem → Option Mem) (v13 : Int32) : Option Mem :=
  gd (inb i3 256) (bnd (sI s9 19 i3.toNatClampNeg v13) fun s14 =>
  ob (f_M_turnedBy N i8 i3 s14) fun r15 =>
  gd (inb i3 256) (bnd (sI s14 18 i3.toNatClampNeg r15) fun s16 =>
  gd (inb i3 256) (gd (inb (i3 &&& (((1 : Int32) <<< (i8 &&& 31)) ^^^ (-1 : Int32))) 256) (gd (inb i3 256) (bnd (sI s16 19 i3.toNatClampNeg ((gI s16 19 i3.toNatClampNeg) + (gI s16 19 (i3 &&& (((1 : Int32) <<< (i8 &&& 31)) ^^^ (-1 : Int32))).toNatClampNeg))) fun s17 =>
  self10 (i8 + (1 : Int32)) s17)))))
def M_layOrders_B41 (N : Nat) (i3 : Int32) (self5 : Int32 → Mem → Option Mem) (self10 : Int32 → Mem → Option Mem) (i8 : Int32) (s9 : Mem) : Option Mem :=
  if (t_M_many s9) ≤ i8 then
  (self5 (i3 + (1 : Int32)) s9)
  else
  (if (t_M_has i3 i8) = (0 : Int32) then
  (self10 (i8 + (1 : Int32)) s9)
  else
  (ob (f_M_turnedBy N i8 i3 s9) fun r11 =>
  gd (inb i3 256) (if (gI s9 18 i3.toNatClampNeg) < r11 then
  (self10 (i8 + (1 : Int32)) s9)
  else
  (ob (f_M_turnedBy N i8 i3 s9) fun r12 =>
  gd (inb i3 256) (if (gI s9 18 i3.toNatClampNeg) ≤ r12 then
  (gd (inb i3 256) (M_layOrders_J102 N s9 i3 i8 self10 (gI s9 19 i3.toNatClampNeg)))
  else
  (M_layOrders_J102 N s9 i3 i8 self10 (0 : Int32)))))))
def M_layOrders_B16 (N : Nat) (self5 : Int32 → Mem → Option Mem) (i3 : Int32) (s4 : Mem) : Option Mem :=
  if (t_M_all s4) < i3 then
  (some s4)
  else
  (gd (inb i3 256) (bnd (sI s4 18 i3.toNatClampNeg (99 : Int32)) fun s6 =>
  gd (inb i3 256) (bnd (sI s6 19 i3.toNatClampNeg (0 : Int32)) fun s7 =>
  it2 (M_layOrders_B41 N i3 self5) N (0 : Int32) s7)))
def f_M_layOrders (N : Nat) (σ : Mem) : Option Mem :=
  bnd (sI σ 18 (0 : Int32).toNatClampNeg (0 : Int32)) fun s1 =>
  bnd (sI s1 19 (0 : Int32).toNatClampNeg (1 : Int32)) fun s2 =>
  it2 (M_layOrders_B16 N) N (1 : Int32) s2
set_option maxRecDepth 100000 in
set_option maxHeartbeats 4000000 in
theorem w_M_layOrders {κ : Ctx} (hR : kR κ = { frames := 3, cells := 0, slots := 0, locals := 63 }) (hC : ok κ wM cX10_layOrders 3 RX10 none) (N : Nat) (σ : Mem) : wF κ wM 3 (qM κ wM) σ 0 [some (.ref (ad κ 0)), none, none] [] (f_M_layOrders N  σ) := by
  unfold f_M_layOrders
  refine r_aload_n (pc := 0) hC rfl dX10_layOrders_0 ?_
  refine gM_0_18 (pc := 1) hC k_1055 dX10_layOrders_1 ?_
  refine r_iconst (pc := 4) hC (v := (0 : Int32)) (by decide) dX10_layOrders_4 ?_
  refine r_iconst (pc := 5) hC (v := (0 : Int32)) (by decide) dX10_layOrders_5 ?_
  refine r_ung (b := inb (0 : Int32) 256) (by decide) ?_
  refine bM_12 (pc := 6) hC dX10_layOrders_6 ?_
  refine r_letm (fun s1 => ?_)
  refine r_aload_n (pc := 7) hC rfl dX10_layOrders_7 ?_
  refine gM_0_19 (pc := 8) hC k_1056 dX10_layOrders_8 ?_
  refine r_iconst (pc := 11) hC (v := (0 : Int32)) (by decide) dX10_layOrders_11 ?_
  refine r_iconst (pc := 12) hC (v := (1 : Int32)) (by decide) dX10_layOrders_12 ?_
  refine r_ung (b := inb (0 : Int32) 256) (by decide) ?_
  refine bM_13 (pc := 13) hC dX10_layOrders_13 ?_
  refine r_letm (fun s2 => ?_)
  refine r_iconst (pc := 14) hC (v := (1 : Int32)) (by decide) dX10_layOrders_14 ?_
  refine r_istore_n (pc := 15) hC rfl rfl dX10_layOrders_15 ?_
  refine w_it2 (fun i3 s4 => s4) (fun i3 s4 => [some (.ref (ad κ 0)), some (.int i3), none]) (fun self5 ih16_5 i3 s4 => ?_) N (1 : Int32) s2
  unfold M_layOrders_B16
  refine r_iload_n (pc := 16) hC rfl dX10_layOrders_16 ?_
  refine r_aload_n (pc := 17) hC rfl dX10_layOrders_17 ?_
  refine r_cT (pc := 18) (rest := [.int i3]) (runV [] hC (c_M_all (kl κ) (kW κ) hC.2.2.2.2.2.2.2.2.1 s4) o_X10_all k_1228 (q0 := 0) (ci := 10) rfl rfl (rm_ok hR rfl) rfl (Nat.le_of_ble_eq_true rfl) dX10_layOrders_18) ?_
  refine r_icmp_gt (pc := 21) (tgt := 148) hC dX10_layOrders_21 (by decide) ?_ ?_
  · exact r_retM hC dX10_layOrders_148
  · refine r_aload_n (pc := 24) hC rfl dX10_layOrders_24 ?_
    refine gM_0_18 (pc := 25) hC k_1055 dX10_layOrders_25 ?_
    refine r_iload_n (pc := 28) hC rfl dX10_layOrders_28 ?_
    refine r_bipush (pc := 29) hC (v := (99 : Int32)) (by decide) dX10_layOrders_29 ?_
    refine bM_12 (pc := 31) hC dX10_layOrders_31 ?_
    refine r_letm (fun s6 => ?_)
    refine r_aload_n (pc := 32) hC rfl dX10_layOrders_32 ?_
    refine gM_0_19 (pc := 33) hC k_1056 dX10_layOrders_33 ?_
    refine r_iload_n (pc := 36) hC rfl dX10_layOrders_36 ?_
    refine r_iconst (pc := 37) hC (v := (0 : Int32)) (by decide) dX10_layOrders_37 ?_
    refine bM_13 (pc := 38) hC dX10_layOrders_38 ?_
    refine r_letm (fun s7 => ?_)
    refine r_iconst (pc := 39) hC (v := (0 : Int32)) (by decide) dX10_layOrders_39 ?_
    refine r_istore_n (pc := 40) hC rfl rfl dX10_layOrders_40 ?_
    refine w_it2 (fun i8 s9 => s9) (fun i8 s9 => [some (.ref (ad κ 0)), some (.int i3), some (.int i8)]) (fun self10 ih41_10 i8 s9 => ?_) N (0 : Int32) s7
    unfold M_layOrders_B41
    refine r_iload_n (pc := 41) hC rfl dX10_layOrders_41 ?_
    refine r_aload_n (pc := 42) hC rfl dX10_layOrders_42 ?_
    refine r_cT (pc := 43) (rest := [.int i8]) (runV [] hC (c_M_many (kl κ) (kW κ) hC.2.2.2.2.2.2.2.2.1 s9) o_X10_many k_1274 (q0 := 0) (ci := 10) rfl rfl (rm_ok hR rfl) rfl (Nat.le_of_ble_eq_true rfl) dX10_layOrders_43) ?_
    refine r_icmp_ge (pc := 46) (tgt := 142) hC dX10_layOrders_46 (by decide) ?_ ?_
    · refine r_iinc (pc := 142) hC (v := (1 : Int32)) rfl (by decide) rfl rfl dX10_layOrders_142 ?_
      refine r_goto (pc := 145) (tgt := 16) hC dX10_layOrders_145 (by decide) ?_
      exact r_wk [true, true, false] (ih16_5 (i3 + (1 : Int32)) s9)
    · refine r_iload_n (pc := 49) hC rfl dX10_layOrders_49 ?_
      refine r_iload_n (pc := 50) hC rfl dX10_layOrders_50 ?_
      refine r_cT (pc := 51) (rest := []) (runS [.int i3, .int i8] hC (c_M_has (kl κ) (kW κ) hC.2.2.2.2.2.2.2.2.1 i3 i8 s9) o_X10_has k_1194 (rm_ok hR rfl) rfl (Nat.le_of_ble_eq_true rfl) dX10_layOrders_51) ?_
      refine r_if_eq (pc := 54) (tgt := 136) hC dX10_layOrders_54 (by decide) ?_ ?_
      · refine r_iinc (pc := 136) hC (v := (1 : Int32)) rfl (by decide) rfl rfl dX10_layOrders_136 ?_
        refine r_goto (pc := 139) (tgt := 41) hC dX10_layOrders_139 (by decide) ?_
        exact ih41_10 (i8 + (1 : Int32)) s9
      · refine r_aload_n (pc := 57) hC rfl dX10_layOrders_57 ?_
        refine r_iload_n (pc := 58) hC rfl dX10_layOrders_58 ?_
        refine r_iload_n (pc := 59) hC rfl dX10_layOrders_59 ?_
        refine r_cO (pc := 60) (rest := []) (fun r11 hf => runV [.int i8, .int i3] hC (c_M_turnedBy (kl κ) (kW κ) hC.2.2.2.2.2.2.2.2.1 N i8 i3 s9 r11 hf) o_X10_turnedBy k_1333 (q0 := 0) (ci := 10) rfl rfl (rm_ok hR rfl) rfl (Nat.le_of_ble_eq_true rfl) dX10_layOrders_60) (fun r11 => ?_)
        refine r_aload_n (pc := 63) hC rfl dX10_layOrders_63 ?_
        refine gM_0_18 (pc := 64) hC k_1055 dX10_layOrders_64 ?_
        refine r_iload_n (pc := 67) hC rfl dX10_layOrders_67 ?_
        refine aM_12 (pc := 68) hC dX10_layOrders_68 ?_
        refine r_icmp_gt (pc := 69) (tgt := 136) hC dX10_layOrders_69 (by decide) ?_ ?_
        · refine r_iinc (pc := 136) hC (v := (1 : Int32)) rfl (by decide) rfl rfl dX10_layOrders_136 ?_
          refine r_goto (pc := 139) (tgt := 41) hC dX10_layOrders_139 (by decide) ?_
          exact ih41_10 (i8 + (1 : Int32)) s9
        · refine r_aload_n (pc := 72) hC rfl dX10_layOrders_72 ?_
          refine gM_0_19 (pc := 73) hC k_1056 dX10_layOrders_73 ?_
          refine r_iload_n (pc := 76) hC rfl dX10_layOrders_76 ?_
          refine r_aload_n (pc := 77) hC rfl dX10_layOrders_77 ?_
          refine r_iload_n (pc := 78) hC rfl dX10_layOrders_78 ?_
          refine r_iload_n (pc := 79) hC rfl dX10_layOrders_79 ?_
          refine r_cO (pc := 80) (rest := [.int i3, .ref (ad κ 13)]) (fun r12 hf => runV [.int i8, .int i3] hC (c_M_turnedBy (kl κ) (kW κ) hC.2.2.2.2.2.2.2.2.1 N i8 i3 s9 r12 hf) o_X10_turnedBy k_1333 (q0 := 0) (ci := 10) rfl rfl (rm_ok hR rfl) rfl (Nat.le_of_ble_eq_true rfl) dX10_layOrders_80) (fun r12 => ?_)
          refine r_aload_n (pc := 83) hC rfl dX10_layOrders_83 ?_
          refine gM_0_18 (pc := 84) hC k_1055 dX10_layOrders_84 ?_
          refine r_iload_n (pc := 87) hC rfl dX10_layOrders_87 ?_
          refine aM_12 (pc := 88) hC dX10_layOrders_88 ?_
          have hJ102_17 : ∀ (v13 : Int32), wF κ wM 3 (qM κ wM) s9 102 [some (.ref (ad κ 0)), some (.int i3), some (.int i8)] [.int v13, .int i3, .ref (ad κ 13)] (M_layOrders_J102 N s9 i3 i8 self10 v13) := by
            intro v13
            unfold M_layOrders_J102
            refine bM_13 (pc := 102) hC dX10_layOrders_102 ?_
            refine r_letm (fun s14 => ?_)
            refine r_aload_n (pc := 103) hC rfl dX10_layOrders_103 ?_
            refine gM_0_18 (pc := 104) hC k_1055 dX10_layOrders_104 ?_
            refine r_iload_n (pc := 107) hC rfl dX10_layOrders_107 ?_
            refine r_aload_n (pc := 108) hC rfl dX10_layOrders_108 ?_
            refine r_iload_n (pc := 109) hC rfl dX10_layOrders_109 ?_
            refine r_iload_n (pc := 110) hC rfl dX10_layOrders_110 ?_
            refine r_cO (pc := 111) (rest := [.int i3, .ref (ad κ 12)]) (fun r15 hf => runV [.int i8, .int i3] hC (c_M_turnedBy (kl κ) (kW κ) hC.2.2.2.2.2.2.2.2.1 N i8 i3 s14 r15 hf) o_X10_turnedBy k_1333 (q0 := 0) (ci := 10) rfl rfl (rm_ok hR rfl) rfl (Nat.le_of_ble_eq_true rfl) dX10_layOrders_111) (fun r15 => ?_)
            refine bM_12 (pc := 114) hC dX10_layOrders_114 ?_
            refine r_letm (fun s16 => ?_)
            refine r_aload_n (pc := 115) hC rfl dX10_layOrders_115 ?_
            refine gM_0_19 (pc := 116) hC k_1056 dX10_layOrders_116 ?_
            refine r_iload_n (pc := 119) hC rfl dX10_layOrders_119 ?_
            refine r_dup2 (pc := 120) hC rfl rfl dX10_layOrders_120 ?_
            refine aM_13 (pc := 121) hC dX10_layOrders_121 ?_
            refine r_aload_n (pc := 122) hC rfl dX10_layOrders_122 ?_
            refine gM_0_19 (pc := 123) hC k_1056 dX10_layOrders_123 ?_
            refine r_iload_n (pc := 126) hC rfl dX10_layOrders_126 ?_
            refine r_iconst (pc := 127) hC (v := (1 : Int32)) (by decide) dX10_layOrders_127 ?_
            refine r_iload_n (pc := 128) hC rfl dX10_layOrders_128 ?_
            refine r_ishl (pc := 129) hC dX10_layOrders_129 ?_
            refine r_iconst (pc := 130) hC (v := (-1 : Int32)) (by decide) dX10_layOrders_130 ?_
            refine r_ixor (pc := 131) hC dX10_layOrders_131 ?_
            refine r_iand (pc := 132) hC dX10_layOrders_132 ?_
            refine aM_13 (pc := 133) hC dX10_layOrders_133 ?_
            refine r_iadd (pc := 134) hC dX10_layOrders_134 ?_
            refine bM_13 (pc := 135) hC dX10_layOrders_135 ?_
            refine r_letm (fun s17 => ?_)
            refine r_iinc (pc := 136) hC (v := (1 : Int32)) rfl (by decide) rfl rfl dX10_layOrders_136 ?_
            refine r_goto (pc := 139) (tgt := 41) hC dX10_layOrders_139 (by decide) ?_
            exact ih41_10 (i8 + (1 : Int32)) s17
          refine r_icmp_ge (pc := 89) (tgt := 96) hC dX10_layOrders_89 (by decide) ?_ ?_
          · refine r_aload_n (pc := 96) hC rfl dX10_layOrders_96 ?_
            refine gM_0_19 (pc := 97) hC k_1056 dX10_layOrders_97 ?_
            refine r_iload_n (pc := 100) hC rfl dX10_layOrders_100 ?_
            refine aM_13 (pc := 101) hC dX10_layOrders_101 ?_
            exact hJ102_17 (gI s9 19 i3.toNatClampNeg)
          · refine r_iconst (pc := 92) hC (v := (0 : Int32)) (by decide) dX10_layOrders_92 ?_
            refine r_goto (pc := 93) (tgt := 102) hC dX10_layOrders_93 (by decide) ?_
            exact hJ102_17 (0 : Int32)
set_option maxRecDepth 100000 in
set_option maxHeartbeats 4000000 in
theorem c_M_layOrders (l : Launch) (w : Wenv) (hw : okw w wM) (N : Nat) (σ : Mem) (τ : Mem) (hf : f_M_layOrders N  σ = some τ) : Ctr l w wM yX10_layOrders cX10_layOrders 3 none 3 63 [.ref (w.2.2.1 0)] σ (cQv w wM τ) := mk_ctr (Q := fun κ => qM κ wM) (lv := [some (.ref (w.2.2.1 0)), none, none]) (by decide) rfl hw (Nat.le_of_ble_eq_true rfl) rfl hf (fun κ h => by subst h; rfl) (fun κ hl h hR hC => by
    subst h
    exact w_M_layOrders hR hC N  σ)
-- DuelRoundModel.bestAt(I)I (0, None) kind O
def M_bestAt_K47 (i2 : Int32) (i4 : Int32) (self5 : Int32 → Int32 → Int32 → Option Int32) (y6 : Int32) : Option Int32 :=
  bnd (i2 &&& (((1 : Int32) <<< (y6 &&& 31)) ^^^ (-1 : Int32))) fun x7 =>
  self5 x7 y6 (i4 + (1 : Int32))
def M_bestAt_B18 (N : Nat) (σ : Mem) (i2 : Int32) (i4 : Int32) (self5 : Int32 → Int32 → Int32 → Option Int32) (self9 : Int32 → Option Int32) (i8 : Int32) : Option Int32 :=
  if (t_M_has i2 i8) = (0 : Int32) then
  (self9 (i8 + (1 : Int32)))
  else
  (ob (f_M_turnedBy N i8 i2 σ) fun r10 =>
  gd (inb i2 256) (if r10 = (gI σ 18 i2.toNatClampNeg) then
  (M_bestAt_K47 i2 i4 self5 i8)
  else
  (self9 (i8 + (1 : Int32)))))
def M_bestAt_B10 (N : Nat) (σ : Mem) (a1 : Int32) (self5 : Int32 → Int32 → Int32 → Option Int32) (i2 : Int32) (i3 : Int32) (i4 : Int32) : Option Int32 :=
  if a1 < i4 then
  (some i3)
  else
  (it1 (M_bestAt_B18 N σ i2 i4 self5) N (0 : Int32))
def f_M_bestAt (N : Nat) (a1 : Int32) (σ : Mem) : Option Int32 :=
  bnd (t_M_all σ) fun x1 =>
  it3 (M_bestAt_B10 N σ a1) N x1 (-1 : Int32) (0 : Int32)
set_option maxRecDepth 100000 in
set_option maxHeartbeats 4000000 in
theorem w_M_bestAt {κ : Ctx} (hR : kR κ = { frames := 3, cells := 0, slots := 0, locals := 63 }) (hC : ok κ wM cX10_bestAt 5 RX10 (some .int)) (N : Nat) (a1 : Int32) (σ : Mem) : wF κ wM 5 (qO κ wM σ) σ 0 [some (.ref (ad κ 0)), some (.int a1), none, none, none] [] (f_M_bestAt N a1 σ) := by
  unfold f_M_bestAt
  refine r_aload_n (pc := 0) hC rfl dX10_bestAt_0 ?_
  refine r_cT (pc := 1) (rest := []) (runV [] hC (c_M_all (kl κ) (kW κ) hC.2.2.2.2.2.2.2.2.1 σ) o_X10_all k_1228 (q0 := 0) (ci := 10) rfl rfl (rm_ok hR rfl) rfl (Nat.le_of_ble_eq_true rfl) dX10_bestAt_1) ?_
  refine r_let (fun x1 => ?_)
  refine r_istore_n (pc := 4) hC rfl rfl dX10_bestAt_4 ?_
  refine r_iconst (pc := 5) hC (v := (-1 : Int32)) (by decide) dX10_bestAt_5 ?_
  refine r_istore_n (pc := 6) hC rfl rfl dX10_bestAt_6 ?_
  refine r_iconst (pc := 7) hC (v := (0 : Int32)) (by decide) dX10_bestAt_7 ?_
  refine r_istore (pc := 8) hC rfl rfl dX10_bestAt_8 ?_
  refine w_it3 (fun i2 i3 i4 => σ) (fun i2 i3 i4 => [some (.ref (ad κ 0)), some (.int a1), some (.int i2), some (.int i3), some (.int i4)]) (fun self5 ih10_5 i2 i3 i4 => ?_) N x1 (-1 : Int32) (0 : Int32)
  unfold M_bestAt_B10
  refine r_iload (pc := 10) hC rfl dX10_bestAt_10 ?_
  refine r_iload_n (pc := 12) hC rfl dX10_bestAt_12 ?_
  refine r_icmp_gt (pc := 13) (tgt := 61) hC dX10_bestAt_13 (by decide) ?_ ?_
  · refine r_iload_n (pc := 61) hC rfl dX10_bestAt_61 ?_
    exact r_retO hC rfl dX10_bestAt_62
  · refine r_iconst (pc := 16) hC (v := (0 : Int32)) (by decide) dX10_bestAt_16 ?_
    refine r_istore_n (pc := 17) hC rfl rfl dX10_bestAt_17 ?_
    have hK47_7 : ∀ (y6 : Int32), wF κ wM 5 (qO κ wM σ) σ 47 [some (.ref (ad κ 0)), some (.int a1), some (.int i2), some (.int y6), some (.int i4)] [] (M_bestAt_K47 i2 i4 self5 y6) := by
      intro y6
      unfold M_bestAt_K47
      refine r_iload_n (pc := 47) hC rfl dX10_bestAt_47 ?_
      refine r_iconst (pc := 48) hC (v := (1 : Int32)) (by decide) dX10_bestAt_48 ?_
      refine r_iload_n (pc := 49) hC rfl dX10_bestAt_49 ?_
      refine r_ishl (pc := 50) hC dX10_bestAt_50 ?_
      refine r_iconst (pc := 51) hC (v := (-1 : Int32)) (by decide) dX10_bestAt_51 ?_
      refine r_ixor (pc := 52) hC dX10_bestAt_52 ?_
      refine r_iand (pc := 53) hC dX10_bestAt_53 ?_
      refine r_let (fun x7 => ?_)
      refine r_istore_n (pc := 54) hC rfl rfl dX10_bestAt_54 ?_
      refine r_iinc (pc := 55) hC (v := (1 : Int32)) rfl (by decide) rfl rfl dX10_bestAt_55 ?_
      refine r_goto (pc := 58) (tgt := 10) hC dX10_bestAt_58 (by decide) ?_
      exact ih10_5 x7 y6 (i4 + (1 : Int32))
    refine w_it1 (fun i8 => σ) (fun i8 => [some (.ref (ad κ 0)), some (.int a1), some (.int i2), some (.int i8), some (.int i4)]) (fun self9 ih18_9 i8 => ?_) N (0 : Int32)
    unfold M_bestAt_B18
    refine r_iload_n (pc := 18) hC rfl dX10_bestAt_18 ?_
    refine r_iload_n (pc := 19) hC rfl dX10_bestAt_19 ?_
    refine r_cT (pc := 20) (rest := []) (runS [.int i2, .int i8] hC (c_M_has (kl κ) (kW κ) hC.2.2.2.2.2.2.2.2.1 i2 i8 σ) o_X10_has k_1194 (rm_ok hR rfl) rfl (Nat.le_of_ble_eq_true rfl) dX10_bestAt_20) ?_
    refine r_if_eq (pc := 23) (tgt := 41) hC dX10_bestAt_23 (by decide) ?_ ?_
    · refine r_iinc (pc := 41) hC (v := (1 : Int32)) rfl (by decide) rfl rfl dX10_bestAt_41 ?_
      refine r_goto (pc := 44) (tgt := 18) hC dX10_bestAt_44 (by decide) ?_
      exact ih18_9 (i8 + (1 : Int32))
    · refine r_aload_n (pc := 26) hC rfl dX10_bestAt_26 ?_
      refine r_iload_n (pc := 27) hC rfl dX10_bestAt_27 ?_
      refine r_iload_n (pc := 28) hC rfl dX10_bestAt_28 ?_
      refine r_cO (pc := 29) (rest := []) (fun r10 hf => runV [.int i8, .int i2] hC (c_M_turnedBy (kl κ) (kW κ) hC.2.2.2.2.2.2.2.2.1 N i8 i2 σ r10 hf) o_X10_turnedBy k_1333 (q0 := 0) (ci := 10) rfl rfl (rm_ok hR rfl) rfl (Nat.le_of_ble_eq_true rfl) dX10_bestAt_29) (fun r10 => ?_)
      refine r_aload_n (pc := 32) hC rfl dX10_bestAt_32 ?_
      refine gM_0_18 (pc := 33) hC k_1055 dX10_bestAt_33 ?_
      refine r_iload_n (pc := 36) hC rfl dX10_bestAt_36 ?_
      refine aM_12 (pc := 37) hC dX10_bestAt_37 ?_
      refine r_icmp_eq (pc := 38) (tgt := 47) hC dX10_bestAt_38 (by decide) ?_ ?_
      · exact hK47_7 i8
      · refine r_iinc (pc := 41) hC (v := (1 : Int32)) rfl (by decide) rfl rfl dX10_bestAt_41 ?_
        refine r_goto (pc := 44) (tgt := 18) hC dX10_bestAt_44 (by decide) ?_
        exact ih18_9 (i8 + (1 : Int32))
set_option maxRecDepth 100000 in
set_option maxHeartbeats 4000000 in
theorem c_M_bestAt (l : Launch) (w : Wenv) (hw : okw w wM) (N : Nat) (a1 : Int32) (σ : Mem) (r : Int32) (hf : f_M_bestAt N a1 σ = some r) : Ctr l w wM yX10_bestAt cX10_bestAt 5 (some .int) 3 63 [.ref (w.2.2.1 0), .int a1] σ (cQi w wM r σ) := mk_ctr (Q := fun κ => qO κ wM σ) (lv := [some (.ref (w.2.2.1 0)), some (.int a1), none, none, none]) (by decide) rfl hw (Nat.le_of_ble_eq_true rfl) rfl hf (fun κ h => by subst h; rfl) (fun κ hl h hR hC => by
    subst h
    exact w_M_bestAt hR hC N a1 σ)
-- DuelRoundModel.best(I)I (0, None) kind OM
def M_best_J44 (N : Nat) (s1 : Mem) (a1 : Int32) : Option (Int32 × Mem) :=
  ob (f_M_layOrders N s1) fun s2 =>
  if a1 = (0 : Int32) then
  (gd (inb (t_M_all s2) 256) (some ((gI s2 18 (t_M_all s2).toNatClampNeg), s2)))
  else
  (if a1 = (1 : Int32) then
  (gd (inb (t_M_all s2) 256) (some ((gI s2 19 (t_M_all s2).toNatClampNeg), s2)))
  else
  (ob (f_M_bestAt N (a1 - (10 : Int32)) s2) fun r3 =>
  some (r3, s2)))
def f_M_best (N : Nat) (a1 : Int32) (σ : Mem) : Option (Int32 × Mem) :=
  bnd (sI σ 0 0 (0 : Int32)) fun s1 =>
  if (t_M_isRound s1) = (0 : Int32) then
  (some ((-1 : Int32), s1))
  else
  (if (t_M_in (a1.toInt64) (0 : Int64) (1 : Int64)) = (0 : Int32) then
  (if (t_M_in (a1.toInt64) (10 : Int64) ((9 : Int64) + ((t_M_many s1).toInt64))) = (0 : Int32) then
  (some ((-1 : Int32), s1))
  else
  (M_best_J44 N s1 a1))
  else
  (M_best_J44 N s1 a1))
set_option maxRecDepth 100000 in
set_option maxHeartbeats 4000000 in
theorem w_M_best {κ : Ctx} (hR : kR κ = { frames := 4, cells := 0, slots := 0, locals := 87 }) (hC : ok κ wM cX10_best 2 RX10 (some .int)) (N : Nat) (a1 : Int32) (σ : Mem) : wF κ wM 2 (qOM κ wM) σ 0 [some (.ref (ad κ 0)), some (.int a1)] [] (f_M_best N a1 σ) := by
  unfold f_M_best
  refine r_aload_n (pc := 0) hC rfl dX10_best_0 ?_
  refine r_iconst (pc := 1) hC (v := (0 : Int32)) (by decide) dX10_best_1 ?_
  refine pM_0_0 (pc := 2) hC k_1037 dX10_best_2 ?_
  refine r_letm (fun s1 => ?_)
  refine r_aload_n (pc := 5) hC rfl dX10_best_5 ?_
  refine r_cT (pc := 6) (rest := []) (runV [] hC (c_M_isRound (kl κ) (kW κ) hC.2.2.2.2.2.2.2.2.1 s1) o_X10_isRound k_1254 (q0 := 0) (ci := 10) rfl rfl (rm_ok hR rfl) rfl (Nat.le_of_ble_eq_true rfl) dX10_best_6) ?_
  refine r_if_eq (pc := 9) (tgt := 42) hC dX10_best_9 (by decide) ?_ ?_
  · refine r_iconst (pc := 42) hC (v := (-1 : Int32)) (by decide) dX10_best_42 ?_
    exact r_retOM hC rfl dX10_best_43
  · refine r_iload_n (pc := 12) hC rfl dX10_best_12 ?_
    refine r_i2l (pc := 13) hC dX10_best_13 ?_
    refine r_lconst (pc := 14) hC (v := (0 : Int64)) (by decide) dX10_best_14 ?_
    refine r_lconst (pc := 15) hC (v := (1 : Int64)) (by decide) dX10_best_15 ?_
    refine r_cT (pc := 16) (rest := []) (runS [.long (a1.toInt64), .long (0 : Int64), .long (1 : Int64)] hC (c_M_in (kl κ) (kW κ) hC.2.2.2.2.2.2.2.2.1 (a1.toInt64) (0 : Int64) (1 : Int64) s1) o_X10_in k_1161 (rm_ok hR rfl) rfl (Nat.le_of_ble_eq_true rfl) dX10_best_16) ?_
    have hJ44_3 : wF κ wM 2 (qOM κ wM) s1 44 [some (.ref (ad κ 0)), some (.int a1)] [] (M_best_J44 N s1 a1) := by
      unfold M_best_J44
      refine r_aload_n (pc := 44) hC rfl dX10_best_44 ?_
      refine r_cM (pc := 45) (rest := []) (fun s2 hf => runV [] hC (c_M_layOrders (kl κ) (kW κ) hC.2.2.2.2.2.2.2.2.1 N s1 s2 hf) o_X10_layOrders k_1329 (q0 := 0) (ci := 10) rfl rfl (rm_ok hR rfl) rfl (Nat.le_of_ble_eq_true rfl) dX10_best_45) (fun s2 => ?_)
      refine r_iload_n (pc := 48) hC rfl dX10_best_48 ?_
      refine r_if_ne (pc := 49) (tgt := 64) hC dX10_best_49 (by decide) ?_ ?_
      · refine r_iload_n (pc := 64) hC rfl dX10_best_64 ?_
        refine r_iconst (pc := 65) hC (v := (1 : Int32)) (by decide) dX10_best_65 ?_
        refine r_icmp_ne (pc := 66) (tgt := 81) hC dX10_best_66 (by decide) ?_ ?_
        · refine r_aload_n (pc := 81) hC rfl dX10_best_81 ?_
          refine r_iload_n (pc := 82) hC rfl dX10_best_82 ?_
          refine r_bipush (pc := 83) hC (v := (10 : Int32)) (by decide) dX10_best_83 ?_
          refine r_isub (pc := 85) hC dX10_best_85 ?_
          refine r_cO (pc := 86) (rest := []) (fun r3 hf => runV [.int (a1 - (10 : Int32))] hC (c_M_bestAt (kl κ) (kW κ) hC.2.2.2.2.2.2.2.2.1 N (a1 - (10 : Int32)) s2 r3 hf) o_X10_bestAt k_1413 (q0 := 0) (ci := 10) rfl rfl (rm_ok hR rfl) rfl (Nat.le_of_ble_eq_true rfl) dX10_best_86) (fun r3 => ?_)
          exact r_retOM hC rfl dX10_best_89
        · refine r_aload_n (pc := 69) hC rfl dX10_best_69 ?_
          refine gM_0_19 (pc := 70) hC k_1056 dX10_best_70 ?_
          refine r_aload_n (pc := 73) hC rfl dX10_best_73 ?_
          refine r_cT (pc := 74) (rest := [.ref (ad κ 13)]) (runV [] hC (c_M_all (kl κ) (kW κ) hC.2.2.2.2.2.2.2.2.1 s2) o_X10_all k_1228 (q0 := 0) (ci := 10) rfl rfl (rm_ok hR rfl) rfl (Nat.le_of_ble_eq_true rfl) dX10_best_74) ?_
          refine aM_13 (pc := 77) hC dX10_best_77 ?_
          refine r_goto (pc := 78) (tgt := 89) hC dX10_best_78 (by decide) ?_
          exact r_retOM hC rfl dX10_best_89
      · refine r_aload_n (pc := 52) hC rfl dX10_best_52 ?_
        refine gM_0_18 (pc := 53) hC k_1055 dX10_best_53 ?_
        refine r_aload_n (pc := 56) hC rfl dX10_best_56 ?_
        refine r_cT (pc := 57) (rest := [.ref (ad κ 12)]) (runV [] hC (c_M_all (kl κ) (kW κ) hC.2.2.2.2.2.2.2.2.1 s2) o_X10_all k_1228 (q0 := 0) (ci := 10) rfl rfl (rm_ok hR rfl) rfl (Nat.le_of_ble_eq_true rfl) dX10_best_57) ?_
        refine aM_12 (pc := 60) hC dX10_best_60 ?_
        refine r_goto (pc := 61) (tgt := 89) hC dX10_best_61 (by decide) ?_
        exact r_retOM hC rfl dX10_best_89
    refine r_if_ne (pc := 19) (tgt := 44) hC dX10_best_19 (by decide) ?_ ?_
    · exact hJ44_3
    · refine r_iload_n (pc := 22) hC rfl dX10_best_22 ?_
      refine r_i2l (pc := 23) hC dX10_best_23 ?_
      refine r_ldc2 (pc := 24) hC (v := (10 : Int64)) k_1412 dX10_best_24 ?_
      refine r_ldc2 (pc := 27) hC (v := (9 : Int64)) k_1289 dX10_best_27 ?_
      refine r_aload_n (pc := 30) hC rfl dX10_best_30 ?_
      refine r_cT (pc := 31) (rest := [.long (9 : Int64), .long (10 : Int64), .long (a1.toInt64)]) (runV [] hC (c_M_many (kl κ) (kW κ) hC.2.2.2.2.2.2.2.2.1 s1) o_X10_many k_1274 (q0 := 0) (ci := 10) rfl rfl (rm_ok hR rfl) rfl (Nat.le_of_ble_eq_true rfl) dX10_best_31) ?_
      refine r_i2l (pc := 34) hC dX10_best_34 ?_
      refine r_ladd (pc := 35) hC dX10_best_35 ?_
      refine r_cT (pc := 36) (rest := []) (runS [.long (a1.toInt64), .long (10 : Int64), .long ((9 : Int64) + ((t_M_many s1).toInt64))] hC (c_M_in (kl κ) (kW κ) hC.2.2.2.2.2.2.2.2.1 (a1.toInt64) (10 : Int64) ((9 : Int64) + ((t_M_many s1).toInt64)) s1) o_X10_in k_1161 (rm_ok hR rfl) rfl (Nat.le_of_ble_eq_true rfl) dX10_best_36) ?_
      refine r_if_ne (pc := 39) (tgt := 44) hC dX10_best_39 (by decide) ?_ ?_
      · exact hJ44_3
      · refine r_iconst (pc := 42) hC (v := (-1 : Int32)) (by decide) dX10_best_42 ?_
        exact r_retOM hC rfl dX10_best_43
set_option maxRecDepth 100000 in
set_option maxHeartbeats 4000000 in
theorem c_M_best (l : Launch) (w : Wenv) (hw : okw w wM) (N : Nat) (a1 : Int32) (σ : Mem) (r : Int32) (τ : Mem) (hf : f_M_best N a1 σ = some (r, τ)) : Ctr l w wM yX10_best cX10_best 2 (some .int) 4 87 [.ref (w.2.2.1 0), .int a1] σ (cQi w wM r τ) := mk_ctr (Q := fun κ => qOM κ wM) (lv := [some (.ref (w.2.2.1 0)), some (.int a1)]) (by decide) rfl hw (Nat.le_of_ble_eq_true rfl) rfl hf (fun κ h => by subst h; rfl) (fun κ hl h hR hC => by
    subst h
    exact w_M_best hR hC N a1 σ)
-- DuelRoundModel.winsOf(II)I (0, None, None) kind O
def f_M_winsOf (N : Nat) (a1 : Int32) (a2 : Int32) (σ : Mem) : Option Int32 :=
  ob (f_M_beats a1 σ) fun r1 =>
  ob (f_M_sizeOf N (r1 &&& a2)) fun r2 =>
  some r2
set_option maxRecDepth 100000 in
set_option maxHeartbeats 4000000 in
theorem w_M_winsOf {κ : Ctx} (hR : kR κ = { frames := 1, cells := 0, slots := 0, locals := 22 }) (hC : ok κ wM cX10_winsOf 3 RX10 (some .int)) (N : Nat) (a1 : Int32) (a2 : Int32) (σ : Mem) : wF κ wM 3 (qO κ wM σ) σ 0 [some (.ref (ad κ 0)), some (.int a1), some (.int a2)] [] (f_M_winsOf N a1 a2 σ) := by
  unfold f_M_winsOf
  refine r_aload_n (pc := 0) hC rfl dX10_winsOf_0 ?_
  refine r_iload_n (pc := 1) hC rfl dX10_winsOf_1 ?_
  refine r_cO (pc := 2) (rest := []) (fun r1 hf => runV [.int a1] hC (c_M_beats (kl κ) (kW κ) hC.2.2.2.2.2.2.2.2.1 a1 σ r1 hf) o_X10_beats k_1224 (q0 := 0) (ci := 10) rfl rfl (rm_ok hR rfl) rfl (Nat.le_of_ble_eq_true rfl) dX10_winsOf_2) (fun r1 => ?_)
  refine r_iload_n (pc := 5) hC rfl dX10_winsOf_5 ?_
  refine r_iand (pc := 6) hC dX10_winsOf_6 ?_
  refine r_cO (pc := 7) (rest := []) (fun r2 hf => runS [.int (r1 &&& a2)] hC (c_M_sizeOf (kl κ) (kW κ) hC.2.2.2.2.2.2.2.2.1 N (r1 &&& a2) σ r2 hf) o_X10_sizeOf k_1298 (rm_ok hR rfl) rfl (Nat.le_of_ble_eq_true rfl) dX10_winsOf_7) (fun r2 => ?_)
  exact r_retO hC rfl dX10_winsOf_10
set_option maxRecDepth 100000 in
set_option maxHeartbeats 4000000 in
theorem c_M_winsOf (l : Launch) (w : Wenv) (hw : okw w wM) (N : Nat) (a1 : Int32) (a2 : Int32) (σ : Mem) (r : Int32) (hf : f_M_winsOf N a1 a2 σ = some r) : Ctr l w wM yX10_winsOf cX10_winsOf 3 (some .int) 1 22 [.ref (w.2.2.1 0), .int a1, .int a2] σ (cQi w wM r σ) := mk_ctr (Q := fun κ => qO κ wM σ) (lv := [some (.ref (w.2.2.1 0)), some (.int a1), some (.int a2)]) (by decide) rfl hw (Nat.le_of_ble_eq_true rfl) rfl hf (fun κ h => by subst h; rfl) (fun κ hl h hR hC => by
    subst h
    exact w_M_winsOf hR hC N a1 a2 σ)
-- DuelRoundModel.byWins(I)I (0, None) kind OM
def M_byWins_K131 (N : Nat) (s1 : Mem) (a1 : Int32) (y2 : Int32) : Option (Int32 × Mem) :=
  ob (f_M_layOrders N s1) fun s3 =>
  if a1 = (0 : Int32) then
  (some (y2, s3))
  else
  (gd (inb (t_M_all s3) 256) (some ((y2 - (gI s3 18 (t_M_all s3).toNatClampNeg)), s3)))
def M_byWins_J91 (s1 : Mem) (i5 : Int32) (i7 : Int32) (i8 : Int32) (self9 : Int32 → Int32 → Option (Int32 × Mem)) (v13 : Int32) : Option (Int32 × Mem) :=
  if v13 = (0 : Int32) then
  (bnd (i7 + (0 : Int32)) fun x14 =>
  self9 x14 (i8 + (1 : Int32)))
  else
  (ob (f_M_beats i8 s1) fun r15 =>
  if (t_M_has r15 i5) = (0 : Int32) then
  (bnd (i7 + (0 : Int32)) fun x16 =>
  self9 x16 (i8 + (1 : Int32)))
  else
  (bnd (i7 + (1 : Int32)) fun x17 =>
  self9 x17 (i8 + (1 : Int32))))
def M_byWins_J86 (s1 : Mem) (i5 : Int32) (i7 : Int32) (i8 : Int32) (self9 : Int32 → Int32 → Option (Int32 × Mem)) : Option (Int32 × Mem) :=
  M_byWins_J91 s1 i5 i7 i8 self9 (1 : Int32)
def M_byWins_B39 (N : Nat) (s1 : Mem) (i5 : Int32) (self6 : Int32 → Int32 → Option (Int32 × Mem)) (self9 : Int32 → Int32 → Option (Int32 × Mem)) (i7 : Int32) (i8 : Int32) : Option (Int32 × Mem) :=
  if (t_M_many s1) ≤ i8 then
  (self6 i7 (i5 + (1 : Int32)))
  else
  (ob (f_M_winsOf N i5 (t_M_all s1) s1) fun r10 =>
  ob (f_M_winsOf N i8 (t_M_all s1) s1) fun r11 =>
  bnd (r10 - r11) fun x12 =>
  if (0 : Int32) < x12 then
  (M_byWins_J86 s1 i5 i7 i8 self9)
  else
  (if x12 = (0 : Int32) then
  (if i8 ≤ i5 then
  (M_byWins_J91 s1 i5 i7 i8 self9 (0 : Int32))
  else
  (M_byWins_J86 s1 i5 i7 i8 self9))
  else
  (M_byWins_J91 s1 i5 i7 i8 self9 (0 : Int32))))
def M_byWins_B28 (N : Nat) (s1 : Mem) (a1 : Int32) (self6 : Int32 → Int32 → Option (Int32 × Mem)) (i4 : Int32) (i5 : Int32) : Option (Int32 × Mem) :=
  if (t_M_many s1) ≤ i5 then
  (M_byWins_K131 N s1 a1 i4)
  else
  (it2 (M_byWins_B39 N s1 i5 self6) N i4 (0 : Int32))
def f_M_byWins (N : Nat) (a1 : Int32) (σ : Mem) : Option (Int32 × Mem) :=
  bnd (sI σ 0 0 (0 : Int32)) fun s1 =>
  if (t_M_isRound s1) = (0 : Int32) then
  (some ((-1 : Int32), s1))
  else
  (if (t_M_in (a1.toInt64) (0 : Int64) (1 : Int64)) = (0 : Int32) then
  (some ((-1 : Int32), s1))
  else
  (it2 (M_byWins_B28 N s1 a1) N (0 : Int32) (0 : Int32)))
set_option maxRecDepth 100000 in
set_option maxHeartbeats 4000000 in
theorem w_M_byWins {κ : Ctx} (hR : kR κ = { frames := 4, cells := 0, slots := 0, locals := 85 }) (hC : ok κ wM cX10_byWins 7 RX10 (some .int)) (N : Nat) (a1 : Int32) (σ : Mem) : wF κ wM 7 (qOM κ wM) σ 0 [some (.ref (ad κ 0)), some (.int a1), none, none, none, none, none] [] (f_M_byWins N a1 σ) := by
  unfold f_M_byWins
  refine r_aload_n (pc := 0) hC rfl dX10_byWins_0 ?_
  refine r_iconst (pc := 1) hC (v := (0 : Int32)) (by decide) dX10_byWins_1 ?_
  refine pM_0_0 (pc := 2) hC k_1037 dX10_byWins_2 ?_
  refine r_letm (fun s1 => ?_)
  refine r_aload_n (pc := 5) hC rfl dX10_byWins_5 ?_
  refine r_cT (pc := 6) (rest := []) (runV [] hC (c_M_isRound (kl κ) (kW κ) hC.2.2.2.2.2.2.2.2.1 s1) o_X10_isRound k_1254 (q0 := 0) (ci := 10) rfl rfl (rm_ok hR rfl) rfl (Nat.le_of_ble_eq_true rfl) dX10_byWins_6) ?_
  refine r_if_eq (pc := 9) (tgt := 22) hC dX10_byWins_9 (by decide) ?_ ?_
  · refine r_iconst (pc := 22) hC (v := (-1 : Int32)) (by decide) dX10_byWins_22 ?_
    exact r_retOM hC rfl dX10_byWins_23
  · refine r_iload_n (pc := 12) hC rfl dX10_byWins_12 ?_
    refine r_i2l (pc := 13) hC dX10_byWins_13 ?_
    refine r_lconst (pc := 14) hC (v := (0 : Int64)) (by decide) dX10_byWins_14 ?_
    refine r_lconst (pc := 15) hC (v := (1 : Int64)) (by decide) dX10_byWins_15 ?_
    refine r_cT (pc := 16) (rest := []) (runS [.long (a1.toInt64), .long (0 : Int64), .long (1 : Int64)] hC (c_M_in (kl κ) (kW κ) hC.2.2.2.2.2.2.2.2.1 (a1.toInt64) (0 : Int64) (1 : Int64) s1) o_X10_in k_1161 (rm_ok hR rfl) rfl (Nat.le_of_ble_eq_true rfl) dX10_byWins_16) ?_
    refine r_if_ne (pc := 19) (tgt := 24) hC dX10_byWins_19 (by decide) ?_ ?_
    · refine r_iconst (pc := 24) hC (v := (0 : Int32)) (by decide) dX10_byWins_24 ?_
      refine r_istore_n (pc := 25) hC rfl rfl dX10_byWins_25 ?_
      refine r_iconst (pc := 26) hC (v := (0 : Int32)) (by decide) dX10_byWins_26 ?_
      refine r_istore_n (pc := 27) hC rfl rfl dX10_byWins_27 ?_
      have hK131_3 : ∀ (y2 : Int32), wF κ wM 7 (qOM κ wM) s1 131 [some (.ref (ad κ 0)), some (.int a1), some (.int y2), none, none, none, none] [] (M_byWins_K131 N s1 a1 y2) := by
        intro y2
        unfold M_byWins_K131
        refine r_aload_n (pc := 131) hC rfl dX10_byWins_131 ?_
        refine r_cM (pc := 132) (rest := []) (fun s3 hf => runV [] hC (c_M_layOrders (kl κ) (kW κ) hC.2.2.2.2.2.2.2.2.1 N s1 s3 hf) o_X10_layOrders k_1329 (q0 := 0) (ci := 10) rfl rfl (rm_ok hR rfl) rfl (Nat.le_of_ble_eq_true rfl) dX10_byWins_132) (fun s3 => ?_)
        refine r_iload_n (pc := 135) hC rfl dX10_byWins_135 ?_
        refine r_if_ne (pc := 136) (tgt := 143) hC dX10_byWins_136 (by decide) ?_ ?_
        · refine r_iload_n (pc := 143) hC rfl dX10_byWins_143 ?_
          refine r_aload_n (pc := 144) hC rfl dX10_byWins_144 ?_
          refine gM_0_18 (pc := 145) hC k_1055 dX10_byWins_145 ?_
          refine r_aload_n (pc := 148) hC rfl dX10_byWins_148 ?_
          refine r_cT (pc := 149) (rest := [.ref (ad κ 12), .int y2]) (runV [] hC (c_M_all (kl κ) (kW κ) hC.2.2.2.2.2.2.2.2.1 s3) o_X10_all k_1228 (q0 := 0) (ci := 10) rfl rfl (rm_ok hR rfl) rfl (Nat.le_of_ble_eq_true rfl) dX10_byWins_149) ?_
          refine aM_12 (pc := 152) hC dX10_byWins_152 ?_
          refine r_isub (pc := 153) hC dX10_byWins_153 ?_
          exact r_retOM hC rfl dX10_byWins_154
        · refine r_iload_n (pc := 139) hC rfl dX10_byWins_139 ?_
          refine r_goto (pc := 140) (tgt := 154) hC dX10_byWins_140 (by decide) ?_
          exact r_retOM hC rfl dX10_byWins_154
      refine w_it2 (fun i4 i5 => s1) (fun i4 i5 => [some (.ref (ad κ 0)), some (.int a1), some (.int i4), some (.int i5), none, none, none]) (fun self6 ih28_6 i4 i5 => ?_) N (0 : Int32) (0 : Int32)
      unfold M_byWins_B28
      refine r_iload_n (pc := 28) hC rfl dX10_byWins_28 ?_
      refine r_aload_n (pc := 29) hC rfl dX10_byWins_29 ?_
      refine r_cT (pc := 30) (rest := [.int i5]) (runV [] hC (c_M_many (kl κ) (kW κ) hC.2.2.2.2.2.2.2.2.1 s1) o_X10_many k_1274 (q0 := 0) (ci := 10) rfl rfl (rm_ok hR rfl) rfl (Nat.le_of_ble_eq_true rfl) dX10_byWins_30) ?_
      refine r_icmp_ge (pc := 33) (tgt := 131) hC dX10_byWins_33 (by decide) ?_ ?_
      · exact r_wk [true, true, true, false, false, false, false] (hK131_3 i4)
      · refine r_iconst (pc := 36) hC (v := (0 : Int32)) (by decide) dX10_byWins_36 ?_
        refine r_istore (pc := 37) hC rfl rfl dX10_byWins_37 ?_
        refine w_it2 (fun i7 i8 => s1) (fun i7 i8 => [some (.ref (ad κ 0)), some (.int a1), some (.int i7), some (.int i5), some (.int i8), none, none]) (fun self9 ih39_9 i7 i8 => ?_) N i4 (0 : Int32)
        unfold M_byWins_B39
        refine r_iload (pc := 39) hC rfl dX10_byWins_39 ?_
        refine r_aload_n (pc := 41) hC rfl dX10_byWins_41 ?_
        refine r_cT (pc := 42) (rest := [.int i8]) (runV [] hC (c_M_many (kl κ) (kW κ) hC.2.2.2.2.2.2.2.2.1 s1) o_X10_many k_1274 (q0 := 0) (ci := 10) rfl rfl (rm_ok hR rfl) rfl (Nat.le_of_ble_eq_true rfl) dX10_byWins_42) ?_
        refine r_icmp_ge (pc := 45) (tgt := 125) hC dX10_byWins_45 (by decide) ?_ ?_
        · refine r_iinc (pc := 125) hC (v := (1 : Int32)) rfl (by decide) rfl rfl dX10_byWins_125 ?_
          refine r_goto (pc := 128) (tgt := 28) hC dX10_byWins_128 (by decide) ?_
          exact r_wk [true, true, true, true, false, false, false] (ih28_6 i7 (i5 + (1 : Int32)))
        · refine r_aload_n (pc := 48) hC rfl dX10_byWins_48 ?_
          refine r_iload_n (pc := 49) hC rfl dX10_byWins_49 ?_
          refine r_aload_n (pc := 50) hC rfl dX10_byWins_50 ?_
          refine r_cT (pc := 51) (rest := [.int i5, .ref (ad κ 0)]) (runV [] hC (c_M_all (kl κ) (kW κ) hC.2.2.2.2.2.2.2.2.1 s1) o_X10_all k_1228 (q0 := 0) (ci := 10) rfl rfl (rm_ok hR rfl) rfl (Nat.le_of_ble_eq_true rfl) dX10_byWins_51) ?_
          refine r_cO (pc := 54) (rest := []) (fun r10 hf => runV [.int i5, .int (t_M_all s1)] hC (c_M_winsOf (kl κ) (kW κ) hC.2.2.2.2.2.2.2.2.1 N i5 (t_M_all s1) s1 r10 hf) o_X10_winsOf k_1305 (q0 := 0) (ci := 10) rfl rfl (rm_ok hR rfl) rfl (Nat.le_of_ble_eq_true rfl) dX10_byWins_54) (fun r10 => ?_)
          refine r_aload_n (pc := 57) hC rfl dX10_byWins_57 ?_
          refine r_iload (pc := 58) hC rfl dX10_byWins_58 ?_
          refine r_aload_n (pc := 60) hC rfl dX10_byWins_60 ?_
          refine r_cT (pc := 61) (rest := [.int i8, .ref (ad κ 0), .int r10]) (runV [] hC (c_M_all (kl κ) (kW κ) hC.2.2.2.2.2.2.2.2.1 s1) o_X10_all k_1228 (q0 := 0) (ci := 10) rfl rfl (rm_ok hR rfl) rfl (Nat.le_of_ble_eq_true rfl) dX10_byWins_61) ?_
          refine r_cO (pc := 64) (rest := [.int r10]) (fun r11 hf => runV [.int i8, .int (t_M_all s1)] hC (c_M_winsOf (kl κ) (kW κ) hC.2.2.2.2.2.2.2.2.1 N i8 (t_M_all s1) s1 r11 hf) o_X10_winsOf k_1305 (q0 := 0) (ci := 10) rfl rfl (rm_ok hR rfl) rfl (Nat.le_of_ble_eq_true rfl) dX10_byWins_64) (fun r11 => ?_)
          refine r_isub (pc := 67) hC dX10_byWins_67 ?_
          refine r_let (fun x12 => ?_)
          refine r_istore (pc := 68) hC rfl rfl dX10_byWins_68 ?_
          refine r_iload (pc := 70) hC rfl dX10_byWins_70 ?_
          have hJ91_17 : ∀ (v13 : Int32), wF κ wM 7 (qOM κ wM) s1 91 [some (.ref (ad κ 0)), some (.int a1), some (.int i7), some (.int i5), some (.int i8), none, none] [.int v13] (M_byWins_J91 s1 i5 i7 i8 self9 v13) := by
            intro v13
            unfold M_byWins_J91
            refine r_istore (pc := 91) hC rfl rfl dX10_byWins_91 ?_
            refine r_iload_n (pc := 93) hC rfl dX10_byWins_93 ?_
            refine r_iload (pc := 94) hC rfl dX10_byWins_94 ?_
            refine r_if_eq (pc := 96) (tgt := 116) hC dX10_byWins_96 (by decide) ?_ ?_
            · refine r_iconst (pc := 116) hC (v := (0 : Int32)) (by decide) dX10_byWins_116 ?_
              refine r_iadd (pc := 117) hC dX10_byWins_117 ?_
              refine r_let (fun x14 => ?_)
              refine r_istore_n (pc := 118) hC rfl rfl dX10_byWins_118 ?_
              refine r_iinc (pc := 119) hC (v := (1 : Int32)) rfl (by decide) rfl rfl dX10_byWins_119 ?_
              refine r_goto (pc := 122) (tgt := 39) hC dX10_byWins_122 (by decide) ?_
              exact r_wk [true, true, true, true, true, false, false] (ih39_9 x14 (i8 + (1 : Int32)))
            · refine r_aload_n (pc := 99) hC rfl dX10_byWins_99 ?_
              refine r_iload (pc := 100) hC rfl dX10_byWins_100 ?_
              refine r_cO (pc := 102) (rest := [.int i7]) (fun r15 hf => runV [.int i8] hC (c_M_beats (kl κ) (kW κ) hC.2.2.2.2.2.2.2.2.1 i8 s1 r15 hf) o_X10_beats k_1224 (q0 := 0) (ci := 10) rfl rfl (rm_ok hR rfl) rfl (Nat.le_of_ble_eq_true rfl) dX10_byWins_102) (fun r15 => ?_)
              refine r_iload_n (pc := 105) hC rfl dX10_byWins_105 ?_
              refine r_cT (pc := 106) (rest := [.int i7]) (runS [.int r15, .int i5] hC (c_M_has (kl κ) (kW κ) hC.2.2.2.2.2.2.2.2.1 r15 i5 s1) o_X10_has k_1194 (rm_ok hR rfl) rfl (Nat.le_of_ble_eq_true rfl) dX10_byWins_106) ?_
              refine r_if_eq (pc := 109) (tgt := 116) hC dX10_byWins_109 (by decide) ?_ ?_
              · refine r_iconst (pc := 116) hC (v := (0 : Int32)) (by decide) dX10_byWins_116 ?_
                refine r_iadd (pc := 117) hC dX10_byWins_117 ?_
                refine r_let (fun x16 => ?_)
                refine r_istore_n (pc := 118) hC rfl rfl dX10_byWins_118 ?_
                refine r_iinc (pc := 119) hC (v := (1 : Int32)) rfl (by decide) rfl rfl dX10_byWins_119 ?_
                refine r_goto (pc := 122) (tgt := 39) hC dX10_byWins_122 (by decide) ?_
                exact r_wk [true, true, true, true, true, false, false] (ih39_9 x16 (i8 + (1 : Int32)))
              · refine r_iconst (pc := 112) hC (v := (1 : Int32)) (by decide) dX10_byWins_112 ?_
                refine r_goto (pc := 113) (tgt := 117) hC dX10_byWins_113 (by decide) ?_
                refine r_iadd (pc := 117) hC dX10_byWins_117 ?_
                refine r_let (fun x17 => ?_)
                refine r_istore_n (pc := 118) hC rfl rfl dX10_byWins_118 ?_
                refine r_iinc (pc := 119) hC (v := (1 : Int32)) rfl (by decide) rfl rfl dX10_byWins_119 ?_
                refine r_goto (pc := 122) (tgt := 39) hC dX10_byWins_122 (by decide) ?_
                exact r_wk [true, true, true, true, true, false, false] (ih39_9 x17 (i8 + (1 : Int32)))
          have hJ86_17 : wF κ wM 7 (qOM κ wM) s1 86 [some (.ref (ad κ 0)), some (.int a1), some (.int i7), some (.int i5), some (.int i8), none, none] [] (M_byWins_J86 s1 i5 i7 i8 self9) := by
            unfold M_byWins_J86
            refine r_iconst (pc := 86) hC (v := (1 : Int32)) (by decide) dX10_byWins_86 ?_
            refine r_goto (pc := 87) (tgt := 91) hC dX10_byWins_87 (by decide) ?_
            exact hJ91_17 (1 : Int32)
          refine r_if_gt (pc := 72) (tgt := 86) hC dX10_byWins_72 (by decide) ?_ ?_
          · exact r_wk [true, true, true, true, true, false, false] (hJ86_17)
          · refine r_iload (pc := 75) hC rfl dX10_byWins_75 ?_
            refine r_if_ne (pc := 77) (tgt := 90) hC dX10_byWins_77 (by decide) ?_ ?_
            · refine r_iconst (pc := 90) hC (v := (0 : Int32)) (by decide) dX10_byWins_90 ?_
              exact r_wk [true, true, true, true, true, false, false] (hJ91_17 (0 : Int32))
            · refine r_iload_n (pc := 80) hC rfl dX10_byWins_80 ?_
              refine r_iload (pc := 81) hC rfl dX10_byWins_81 ?_
              refine r_icmp_ge (pc := 83) (tgt := 90) hC dX10_byWins_83 (by decide) ?_ ?_
              · refine r_iconst (pc := 90) hC (v := (0 : Int32)) (by decide) dX10_byWins_90 ?_
                exact r_wk [true, true, true, true, true, false, false] (hJ91_17 (0 : Int32))
              · exact r_wk [true, true, true, true, true, false, false] (hJ86_17)
    · refine r_iconst (pc := 22) hC (v := (-1 : Int32)) (by decide) dX10_byWins_22 ?_
      exact r_retOM hC rfl dX10_byWins_23
set_option maxRecDepth 100000 in
set_option maxHeartbeats 4000000 in
theorem c_M_byWins (l : Launch) (w : Wenv) (hw : okw w wM) (N : Nat) (a1 : Int32) (σ : Mem) (r : Int32) (τ : Mem) (hf : f_M_byWins N a1 σ = some (r, τ)) : Ctr l w wM yX10_byWins cX10_byWins 7 (some .int) 4 85 [.ref (w.2.2.1 0), .int a1] σ (cQi w wM r τ) := mk_ctr (Q := fun κ => qOM κ wM) (lv := [some (.ref (w.2.2.1 0)), some (.int a1), none, none, none, none, none]) (by decide) rfl hw (Nat.le_of_ble_eq_true rfl) rfl hf (fun κ h => by subst h; rfl) (fun κ hl h hR hC => by
    subst h
    exact w_M_byWins hR hC N a1 σ)
-- DuelRoundModel.first(I)I (None,) kind O
def M_first_K22 (y1 : Int32) : Option Int32 :=
  if (8 : Int32) ≤ y1 then
  (some (-1 : Int32))
  else
  (some y1)
def M_first_B2 (a1 : Int32) (self3 : Int32 → Option Int32) (i2 : Int32) : Option Int32 :=
  if (8 : Int32) ≤ i2 then
  (M_first_K22 i2)
  else
  (if (t_M_has a1 i2) = (0 : Int32) then
  (self3 (i2 + (1 : Int32)))
  else
  (M_first_K22 i2))
def f_M_first (N : Nat) (a1 : Int32) : Option Int32 :=
  it1 (M_first_B2 a1) N (0 : Int32)
set_option maxRecDepth 100000 in
set_option maxHeartbeats 4000000 in
theorem w_M_first {κ : Ctx} (hR : kR κ = { frames := 1, cells := 0, slots := 0, locals := 21 }) (hC : ok κ wM cX10_first 2 RX10 (some .int)) (N : Nat) (a1 : Int32) (σ : Mem) : wF κ wM 2 (qO κ wM σ) σ 0 [some (.int a1), none] [] (f_M_first N a1) := by
  unfold f_M_first
  refine r_iconst (pc := 0) hC (v := (0 : Int32)) (by decide) dX10_first_0 ?_
  refine r_istore_n (pc := 1) hC rfl rfl dX10_first_1 ?_
  have hK22_1 : ∀ (y1 : Int32), wF κ wM 2 (qO κ wM σ) σ 22 [none, some (.int y1)] [] (M_first_K22 y1) := by
    intro y1
    unfold M_first_K22
    refine r_iload_n (pc := 22) hC rfl dX10_first_22 ?_
    refine r_bipush (pc := 23) hC (v := (8 : Int32)) (by decide) dX10_first_23 ?_
    refine r_icmp_ge (pc := 25) (tgt := 32) hC dX10_first_25 (by decide) ?_ ?_
    · refine r_iconst (pc := 32) hC (v := (-1 : Int32)) (by decide) dX10_first_32 ?_
      exact r_retO hC rfl dX10_first_33
    · refine r_iload_n (pc := 28) hC rfl dX10_first_28 ?_
      refine r_goto (pc := 29) (tgt := 33) hC dX10_first_29 (by decide) ?_
      exact r_retO hC rfl dX10_first_33
  refine w_it1 (fun i2 => σ) (fun i2 => [some (.int a1), some (.int i2)]) (fun self3 ih2_3 i2 => ?_) N (0 : Int32)
  unfold M_first_B2
  refine r_iload_n (pc := 2) hC rfl dX10_first_2 ?_
  refine r_bipush (pc := 3) hC (v := (8 : Int32)) (by decide) dX10_first_3 ?_
  refine r_icmp_ge (pc := 5) (tgt := 22) hC dX10_first_5 (by decide) ?_ ?_
  · exact r_wk [false, true] (hK22_1 i2)
  · refine r_iload_n (pc := 8) hC rfl dX10_first_8 ?_
    refine r_iload_n (pc := 9) hC rfl dX10_first_9 ?_
    refine r_cT (pc := 10) (rest := []) (runS [.int a1, .int i2] hC (c_M_has (kl κ) (kW κ) hC.2.2.2.2.2.2.2.2.1 a1 i2 σ) o_X10_has k_1194 (rm_ok hR rfl) rfl (Nat.le_of_ble_eq_true rfl) dX10_first_10) ?_
    refine r_if_ne (pc := 13) (tgt := 22) hC dX10_first_13 (by decide) ?_ ?_
    · exact r_wk [false, true] (hK22_1 i2)
    · refine r_iinc (pc := 16) hC (v := (1 : Int32)) rfl (by decide) rfl rfl dX10_first_16 ?_
      refine r_goto (pc := 19) (tgt := 2) hC dX10_first_19 (by decide) ?_
      exact ih2_3 (i2 + (1 : Int32))
set_option maxRecDepth 100000 in
set_option maxHeartbeats 4000000 in
theorem c_M_first (l : Launch) (w : Wenv) (hw : okw w wM) (N : Nat) (a1 : Int32) (σ : Mem) (r : Int32) (hf : f_M_first N a1 = some r) : Ctr l w wM yX10_first cX10_first 2 (some .int) 1 21 [.int a1] σ (cQi w wM r σ) := mk_ctr (Q := fun κ => qO κ wM σ) (lv := [some (.int a1), none]) (by decide) rfl hw (Nat.le_of_ble_eq_true rfl) rfl hf (fun κ h => by subst h; rfl) (fun κ hl h hR hC => by
    subst h
    exact w_M_first hR hC N a1 σ)
-- DuelRoundModel.hasChain(II)Z (0, None, None) kind OM
def M_hasChain_K216 (s8 : Mem) : Option (Int32 × Mem) :=
  if (gI s8 17 0) ≤ (0 : Int32) then
  (some ((0 : Int32), s8))
  else
  (some ((1 : Int32), s8))
def M_hasChain_B50 (N : Nat) (self10 : Mem → Option (Int32 × Mem)) (s9 : Mem) : Option (Int32 × Mem) :=
  if (gI s9 17 0) ≤ (0 : Int32) then
  (M_hasChain_K216 s9)
  else
  (gd (inb ((gI s9 17 0) - (1 : Int32)) 9) (if (gI s9 15 ((gI s9 17 0) - (1 : Int32)).toNatClampNeg) = (0 : Int32) then
  (M_hasChain_K216 s9)
  else
  (gd (inb ((gI s9 17 0) - (1 : Int32)) 9) (ob (f_M_first N (gI s9 14 ((gI s9 17 0) - (1 : Int32)).toNatClampNeg)) fun r11 =>
  if r11 = (-1 : Int32) then
  (bnd (sI s9 17 0 ((gI s9 17 0) - (1 : Int32))) fun s20 =>
  self10 s20)
  else
  (gd (inb ((gI s9 17 0) - (1 : Int32)) 9) (gd (inb ((gI s9 17 0) - (1 : Int32)) 9) (bnd (sI s9 14 ((gI s9 17 0) - (1 : Int32)).toNatClampNeg ((gI s9 14 ((gI s9 17 0) - (1 : Int32)).toNatClampNeg) &&& (((1 : Int32) <<< (r11 &&& 31)) ^^^ (-1 : Int32)))) fun s12 =>
  gd (inb (gI s12 17 0) 9) (bnd (sI s12 13 (gI s12 17 0).toNatClampNeg r11) fun s13 =>
  gd (inb ((gI s13 17 0) - (1 : Int32)) 9) (ob (f_M_beats r11 s13) fun r14 =>
  gd (inb (gI s13 17 0) 9) (bnd (sI s13 16 (gI s13 17 0).toNatClampNeg ((gI s13 16 ((gI s13 17 0) - (1 : Int32)).toNatClampNeg) &&& r14)) fun s15 =>
  gd (inb (gI s15 17 0) 9) (gd (inb (gI s15 17 0) 9) (bnd (sI s15 14 (gI s15 17 0).toNatClampNeg (gI s15 16 (gI s15 17 0).toNatClampNeg)) fun s16 =>
  gd (inb ((gI s16 17 0) - (1 : Int32)) 9) (ob (f_M_over r11 s16) fun r17 =>
  gd (inb (gI s16 17 0) 9) (bnd (sI s16 15 (gI s16 17 0).toNatClampNeg ((gI s16 15 ((gI s16 17 0) - (1 : Int32)).toNatClampNeg) &&& r17)) fun s18 =>
  bnd (sI s18 17 0 ((gI s18 17 0) + (1 : Int32))) fun s19 =>
  self10 s19))))))))))))))
def f_M_hasChain (N : Nat) (a1 : Int32) (a2 : Int32) (σ : Mem) : Option (Int32 × Mem) :=
  bnd (sI σ 17 0 (1 : Int32)) fun s1 =>
  bnd (sI s1 13 (0 : Int32).toNatClampNeg a1) fun s2 =>
  ob (f_M_beats a1 s2) fun r3 =>
  bnd (sI s2 14 (0 : Int32).toNatClampNeg (r3 &&& a2)) fun s4 =>
  bnd (sI s4 16 (0 : Int32).toNatClampNeg (gI s4 14 (0 : Int32).toNatClampNeg)) fun s5 =>
  ob (f_M_over a1 s5) fun r6 =>
  bnd (sI s5 15 (0 : Int32).toNatClampNeg (r6 &&& a2)) fun s7 =>
  it1 (M_hasChain_B50 N) N s7
set_option maxRecDepth 100000 in
set_option maxHeartbeats 4000000 in
theorem w_M_hasChain {κ : Ctx} (hR : kR κ = { frames := 2, cells := 0, slots := 0, locals := 42 }) (hC : ok κ wM cX10_hasChain 4 RX10 (some .boolean)) (N : Nat) (a1 : Int32) (a2 : Int32) (σ : Mem) : wF κ wM 4 (qOM κ wM) σ 0 [some (.ref (ad κ 0)), some (.int a1), some (.int a2), none] [] (f_M_hasChain N a1 a2 σ) := by
  unfold f_M_hasChain
  refine r_aload_n (pc := 0) hC rfl dX10_hasChain_0 ?_
  refine r_iconst (pc := 1) hC (v := (1 : Int32)) (by decide) dX10_hasChain_1 ?_
  refine pM_0_17 (pc := 2) hC k_1054 dX10_hasChain_2 ?_
  refine r_letm (fun s1 => ?_)
  refine r_aload_n (pc := 5) hC rfl dX10_hasChain_5 ?_
  refine gM_0_13 (pc := 6) hC k_1050 dX10_hasChain_6 ?_
  refine r_iconst (pc := 9) hC (v := (0 : Int32)) (by decide) dX10_hasChain_9 ?_
  refine r_iload_n (pc := 10) hC rfl dX10_hasChain_10 ?_
  refine r_ung (b := inb (0 : Int32) 9) (by decide) ?_
  refine bM_8 (pc := 11) hC dX10_hasChain_11 ?_
  refine r_letm (fun s2 => ?_)
  refine r_aload_n (pc := 12) hC rfl dX10_hasChain_12 ?_
  refine gM_0_14 (pc := 13) hC k_1051 dX10_hasChain_13 ?_
  refine r_iconst (pc := 16) hC (v := (0 : Int32)) (by decide) dX10_hasChain_16 ?_
  refine r_aload_n (pc := 17) hC rfl dX10_hasChain_17 ?_
  refine r_iload_n (pc := 18) hC rfl dX10_hasChain_18 ?_
  refine r_cO (pc := 19) (rest := [.int (0 : Int32), .ref (ad κ 9)]) (fun r3 hf => runV [.int a1] hC (c_M_beats (kl κ) (kW κ) hC.2.2.2.2.2.2.2.2.1 a1 s2 r3 hf) o_X10_beats k_1224 (q0 := 0) (ci := 10) rfl rfl (rm_ok hR rfl) rfl (Nat.le_of_ble_eq_true rfl) dX10_hasChain_19) (fun r3 => ?_)
  refine r_iload_n (pc := 22) hC rfl dX10_hasChain_22 ?_
  refine r_iand (pc := 23) hC dX10_hasChain_23 ?_
  refine r_ung (b := inb (0 : Int32) 9) (by decide) ?_
  refine bM_9 (pc := 24) hC dX10_hasChain_24 ?_
  refine r_letm (fun s4 => ?_)
  refine r_aload_n (pc := 25) hC rfl dX10_hasChain_25 ?_
  refine gM_0_16 (pc := 26) hC k_1053 dX10_hasChain_26 ?_
  refine r_iconst (pc := 29) hC (v := (0 : Int32)) (by decide) dX10_hasChain_29 ?_
  refine r_aload_n (pc := 30) hC rfl dX10_hasChain_30 ?_
  refine gM_0_14 (pc := 31) hC k_1051 dX10_hasChain_31 ?_
  refine r_iconst (pc := 34) hC (v := (0 : Int32)) (by decide) dX10_hasChain_34 ?_
  refine r_ung (b := inb (0 : Int32) 9) (by decide) ?_
  refine aM_9 (pc := 35) hC dX10_hasChain_35 ?_
  refine r_ung (b := inb (0 : Int32) 9) (by decide) ?_
  refine bM_11 (pc := 36) hC dX10_hasChain_36 ?_
  refine r_letm (fun s5 => ?_)
  refine r_aload_n (pc := 37) hC rfl dX10_hasChain_37 ?_
  refine gM_0_15 (pc := 38) hC k_1052 dX10_hasChain_38 ?_
  refine r_iconst (pc := 41) hC (v := (0 : Int32)) (by decide) dX10_hasChain_41 ?_
  refine r_aload_n (pc := 42) hC rfl dX10_hasChain_42 ?_
  refine r_iload_n (pc := 43) hC rfl dX10_hasChain_43 ?_
  refine r_cO (pc := 44) (rest := [.int (0 : Int32), .ref (ad κ 10)]) (fun r6 hf => runV [.int a1] hC (c_M_over (kl κ) (kW κ) hC.2.2.2.2.2.2.2.2.1 a1 s5 r6 hf) o_X10_over k_1239 (q0 := 0) (ci := 10) rfl rfl (rm_ok hR rfl) rfl (Nat.le_of_ble_eq_true rfl) dX10_hasChain_44) (fun r6 => ?_)
  refine r_iload_n (pc := 47) hC rfl dX10_hasChain_47 ?_
  refine r_iand (pc := 48) hC dX10_hasChain_48 ?_
  refine r_ung (b := inb (0 : Int32) 9) (by decide) ?_
  refine bM_10 (pc := 49) hC dX10_hasChain_49 ?_
  refine r_letm (fun s7 => ?_)
  have hK216_8 : ∀ (s8 : Mem), wF κ wM 4 (qOM κ wM) s8 216 [some (.ref (ad κ 0)), none, none, none] [] (M_hasChain_K216 s8) := by
    intro s8
    unfold M_hasChain_K216
    refine r_aload_n (pc := 216) hC rfl dX10_hasChain_216 ?_
    refine gM_0_17 (pc := 217) hC k_1054 dX10_hasChain_217 ?_
    refine r_if_le (pc := 220) (tgt := 227) hC dX10_hasChain_220 (by decide) ?_ ?_
    · refine r_iconst (pc := 227) hC (v := (0 : Int32)) (by decide) dX10_hasChain_227 ?_
      exact r_retOM hC rfl dX10_hasChain_228
    · refine r_iconst (pc := 223) hC (v := (1 : Int32)) (by decide) dX10_hasChain_223 ?_
      refine r_goto (pc := 224) (tgt := 228) hC dX10_hasChain_224 (by decide) ?_
      exact r_retOM hC rfl dX10_hasChain_228
  refine r_wk [true, false, false, false] (w_it1 (fun s9 => s9) (fun s9 => [some (.ref (ad κ 0)), none, none, none]) (fun self10 ih50_10 s9 => ?_) N s7)
  unfold M_hasChain_B50
  refine r_aload_n (pc := 50) hC rfl dX10_hasChain_50 ?_
  refine gM_0_17 (pc := 51) hC k_1054 dX10_hasChain_51 ?_
  refine r_if_le (pc := 54) (tgt := 216) hC dX10_hasChain_54 (by decide) ?_ ?_
  · exact hK216_8 s9
  · refine r_aload_n (pc := 57) hC rfl dX10_hasChain_57 ?_
    refine gM_0_15 (pc := 58) hC k_1052 dX10_hasChain_58 ?_
    refine r_aload_n (pc := 61) hC rfl dX10_hasChain_61 ?_
    refine gM_0_17 (pc := 62) hC k_1054 dX10_hasChain_62 ?_
    refine r_iconst (pc := 65) hC (v := (1 : Int32)) (by decide) dX10_hasChain_65 ?_
    refine r_isub (pc := 66) hC dX10_hasChain_66 ?_
    refine aM_10 (pc := 67) hC dX10_hasChain_67 ?_
    refine r_if_eq (pc := 68) (tgt := 216) hC dX10_hasChain_68 (by decide) ?_ ?_
    · exact hK216_8 s9
    · refine r_aload_n (pc := 71) hC rfl dX10_hasChain_71 ?_
      refine gM_0_14 (pc := 72) hC k_1051 dX10_hasChain_72 ?_
      refine r_aload_n (pc := 75) hC rfl dX10_hasChain_75 ?_
      refine gM_0_17 (pc := 76) hC k_1054 dX10_hasChain_76 ?_
      refine r_iconst (pc := 79) hC (v := (1 : Int32)) (by decide) dX10_hasChain_79 ?_
      refine r_isub (pc := 80) hC dX10_hasChain_80 ?_
      refine aM_9 (pc := 81) hC dX10_hasChain_81 ?_
      refine r_cO (pc := 82) (rest := []) (fun r11 hf => runS [.int (gI s9 14 ((gI s9 17 0) - (1 : Int32)).toNatClampNeg)] hC (c_M_first (kl κ) (kW κ) hC.2.2.2.2.2.2.2.2.1 N (gI s9 14 ((gI s9 17 0) - (1 : Int32)).toNatClampNeg) s9 r11 hf) o_X10_first k_1243 (rm_ok hR rfl) rfl (Nat.le_of_ble_eq_true rfl) dX10_hasChain_82) (fun r11 => ?_)
      refine r_istore_n (pc := 85) hC rfl rfl dX10_hasChain_85 ?_
      refine r_iload_n (pc := 86) hC rfl dX10_hasChain_86 ?_
      refine r_iconst (pc := 87) hC (v := (-1 : Int32)) (by decide) dX10_hasChain_87 ?_
      refine r_icmp_ne (pc := 88) (tgt := 104) hC dX10_hasChain_88 (by decide) ?_ ?_
      · refine r_aload_n (pc := 104) hC rfl dX10_hasChain_104 ?_
        refine gM_0_14 (pc := 105) hC k_1051 dX10_hasChain_105 ?_
        refine r_aload_n (pc := 108) hC rfl dX10_hasChain_108 ?_
        refine gM_0_17 (pc := 109) hC k_1054 dX10_hasChain_109 ?_
        refine r_iconst (pc := 112) hC (v := (1 : Int32)) (by decide) dX10_hasChain_112 ?_
        refine r_isub (pc := 113) hC dX10_hasChain_113 ?_
        refine r_dup2 (pc := 114) hC rfl rfl dX10_hasChain_114 ?_
        refine aM_9 (pc := 115) hC dX10_hasChain_115 ?_
        refine r_iconst (pc := 116) hC (v := (1 : Int32)) (by decide) dX10_hasChain_116 ?_
        refine r_iload_n (pc := 117) hC rfl dX10_hasChain_117 ?_
        refine r_ishl (pc := 118) hC dX10_hasChain_118 ?_
        refine r_iconst (pc := 119) hC (v := (-1 : Int32)) (by decide) dX10_hasChain_119 ?_
        refine r_ixor (pc := 120) hC dX10_hasChain_120 ?_
        refine r_iand (pc := 121) hC dX10_hasChain_121 ?_
        refine bM_9 (pc := 122) hC dX10_hasChain_122 ?_
        refine r_letm (fun s12 => ?_)
        refine r_aload_n (pc := 123) hC rfl dX10_hasChain_123 ?_
        refine gM_0_13 (pc := 124) hC k_1050 dX10_hasChain_124 ?_
        refine r_aload_n (pc := 127) hC rfl dX10_hasChain_127 ?_
        refine gM_0_17 (pc := 128) hC k_1054 dX10_hasChain_128 ?_
        refine r_iload_n (pc := 131) hC rfl dX10_hasChain_131 ?_
        refine bM_8 (pc := 132) hC dX10_hasChain_132 ?_
        refine r_letm (fun s13 => ?_)
        refine r_aload_n (pc := 133) hC rfl dX10_hasChain_133 ?_
        refine gM_0_16 (pc := 134) hC k_1053 dX10_hasChain_134 ?_
        refine r_aload_n (pc := 137) hC rfl dX10_hasChain_137 ?_
        refine gM_0_17 (pc := 138) hC k_1054 dX10_hasChain_138 ?_
        refine r_aload_n (pc := 141) hC rfl dX10_hasChain_141 ?_
        refine gM_0_16 (pc := 142) hC k_1053 dX10_hasChain_142 ?_
        refine r_aload_n (pc := 145) hC rfl dX10_hasChain_145 ?_
        refine gM_0_17 (pc := 146) hC k_1054 dX10_hasChain_146 ?_
        refine r_iconst (pc := 149) hC (v := (1 : Int32)) (by decide) dX10_hasChain_149 ?_
        refine r_isub (pc := 150) hC dX10_hasChain_150 ?_
        refine aM_11 (pc := 151) hC dX10_hasChain_151 ?_
        refine r_aload_n (pc := 152) hC rfl dX10_hasChain_152 ?_
        refine r_iload_n (pc := 153) hC rfl dX10_hasChain_153 ?_
        refine r_cO (pc := 154) (rest := [.int (gI s13 16 ((gI s13 17 0) - (1 : Int32)).toNatClampNeg), .int (gI s13 17 0), .ref (ad κ 11)]) (fun r14 hf => runV [.int r11] hC (c_M_beats (kl κ) (kW κ) hC.2.2.2.2.2.2.2.2.1 r11 s13 r14 hf) o_X10_beats k_1224 (q0 := 0) (ci := 10) rfl rfl (rm_ok hR rfl) rfl (Nat.le_of_ble_eq_true rfl) dX10_hasChain_154) (fun r14 => ?_)
        refine r_iand (pc := 157) hC dX10_hasChain_157 ?_
        refine bM_11 (pc := 158) hC dX10_hasChain_158 ?_
        refine r_letm (fun s15 => ?_)
        refine r_aload_n (pc := 159) hC rfl dX10_hasChain_159 ?_
        refine gM_0_14 (pc := 160) hC k_1051 dX10_hasChain_160 ?_
        refine r_aload_n (pc := 163) hC rfl dX10_hasChain_163 ?_
        refine gM_0_17 (pc := 164) hC k_1054 dX10_hasChain_164 ?_
        refine r_aload_n (pc := 167) hC rfl dX10_hasChain_167 ?_
        refine gM_0_16 (pc := 168) hC k_1053 dX10_hasChain_168 ?_
        refine r_aload_n (pc := 171) hC rfl dX10_hasChain_171 ?_
        refine gM_0_17 (pc := 172) hC k_1054 dX10_hasChain_172 ?_
        refine aM_11 (pc := 175) hC dX10_hasChain_175 ?_
        refine bM_9 (pc := 176) hC dX10_hasChain_176 ?_
        refine r_letm (fun s16 => ?_)
        refine r_aload_n (pc := 177) hC rfl dX10_hasChain_177 ?_
        refine gM_0_15 (pc := 178) hC k_1052 dX10_hasChain_178 ?_
        refine r_aload_n (pc := 181) hC rfl dX10_hasChain_181 ?_
        refine gM_0_17 (pc := 182) hC k_1054 dX10_hasChain_182 ?_
        refine r_aload_n (pc := 185) hC rfl dX10_hasChain_185 ?_
        refine gM_0_15 (pc := 186) hC k_1052 dX10_hasChain_186 ?_
        refine r_aload_n (pc := 189) hC rfl dX10_hasChain_189 ?_
        refine gM_0_17 (pc := 190) hC k_1054 dX10_hasChain_190 ?_
        refine r_iconst (pc := 193) hC (v := (1 : Int32)) (by decide) dX10_hasChain_193 ?_
        refine r_isub (pc := 194) hC dX10_hasChain_194 ?_
        refine aM_10 (pc := 195) hC dX10_hasChain_195 ?_
        refine r_aload_n (pc := 196) hC rfl dX10_hasChain_196 ?_
        refine r_iload_n (pc := 197) hC rfl dX10_hasChain_197 ?_
        refine r_cO (pc := 198) (rest := [.int (gI s16 15 ((gI s16 17 0) - (1 : Int32)).toNatClampNeg), .int (gI s16 17 0), .ref (ad κ 10)]) (fun r17 hf => runV [.int r11] hC (c_M_over (kl κ) (kW κ) hC.2.2.2.2.2.2.2.2.1 r11 s16 r17 hf) o_X10_over k_1239 (q0 := 0) (ci := 10) rfl rfl (rm_ok hR rfl) rfl (Nat.le_of_ble_eq_true rfl) dX10_hasChain_198) (fun r17 => ?_)
        refine r_iand (pc := 201) hC dX10_hasChain_201 ?_
        refine bM_10 (pc := 202) hC dX10_hasChain_202 ?_
        refine r_letm (fun s18 => ?_)
        refine r_aload_n (pc := 203) hC rfl dX10_hasChain_203 ?_
        refine r_dup (pc := 204) hC rfl dX10_hasChain_204 ?_
        refine gM_0_17 (pc := 205) hC k_1054 dX10_hasChain_205 ?_
        refine r_iconst (pc := 208) hC (v := (1 : Int32)) (by decide) dX10_hasChain_208 ?_
        refine r_iadd (pc := 209) hC dX10_hasChain_209 ?_
        refine pM_0_17 (pc := 210) hC k_1054 dX10_hasChain_210 ?_
        refine r_letm (fun s19 => ?_)
        refine r_goto (pc := 213) (tgt := 50) hC dX10_hasChain_213 (by decide) ?_
        exact r_wk [true, false, false, false] (ih50_10 s19)
      · refine r_aload_n (pc := 91) hC rfl dX10_hasChain_91 ?_
        refine r_dup (pc := 92) hC rfl dX10_hasChain_92 ?_
        refine gM_0_17 (pc := 93) hC k_1054 dX10_hasChain_93 ?_
        refine r_iconst (pc := 96) hC (v := (1 : Int32)) (by decide) dX10_hasChain_96 ?_
        refine r_isub (pc := 97) hC dX10_hasChain_97 ?_
        refine pM_0_17 (pc := 98) hC k_1054 dX10_hasChain_98 ?_
        refine r_letm (fun s20 => ?_)
        refine r_goto (pc := 101) (tgt := 213) hC dX10_hasChain_101 (by decide) ?_
        refine r_goto (pc := 213) (tgt := 50) hC dX10_hasChain_213 (by decide) ?_
        exact r_wk [true, false, false, false] (ih50_10 s20)
set_option maxRecDepth 100000 in
set_option maxHeartbeats 4000000 in
theorem c_M_hasChain (l : Launch) (w : Wenv) (hw : okw w wM) (N : Nat) (a1 : Int32) (a2 : Int32) (σ : Mem) (r : Int32) (τ : Mem) (hf : f_M_hasChain N a1 a2 σ = some (r, τ)) : Ctr l w wM yX10_hasChain cX10_hasChain 4 (some .boolean) 2 42 [.ref (w.2.2.1 0), .int a1, .int a2] σ (cQi w wM r τ) := mk_ctr (Q := fun κ => qOM κ wM) (lv := [some (.ref (w.2.2.1 0)), some (.int a1), some (.int a2), none]) (by decide) rfl hw (Nat.le_of_ble_eq_true rfl) rfl hf (fun κ h => by subst h; rfl) (fun κ hl h hR hC => by
    subst h
    exact w_M_hasChain hR hC N a1 a2 σ)
-- DuelRoundModel.chain(III)I (0, None, None, None) kind OM
def f_M_chain (N : Nat) (a1 : Int32) (a2 : Int32) (a3 : Int32) (σ : Mem) : Option (Int32 × Mem) :=
  bnd (sI σ 0 0 (0 : Int32)) fun s1 =>
  if (t_M_isSome a2 s1) = (0 : Int32) then
  (some ((-1 : Int32), s1))
  else
  (if (t_M_isPlayer a1 s1) = (0 : Int32) then
  (some ((-1 : Int32), s1))
  else
  (if (t_M_has a2 a1) = (0 : Int32) then
  (some ((-1 : Int32), s1))
  else
  (if (-1 : Int32) ≤ a3 then
  (ob2 (f_M_hasChain N a1 a2 s1) fun r3 s2 =>
  if r3 = (0 : Int32) then
  (some ((-3 : Int32), s2))
  else
  (if a3 = (-1 : Int32) then
  (some ((gI s2 17 0), s2))
  else
  (if (gI s2 17 0) ≤ a3 then
  (some ((-1 : Int32), s2))
  else
  (gd (inb a3 9) (some ((gI s2 13 a3.toNatClampNeg), s2))))))
  else
  (some ((-1 : Int32), s1)))))
set_option maxRecDepth 100000 in
set_option maxHeartbeats 4000000 in
theorem w_M_chain {κ : Ctx} (hR : kR κ = { frames := 3, cells := 0, slots := 0, locals := 65 }) (hC : ok κ wM cX10_chain 4 RX10 (some .int)) (N : Nat) (a1 : Int32) (a2 : Int32) (a3 : Int32) (σ : Mem) : wF κ wM 4 (qOM κ wM) σ 0 [some (.ref (ad κ 0)), some (.int a1), some (.int a2), some (.int a3)] [] (f_M_chain N a1 a2 a3 σ) := by
  unfold f_M_chain
  refine r_aload_n (pc := 0) hC rfl dX10_chain_0 ?_
  refine r_iconst (pc := 1) hC (v := (0 : Int32)) (by decide) dX10_chain_1 ?_
  refine pM_0_0 (pc := 2) hC k_1037 dX10_chain_2 ?_
  refine r_letm (fun s1 => ?_)
  refine r_aload_n (pc := 5) hC rfl dX10_chain_5 ?_
  refine r_iload_n (pc := 6) hC rfl dX10_chain_6 ?_
  refine r_cT (pc := 7) (rest := []) (runV [.int a2] hC (c_M_isSome (kl κ) (kW κ) hC.2.2.2.2.2.2.2.2.1 a2 s1) o_X10_isSome k_1250 (q0 := 0) (ci := 10) rfl rfl (rm_ok hR rfl) rfl (Nat.le_of_ble_eq_true rfl) dX10_chain_7) ?_
  refine r_if_eq (pc := 10) (tgt := 34) hC dX10_chain_10 (by decide) ?_ ?_
  · refine r_iconst (pc := 34) hC (v := (-1 : Int32)) (by decide) dX10_chain_34 ?_
    exact r_retOM hC rfl dX10_chain_35
  · refine r_aload_n (pc := 13) hC rfl dX10_chain_13 ?_
    refine r_iload_n (pc := 14) hC rfl dX10_chain_14 ?_
    refine r_cT (pc := 15) (rest := []) (runV [.int a1] hC (c_M_isPlayer (kl κ) (kW κ) hC.2.2.2.2.2.2.2.2.1 a1 s1) o_X10_isPlayer k_1220 (q0 := 0) (ci := 10) rfl rfl (rm_ok hR rfl) rfl (Nat.le_of_ble_eq_true rfl) dX10_chain_15) ?_
    refine r_if_eq (pc := 18) (tgt := 34) hC dX10_chain_18 (by decide) ?_ ?_
    · refine r_iconst (pc := 34) hC (v := (-1 : Int32)) (by decide) dX10_chain_34 ?_
      exact r_retOM hC rfl dX10_chain_35
    · refine r_iload_n (pc := 21) hC rfl dX10_chain_21 ?_
      refine r_iload_n (pc := 22) hC rfl dX10_chain_22 ?_
      refine r_cT (pc := 23) (rest := []) (runS [.int a2, .int a1] hC (c_M_has (kl κ) (kW κ) hC.2.2.2.2.2.2.2.2.1 a2 a1 s1) o_X10_has k_1194 (rm_ok hR rfl) rfl (Nat.le_of_ble_eq_true rfl) dX10_chain_23) ?_
      refine r_if_eq (pc := 26) (tgt := 34) hC dX10_chain_26 (by decide) ?_ ?_
      · refine r_iconst (pc := 34) hC (v := (-1 : Int32)) (by decide) dX10_chain_34 ?_
        exact r_retOM hC rfl dX10_chain_35
      · refine r_iload_n (pc := 29) hC rfl dX10_chain_29 ?_
        refine r_iconst (pc := 30) hC (v := (-1 : Int32)) (by decide) dX10_chain_30 ?_
        refine r_icmp_ge (pc := 31) (tgt := 36) hC dX10_chain_31 (by decide) ?_ ?_
        · refine r_aload_n (pc := 36) hC rfl dX10_chain_36 ?_
          refine r_iload_n (pc := 37) hC rfl dX10_chain_37 ?_
          refine r_iload_n (pc := 38) hC rfl dX10_chain_38 ?_
          refine r_cOM (pc := 39) (rest := []) (fun r3 s2 hf => runV [.int a1, .int a2] hC (c_M_hasChain (kl κ) (kW κ) hC.2.2.2.2.2.2.2.2.1 N a1 a2 s1 r3 s2 hf) o_X10_hasChain k_1321 (q0 := 0) (ci := 10) rfl rfl (rm_ok hR rfl) rfl (Nat.le_of_ble_eq_true rfl) dX10_chain_39) (fun r3 s2 => ?_)
          refine r_if_ne (pc := 42) (tgt := 48) hC dX10_chain_42 (by decide) ?_ ?_
          · refine r_iload_n (pc := 48) hC rfl dX10_chain_48 ?_
            refine r_iconst (pc := 49) hC (v := (-1 : Int32)) (by decide) dX10_chain_49 ?_
            refine r_icmp_ne (pc := 50) (tgt := 60) hC dX10_chain_50 (by decide) ?_ ?_
            · refine r_iload_n (pc := 60) hC rfl dX10_chain_60 ?_
              refine r_aload_n (pc := 61) hC rfl dX10_chain_61 ?_
              refine gM_0_17 (pc := 62) hC k_1054 dX10_chain_62 ?_
              refine r_icmp_ge (pc := 65) (tgt := 77) hC dX10_chain_65 (by decide) ?_ ?_
              · refine r_iconst (pc := 77) hC (v := (-1 : Int32)) (by decide) dX10_chain_77 ?_
                exact r_retOM hC rfl dX10_chain_78
              · refine r_aload_n (pc := 68) hC rfl dX10_chain_68 ?_
                refine gM_0_13 (pc := 69) hC k_1050 dX10_chain_69 ?_
                refine r_iload_n (pc := 72) hC rfl dX10_chain_72 ?_
                refine aM_8 (pc := 73) hC dX10_chain_73 ?_
                refine r_goto (pc := 74) (tgt := 78) hC dX10_chain_74 (by decide) ?_
                exact r_retOM hC rfl dX10_chain_78
            · refine r_aload_n (pc := 53) hC rfl dX10_chain_53 ?_
              refine gM_0_17 (pc := 54) hC k_1054 dX10_chain_54 ?_
              refine r_goto (pc := 57) (tgt := 78) hC dX10_chain_57 (by decide) ?_
              exact r_retOM hC rfl dX10_chain_78
          · refine r_bipush (pc := 45) hC (v := (-3 : Int32)) (by decide) dX10_chain_45 ?_
            exact r_retOM hC rfl dX10_chain_47
        · refine r_iconst (pc := 34) hC (v := (-1 : Int32)) (by decide) dX10_chain_34 ?_
          exact r_retOM hC rfl dX10_chain_35
set_option maxRecDepth 100000 in
set_option maxHeartbeats 4000000 in
theorem c_M_chain (l : Launch) (w : Wenv) (hw : okw w wM) (N : Nat) (a1 : Int32) (a2 : Int32) (a3 : Int32) (σ : Mem) (r : Int32) (τ : Mem) (hf : f_M_chain N a1 a2 a3 σ = some (r, τ)) : Ctr l w wM yX10_chain cX10_chain 4 (some .int) 3 65 [.ref (w.2.2.1 0), .int a1, .int a2, .int a3] σ (cQi w wM r τ) := mk_ctr (Q := fun κ => qOM κ wM) (lv := [some (.ref (w.2.2.1 0)), some (.int a1), some (.int a2), some (.int a3)]) (by decide) rfl hw (Nat.le_of_ble_eq_true rfl) rfl hf (fun κ h => by subst h; rfl) (fun κ hl h hR hC => by
    subst h
    exact w_M_chain hR hC N a1 a2 a3 σ)
-- DuelRoundModel.cycles()I (0,) kind O
def M_cycles_B14 (N : Nat) (σ : Mem) (i2 : Int32) (self3 : Int32 → Int32 → Option Int32) (self6 : Int32 → Int32 → Option Int32) (i4 : Int32) (i5 : Int32) : Option Int32 :=
  if (t_M_many σ) ≤ i5 then
  (self3 i4 (i2 + (1 : Int32)))
  else
  (ob (f_M_beats i2 σ) fun r7 =>
  if (t_M_has r7 i5) = (0 : Int32) then
  (bnd (i4 + (0 : Int32)) fun x8 =>
  self6 x8 (i5 + (1 : Int32)))
  else
  (ob (f_M_beats i5 σ) fun r9 =>
  ob (f_M_over i2 σ) fun r10 =>
  ob (f_M_sizeOf N (r9 &&& r10)) fun r11 =>
  bnd (i4 + r11) fun x12 =>
  self6 x12 (i5 + (1 : Int32))))
def M_cycles_B4 (N : Nat) (σ : Mem) (self3 : Int32 → Int32 → Option Int32) (i1 : Int32) (i2 : Int32) : Option Int32 :=
  if (t_M_many σ) ≤ i2 then
  (some (i1 / (3 : Int32)))
  else
  (it2 (M_cycles_B14 N σ i2 self3) N i1 (0 : Int32))
def f_M_cycles (N : Nat) (σ : Mem) : Option Int32 :=
  it2 (M_cycles_B4 N σ) N (0 : Int32) (0 : Int32)
set_option maxRecDepth 100000 in
set_option maxHeartbeats 4000000 in
theorem w_M_cycles {κ : Ctx} (hR : kR κ = { frames := 2, cells := 0, slots := 0, locals := 41 }) (hC : ok κ wM cX10_cycles 4 RX10 (some .int)) (N : Nat) (σ : Mem) : wF κ wM 4 (qO κ wM σ) σ 0 [some (.ref (ad κ 0)), none, none, none] [] (f_M_cycles N  σ) := by
  unfold f_M_cycles
  refine r_iconst (pc := 0) hC (v := (0 : Int32)) (by decide) dX10_cycles_0 ?_
  refine r_istore_n (pc := 1) hC rfl rfl dX10_cycles_1 ?_
  refine r_iconst (pc := 2) hC (v := (0 : Int32)) (by decide) dX10_cycles_2 ?_
  refine r_istore_n (pc := 3) hC rfl rfl dX10_cycles_3 ?_
  refine w_it2 (fun i1 i2 => σ) (fun i1 i2 => [some (.ref (ad κ 0)), some (.int i1), some (.int i2), none]) (fun self3 ih4_3 i1 i2 => ?_) N (0 : Int32) (0 : Int32)
  unfold M_cycles_B4
  refine r_iload_n (pc := 4) hC rfl dX10_cycles_4 ?_
  refine r_aload_n (pc := 5) hC rfl dX10_cycles_5 ?_
  refine r_cT (pc := 6) (rest := [.int i2]) (runV [] hC (c_M_many (kl κ) (kW κ) hC.2.2.2.2.2.2.2.2.1 σ) o_X10_many k_1274 (q0 := 0) (ci := 10) rfl rfl (rm_ok hR rfl) rfl (Nat.le_of_ble_eq_true rfl) dX10_cycles_6) ?_
  refine r_icmp_ge (pc := 9) (tgt := 67) hC dX10_cycles_9 (by decide) ?_ ?_
  · refine r_iload_n (pc := 67) hC rfl dX10_cycles_67 ?_
    refine r_iconst (pc := 68) hC (v := (3 : Int32)) (by decide) dX10_cycles_68 ?_
    refine r_idiv (pc := 69) hC (by decide) dX10_cycles_69 ?_
    exact r_retO hC rfl dX10_cycles_70
  · refine r_iconst (pc := 12) hC (v := (0 : Int32)) (by decide) dX10_cycles_12 ?_
    refine r_istore_n (pc := 13) hC rfl rfl dX10_cycles_13 ?_
    refine w_it2 (fun i4 i5 => σ) (fun i4 i5 => [some (.ref (ad κ 0)), some (.int i4), some (.int i2), some (.int i5)]) (fun self6 ih14_6 i4 i5 => ?_) N i1 (0 : Int32)
    unfold M_cycles_B14
    refine r_iload_n (pc := 14) hC rfl dX10_cycles_14 ?_
    refine r_aload_n (pc := 15) hC rfl dX10_cycles_15 ?_
    refine r_cT (pc := 16) (rest := [.int i5]) (runV [] hC (c_M_many (kl κ) (kW κ) hC.2.2.2.2.2.2.2.2.1 σ) o_X10_many k_1274 (q0 := 0) (ci := 10) rfl rfl (rm_ok hR rfl) rfl (Nat.le_of_ble_eq_true rfl) dX10_cycles_16) ?_
    refine r_icmp_ge (pc := 19) (tgt := 61) hC dX10_cycles_19 (by decide) ?_ ?_
    · refine r_iinc (pc := 61) hC (v := (1 : Int32)) rfl (by decide) rfl rfl dX10_cycles_61 ?_
      refine r_goto (pc := 64) (tgt := 4) hC dX10_cycles_64 (by decide) ?_
      exact r_wk [true, true, true, false] (ih4_3 i4 (i2 + (1 : Int32)))
    · refine r_iload_n (pc := 22) hC rfl dX10_cycles_22 ?_
      refine r_aload_n (pc := 23) hC rfl dX10_cycles_23 ?_
      refine r_iload_n (pc := 24) hC rfl dX10_cycles_24 ?_
      refine r_cO (pc := 25) (rest := [.int i4]) (fun r7 hf => runV [.int i2] hC (c_M_beats (kl κ) (kW κ) hC.2.2.2.2.2.2.2.2.1 i2 σ r7 hf) o_X10_beats k_1224 (q0 := 0) (ci := 10) rfl rfl (rm_ok hR rfl) rfl (Nat.le_of_ble_eq_true rfl) dX10_cycles_25) (fun r7 => ?_)
      refine r_iload_n (pc := 28) hC rfl dX10_cycles_28 ?_
      refine r_cT (pc := 29) (rest := [.int i4]) (runS [.int r7, .int i5] hC (c_M_has (kl κ) (kW κ) hC.2.2.2.2.2.2.2.2.1 r7 i5 σ) o_X10_has k_1194 (rm_ok hR rfl) rfl (Nat.le_of_ble_eq_true rfl) dX10_cycles_29) ?_
      refine r_if_eq (pc := 32) (tgt := 52) hC dX10_cycles_32 (by decide) ?_ ?_
      · refine r_iconst (pc := 52) hC (v := (0 : Int32)) (by decide) dX10_cycles_52 ?_
        refine r_iadd (pc := 53) hC dX10_cycles_53 ?_
        refine r_let (fun x8 => ?_)
        refine r_istore_n (pc := 54) hC rfl rfl dX10_cycles_54 ?_
        refine r_iinc (pc := 55) hC (v := (1 : Int32)) rfl (by decide) rfl rfl dX10_cycles_55 ?_
        refine r_goto (pc := 58) (tgt := 14) hC dX10_cycles_58 (by decide) ?_
        exact ih14_6 x8 (i5 + (1 : Int32))
      · refine r_aload_n (pc := 35) hC rfl dX10_cycles_35 ?_
        refine r_iload_n (pc := 36) hC rfl dX10_cycles_36 ?_
        refine r_cO (pc := 37) (rest := [.int i4]) (fun r9 hf => runV [.int i5] hC (c_M_beats (kl κ) (kW κ) hC.2.2.2.2.2.2.2.2.1 i5 σ r9 hf) o_X10_beats k_1224 (q0 := 0) (ci := 10) rfl rfl (rm_ok hR rfl) rfl (Nat.le_of_ble_eq_true rfl) dX10_cycles_37) (fun r9 => ?_)
        refine r_aload_n (pc := 40) hC rfl dX10_cycles_40 ?_
        refine r_iload_n (pc := 41) hC rfl dX10_cycles_41 ?_
        refine r_cO (pc := 42) (rest := [.int r9, .int i4]) (fun r10 hf => runV [.int i2] hC (c_M_over (kl κ) (kW κ) hC.2.2.2.2.2.2.2.2.1 i2 σ r10 hf) o_X10_over k_1239 (q0 := 0) (ci := 10) rfl rfl (rm_ok hR rfl) rfl (Nat.le_of_ble_eq_true rfl) dX10_cycles_42) (fun r10 => ?_)
        refine r_iand (pc := 45) hC dX10_cycles_45 ?_
        refine r_cO (pc := 46) (rest := [.int i4]) (fun r11 hf => runS [.int (r9 &&& r10)] hC (c_M_sizeOf (kl κ) (kW κ) hC.2.2.2.2.2.2.2.2.1 N (r9 &&& r10) σ r11 hf) o_X10_sizeOf k_1298 (rm_ok hR rfl) rfl (Nat.le_of_ble_eq_true rfl) dX10_cycles_46) (fun r11 => ?_)
        refine r_goto (pc := 49) (tgt := 53) hC dX10_cycles_49 (by decide) ?_
        refine r_iadd (pc := 53) hC dX10_cycles_53 ?_
        refine r_let (fun x12 => ?_)
        refine r_istore_n (pc := 54) hC rfl rfl dX10_cycles_54 ?_
        refine r_iinc (pc := 55) hC (v := (1 : Int32)) rfl (by decide) rfl rfl dX10_cycles_55 ?_
        refine r_goto (pc := 58) (tgt := 14) hC dX10_cycles_58 (by decide) ?_
        exact ih14_6 x12 (i5 + (1 : Int32))
set_option maxRecDepth 100000 in
set_option maxHeartbeats 4000000 in
theorem c_M_cycles (l : Launch) (w : Wenv) (hw : okw w wM) (N : Nat) (σ : Mem) (r : Int32) (hf : f_M_cycles N  σ = some r) : Ctr l w wM yX10_cycles cX10_cycles 4 (some .int) 2 41 [.ref (w.2.2.1 0)] σ (cQi w wM r σ) := mk_ctr (Q := fun κ => qO κ wM σ) (lv := [some (.ref (w.2.2.1 0)), none, none, none]) (by decide) rfl hw (Nat.le_of_ble_eq_true rfl) rfl hf (fun κ h => by subst h; rfl) (fun κ hl h hR hC => by
    subst h
    exact w_M_cycles hR hC N  σ)
-- DuelRoundModel.count(I)I (0, None) kind OM
def M_count_B82 (s1 : Mem) (self5 : Int32 → Int32 → Option (Int32 × Mem)) (i3 : Int32) (i4 : Int32) : Option (Int32 × Mem) :=
  if (t_M_many s1) ≤ i4 then
  (some (i3, s1))
  else
  (ob (f_M_over i4 s1) fun r6 =>
  if r6 = (0 : Int32) then
  (bnd (i3 ||| ((1 : Int32) <<< (i4 &&& 31))) fun x8 =>
  self5 x8 (i4 + (1 : Int32)))
  else
  (bnd (i3 ||| (0 : Int32)) fun x7 =>
  self5 x7 (i4 + (1 : Int32))))
def f_M_count (N : Nat) (a1 : Int32) (σ : Mem) : Option (Int32 × Mem) :=
  bnd (sI σ 0 0 (0 : Int32)) fun s1 =>
  swc a1 [((0 : Int32), some ((t_M_many s1), s1)),
  ((1 : Int32), some ((((t_M_many s1) * ((t_M_many s1) - (1 : Int32))) / (2 : Int32)), s1)),
  ((2 : Int32), ob (f_M_cycles N s1) fun r2 =>
  some (r2, s1)),
  ((3 : Int32), some ((gI s1 7 0), s1)),
  ((4 : Int32), some ((gI s1 3 0), s1)),
  ((5 : Int32), it2 (M_count_B82 s1) N (0 : Int32) (0 : Int32))]
  (some ((-1 : Int32), s1))
set_option maxRecDepth 100000 in
set_option maxHeartbeats 4000000 in
theorem w_M_count {κ : Ctx} (hR : kR κ = { frames := 3, cells := 0, slots := 0, locals := 64 }) (hC : ok κ wM cX10_count 4 RX10 (some .int)) (N : Nat) (a1 : Int32) (σ : Mem) : wF κ wM 4 (qOM κ wM) σ 0 [some (.ref (ad κ 0)), some (.int a1), none, none] [] (f_M_count N a1 σ) := by
  unfold f_M_count
  refine r_aload_n (pc := 0) hC rfl dX10_count_0 ?_
  refine r_iconst (pc := 1) hC (v := (0 : Int32)) (by decide) dX10_count_1 ?_
  refine pM_0_0 (pc := 2) hC k_1037 dX10_count_2 ?_
  refine r_letm (fun s1 => ?_)
  refine r_iload_n (pc := 5) hC rfl dX10_count_5 ?_
  refine r_table (pc := 6) (tg := fun i => ([44, 49, 63, 68, 73, 78] : List Nat).getD i 0) (dt := 116) hC 6 dX10_count_6 (by decide) (by decide) rfl (fun i hi => ?_) ?_
  · rcases (show i = 0 ∨ i = 1 ∨ i = 2 ∨ i = 3 ∨ i = 4 ∨ i = 5 by omega) with rfl | rfl | rfl | rfl | rfl | rfl
    · refine ⟨_, _, _, rfl, by decide, rfl, by decide, ?_⟩
      refine r_aload_n (pc := 44) hC rfl dX10_count_44 ?_
      refine r_cT (pc := 45) (rest := []) (runV [] hC (c_M_many (kl κ) (kW κ) hC.2.2.2.2.2.2.2.2.1 s1) o_X10_many k_1274 (q0 := 0) (ci := 10) rfl rfl (rm_ok hR rfl) rfl (Nat.le_of_ble_eq_true rfl) dX10_count_45) ?_
      exact r_retOM hC rfl dX10_count_48
    · refine ⟨_, _, _, rfl, by decide, rfl, by decide, ?_⟩
      refine r_aload_n (pc := 49) hC rfl dX10_count_49 ?_
      refine r_cT (pc := 50) (rest := []) (runV [] hC (c_M_many (kl κ) (kW κ) hC.2.2.2.2.2.2.2.2.1 s1) o_X10_many k_1274 (q0 := 0) (ci := 10) rfl rfl (rm_ok hR rfl) rfl (Nat.le_of_ble_eq_true rfl) dX10_count_50) ?_
      refine r_aload_n (pc := 53) hC rfl dX10_count_53 ?_
      refine r_cT (pc := 54) (rest := [.int (t_M_many s1)]) (runV [] hC (c_M_many (kl κ) (kW κ) hC.2.2.2.2.2.2.2.2.1 s1) o_X10_many k_1274 (q0 := 0) (ci := 10) rfl rfl (rm_ok hR rfl) rfl (Nat.le_of_ble_eq_true rfl) dX10_count_54) ?_
      refine r_iconst (pc := 57) hC (v := (1 : Int32)) (by decide) dX10_count_57 ?_
      refine r_isub (pc := 58) hC dX10_count_58 ?_
      refine r_imul (pc := 59) hC dX10_count_59 ?_
      refine r_iconst (pc := 60) hC (v := (2 : Int32)) (by decide) dX10_count_60 ?_
      refine r_idiv (pc := 61) hC (by decide) dX10_count_61 ?_
      exact r_retOM hC rfl dX10_count_62
    · refine ⟨_, _, _, rfl, by decide, rfl, by decide, ?_⟩
      refine r_aload_n (pc := 63) hC rfl dX10_count_63 ?_
      refine r_cO (pc := 64) (rest := []) (fun r2 hf => runV [] hC (c_M_cycles (kl κ) (kW κ) hC.2.2.2.2.2.2.2.2.1 N s1 r2 hf) o_X10_cycles k_1586 (q0 := 0) (ci := 10) rfl rfl (rm_ok hR rfl) rfl (Nat.le_of_ble_eq_true rfl) dX10_count_64) (fun r2 => ?_)
      exact r_retOM hC rfl dX10_count_67
    · refine ⟨_, _, _, rfl, by decide, rfl, by decide, ?_⟩
      refine r_aload_n (pc := 68) hC rfl dX10_count_68 ?_
      refine gM_0_7 (pc := 69) hC k_1044 dX10_count_69 ?_
      exact r_retOM hC rfl dX10_count_72
    · refine ⟨_, _, _, rfl, by decide, rfl, by decide, ?_⟩
      refine r_aload_n (pc := 73) hC rfl dX10_count_73 ?_
      refine gM_0_3 (pc := 74) hC k_1040 dX10_count_74 ?_
      exact r_retOM hC rfl dX10_count_77
    · refine ⟨_, _, _, rfl, by decide, rfl, by decide, ?_⟩
      refine r_iconst (pc := 78) hC (v := (0 : Int32)) (by decide) dX10_count_78 ?_
      refine r_istore_n (pc := 79) hC rfl rfl dX10_count_79 ?_
      refine r_iconst (pc := 80) hC (v := (0 : Int32)) (by decide) dX10_count_80 ?_
      refine r_istore_n (pc := 81) hC rfl rfl dX10_count_81 ?_
      refine r_wk [true, false, true, true] (w_it2 (fun i3 i4 => s1) (fun i3 i4 => [some (.ref (ad κ 0)), none, some (.int i3), some (.int i4)]) (fun self5 ih82_5 i3 i4 => ?_) N (0 : Int32) (0 : Int32))
      unfold M_count_B82
      refine r_iload_n (pc := 82) hC rfl dX10_count_82 ?_
      refine r_aload_n (pc := 83) hC rfl dX10_count_83 ?_
      refine r_cT (pc := 84) (rest := [.int i4]) (runV [] hC (c_M_many (kl κ) (kW κ) hC.2.2.2.2.2.2.2.2.1 s1) o_X10_many k_1274 (q0 := 0) (ci := 10) rfl rfl (rm_ok hR rfl) rfl (Nat.le_of_ble_eq_true rfl) dX10_count_84) ?_
      refine r_icmp_ge (pc := 87) (tgt := 114) hC dX10_count_87 (by decide) ?_ ?_
      · refine r_iload_n (pc := 114) hC rfl dX10_count_114 ?_
        exact r_retOM hC rfl dX10_count_115
      · refine r_iload_n (pc := 90) hC rfl dX10_count_90 ?_
        refine r_aload_n (pc := 91) hC rfl dX10_count_91 ?_
        refine r_iload_n (pc := 92) hC rfl dX10_count_92 ?_
        refine r_cO (pc := 93) (rest := [.int i3]) (fun r6 hf => runV [.int i4] hC (c_M_over (kl κ) (kW κ) hC.2.2.2.2.2.2.2.2.1 i4 s1 r6 hf) o_X10_over k_1239 (q0 := 0) (ci := 10) rfl rfl (rm_ok hR rfl) rfl (Nat.le_of_ble_eq_true rfl) dX10_count_93) (fun r6 => ?_)
        refine r_if_ne (pc := 96) (tgt := 105) hC dX10_count_96 (by decide) ?_ ?_
        · refine r_iconst (pc := 105) hC (v := (0 : Int32)) (by decide) dX10_count_105 ?_
          refine r_ior (pc := 106) hC dX10_count_106 ?_
          refine r_let (fun x7 => ?_)
          refine r_istore_n (pc := 107) hC rfl rfl dX10_count_107 ?_
          refine r_iinc (pc := 108) hC (v := (1 : Int32)) rfl (by decide) rfl rfl dX10_count_108 ?_
          refine r_goto (pc := 111) (tgt := 82) hC dX10_count_111 (by decide) ?_
          exact ih82_5 x7 (i4 + (1 : Int32))
        · refine r_iconst (pc := 99) hC (v := (1 : Int32)) (by decide) dX10_count_99 ?_
          refine r_iload_n (pc := 100) hC rfl dX10_count_100 ?_
          refine r_ishl (pc := 101) hC dX10_count_101 ?_
          refine r_goto (pc := 102) (tgt := 106) hC dX10_count_102 (by decide) ?_
          refine r_ior (pc := 106) hC dX10_count_106 ?_
          refine r_let (fun x8 => ?_)
          refine r_istore_n (pc := 107) hC rfl rfl dX10_count_107 ?_
          refine r_iinc (pc := 108) hC (v := (1 : Int32)) rfl (by decide) rfl rfl dX10_count_108 ?_
          refine r_goto (pc := 111) (tgt := 82) hC dX10_count_111 (by decide) ?_
          exact ih82_5 x8 (i4 + (1 : Int32))
  · refine r_iconst (pc := 116) hC (v := (-1 : Int32)) (by decide) dX10_count_116 ?_
    exact r_retOM hC rfl dX10_count_117
set_option maxRecDepth 100000 in
set_option maxHeartbeats 4000000 in
theorem c_M_count (l : Launch) (w : Wenv) (hw : okw w wM) (N : Nat) (a1 : Int32) (σ : Mem) (r : Int32) (τ : Mem) (hf : f_M_count N a1 σ = some (r, τ)) : Ctr l w wM yX10_count cX10_count 4 (some .int) 3 64 [.ref (w.2.2.1 0), .int a1] σ (cQi w wM r τ) := mk_ctr (Q := fun κ => qOM κ wM) (lv := [some (.ref (w.2.2.1 0)), some (.int a1), none, none]) (by decide) rfl hw (Nat.le_of_ble_eq_true rfl) rfl hf (fun κ h => by subst h; rfl) (fun κ hl h hR hC => by
    subst h
    exact w_M_count hR hC N a1 σ)
-- DuelRoundModel.isCup(I)Z (None,) kind T
def t_M_isCup (a1 : Int32) : Int32 :=
  (if a1 = (1 : Int32) then (1 : Int32) else (if a1 = (2 : Int32) then (1 : Int32) else (if a1 = (4 : Int32) then (1 : Int32) else (if a1 = (8 : Int32) then (1 : Int32) else (0 : Int32)))))
def f_M_isCup (a1 : Int32) : Option Int32 :=
  if a1 = (1 : Int32) then
  (some (1 : Int32))
  else
  (if a1 = (2 : Int32) then
  (some (1 : Int32))
  else
  (if a1 = (4 : Int32) then
  (some (1 : Int32))
  else
  (if a1 = (8 : Int32) then
  (some (1 : Int32))
  else
  (some (0 : Int32)))))
theorem e_M_isCup (a1 : Int32) : f_M_isCup a1 = some (t_M_isCup a1) := by
  unfold f_M_isCup t_M_isCup
  try first | rfl | (repeat' split) <;> rfl
theorem z_M_isCup (a1 : Int32) : isb (t_M_isCup a1) = true := by
  unfold t_M_isCup
  (repeat' split) <;> rfl
set_option maxRecDepth 100000 in
set_option maxHeartbeats 4000000 in
theorem w_M_isCup {κ : Ctx} (hR : kR κ = { frames := 0, cells := 0, slots := 0, locals := 0 }) (hC : ok κ wM cX10_isCup 1 RX10 (some .boolean)) (a1 : Int32) (σ : Mem) : wF κ wM 1 (qO κ wM σ) σ 0 [some (.int a1)] [] (f_M_isCup a1) := by
  unfold f_M_isCup
  refine r_iload_n (pc := 0) hC rfl dX10_isCup_0 ?_
  refine r_iconst (pc := 1) hC (v := (1 : Int32)) (by decide) dX10_isCup_1 ?_
  refine r_icmp_eq (pc := 2) (tgt := 21) hC dX10_isCup_2 (by decide) ?_ ?_
  · refine r_iconst (pc := 21) hC (v := (1 : Int32)) (by decide) dX10_isCup_21 ?_
    refine r_goto (pc := 22) (tgt := 26) hC dX10_isCup_22 (by decide) ?_
    exact r_retO hC rfl dX10_isCup_26
  · refine r_iload_n (pc := 5) hC rfl dX10_isCup_5 ?_
    refine r_iconst (pc := 6) hC (v := (2 : Int32)) (by decide) dX10_isCup_6 ?_
    refine r_icmp_eq (pc := 7) (tgt := 21) hC dX10_isCup_7 (by decide) ?_ ?_
    · refine r_iconst (pc := 21) hC (v := (1 : Int32)) (by decide) dX10_isCup_21 ?_
      refine r_goto (pc := 22) (tgt := 26) hC dX10_isCup_22 (by decide) ?_
      exact r_retO hC rfl dX10_isCup_26
    · refine r_iload_n (pc := 10) hC rfl dX10_isCup_10 ?_
      refine r_iconst (pc := 11) hC (v := (4 : Int32)) (by decide) dX10_isCup_11 ?_
      refine r_icmp_eq (pc := 12) (tgt := 21) hC dX10_isCup_12 (by decide) ?_ ?_
      · refine r_iconst (pc := 21) hC (v := (1 : Int32)) (by decide) dX10_isCup_21 ?_
        refine r_goto (pc := 22) (tgt := 26) hC dX10_isCup_22 (by decide) ?_
        exact r_retO hC rfl dX10_isCup_26
      · refine r_iload_n (pc := 15) hC rfl dX10_isCup_15 ?_
        refine r_bipush (pc := 16) hC (v := (8 : Int32)) (by decide) dX10_isCup_16 ?_
        refine r_icmp_ne (pc := 18) (tgt := 25) hC dX10_isCup_18 (by decide) ?_ ?_
        · refine r_iconst (pc := 25) hC (v := (0 : Int32)) (by decide) dX10_isCup_25 ?_
          exact r_retO hC rfl dX10_isCup_26
        · refine r_iconst (pc := 21) hC (v := (1 : Int32)) (by decide) dX10_isCup_21 ?_
          refine r_goto (pc := 22) (tgt := 26) hC dX10_isCup_22 (by decide) ?_
          exact r_retO hC rfl dX10_isCup_26
set_option maxRecDepth 100000 in
set_option maxHeartbeats 4000000 in
theorem c_M_isCup (l : Launch) (w : Wenv) (hw : okw w wM) (a1 : Int32) (σ : Mem) : Ctr l w wM yX10_isCup cX10_isCup 1 (some .boolean) 0 0 [.int a1] σ (cQi w wM (t_M_isCup a1) σ) := mk_ctr (Q := fun κ => qO κ wM σ) (lv := [some (.int a1)]) (by decide) rfl hw (Nat.le_of_ble_eq_true rfl) rfl (e_M_isCup a1) (fun κ h => by subst h; rfl) (fun κ hl h hR hC => by
    subst h
    exact w_M_isCup hR hC a1 σ)
-- DuelRoundModel.layHalves(II)V (0, None, None) kind M
def M_layHalves_K77 (s2 : Mem) (a1 : Int32) (i1 : Int32) (a2 : Int32) (self3 : Int32 → Mem → Option Mem) (y4 : Int32) : Option Mem :=
  gd (inb (((8 : Int32) * a1) + i1) 2048) (gd (inb (((8 : Int32) * a2) + i1) 2048) (gd (inb (((8 : Int32) * a1) + i1) 2048) (bnd (sI s2 24 (((8 : Int32) * a1) + i1).toNatClampNeg ((gI s2 24 (((8 : Int32) * a1) + i1).toNatClampNeg) + (((2 : Int32) * (gI s2 24 (((8 : Int32) * a2) + i1).toNatClampNeg)) * y4))) fun s5 =>
  self3 (i1 + (1 : Int32)) s5)))
def M_layHalves_B16 (s2 : Mem) (a1 : Int32) (i1 : Int32) (a2 : Int32) (self3 : Int32 → Mem → Option Mem) (self8 : Int32 → Int32 → Option Mem) (i6 : Int32) (i7 : Int32) : Option Mem :=
  if (t_M_many s2) ≤ i7 then
  (M_layHalves_K77 s2 a1 i1 a2 self3 i6)
  else
  (if (t_M_has a2 i1) = (0 : Int32) then
  (M_layHalves_K77 s2 a1 i1 a2 self3 i6)
  else
  (ob (f_M_beats i1 s2) fun r9 =>
  if (t_M_has r9 i7) = (0 : Int32) then
  (bnd (i6 + (0 : Int32)) fun x10 =>
  self8 x10 (i7 + (1 : Int32)))
  else
  (gd (inb (((8 : Int32) * (a1 &&& (a2 ^^^ (-1 : Int32)))) + i7) 2048) (bnd (i6 + (gI s2 24 (((8 : Int32) * (a1 &&& (a2 ^^^ (-1 : Int32)))) + i7).toNatClampNeg)) fun x11 =>
  self8 x11 (i7 + (1 : Int32))))))
def M_layHalves_B2 (N : Nat) (a1 : Int32) (a2 : Int32) (self3 : Int32 → Mem → Option Mem) (i1 : Int32) (s2 : Mem) : Option Mem :=
  if (t_M_many s2) ≤ i1 then
  (some s2)
  else
  (it2 (M_layHalves_B16 s2 a1 i1 a2 self3) N (0 : Int32) (0 : Int32))
def f_M_layHalves (N : Nat) (a1 : Int32) (a2 : Int32) (σ : Mem) : Option Mem :=
  it2 (M_layHalves_B2 N a1 a2) N (0 : Int32) σ
set_option maxRecDepth 100000 in
set_option maxHeartbeats 4000000 in
theorem w_M_layHalves {κ : Ctx} (hR : kR κ = { frames := 1, cells := 0, slots := 0, locals := 21 }) (hC : ok κ wM cX10_layHalves 6 RX10 none) (N : Nat) (a1 : Int32) (a2 : Int32) (σ : Mem) : wF κ wM 6 (qM κ wM) σ 0 [some (.ref (ad κ 0)), some (.int a1), some (.int a2), none, none, none] [] (f_M_layHalves N a1 a2 σ) := by
  unfold f_M_layHalves
  refine r_iconst (pc := 0) hC (v := (0 : Int32)) (by decide) dX10_layHalves_0 ?_
  refine r_istore_n (pc := 1) hC rfl rfl dX10_layHalves_1 ?_
  refine w_it2 (fun i1 s2 => s2) (fun i1 s2 => [some (.ref (ad κ 0)), some (.int a1), some (.int a2), some (.int i1), none, none]) (fun self3 ih2_3 i1 s2 => ?_) N (0 : Int32) σ
  unfold M_layHalves_B2
  refine r_iload_n (pc := 2) hC rfl dX10_layHalves_2 ?_
  refine r_aload_n (pc := 3) hC rfl dX10_layHalves_3 ?_
  refine r_cT (pc := 4) (rest := [.int i1]) (runV [] hC (c_M_many (kl κ) (kW κ) hC.2.2.2.2.2.2.2.2.1 s2) o_X10_many k_1274 (q0 := 0) (ci := 10) rfl rfl (rm_ok hR rfl) rfl (Nat.le_of_ble_eq_true rfl) dX10_layHalves_4) ?_
  refine r_icmp_ge (pc := 7) (tgt := 113) hC dX10_layHalves_7 (by decide) ?_ ?_
  · exact r_retM hC dX10_layHalves_113
  · refine r_iconst (pc := 10) hC (v := (0 : Int32)) (by decide) dX10_layHalves_10 ?_
    refine r_istore (pc := 11) hC rfl rfl dX10_layHalves_11 ?_
    refine r_iconst (pc := 13) hC (v := (0 : Int32)) (by decide) dX10_layHalves_13 ?_
    refine r_istore (pc := 14) hC rfl rfl dX10_layHalves_14 ?_
    have hK77_5 : ∀ (y4 : Int32), wF κ wM 6 (qM κ wM) s2 77 [some (.ref (ad κ 0)), some (.int a1), some (.int a2), some (.int i1), some (.int y4), none] [] (M_layHalves_K77 s2 a1 i1 a2 self3 y4) := by
      intro y4
      unfold M_layHalves_K77
      refine r_aload_n (pc := 77) hC rfl dX10_layHalves_77 ?_
      refine gM_0_24 (pc := 78) hC k_1061 dX10_layHalves_78 ?_
      refine r_bipush (pc := 81) hC (v := (8 : Int32)) (by decide) dX10_layHalves_81 ?_
      refine r_iload_n (pc := 83) hC rfl dX10_layHalves_83 ?_
      refine r_imul (pc := 84) hC dX10_layHalves_84 ?_
      refine r_iload_n (pc := 85) hC rfl dX10_layHalves_85 ?_
      refine r_iadd (pc := 86) hC dX10_layHalves_86 ?_
      refine r_dup2 (pc := 87) hC rfl rfl dX10_layHalves_87 ?_
      refine aM_18 (pc := 88) hC dX10_layHalves_88 ?_
      refine r_iconst (pc := 89) hC (v := (2 : Int32)) (by decide) dX10_layHalves_89 ?_
      refine r_aload_n (pc := 90) hC rfl dX10_layHalves_90 ?_
      refine gM_0_24 (pc := 91) hC k_1061 dX10_layHalves_91 ?_
      refine r_bipush (pc := 94) hC (v := (8 : Int32)) (by decide) dX10_layHalves_94 ?_
      refine r_iload_n (pc := 96) hC rfl dX10_layHalves_96 ?_
      refine r_imul (pc := 97) hC dX10_layHalves_97 ?_
      refine r_iload_n (pc := 98) hC rfl dX10_layHalves_98 ?_
      refine r_iadd (pc := 99) hC dX10_layHalves_99 ?_
      refine aM_18 (pc := 100) hC dX10_layHalves_100 ?_
      refine r_imul (pc := 101) hC dX10_layHalves_101 ?_
      refine r_iload (pc := 102) hC rfl dX10_layHalves_102 ?_
      refine r_imul (pc := 104) hC dX10_layHalves_104 ?_
      refine r_iadd (pc := 105) hC dX10_layHalves_105 ?_
      refine bM_18 (pc := 106) hC dX10_layHalves_106 ?_
      refine r_letm (fun s5 => ?_)
      refine r_iinc (pc := 107) hC (v := (1 : Int32)) rfl (by decide) rfl rfl dX10_layHalves_107 ?_
      refine r_goto (pc := 110) (tgt := 2) hC dX10_layHalves_110 (by decide) ?_
      exact r_wk [true, true, true, true, false, false] (ih2_3 (i1 + (1 : Int32)) s5)
    refine w_it2 (fun i6 i7 => s2) (fun i6 i7 => [some (.ref (ad κ 0)), some (.int a1), some (.int a2), some (.int i1), some (.int i6), some (.int i7)]) (fun self8 ih16_8 i6 i7 => ?_) N (0 : Int32) (0 : Int32)
    unfold M_layHalves_B16
    refine r_iload (pc := 16) hC rfl dX10_layHalves_16 ?_
    refine r_aload_n (pc := 18) hC rfl dX10_layHalves_18 ?_
    refine r_cT (pc := 19) (rest := [.int i7]) (runV [] hC (c_M_many (kl κ) (kW κ) hC.2.2.2.2.2.2.2.2.1 s2) o_X10_many k_1274 (q0 := 0) (ci := 10) rfl rfl (rm_ok hR rfl) rfl (Nat.le_of_ble_eq_true rfl) dX10_layHalves_19) ?_
    refine r_icmp_ge (pc := 22) (tgt := 77) hC dX10_layHalves_22 (by decide) ?_ ?_
    · exact r_wk [true, true, true, true, true, false] (hK77_5 i6)
    · refine r_iload_n (pc := 25) hC rfl dX10_layHalves_25 ?_
      refine r_iload_n (pc := 26) hC rfl dX10_layHalves_26 ?_
      refine r_cT (pc := 27) (rest := []) (runS [.int a2, .int i1] hC (c_M_has (kl κ) (kW κ) hC.2.2.2.2.2.2.2.2.1 a2 i1 s2) o_X10_has k_1194 (rm_ok hR rfl) rfl (Nat.le_of_ble_eq_true rfl) dX10_layHalves_27) ?_
      refine r_if_eq (pc := 30) (tgt := 77) hC dX10_layHalves_30 (by decide) ?_ ?_
      · exact r_wk [true, true, true, true, true, false] (hK77_5 i6)
      · refine r_iload (pc := 33) hC rfl dX10_layHalves_33 ?_
        refine r_aload_n (pc := 35) hC rfl dX10_layHalves_35 ?_
        refine r_iload_n (pc := 36) hC rfl dX10_layHalves_36 ?_
        refine r_cO (pc := 37) (rest := [.int i6]) (fun r9 hf => runV [.int i1] hC (c_M_beats (kl κ) (kW κ) hC.2.2.2.2.2.2.2.2.1 i1 s2 r9 hf) o_X10_beats k_1224 (q0 := 0) (ci := 10) rfl rfl (rm_ok hR rfl) rfl (Nat.le_of_ble_eq_true rfl) dX10_layHalves_37) (fun r9 => ?_)
        refine r_iload (pc := 40) hC rfl dX10_layHalves_40 ?_
        refine r_cT (pc := 42) (rest := [.int i6]) (runS [.int r9, .int i7] hC (c_M_has (kl κ) (kW κ) hC.2.2.2.2.2.2.2.2.1 r9 i7 s2) o_X10_has k_1194 (rm_ok hR rfl) rfl (Nat.le_of_ble_eq_true rfl) dX10_layHalves_42) ?_
        refine r_if_eq (pc := 45) (tgt := 67) hC dX10_layHalves_45 (by decide) ?_ ?_
        · refine r_iconst (pc := 67) hC (v := (0 : Int32)) (by decide) dX10_layHalves_67 ?_
          refine r_iadd (pc := 68) hC dX10_layHalves_68 ?_
          refine r_let (fun x10 => ?_)
          refine r_istore (pc := 69) hC rfl rfl dX10_layHalves_69 ?_
          refine r_iinc (pc := 71) hC (v := (1 : Int32)) rfl (by decide) rfl rfl dX10_layHalves_71 ?_
          refine r_goto (pc := 74) (tgt := 16) hC dX10_layHalves_74 (by decide) ?_
          exact ih16_8 x10 (i7 + (1 : Int32))
        · refine r_aload_n (pc := 48) hC rfl dX10_layHalves_48 ?_
          refine gM_0_24 (pc := 49) hC k_1061 dX10_layHalves_49 ?_
          refine r_bipush (pc := 52) hC (v := (8 : Int32)) (by decide) dX10_layHalves_52 ?_
          refine r_iload_n (pc := 54) hC rfl dX10_layHalves_54 ?_
          refine r_iload_n (pc := 55) hC rfl dX10_layHalves_55 ?_
          refine r_iconst (pc := 56) hC (v := (-1 : Int32)) (by decide) dX10_layHalves_56 ?_
          refine r_ixor (pc := 57) hC dX10_layHalves_57 ?_
          refine r_iand (pc := 58) hC dX10_layHalves_58 ?_
          refine r_imul (pc := 59) hC dX10_layHalves_59 ?_
          refine r_iload (pc := 60) hC rfl dX10_layHalves_60 ?_
          refine r_iadd (pc := 62) hC dX10_layHalves_62 ?_
          refine aM_18 (pc := 63) hC dX10_layHalves_63 ?_
          refine r_goto (pc := 64) (tgt := 68) hC dX10_layHalves_64 (by decide) ?_
          refine r_iadd (pc := 68) hC dX10_layHalves_68 ?_
          refine r_let (fun x11 => ?_)
          refine r_istore (pc := 69) hC rfl rfl dX10_layHalves_69 ?_
          refine r_iinc (pc := 71) hC (v := (1 : Int32)) rfl (by decide) rfl rfl dX10_layHalves_71 ?_
          refine r_goto (pc := 74) (tgt := 16) hC dX10_layHalves_74 (by decide) ?_
          exact ih16_8 x11 (i7 + (1 : Int32))
set_option maxRecDepth 100000 in
set_option maxHeartbeats 4000000 in
theorem c_M_layHalves (l : Launch) (w : Wenv) (hw : okw w wM) (N : Nat) (a1 : Int32) (a2 : Int32) (σ : Mem) (τ : Mem) (hf : f_M_layHalves N a1 a2 σ = some τ) : Ctr l w wM yX10_layHalves cX10_layHalves 6 none 1 21 [.ref (w.2.2.1 0), .int a1, .int a2] σ (cQv w wM τ) := mk_ctr (Q := fun κ => qM κ wM) (lv := [some (.ref (w.2.2.1 0)), some (.int a1), some (.int a2), none, none, none]) (by decide) rfl hw (Nat.le_of_ble_eq_true rfl) rfl hf (fun κ h => by subst h; rfl) (fun κ hl h hR hC => by
    subst h
    exact w_M_layHalves hR hC N a1 a2 σ)
-- DuelRoundModel.layCups()V (0,) kind M
def M_layCups_J81 (N : Nat) (s7 : Mem) (i1 : Int32) (r4 : Int32) (i6 : Int32) (self8 : Int32 → Mem → Option Mem) : Option Mem :=
  if (t_M_isWithin i6 i1) = (0 : Int32) then
  (self8 (i6 + (1 : Int32)) s7)
  else
  (ob (f_M_sizeOf N i6) fun r9 =>
  if ((2 : Int32) * r9) = r4 then
  (ob (f_M_layHalves N i1 i6 s7) fun s10 =>
  self8 (i6 + (1 : Int32)) s10)
  else
  (self8 (i6 + (1 : Int32)) s7))
def M_layCups_B60 (N : Nat) (i1 : Int32) (r4 : Int32) (self3 : Int32 → Mem → Option Mem) (self8 : Int32 → Mem → Option Mem) (i6 : Int32) (s7 : Mem) : Option Mem :=
  if i1 ≤ i6 then
  (self3 (i1 + (1 : Int32)) s7)
  else
  (if r4 = (2 : Int32) then
  (M_layCups_J81 N s7 i1 r4 i6 self8)
  else
  (if r4 = (4 : Int32) then
  (M_layCups_J81 N s7 i1 r4 i6 self8)
  else
  (if r4 = (8 : Int32) then
  (M_layCups_J81 N s7 i1 r4 i6 self8)
  else
  (self3 (i1 + (1 : Int32)) s7))))
def M_layCups_K58 (N : Nat) (i1 : Int32) (r4 : Int32) (self3 : Int32 → Mem → Option Mem) (s5 : Mem) : Option Mem :=
  it2 (M_layCups_B60 N i1 r4 self3) N (1 : Int32) s5
def M_layCups_J51 (s12 : Mem) (i1 : Int32) (i11 : Int32) (self13 : Int32 → Mem → Option Mem) (v14 : Int32) : Option Mem :=
  gd (inb (((8 : Int32) * i1) + i11) 2048) (bnd (sI s12 24 (((8 : Int32) * i1) + i11).toNatClampNeg v14) fun s15 =>
  self13 (i11 + (1 : Int32)) s15)
def M_layCups_J50 (s12 : Mem) (i1 : Int32) (i11 : Int32) (self13 : Int32 → Mem → Option Mem) : Option Mem :=
  M_layCups_J51 s12 i1 i11 self13 (0 : Int32)
def M_layCups_B17 (N : Nat) (i1 : Int32) (r4 : Int32) (self3 : Int32 → Mem → Option Mem) (self13 : Int32 → Mem → Option Mem) (i11 : Int32) (s12 : Mem) : Option Mem :=
  if (8 : Int32) ≤ i11 then
  (M_layCups_K58 N i1 r4 self3 s12)
  else
  (if r4 = (1 : Int32) then
  (if (t_M_has i1 i11) = (0 : Int32) then
  (M_layCups_J50 s12 i1 i11 self13)
  else
  (M_layCups_J51 s12 i1 i11 self13 (1 : Int32)))
  else
  (M_layCups_J50 s12 i1 i11 self13))
def M_layCups_B2 (N : Nat) (self3 : Int32 → Mem → Option Mem) (i1 : Int32) (s2 : Mem) : Option Mem :=
  if (t_M_all s2) < i1 then
  (some s2)
  else
  (ob (f_M_sizeOf N i1) fun r4 =>
  it2 (M_layCups_B17 N i1 r4 self3) N (0 : Int32) s2)
def f_M_layCups (N : Nat) (σ : Mem) : Option Mem :=
  it2 (M_layCups_B2 N) N (1 : Int32) σ
set_option maxRecDepth 100000 in
set_option maxHeartbeats 4000000 in
theorem w_M_layCups {κ : Ctx} (hR : kR κ = { frames := 2, cells := 0, slots := 0, locals := 46 }) (hC : ok κ wM cX10_layCups 4 RX10 none) (N : Nat) (σ : Mem) : wF κ wM 4 (qM κ wM) σ 0 [some (.ref (ad κ 0)), none, none, none] [] (f_M_layCups N  σ) := by
  unfold f_M_layCups
  refine r_iconst (pc := 0) hC (v := (1 : Int32)) (by decide) dX10_layCups_0 ?_
  refine r_istore_n (pc := 1) hC rfl rfl dX10_layCups_1 ?_
  refine w_it2 (fun i1 s2 => s2) (fun i1 s2 => [some (.ref (ad κ 0)), some (.int i1), none, none]) (fun self3 ih2_3 i1 s2 => ?_) N (1 : Int32) σ
  unfold M_layCups_B2
  refine r_iload_n (pc := 2) hC rfl dX10_layCups_2 ?_
  refine r_aload_n (pc := 3) hC rfl dX10_layCups_3 ?_
  refine r_cT (pc := 4) (rest := [.int i1]) (runV [] hC (c_M_all (kl κ) (kW κ) hC.2.2.2.2.2.2.2.2.1 s2) o_X10_all k_1228 (q0 := 0) (ci := 10) rfl rfl (rm_ok hR rfl) rfl (Nat.le_of_ble_eq_true rfl) dX10_layCups_4) ?_
  refine r_icmp_gt (pc := 7) (tgt := 117) hC dX10_layCups_7 (by decide) ?_ ?_
  · exact r_retM hC dX10_layCups_117
  · refine r_iload_n (pc := 10) hC rfl dX10_layCups_10 ?_
    refine r_cO (pc := 11) (rest := []) (fun r4 hf => runS [.int i1] hC (c_M_sizeOf (kl κ) (kW κ) hC.2.2.2.2.2.2.2.2.1 N i1 s2 r4 hf) o_X10_sizeOf k_1298 (rm_ok hR rfl) rfl (Nat.le_of_ble_eq_true rfl) dX10_layCups_11) (fun r4 => ?_)
    refine r_istore_n (pc := 14) hC rfl rfl dX10_layCups_14 ?_
    refine r_iconst (pc := 15) hC (v := (0 : Int32)) (by decide) dX10_layCups_15 ?_
    refine r_istore_n (pc := 16) hC rfl rfl dX10_layCups_16 ?_
    have hK58_10 : ∀ (s5 : Mem), wF κ wM 4 (qM κ wM) s5 58 [some (.ref (ad κ 0)), some (.int i1), some (.int r4), none] [] (M_layCups_K58 N i1 r4 self3 s5) := by
      intro s5
      unfold M_layCups_K58
      refine r_iconst (pc := 58) hC (v := (1 : Int32)) (by decide) dX10_layCups_58 ?_
      refine r_istore_n (pc := 59) hC rfl rfl dX10_layCups_59 ?_
      refine w_it2 (fun i6 s7 => s7) (fun i6 s7 => [some (.ref (ad κ 0)), some (.int i1), some (.int r4), some (.int i6)]) (fun self8 ih60_8 i6 s7 => ?_) N (1 : Int32) s5
      unfold M_layCups_B60
      refine r_iload_n (pc := 60) hC rfl dX10_layCups_60 ?_
      refine r_iload_n (pc := 61) hC rfl dX10_layCups_61 ?_
      refine r_icmp_ge (pc := 62) (tgt := 111) hC dX10_layCups_62 (by decide) ?_ ?_
      · refine r_iinc (pc := 111) hC (v := (1 : Int32)) rfl (by decide) rfl rfl dX10_layCups_111 ?_
        refine r_goto (pc := 114) (tgt := 2) hC dX10_layCups_114 (by decide) ?_
        exact r_wk [true, true, false, false] (ih2_3 (i1 + (1 : Int32)) s7)
      · refine r_iload_n (pc := 65) hC rfl dX10_layCups_65 ?_
        refine r_iconst (pc := 66) hC (v := (2 : Int32)) (by decide) dX10_layCups_66 ?_
        have hJ81_10 : wF κ wM 4 (qM κ wM) s7 81 [some (.ref (ad κ 0)), some (.int i1), some (.int r4), some (.int i6)] [] (M_layCups_J81 N s7 i1 r4 i6 self8) := by
          unfold M_layCups_J81
          refine r_iload_n (pc := 81) hC rfl dX10_layCups_81 ?_
          refine r_iload_n (pc := 82) hC rfl dX10_layCups_82 ?_
          refine r_cT (pc := 83) (rest := []) (runS [.int i6, .int i1] hC (c_M_isWithin (kl κ) (kW κ) hC.2.2.2.2.2.2.2.2.1 i6 i1 s7) o_X10_isWithin k_1236 (rm_ok hR rfl) rfl (Nat.le_of_ble_eq_true rfl) dX10_layCups_83) ?_
          refine r_if_eq (pc := 86) (tgt := 105) hC dX10_layCups_86 (by decide) ?_ ?_
          · refine r_iinc (pc := 105) hC (v := (1 : Int32)) rfl (by decide) rfl rfl dX10_layCups_105 ?_
            refine r_goto (pc := 108) (tgt := 60) hC dX10_layCups_108 (by decide) ?_
            exact ih60_8 (i6 + (1 : Int32)) s7
          · refine r_iconst (pc := 89) hC (v := (2 : Int32)) (by decide) dX10_layCups_89 ?_
            refine r_iload_n (pc := 90) hC rfl dX10_layCups_90 ?_
            refine r_cO (pc := 91) (rest := [.int (2 : Int32)]) (fun r9 hf => runS [.int i6] hC (c_M_sizeOf (kl κ) (kW κ) hC.2.2.2.2.2.2.2.2.1 N i6 s7 r9 hf) o_X10_sizeOf k_1298 (rm_ok hR rfl) rfl (Nat.le_of_ble_eq_true rfl) dX10_layCups_91) (fun r9 => ?_)
            refine r_imul (pc := 94) hC dX10_layCups_94 ?_
            refine r_iload_n (pc := 95) hC rfl dX10_layCups_95 ?_
            refine r_icmp_ne (pc := 96) (tgt := 105) hC dX10_layCups_96 (by decide) ?_ ?_
            · refine r_iinc (pc := 105) hC (v := (1 : Int32)) rfl (by decide) rfl rfl dX10_layCups_105 ?_
              refine r_goto (pc := 108) (tgt := 60) hC dX10_layCups_108 (by decide) ?_
              exact ih60_8 (i6 + (1 : Int32)) s7
            · refine r_aload_n (pc := 99) hC rfl dX10_layCups_99 ?_
              refine r_iload_n (pc := 100) hC rfl dX10_layCups_100 ?_
              refine r_iload_n (pc := 101) hC rfl dX10_layCups_101 ?_
              refine r_cM (pc := 102) (rest := []) (fun s10 hf => runV [.int i1, .int i6] hC (c_M_layHalves (kl κ) (kW κ) hC.2.2.2.2.2.2.2.2.1 N i1 i6 s7 s10 hf) o_X10_layHalves k_1391 (q0 := 0) (ci := 10) rfl rfl (rm_ok hR rfl) rfl (Nat.le_of_ble_eq_true rfl) dX10_layCups_102) (fun s10 => ?_)
              refine r_iinc (pc := 105) hC (v := (1 : Int32)) rfl (by decide) rfl rfl dX10_layCups_105 ?_
              refine r_goto (pc := 108) (tgt := 60) hC dX10_layCups_108 (by decide) ?_
              exact ih60_8 (i6 + (1 : Int32)) s10
        refine r_icmp_eq (pc := 67) (tgt := 81) hC dX10_layCups_67 (by decide) ?_ ?_
        · exact hJ81_10
        · refine r_iload_n (pc := 70) hC rfl dX10_layCups_70 ?_
          refine r_iconst (pc := 71) hC (v := (4 : Int32)) (by decide) dX10_layCups_71 ?_
          refine r_icmp_eq (pc := 72) (tgt := 81) hC dX10_layCups_72 (by decide) ?_ ?_
          · exact hJ81_10
          · refine r_iload_n (pc := 75) hC rfl dX10_layCups_75 ?_
            refine r_bipush (pc := 76) hC (v := (8 : Int32)) (by decide) dX10_layCups_76 ?_
            refine r_icmp_ne (pc := 78) (tgt := 111) hC dX10_layCups_78 (by decide) ?_ ?_
            · refine r_iinc (pc := 111) hC (v := (1 : Int32)) rfl (by decide) rfl rfl dX10_layCups_111 ?_
              refine r_goto (pc := 114) (tgt := 2) hC dX10_layCups_114 (by decide) ?_
              exact r_wk [true, true, false, false] (ih2_3 (i1 + (1 : Int32)) s7)
            · exact hJ81_10
    refine w_it2 (fun i11 s12 => s12) (fun i11 s12 => [some (.ref (ad κ 0)), some (.int i1), some (.int r4), some (.int i11)]) (fun self13 ih17_13 i11 s12 => ?_) N (0 : Int32) s2
    unfold M_layCups_B17
    refine r_iload_n (pc := 17) hC rfl dX10_layCups_17 ?_
    refine r_bipush (pc := 18) hC (v := (8 : Int32)) (by decide) dX10_layCups_18 ?_
    refine r_icmp_ge (pc := 20) (tgt := 58) hC dX10_layCups_20 (by decide) ?_ ?_
    · exact r_wk [true, true, true, false] (hK58_10 s12)
    · refine r_aload_n (pc := 23) hC rfl dX10_layCups_23 ?_
      refine gM_0_24 (pc := 24) hC k_1061 dX10_layCups_24 ?_
      refine r_bipush (pc := 27) hC (v := (8 : Int32)) (by decide) dX10_layCups_27 ?_
      refine r_iload_n (pc := 29) hC rfl dX10_layCups_29 ?_
      refine r_imul (pc := 30) hC dX10_layCups_30 ?_
      refine r_iload_n (pc := 31) hC rfl dX10_layCups_31 ?_
      refine r_iadd (pc := 32) hC dX10_layCups_32 ?_
      refine r_iload_n (pc := 33) hC rfl dX10_layCups_33 ?_
      refine r_iconst (pc := 34) hC (v := (1 : Int32)) (by decide) dX10_layCups_34 ?_
      have hJ51_15 : ∀ (v14 : Int32), wF κ wM 4 (qM κ wM) s12 51 [some (.ref (ad κ 0)), some (.int i1), some (.int r4), some (.int i11)] [.int v14, .int (((8 : Int32) * i1) + i11), .ref (ad κ 18)] (M_layCups_J51 s12 i1 i11 self13 v14) := by
        intro v14
        unfold M_layCups_J51
        refine bM_18 (pc := 51) hC dX10_layCups_51 ?_
        refine r_letm (fun s15 => ?_)
        refine r_iinc (pc := 52) hC (v := (1 : Int32)) rfl (by decide) rfl rfl dX10_layCups_52 ?_
        refine r_goto (pc := 55) (tgt := 17) hC dX10_layCups_55 (by decide) ?_
        exact ih17_13 (i11 + (1 : Int32)) s15
      have hJ50_15 : wF κ wM 4 (qM κ wM) s12 50 [some (.ref (ad κ 0)), some (.int i1), some (.int r4), some (.int i11)] [.int (((8 : Int32) * i1) + i11), .ref (ad κ 18)] (M_layCups_J50 s12 i1 i11 self13) := by
        unfold M_layCups_J50
        refine r_iconst (pc := 50) hC (v := (0 : Int32)) (by decide) dX10_layCups_50 ?_
        exact hJ51_15 (0 : Int32)
      refine r_icmp_ne (pc := 35) (tgt := 50) hC dX10_layCups_35 (by decide) ?_ ?_
      · exact hJ50_15
      · refine r_iload_n (pc := 38) hC rfl dX10_layCups_38 ?_
        refine r_iload_n (pc := 39) hC rfl dX10_layCups_39 ?_
        refine r_cT (pc := 40) (rest := [.int (((8 : Int32) * i1) + i11), .ref (ad κ 18)]) (runS [.int i1, .int i11] hC (c_M_has (kl κ) (kW κ) hC.2.2.2.2.2.2.2.2.1 i1 i11 s12) o_X10_has k_1194 (rm_ok hR rfl) rfl (Nat.le_of_ble_eq_true rfl) dX10_layCups_40) ?_
        refine r_if_eq (pc := 43) (tgt := 50) hC dX10_layCups_43 (by decide) ?_ ?_
        · exact hJ50_15
        · refine r_iconst (pc := 46) hC (v := (1 : Int32)) (by decide) dX10_layCups_46 ?_
          refine r_goto (pc := 47) (tgt := 51) hC dX10_layCups_47 (by decide) ?_
          exact hJ51_15 (1 : Int32)
set_option maxRecDepth 100000 in
set_option maxHeartbeats 4000000 in
theorem c_M_layCups (l : Launch) (w : Wenv) (hw : okw w wM) (N : Nat) (σ : Mem) (τ : Mem) (hf : f_M_layCups N  σ = some τ) : Ctr l w wM yX10_layCups cX10_layCups 4 none 2 46 [.ref (w.2.2.1 0)] σ (cQv w wM τ) := mk_ctr (Q := fun κ => qM κ wM) (lv := [some (.ref (w.2.2.1 0)), none, none, none]) (by decide) rfl hw (Nat.le_of_ble_eq_true rfl) rfl hf (fun κ h => by subst h; rfl) (fun κ hl h hR hC => by
    subst h
    exact w_M_layCups hR hC N  σ)
-- DuelRoundModel.wins()I (0,) kind OM
def M_wins_K101 (s3 : Mem) : Option (Int32 × Mem) :=
  some ((gI s3 27 (0 : Int32).toNatClampNeg), s3)
def M_wins_J91 (s9 : Mem) (i8 : Int32) (self10 : Int32 → Mem → Option (Int32 × Mem)) (v14 : Int32) : Option (Int32 × Mem) :=
  gd (inb i8 8) (bnd (sI s9 27 i8.toNatClampNeg v14) fun s15 =>
  self10 (i8 + (1 : Int32)) s15)
def M_wins_B41 (x7 : Int32) (self6 : Int32 → Mem → Option (Int32 × Mem)) (self10 : Int32 → Mem → Option (Int32 × Mem)) (i8 : Int32) (s9 : Mem) : Option (Int32 × Mem) :=
  if x7 ≤ i8 then
  (self6 x7 s9)
  else
  (gd (inb ((2 : Int32) * i8) 8) (bnd (gI s9 27 ((2 : Int32) * i8).toNatClampNeg) fun x11 =>
  gd (inb (((2 : Int32) * i8) + (1 : Int32)) 8) (bnd (gI s9 27 (((2 : Int32) * i8) + (1 : Int32)).toNatClampNeg) fun x12 =>
  ob (f_M_beats x11 s9) fun r13 =>
  if (t_M_has r13 x12) = (0 : Int32) then
  (M_wins_J91 s9 i8 self10 x12)
  else
  (M_wins_J91 s9 i8 self10 x11))))
def M_wins_B30 (N : Nat) (self6 : Int32 → Mem → Option (Int32 × Mem)) (i4 : Int32) (s5 : Mem) : Option (Int32 × Mem) :=
  if i4 ≤ (1 : Int32) then
  (M_wins_K101 s5)
  else
  (bnd (i4 / (2 : Int32)) fun x7 =>
  it2 (M_wins_B41 x7 self6) N (0 : Int32) s5)
def M_wins_K30 (N : Nat) (x1 : Int32) (s2 : Mem) : Option (Int32 × Mem) :=
  it2 (M_wins_B30 N) N x1 s2
def M_wins_B7 (N : Nat) (x1 : Int32) (self18 : Int32 → Mem → Option (Int32 × Mem)) (i16 : Int32) (s17 : Mem) : Option (Int32 × Mem) :=
  if x1 ≤ i16 then
  (M_wins_K30 N x1 s17)
  else
  (gd (inb i16 8) (gd (inb i16 8) (bnd (sI s17 27 i16.toNatClampNeg (gI s17 26 i16.toNatClampNeg)) fun s19 =>
  self18 (i16 + (1 : Int32)) s19)))
def f_M_wins (N : Nat) (σ : Mem) : Option (Int32 × Mem) :=
  bnd (t_M_many σ) fun x1 =>
  it2 (M_wins_B7 N x1) N (0 : Int32) σ
set_option maxRecDepth 100000 in
set_option maxHeartbeats 4000000 in
theorem w_M_wins {κ : Ctx} (hR : kR κ = { frames := 1, cells := 0, slots := 0, locals := 21 }) (hC : ok κ wM cX10_wins 5 RX10 (some .int)) (N : Nat) (σ : Mem) : wF κ wM 5 (qOM κ wM) σ 0 [some (.ref (ad κ 0)), none, none, none, none] [] (f_M_wins N  σ) := by
  unfold f_M_wins
  refine r_aload_n (pc := 0) hC rfl dX10_wins_0 ?_
  refine r_cT (pc := 1) (rest := []) (runV [] hC (c_M_many (kl κ) (kW κ) hC.2.2.2.2.2.2.2.2.1 σ) o_X10_many k_1274 (q0 := 0) (ci := 10) rfl rfl (rm_ok hR rfl) rfl (Nat.le_of_ble_eq_true rfl) dX10_wins_1) ?_
  refine r_let (fun x1 => ?_)
  refine r_istore_n (pc := 4) hC rfl rfl dX10_wins_4 ?_
  refine r_iconst (pc := 5) hC (v := (0 : Int32)) (by decide) dX10_wins_5 ?_
  refine r_istore_n (pc := 6) hC rfl rfl dX10_wins_6 ?_
  have hK30_15 : ∀ (s2 : Mem), wF κ wM 5 (qOM κ wM) s2 30 [some (.ref (ad κ 0)), some (.int x1), none, none, none] [] (M_wins_K30 N x1 s2) := by
    intro s2
    unfold M_wins_K30
    have hK101_3 : ∀ (s3 : Mem), wF κ wM 5 (qOM κ wM) s3 101 [some (.ref (ad κ 0)), none, none, none, none] [] (M_wins_K101 s3) := by
      intro s3
      unfold M_wins_K101
      refine r_aload_n (pc := 101) hC rfl dX10_wins_101 ?_
      refine gM_0_27 (pc := 102) hC k_1064 dX10_wins_102 ?_
      refine r_iconst (pc := 105) hC (v := (0 : Int32)) (by decide) dX10_wins_105 ?_
      refine r_ung (b := inb (0 : Int32) 8) (by decide) ?_
      refine aM_21 (pc := 106) hC dX10_wins_106 ?_
      exact r_retOM hC rfl dX10_wins_107
    refine w_it2 (fun i4 s5 => s5) (fun i4 s5 => [some (.ref (ad κ 0)), some (.int i4), none, none, none]) (fun self6 ih30_6 i4 s5 => ?_) N x1 s2
    unfold M_wins_B30
    refine r_iload_n (pc := 30) hC rfl dX10_wins_30 ?_
    refine r_iconst (pc := 31) hC (v := (1 : Int32)) (by decide) dX10_wins_31 ?_
    refine r_icmp_le (pc := 32) (tgt := 101) hC dX10_wins_32 (by decide) ?_ ?_
    · exact r_wk [true, false, false, false, false] (hK101_3 s5)
    · refine r_iload_n (pc := 35) hC rfl dX10_wins_35 ?_
      refine r_iconst (pc := 36) hC (v := (2 : Int32)) (by decide) dX10_wins_36 ?_
      refine r_idiv (pc := 37) hC (by decide) dX10_wins_37 ?_
      refine r_let (fun x7 => ?_)
      refine r_istore_n (pc := 38) hC rfl rfl dX10_wins_38 ?_
      refine r_iconst (pc := 39) hC (v := (0 : Int32)) (by decide) dX10_wins_39 ?_
      refine r_istore_n (pc := 40) hC rfl rfl dX10_wins_40 ?_
      refine w_it2 (fun i8 s9 => s9) (fun i8 s9 => [some (.ref (ad κ 0)), some (.int x7), some (.int i8), none, none]) (fun self10 ih41_10 i8 s9 => ?_) N (0 : Int32) s5
      unfold M_wins_B41
      refine r_iload_n (pc := 41) hC rfl dX10_wins_41 ?_
      refine r_iload_n (pc := 42) hC rfl dX10_wins_42 ?_
      refine r_icmp_ge (pc := 43) (tgt := 98) hC dX10_wins_43 (by decide) ?_ ?_
      · refine r_goto (pc := 98) (tgt := 30) hC dX10_wins_98 (by decide) ?_
        exact r_wk [true, true, false, false, false] (ih30_6 x7 s9)
      · refine r_aload_n (pc := 46) hC rfl dX10_wins_46 ?_
        refine gM_0_27 (pc := 47) hC k_1064 dX10_wins_47 ?_
        refine r_iconst (pc := 50) hC (v := (2 : Int32)) (by decide) dX10_wins_50 ?_
        refine r_iload_n (pc := 51) hC rfl dX10_wins_51 ?_
        refine r_imul (pc := 52) hC dX10_wins_52 ?_
        refine aM_21 (pc := 53) hC dX10_wins_53 ?_
        refine r_let (fun x11 => ?_)
        refine r_istore_n (pc := 54) hC rfl rfl dX10_wins_54 ?_
        refine r_aload_n (pc := 55) hC rfl dX10_wins_55 ?_
        refine gM_0_27 (pc := 56) hC k_1064 dX10_wins_56 ?_
        refine r_iconst (pc := 59) hC (v := (2 : Int32)) (by decide) dX10_wins_59 ?_
        refine r_iload_n (pc := 60) hC rfl dX10_wins_60 ?_
        refine r_imul (pc := 61) hC dX10_wins_61 ?_
        refine r_iconst (pc := 62) hC (v := (1 : Int32)) (by decide) dX10_wins_62 ?_
        refine r_iadd (pc := 63) hC dX10_wins_63 ?_
        refine aM_21 (pc := 64) hC dX10_wins_64 ?_
        refine r_let (fun x12 => ?_)
        refine r_istore (pc := 65) hC rfl rfl dX10_wins_65 ?_
        refine r_aload_n (pc := 67) hC rfl dX10_wins_67 ?_
        refine gM_0_27 (pc := 68) hC k_1064 dX10_wins_68 ?_
        refine r_iload_n (pc := 71) hC rfl dX10_wins_71 ?_
        refine r_aload_n (pc := 72) hC rfl dX10_wins_72 ?_
        refine r_iload_n (pc := 73) hC rfl dX10_wins_73 ?_
        refine r_cO (pc := 74) (rest := [.int i8, .ref (ad κ 21)]) (fun r13 hf => runV [.int x11] hC (c_M_beats (kl κ) (kW κ) hC.2.2.2.2.2.2.2.2.1 x11 s9 r13 hf) o_X10_beats k_1224 (q0 := 0) (ci := 10) rfl rfl (rm_ok hR rfl) rfl (Nat.le_of_ble_eq_true rfl) dX10_wins_74) (fun r13 => ?_)
        refine r_iload (pc := 77) hC rfl dX10_wins_77 ?_
        refine r_cT (pc := 79) (rest := [.int i8, .ref (ad κ 21)]) (runS [.int r13, .int x12] hC (c_M_has (kl κ) (kW κ) hC.2.2.2.2.2.2.2.2.1 r13 x12 s9) o_X10_has k_1194 (rm_ok hR rfl) rfl (Nat.le_of_ble_eq_true rfl) dX10_wins_79) ?_
        have hJ91_15 : ∀ (v14 : Int32), wF κ wM 5 (qOM κ wM) s9 91 [some (.ref (ad κ 0)), some (.int x7), some (.int i8), none, none] [.int v14, .int i8, .ref (ad κ 21)] (M_wins_J91 s9 i8 self10 v14) := by
          intro v14
          unfold M_wins_J91
          refine bM_21 (pc := 91) hC dX10_wins_91 ?_
          refine r_letm (fun s15 => ?_)
          refine r_iinc (pc := 92) hC (v := (1 : Int32)) rfl (by decide) rfl rfl dX10_wins_92 ?_
          refine r_goto (pc := 95) (tgt := 41) hC dX10_wins_95 (by decide) ?_
          exact ih41_10 (i8 + (1 : Int32)) s15
        refine r_if_eq (pc := 82) (tgt := 89) hC dX10_wins_82 (by decide) ?_ ?_
        · refine r_iload (pc := 89) hC rfl dX10_wins_89 ?_
          exact r_wk [true, true, true, false, false] (hJ91_15 x12)
        · refine r_iload_n (pc := 85) hC rfl dX10_wins_85 ?_
          refine r_goto (pc := 86) (tgt := 91) hC dX10_wins_86 (by decide) ?_
          exact r_wk [true, true, true, false, false] (hJ91_15 x11)
  refine w_it2 (fun i16 s17 => s17) (fun i16 s17 => [some (.ref (ad κ 0)), some (.int x1), some (.int i16), none, none]) (fun self18 ih7_18 i16 s17 => ?_) N (0 : Int32) σ
  unfold M_wins_B7
  refine r_iload_n (pc := 7) hC rfl dX10_wins_7 ?_
  refine r_iload_n (pc := 8) hC rfl dX10_wins_8 ?_
  refine r_icmp_ge (pc := 9) (tgt := 30) hC dX10_wins_9 (by decide) ?_ ?_
  · exact r_wk [true, true, false, false, false] (hK30_15 s17)
  · refine r_aload_n (pc := 12) hC rfl dX10_wins_12 ?_
    refine gM_0_27 (pc := 13) hC k_1064 dX10_wins_13 ?_
    refine r_iload_n (pc := 16) hC rfl dX10_wins_16 ?_
    refine r_aload_n (pc := 17) hC rfl dX10_wins_17 ?_
    refine gM_0_26 (pc := 18) hC k_1063 dX10_wins_18 ?_
    refine r_iload_n (pc := 21) hC rfl dX10_wins_21 ?_
    refine aM_20 (pc := 22) hC dX10_wins_22 ?_
    refine bM_21 (pc := 23) hC dX10_wins_23 ?_
    refine r_letm (fun s19 => ?_)
    refine r_iinc (pc := 24) hC (v := (1 : Int32)) rfl (by decide) rfl rfl dX10_wins_24 ?_
    refine r_goto (pc := 27) (tgt := 7) hC dX10_wins_27 (by decide) ?_
    exact ih7_18 (i16 + (1 : Int32)) s19
set_option maxRecDepth 100000 in
set_option maxHeartbeats 4000000 in
theorem c_M_wins (l : Launch) (w : Wenv) (hw : okw w wM) (N : Nat) (σ : Mem) (r : Int32) (τ : Mem) (hf : f_M_wins N  σ = some (r, τ)) : Ctr l w wM yX10_wins cX10_wins 5 (some .int) 1 21 [.ref (w.2.2.1 0)] σ (cQi w wM r τ) := mk_ctr (Q := fun κ => qOM κ wM) (lv := [some (.ref (w.2.2.1 0)), none, none, none, none]) (by decide) rfl hw (Nat.le_of_ble_eq_true rfl) rfl hf (fun κ h => by subst h; rfl) (fun κ hl h hR hC => by
    subst h
    exact w_M_wins hR hC N  σ)
-- DuelRoundModel.cup(II)I (0, None, None) kind OM
def M_cup_K96 (a2 : Int32) (y3 : Int32) (s4 : Mem) : Option (Int32 × Mem) :=
  if y3 = (0 : Int32) then
  (some ((-3 : Int32), s4))
  else
  (gd (inb a2 8) (some ((gI s4 26 a2.toNatClampNeg), s4)))
def M_cup_B76 (N : Nat) (a1 : Int32) (a2 : Int32) (self7 : Int32 → Mem → Option (Int32 × Mem)) (i5 : Int32) (s6 : Mem) : Option (Int32 × Mem) :=
  if i5 = (0 : Int32) then
  (M_cup_K96 a2 i5 s6)
  else
  (ob2 (f_M_wins N s6) fun r9 s8 =>
  if r9 = a1 then
  (M_cup_K96 a2 i5 s8)
  else
  (ob2 (f_M_nextOrder N s8) fun r11 s10 =>
  self7 r11 s10))
def f_M_cup (N : Nat) (a1 : Int32) (a2 : Int32) (σ : Mem) : Option (Int32 × Mem) :=
  bnd (sI σ 0 0 (0 : Int32)) fun s1 =>
  if (t_M_isPlayer a1 s1) = (0 : Int32) then
  (some ((-1 : Int32), s1))
  else
  (if (t_M_in (a2.toInt64) (-1 : Int64) (((t_M_many s1).toInt64) - (1 : Int64))) = (0 : Int32) then
  (some ((-1 : Int32), s1))
  else
  (if (t_M_isCup (t_M_many s1)) = (0 : Int32) then
  (some ((-3 : Int32), s1))
  else
  (if a2 = (-1 : Int32) then
  (ob (f_M_layCups N s1) fun s12 =>
  gd (inb (((8 : Int32) * (t_M_all s12)) + a1) 2048) (some ((gI s12 24 (((8 : Int32) * (t_M_all s12)) + a1).toNatClampNeg), s12)))
  else
  (ob (f_M_firstOrder N s1) fun s2 =>
  it2 (M_cup_B76 N a1 a2) N (1 : Int32) s2))))
set_option maxRecDepth 100000 in
set_option maxHeartbeats 4000000 in
theorem w_M_cup {κ : Ctx} (hR : kR κ = { frames := 3, cells := 0, slots := 0, locals := 69 }) (hC : ok κ wM cX10_cup 4 RX10 (some .int)) (N : Nat) (a1 : Int32) (a2 : Int32) (σ : Mem) : wF κ wM 4 (qOM κ wM) σ 0 [some (.ref (ad κ 0)), some (.int a1), some (.int a2), none] [] (f_M_cup N a1 a2 σ) := by
  unfold f_M_cup
  refine r_aload_n (pc := 0) hC rfl dX10_cup_0 ?_
  refine r_iconst (pc := 1) hC (v := (0 : Int32)) (by decide) dX10_cup_1 ?_
  refine pM_0_0 (pc := 2) hC k_1037 dX10_cup_2 ?_
  refine r_letm (fun s1 => ?_)
  refine r_aload_n (pc := 5) hC rfl dX10_cup_5 ?_
  refine r_iload_n (pc := 6) hC rfl dX10_cup_6 ?_
  refine r_cT (pc := 7) (rest := []) (runV [.int a1] hC (c_M_isPlayer (kl κ) (kW κ) hC.2.2.2.2.2.2.2.2.1 a1 s1) o_X10_isPlayer k_1220 (q0 := 0) (ci := 10) rfl rfl (rm_ok hR rfl) rfl (Nat.le_of_ble_eq_true rfl) dX10_cup_7) ?_
  refine r_if_eq (pc := 10) (tgt := 31) hC dX10_cup_10 (by decide) ?_ ?_
  · refine r_iconst (pc := 31) hC (v := (-1 : Int32)) (by decide) dX10_cup_31 ?_
    exact r_retOM hC rfl dX10_cup_32
  · refine r_iload_n (pc := 13) hC rfl dX10_cup_13 ?_
    refine r_i2l (pc := 14) hC dX10_cup_14 ?_
    refine r_ldc2 (pc := 15) hC (v := (-1 : Int64)) k_1399 dX10_cup_15 ?_
    refine r_aload_n (pc := 18) hC rfl dX10_cup_18 ?_
    refine r_cT (pc := 19) (rest := [.long (-1 : Int64), .long (a2.toInt64)]) (runV [] hC (c_M_many (kl κ) (kW κ) hC.2.2.2.2.2.2.2.2.1 s1) o_X10_many k_1274 (q0 := 0) (ci := 10) rfl rfl (rm_ok hR rfl) rfl (Nat.le_of_ble_eq_true rfl) dX10_cup_19) ?_
    refine r_i2l (pc := 22) hC dX10_cup_22 ?_
    refine r_lconst (pc := 23) hC (v := (1 : Int64)) (by decide) dX10_cup_23 ?_
    refine r_lsub (pc := 24) hC dX10_cup_24 ?_
    refine r_cT (pc := 25) (rest := []) (runS [.long (a2.toInt64), .long (-1 : Int64), .long (((t_M_many s1).toInt64) - (1 : Int64))] hC (c_M_in (kl κ) (kW κ) hC.2.2.2.2.2.2.2.2.1 (a2.toInt64) (-1 : Int64) (((t_M_many s1).toInt64) - (1 : Int64)) s1) o_X10_in k_1161 (rm_ok hR rfl) rfl (Nat.le_of_ble_eq_true rfl) dX10_cup_25) ?_
    refine r_if_ne (pc := 28) (tgt := 33) hC dX10_cup_28 (by decide) ?_ ?_
    · refine r_aload_n (pc := 33) hC rfl dX10_cup_33 ?_
      refine r_cT (pc := 34) (rest := []) (runV [] hC (c_M_many (kl κ) (kW κ) hC.2.2.2.2.2.2.2.2.1 s1) o_X10_many k_1274 (q0 := 0) (ci := 10) rfl rfl (rm_ok hR rfl) rfl (Nat.le_of_ble_eq_true rfl) dX10_cup_34) ?_
      refine r_cT (pc := 37) (rest := []) (runS [.int (t_M_many s1)] hC (c_M_isCup (kl κ) (kW κ) hC.2.2.2.2.2.2.2.2.1 (t_M_many s1) s1) o_X10_isCup k_1384 (rm_ok hR rfl) rfl (Nat.le_of_ble_eq_true rfl) dX10_cup_37) ?_
      refine r_if_ne (pc := 40) (tgt := 46) hC dX10_cup_40 (by decide) ?_ ?_
      · refine r_iload_n (pc := 46) hC rfl dX10_cup_46 ?_
        refine r_iconst (pc := 47) hC (v := (-1 : Int32)) (by decide) dX10_cup_47 ?_
        refine r_icmp_ne (pc := 48) (tgt := 70) hC dX10_cup_48 (by decide) ?_ ?_
        · refine r_aload_n (pc := 70) hC rfl dX10_cup_70 ?_
          refine r_cM (pc := 71) (rest := []) (fun s2 hf => runV [] hC (c_M_firstOrder (kl κ) (kW κ) hC.2.2.2.2.2.2.2.2.1 N s1 s2 hf) o_X10_firstOrder k_1446 (q0 := 0) (ci := 10) rfl rfl (rm_ok hR rfl) rfl (Nat.le_of_ble_eq_true rfl) dX10_cup_71) (fun s2 => ?_)
          refine r_iconst (pc := 74) hC (v := (1 : Int32)) (by decide) dX10_cup_74 ?_
          refine r_istore_n (pc := 75) hC rfl rfl dX10_cup_75 ?_
          have hK96_4 : ∀ (y3 : Int32) (s4 : Mem), wF κ wM 4 (qOM κ wM) s4 96 [some (.ref (ad κ 0)), none, some (.int a2), some (.int y3)] [] (M_cup_K96 a2 y3 s4) := by
            intro y3 s4
            unfold M_cup_K96
            refine r_iload_n (pc := 96) hC rfl dX10_cup_96 ?_
            refine r_if_eq (pc := 97) (tgt := 109) hC dX10_cup_97 (by decide) ?_ ?_
            · refine r_bipush (pc := 109) hC (v := (-3 : Int32)) (by decide) dX10_cup_109 ?_
              exact r_retOM hC rfl dX10_cup_111
            · refine r_aload_n (pc := 100) hC rfl dX10_cup_100 ?_
              refine gM_0_26 (pc := 101) hC k_1063 dX10_cup_101 ?_
              refine r_iload_n (pc := 104) hC rfl dX10_cup_104 ?_
              refine aM_20 (pc := 105) hC dX10_cup_105 ?_
              refine r_goto (pc := 106) (tgt := 111) hC dX10_cup_106 (by decide) ?_
              exact r_retOM hC rfl dX10_cup_111
          refine w_it2 (fun i5 s6 => s6) (fun i5 s6 => [some (.ref (ad κ 0)), some (.int a1), some (.int a2), some (.int i5)]) (fun self7 ih76_7 i5 s6 => ?_) N (1 : Int32) s2
          unfold M_cup_B76
          refine r_iload_n (pc := 76) hC rfl dX10_cup_76 ?_
          refine r_if_eq (pc := 77) (tgt := 96) hC dX10_cup_77 (by decide) ?_ ?_
          · exact r_wk [true, false, true, true] (hK96_4 i5 s6)
          · refine r_aload_n (pc := 80) hC rfl dX10_cup_80 ?_
            refine r_cOM (pc := 81) (rest := []) (fun r9 s8 hf => runV [] hC (c_M_wins (kl κ) (kW κ) hC.2.2.2.2.2.2.2.2.1 N s6 r9 s8 hf) o_X10_wins k_1450 (q0 := 0) (ci := 10) rfl rfl (rm_ok hR rfl) rfl (Nat.le_of_ble_eq_true rfl) dX10_cup_81) (fun r9 s8 => ?_)
            refine r_iload_n (pc := 84) hC rfl dX10_cup_84 ?_
            refine r_icmp_eq (pc := 85) (tgt := 96) hC dX10_cup_85 (by decide) ?_ ?_
            · exact r_wk [true, false, true, true] (hK96_4 i5 s8)
            · refine r_aload_n (pc := 88) hC rfl dX10_cup_88 ?_
              refine r_cOM (pc := 89) (rest := []) (fun r11 s10 hf => runV [] hC (c_M_nextOrder (kl κ) (kW κ) hC.2.2.2.2.2.2.2.2.1 N s8 r11 s10 hf) o_X10_nextOrder k_1454 (q0 := 0) (ci := 10) rfl rfl (rm_ok hR rfl) rfl (Nat.le_of_ble_eq_true rfl) dX10_cup_89) (fun r11 s10 => ?_)
              refine r_istore_n (pc := 92) hC rfl rfl dX10_cup_92 ?_
              refine r_goto (pc := 93) (tgt := 76) hC dX10_cup_93 (by decide) ?_
              exact ih76_7 r11 s10
        · refine r_aload_n (pc := 51) hC rfl dX10_cup_51 ?_
          refine r_cM (pc := 52) (rest := []) (fun s12 hf => runV [] hC (c_M_layCups (kl κ) (kW κ) hC.2.2.2.2.2.2.2.2.1 N s1 s12 hf) o_X10_layCups k_1387 (q0 := 0) (ci := 10) rfl rfl (rm_ok hR rfl) rfl (Nat.le_of_ble_eq_true rfl) dX10_cup_52) (fun s12 => ?_)
          refine r_aload_n (pc := 55) hC rfl dX10_cup_55 ?_
          refine gM_0_24 (pc := 56) hC k_1061 dX10_cup_56 ?_
          refine r_bipush (pc := 59) hC (v := (8 : Int32)) (by decide) dX10_cup_59 ?_
          refine r_aload_n (pc := 61) hC rfl dX10_cup_61 ?_
          refine r_cT (pc := 62) (rest := [.int (8 : Int32), .ref (ad κ 18)]) (runV [] hC (c_M_all (kl κ) (kW κ) hC.2.2.2.2.2.2.2.2.1 s12) o_X10_all k_1228 (q0 := 0) (ci := 10) rfl rfl (rm_ok hR rfl) rfl (Nat.le_of_ble_eq_true rfl) dX10_cup_62) ?_
          refine r_imul (pc := 65) hC dX10_cup_65 ?_
          refine r_iload_n (pc := 66) hC rfl dX10_cup_66 ?_
          refine r_iadd (pc := 67) hC dX10_cup_67 ?_
          refine aM_18 (pc := 68) hC dX10_cup_68 ?_
          exact r_retOM hC rfl dX10_cup_69
      · refine r_bipush (pc := 43) hC (v := (-3 : Int32)) (by decide) dX10_cup_43 ?_
        exact r_retOM hC rfl dX10_cup_45
    · refine r_iconst (pc := 31) hC (v := (-1 : Int32)) (by decide) dX10_cup_31 ?_
      exact r_retOM hC rfl dX10_cup_32
set_option maxRecDepth 100000 in
set_option maxHeartbeats 4000000 in
theorem c_M_cup (l : Launch) (w : Wenv) (hw : okw w wM) (N : Nat) (a1 : Int32) (a2 : Int32) (σ : Mem) (r : Int32) (τ : Mem) (hf : f_M_cup N a1 a2 σ = some (r, τ)) : Ctr l w wM yX10_cup cX10_cup 4 (some .int) 3 69 [.ref (w.2.2.1 0), .int a1, .int a2] σ (cQi w wM r τ) := mk_ctr (Q := fun κ => qOM κ wM) (lv := [some (.ref (w.2.2.1 0)), some (.int a1), some (.int a2), none]) (by decide) rfl hw (Nat.le_of_ble_eq_true rfl) rfl hf (fun κ h => by subst h; rfl) (fun κ hl h hR hC => by
    subst h
    exact w_M_cup hR hC N a1 a2 σ)
-- DuelRoundModel.begin(I)V (0, None) kind M
def M_begin_K30 (s2 : Mem) : Option Mem :=
  bnd (sI s2 3 0 (0 : Int32)) fun s3 =>
  bnd (sI s3 5 (0 : Int32).toNatClampNeg (vp_nar .boolean (0 : Int32))) fun s4 =>
  bnd (sI s4 5 (1 : Int32).toNatClampNeg (vp_nar .boolean (0 : Int32))) fun s5 =>
  some s5
def M_begin_B9 (self8 : Int32 → Mem → Option Mem) (i6 : Int32) (s7 : Mem) : Option Mem :=
  if (8 : Int32) ≤ i6 then
  (M_begin_K30 s7)
  else
  (gd (inb ((1 : Int32) + i6) 9) (bnd (sI s7 1 ((1 : Int32) + i6).toNatClampNeg (0 : Int32)) fun s9 =>
  self8 (i6 + (1 : Int32)) s9))
def f_M_begin (N : Nat) (a1 : Int32) (σ : Mem) : Option Mem :=
  bnd (sI σ 1 (0 : Int32).toNatClampNeg a1) fun s1 =>
  it2 (M_begin_B9) N (0 : Int32) s1
set_option maxRecDepth 100000 in
set_option maxHeartbeats 4000000 in
theorem w_M_begin {κ : Ctx} (hR : kR κ = { frames := 0, cells := 0, slots := 0, locals := 0 }) (hC : ok κ wM cX10_begin 3 RX10 none) (N : Nat) (a1 : Int32) (σ : Mem) : wF κ wM 3 (qM κ wM) σ 0 [some (.ref (ad κ 0)), some (.int a1), none] [] (f_M_begin N a1 σ) := by
  unfold f_M_begin
  refine r_aload_n (pc := 0) hC rfl dX10_begin_0 ?_
  refine gM_0_1 (pc := 1) hC k_1038 dX10_begin_1 ?_
  refine r_iconst (pc := 4) hC (v := (0 : Int32)) (by decide) dX10_begin_4 ?_
  refine r_iload_n (pc := 5) hC rfl dX10_begin_5 ?_
  refine r_ung (b := inb (0 : Int32) 9) (by decide) ?_
  refine bM_1 (pc := 6) hC dX10_begin_6 ?_
  refine r_letm (fun s1 => ?_)
  refine r_iconst (pc := 7) hC (v := (0 : Int32)) (by decide) dX10_begin_7 ?_
  refine r_istore_n (pc := 8) hC rfl rfl dX10_begin_8 ?_
  have hK30_5 : ∀ (s2 : Mem), wF κ wM 3 (qM κ wM) s2 30 [some (.ref (ad κ 0)), none, none] [] (M_begin_K30 s2) := by
    intro s2
    unfold M_begin_K30
    refine r_aload_n (pc := 30) hC rfl dX10_begin_30 ?_
    refine r_iconst (pc := 31) hC (v := (0 : Int32)) (by decide) dX10_begin_31 ?_
    refine pM_0_3 (pc := 32) hC k_1040 dX10_begin_32 ?_
    refine r_letm (fun s3 => ?_)
    refine r_aload_n (pc := 35) hC rfl dX10_begin_35 ?_
    refine gM_0_5 (pc := 36) hC k_1042 dX10_begin_36 ?_
    refine r_iconst (pc := 39) hC (v := (0 : Int32)) (by decide) dX10_begin_39 ?_
    refine r_iconst (pc := 40) hC (v := (0 : Int32)) (by decide) dX10_begin_40 ?_
    refine r_ung (b := inb (0 : Int32) 2) (by decide) ?_
    refine bM_4 (pc := 41) hC dX10_begin_41 ?_
    refine r_letm (fun s4 => ?_)
    refine r_aload_n (pc := 42) hC rfl dX10_begin_42 ?_
    refine gM_0_5 (pc := 43) hC k_1042 dX10_begin_43 ?_
    refine r_iconst (pc := 46) hC (v := (1 : Int32)) (by decide) dX10_begin_46 ?_
    refine r_iconst (pc := 47) hC (v := (0 : Int32)) (by decide) dX10_begin_47 ?_
    refine r_ung (b := inb (1 : Int32) 2) (by decide) ?_
    refine bM_4 (pc := 48) hC dX10_begin_48 ?_
    refine r_letm (fun s5 => ?_)
    exact r_retM hC dX10_begin_49
  refine r_wk [true, false, true] (w_it2 (fun i6 s7 => s7) (fun i6 s7 => [some (.ref (ad κ 0)), none, some (.int i6)]) (fun self8 ih9_8 i6 s7 => ?_) N (0 : Int32) s1)
  unfold M_begin_B9
  refine r_iload_n (pc := 9) hC rfl dX10_begin_9 ?_
  refine r_bipush (pc := 10) hC (v := (8 : Int32)) (by decide) dX10_begin_10 ?_
  refine r_icmp_ge (pc := 12) (tgt := 30) hC dX10_begin_12 (by decide) ?_ ?_
  · exact r_wk [true, false, false] (hK30_5 s7)
  · refine r_aload_n (pc := 15) hC rfl dX10_begin_15 ?_
    refine gM_0_1 (pc := 16) hC k_1038 dX10_begin_16 ?_
    refine r_iconst (pc := 19) hC (v := (1 : Int32)) (by decide) dX10_begin_19 ?_
    refine r_iload_n (pc := 20) hC rfl dX10_begin_20 ?_
    refine r_iadd (pc := 21) hC dX10_begin_21 ?_
    refine r_iconst (pc := 22) hC (v := (0 : Int32)) (by decide) dX10_begin_22 ?_
    refine bM_1 (pc := 23) hC dX10_begin_23 ?_
    refine r_letm (fun s9 => ?_)
    refine r_iinc (pc := 24) hC (v := (1 : Int32)) rfl (by decide) rfl rfl dX10_begin_24 ?_
    refine r_goto (pc := 27) (tgt := 9) hC dX10_begin_27 (by decide) ?_
    exact ih9_8 (i6 + (1 : Int32)) s9
set_option maxRecDepth 100000 in
set_option maxHeartbeats 4000000 in
theorem c_M_begin (l : Launch) (w : Wenv) (hw : okw w wM) (N : Nat) (a1 : Int32) (σ : Mem) (τ : Mem) (hf : f_M_begin N a1 σ = some τ) : Ctr l w wM yX10_begin cX10_begin 3 none 0 0 [.ref (w.2.2.1 0), .int a1] σ (cQv w wM τ) := mk_ctr (Q := fun κ => qM κ wM) (lv := [some (.ref (w.2.2.1 0)), some (.int a1), none]) (by decide) rfl hw (Nat.le_of_ble_eq_true rfl) rfl hf (fun κ h => by subst h; rfl) (fun κ hl h hR hC => by
    subst h
    exact w_M_begin hR hC N a1 σ)
-- DuelRoundModel.drawn(II)I (0, None, None) kind OM
def M_drawn_B53 (a1 : Int32) (i4 : Int32) (self6 : Int32 → Int32 → Mem → Option (Int32 × Mem)) (self11 : Int32 → Int32 → Mem → Option (Int32 × Mem)) (i8 : Int32) (i9 : Int32) (s10 : Mem) : Option (Int32 × Mem) :=
  if a1 ≤ i9 then
  (self6 i8 (i4 + (1 : Int32)) s10)
  else
  (bnd ((((1103 : Int32) * i8) + (12345 : Int32)) - (((1103 : Int32) * i8) + (12345 : Int32)) / (1000003 : Int32) * (1000003 : Int32)) fun x12 =>
  if (x12 - x12 / (2 : Int32) * (2 : Int32)) = (0 : Int32) then
  (gd (inb ((1 : Int32) + i4) 9) (gd (inb ((1 : Int32) + i4) 9) (bnd (sI s10 1 ((1 : Int32) + i4).toNatClampNeg ((gI s10 1 ((1 : Int32) + i4).toNatClampNeg) ||| ((1 : Int32) <<< (i9 &&& 31)))) fun s14 =>
  self11 x12 (i9 + (1 : Int32)) s14)))
  else
  (gd (inb ((1 : Int32) + i9) 9) (gd (inb ((1 : Int32) + i9) 9) (bnd (sI s10 1 ((1 : Int32) + i9).toNatClampNeg ((gI s10 1 ((1 : Int32) + i9).toNatClampNeg) ||| ((1 : Int32) <<< (i4 &&& 31)))) fun s13 =>
  self11 x12 (i9 + (1 : Int32)) s13))))
def M_drawn_B41 (N : Nat) (a1 : Int32) (self6 : Int32 → Int32 → Mem → Option (Int32 × Mem)) (i3 : Int32) (i4 : Int32) (s5 : Mem) : Option (Int32 × Mem) :=
  if a1 ≤ i4 then
  (some (a1, s5))
  else
  (bnd (i4 + (1 : Int32)) fun x7 =>
  it3 (M_drawn_B53 a1 i4 self6) N i3 x7 s5)
def f_M_drawn (N : Nat) (a1 : Int32) (a2 : Int32) (σ : Mem) : Option (Int32 × Mem) :=
  bnd (sI σ 0 0 (0 : Int32)) fun s1 =>
  if (t_M_in (a1.toInt64) (1 : Int64) (8 : Int64)) = (0 : Int32) then
  (some ((-1 : Int32), s1))
  else
  (if (t_M_in (a2.toInt64) (0 : Int64) (999999 : Int64)) = (0 : Int32) then
  (some ((-1 : Int32), s1))
  else
  (ob (f_M_begin N a1 s1) fun s2 =>
  it3 (M_drawn_B41 N a1) N a2 (0 : Int32) s2))
set_option maxRecDepth 100000 in
set_option maxHeartbeats 4000000 in
theorem w_M_drawn {κ : Ctx} (hR : kR κ = { frames := 1, cells := 0, slots := 0, locals := 25 }) (hC : ok κ wM cX10_drawn 6 RX10 (some .int)) (N : Nat) (a1 : Int32) (a2 : Int32) (σ : Mem) : wF κ wM 6 (qOM κ wM) σ 0 [some (.ref (ad κ 0)), some (.int a1), some (.int a2), none, none, none] [] (f_M_drawn N a1 a2 σ) := by
  unfold f_M_drawn
  refine r_aload_n (pc := 0) hC rfl dX10_drawn_0 ?_
  refine r_iconst (pc := 1) hC (v := (0 : Int32)) (by decide) dX10_drawn_1 ?_
  refine pM_0_0 (pc := 2) hC k_1037 dX10_drawn_2 ?_
  refine r_letm (fun s1 => ?_)
  refine r_iload_n (pc := 5) hC rfl dX10_drawn_5 ?_
  refine r_i2l (pc := 6) hC dX10_drawn_6 ?_
  refine r_lconst (pc := 7) hC (v := (1 : Int64)) (by decide) dX10_drawn_7 ?_
  refine r_ldc2 (pc := 8) hC (v := (8 : Int64)) k_1213 dX10_drawn_8 ?_
  refine r_cT (pc := 11) (rest := []) (runS [.long (a1.toInt64), .long (1 : Int64), .long (8 : Int64)] hC (c_M_in (kl κ) (kW κ) hC.2.2.2.2.2.2.2.2.1 (a1.toInt64) (1 : Int64) (8 : Int64) s1) o_X10_in k_1161 (rm_ok hR rfl) rfl (Nat.le_of_ble_eq_true rfl) dX10_drawn_11) ?_
  refine r_if_eq (pc := 14) (tgt := 29) hC dX10_drawn_14 (by decide) ?_ ?_
  · refine r_iconst (pc := 29) hC (v := (-1 : Int32)) (by decide) dX10_drawn_29 ?_
    exact r_retOM hC rfl dX10_drawn_30
  · refine r_iload_n (pc := 17) hC rfl dX10_drawn_17 ?_
    refine r_i2l (pc := 18) hC dX10_drawn_18 ?_
    refine r_lconst (pc := 19) hC (v := (0 : Int64)) (by decide) dX10_drawn_19 ?_
    refine r_ldc2 (pc := 20) hC (v := (999999 : Int64)) k_1214 dX10_drawn_20 ?_
    refine r_cT (pc := 23) (rest := []) (runS [.long (a2.toInt64), .long (0 : Int64), .long (999999 : Int64)] hC (c_M_in (kl κ) (kW κ) hC.2.2.2.2.2.2.2.2.1 (a2.toInt64) (0 : Int64) (999999 : Int64) s1) o_X10_in k_1161 (rm_ok hR rfl) rfl (Nat.le_of_ble_eq_true rfl) dX10_drawn_23) ?_
    refine r_if_ne (pc := 26) (tgt := 31) hC dX10_drawn_26 (by decide) ?_ ?_
    · refine r_aload_n (pc := 31) hC rfl dX10_drawn_31 ?_
      refine r_iload_n (pc := 32) hC rfl dX10_drawn_32 ?_
      refine r_cM (pc := 33) (rest := []) (fun s2 hf => runV [.int a1] hC (c_M_begin (kl κ) (kW κ) hC.2.2.2.2.2.2.2.2.1 N a1 s1 s2 hf) o_X10_begin k_1205 (q0 := 0) (ci := 10) rfl rfl (rm_ok hR rfl) rfl (Nat.le_of_ble_eq_true rfl) dX10_drawn_33) (fun s2 => ?_)
      refine r_iload_n (pc := 36) hC rfl dX10_drawn_36 ?_
      refine r_istore_n (pc := 37) hC rfl rfl dX10_drawn_37 ?_
      refine r_iconst (pc := 38) hC (v := (0 : Int32)) (by decide) dX10_drawn_38 ?_
      refine r_istore (pc := 39) hC rfl rfl dX10_drawn_39 ?_
      refine r_wk [true, true, false, true, true, false] (w_it3 (fun i3 i4 s5 => s5) (fun i3 i4 s5 => [some (.ref (ad κ 0)), some (.int a1), none, some (.int i3), some (.int i4), none]) (fun self6 ih41_6 i3 i4 s5 => ?_) N a2 (0 : Int32) s2)
      unfold M_drawn_B41
      refine r_iload (pc := 41) hC rfl dX10_drawn_41 ?_
      refine r_iload_n (pc := 43) hC rfl dX10_drawn_43 ?_
      refine r_icmp_ge (pc := 44) (tgt := 125) hC dX10_drawn_44 (by decide) ?_ ?_
      · refine r_iload_n (pc := 125) hC rfl dX10_drawn_125 ?_
        exact r_retOM hC rfl dX10_drawn_126
      · refine r_iload (pc := 47) hC rfl dX10_drawn_47 ?_
        refine r_iconst (pc := 49) hC (v := (1 : Int32)) (by decide) dX10_drawn_49 ?_
        refine r_iadd (pc := 50) hC dX10_drawn_50 ?_
        refine r_let (fun x7 => ?_)
        refine r_istore (pc := 51) hC rfl rfl dX10_drawn_51 ?_
        refine w_it3 (fun i8 i9 s10 => s10) (fun i8 i9 s10 => [some (.ref (ad κ 0)), some (.int a1), none, some (.int i8), some (.int i4), some (.int i9)]) (fun self11 ih53_11 i8 i9 s10 => ?_) N i3 x7 s5
        unfold M_drawn_B53
        refine r_iload (pc := 53) hC rfl dX10_drawn_53 ?_
        refine r_iload_n (pc := 55) hC rfl dX10_drawn_55 ?_
        refine r_icmp_ge (pc := 56) (tgt := 119) hC dX10_drawn_56 (by decide) ?_ ?_
        · refine r_iinc (pc := 119) hC (v := (1 : Int32)) rfl (by decide) rfl rfl dX10_drawn_119 ?_
          refine r_goto (pc := 122) (tgt := 41) hC dX10_drawn_122 (by decide) ?_
          exact r_wk [true, true, false, true, true, false] (ih41_6 i8 (i4 + (1 : Int32)) s10)
        · refine r_sipush (pc := 59) hC (v := (1103 : Int32)) (by decide) dX10_drawn_59 ?_
          refine r_iload_n (pc := 62) hC rfl dX10_drawn_62 ?_
          refine r_imul (pc := 63) hC dX10_drawn_63 ?_
          refine r_sipush (pc := 64) hC (v := (12345 : Int32)) (by decide) dX10_drawn_64 ?_
          refine r_iadd (pc := 67) hC dX10_drawn_67 ?_
          refine r_ldc (pc := 68) hC (v := (1000003 : Int32)) k_1215 dX10_drawn_68 ?_
          refine r_irem (pc := 70) hC (by decide) dX10_drawn_70 ?_
          refine r_let (fun x12 => ?_)
          refine r_istore_n (pc := 71) hC rfl rfl dX10_drawn_71 ?_
          refine r_iload_n (pc := 72) hC rfl dX10_drawn_72 ?_
          refine r_iconst (pc := 73) hC (v := (2 : Int32)) (by decide) dX10_drawn_73 ?_
          refine r_irem (pc := 74) hC (by decide) dX10_drawn_74 ?_
          refine r_if_ne (pc := 75) (tgt := 97) hC dX10_drawn_75 (by decide) ?_ ?_
          · refine r_aload_n (pc := 97) hC rfl dX10_drawn_97 ?_
            refine gM_0_1 (pc := 98) hC k_1038 dX10_drawn_98 ?_
            refine r_iconst (pc := 101) hC (v := (1 : Int32)) (by decide) dX10_drawn_101 ?_
            refine r_iload (pc := 102) hC rfl dX10_drawn_102 ?_
            refine r_iadd (pc := 104) hC dX10_drawn_104 ?_
            refine r_dup2 (pc := 105) hC rfl rfl dX10_drawn_105 ?_
            refine aM_1 (pc := 106) hC dX10_drawn_106 ?_
            refine r_iconst (pc := 107) hC (v := (1 : Int32)) (by decide) dX10_drawn_107 ?_
            refine r_iload (pc := 108) hC rfl dX10_drawn_108 ?_
            refine r_ishl (pc := 110) hC dX10_drawn_110 ?_
            refine r_ior (pc := 111) hC dX10_drawn_111 ?_
            refine bM_1 (pc := 112) hC dX10_drawn_112 ?_
            refine r_letm (fun s13 => ?_)
            refine r_iinc (pc := 113) hC (v := (1 : Int32)) rfl (by decide) rfl rfl dX10_drawn_113 ?_
            refine r_goto (pc := 116) (tgt := 53) hC dX10_drawn_116 (by decide) ?_
            exact ih53_11 x12 (i9 + (1 : Int32)) s13
          · refine r_aload_n (pc := 78) hC rfl dX10_drawn_78 ?_
            refine gM_0_1 (pc := 79) hC k_1038 dX10_drawn_79 ?_
            refine r_iconst (pc := 82) hC (v := (1 : Int32)) (by decide) dX10_drawn_82 ?_
            refine r_iload (pc := 83) hC rfl dX10_drawn_83 ?_
            refine r_iadd (pc := 85) hC dX10_drawn_85 ?_
            refine r_dup2 (pc := 86) hC rfl rfl dX10_drawn_86 ?_
            refine aM_1 (pc := 87) hC dX10_drawn_87 ?_
            refine r_iconst (pc := 88) hC (v := (1 : Int32)) (by decide) dX10_drawn_88 ?_
            refine r_iload (pc := 89) hC rfl dX10_drawn_89 ?_
            refine r_ishl (pc := 91) hC dX10_drawn_91 ?_
            refine r_ior (pc := 92) hC dX10_drawn_92 ?_
            refine bM_1 (pc := 93) hC dX10_drawn_93 ?_
            refine r_letm (fun s14 => ?_)
            refine r_goto (pc := 94) (tgt := 113) hC dX10_drawn_94 (by decide) ?_
            refine r_iinc (pc := 113) hC (v := (1 : Int32)) rfl (by decide) rfl rfl dX10_drawn_113 ?_
            refine r_goto (pc := 116) (tgt := 53) hC dX10_drawn_116 (by decide) ?_
            exact ih53_11 x12 (i9 + (1 : Int32)) s14
    · refine r_iconst (pc := 29) hC (v := (-1 : Int32)) (by decide) dX10_drawn_29 ?_
      exact r_retOM hC rfl dX10_drawn_30
set_option maxRecDepth 100000 in
set_option maxHeartbeats 4000000 in
theorem c_M_drawn (l : Launch) (w : Wenv) (hw : okw w wM) (N : Nat) (a1 : Int32) (a2 : Int32) (σ : Mem) (r : Int32) (τ : Mem) (hf : f_M_drawn N a1 a2 σ = some (r, τ)) : Ctr l w wM yX10_drawn cX10_drawn 6 (some .int) 1 25 [.ref (w.2.2.1 0), .int a1, .int a2] σ (cQi w wM r τ) := mk_ctr (Q := fun κ => qOM κ wM) (lv := [some (.ref (w.2.2.1 0)), some (.int a1), some (.int a2), none, none, none]) (by decide) rfl hw (Nat.le_of_ble_eq_true rfl) rfl hf (fun κ h => by subst h; rfl) (fun κ hl h hR hC => by
    subst h
    exact w_M_drawn hR hC N a1 a2 σ)
-- DuelRoundModel.without(II)I (None, None) kind T
def t_M_without (a1 : Int32) (a2 : Int32) : Int32 :=
  (bnd (a1 &&& (((1 : Int32) <<< (a2 &&& 31)) - (1 : Int32))) fun x1 => (x1 ||| ((a1 >>> ((a2 + (1 : Int32)) &&& 31)) <<< (a2 &&& 31))))
def f_M_without (a1 : Int32) (a2 : Int32) : Option Int32 :=
  bnd (a1 &&& (((1 : Int32) <<< (a2 &&& 31)) - (1 : Int32))) fun x1 =>
  some (x1 ||| ((a1 >>> ((a2 + (1 : Int32)) &&& 31)) <<< (a2 &&& 31)))
theorem e_M_without (a1 : Int32) (a2 : Int32) : f_M_without a1 a2 = some (t_M_without a1 a2) := by
  unfold f_M_without t_M_without
  try first | rfl | (repeat' split) <;> rfl
set_option maxRecDepth 100000 in
set_option maxHeartbeats 4000000 in
theorem w_M_without {κ : Ctx} (hR : kR κ = { frames := 0, cells := 0, slots := 0, locals := 0 }) (hC : ok κ wM cX10_without 3 RX10 (some .int)) (a1 : Int32) (a2 : Int32) (σ : Mem) : wF κ wM 3 (qO κ wM σ) σ 0 [some (.int a1), some (.int a2), none] [] (f_M_without a1 a2) := by
  unfold f_M_without
  refine r_iload_n (pc := 0) hC rfl dX10_without_0 ?_
  refine r_iconst (pc := 1) hC (v := (1 : Int32)) (by decide) dX10_without_1 ?_
  refine r_iload_n (pc := 2) hC rfl dX10_without_2 ?_
  refine r_ishl (pc := 3) hC dX10_without_3 ?_
  refine r_iconst (pc := 4) hC (v := (1 : Int32)) (by decide) dX10_without_4 ?_
  refine r_isub (pc := 5) hC dX10_without_5 ?_
  refine r_iand (pc := 6) hC dX10_without_6 ?_
  refine r_let (fun x1 => ?_)
  refine r_istore_n (pc := 7) hC rfl rfl dX10_without_7 ?_
  refine r_iload_n (pc := 8) hC rfl dX10_without_8 ?_
  refine r_iload_n (pc := 9) hC rfl dX10_without_9 ?_
  refine r_iload_n (pc := 10) hC rfl dX10_without_10 ?_
  refine r_iconst (pc := 11) hC (v := (1 : Int32)) (by decide) dX10_without_11 ?_
  refine r_iadd (pc := 12) hC dX10_without_12 ?_
  refine r_ishr (pc := 13) hC dX10_without_13 ?_
  refine r_iload_n (pc := 14) hC rfl dX10_without_14 ?_
  refine r_ishl (pc := 15) hC dX10_without_15 ?_
  refine r_ior (pc := 16) hC dX10_without_16 ?_
  exact r_retO hC rfl dX10_without_17
set_option maxRecDepth 100000 in
set_option maxHeartbeats 4000000 in
theorem c_M_without (l : Launch) (w : Wenv) (hw : okw w wM) (a1 : Int32) (a2 : Int32) (σ : Mem) : Ctr l w wM yX10_without cX10_without 3 (some .int) 0 0 [.int a1, .int a2] σ (cQi w wM (t_M_without a1 a2) σ) := mk_ctr (Q := fun κ => qO κ wM σ) (lv := [some (.int a1), some (.int a2), none]) (by decide) rfl hw (Nat.le_of_ble_eq_true rfl) rfl (e_M_without a1 a2) (fun κ h => by subst h; rfl) (fun κ hl h hR hC => by
    subst h
    exact w_M_without hR hC a1 a2 σ)
-- DuelRoundModel.drop(I)I (0, None) kind OM
def M_drop_K111 (x3 : Int32) (s6 : Mem) : Option (Int32 × Mem) :=
  bnd (sI s6 1 (0 : Int32).toNatClampNeg x3) fun s7 =>
  some (x3, s7)
def M_drop_B80 (a1 : Int32) (x3 : Int32) (self10 : Int32 → Mem → Option (Int32 × Mem)) (i8 : Int32) (s9 : Mem) : Option (Int32 × Mem) :=
  if x3 ≤ i8 then
  (M_drop_K111 x3 s9)
  else
  (gd (inb ((1 : Int32) + i8) 9) (gd (inb ((1 : Int32) + i8) 9) (bnd (sI s9 1 ((1 : Int32) + i8).toNatClampNeg (t_M_without (gI s9 1 ((1 : Int32) + i8).toNatClampNeg) a1)) fun s11 =>
  self10 (i8 + (1 : Int32)) s11)))
def M_drop_K69 (N : Nat) (a1 : Int32) (x3 : Int32) (s4 : Mem) : Option (Int32 × Mem) :=
  gd (inb ((1 : Int32) + x3) 9) (bnd (sI s4 1 ((1 : Int32) + x3).toNatClampNeg (0 : Int32)) fun s5 =>
  it2 (M_drop_B80 a1 x3) N (0 : Int32) s5)
def M_drop_B40 (N : Nat) (a1 : Int32) (x3 : Int32) (self14 : Int32 → Mem → Option (Int32 × Mem)) (i12 : Int32) (s13 : Mem) : Option (Int32 × Mem) :=
  if x3 ≤ i12 then
  (M_drop_K69 N a1 x3 s13)
  else
  (gd (inb (((1 : Int32) + i12) + (1 : Int32)) 9) (gd (inb ((1 : Int32) + i12) 9) (bnd (sI s13 1 ((1 : Int32) + i12).toNatClampNeg (gI s13 1 (((1 : Int32) + i12) + (1 : Int32)).toNatClampNeg)) fun s15 =>
  self14 (i12 + (1 : Int32)) s15)))
def f_M_drop (N : Nat) (a1 : Int32) (σ : Mem) : Option (Int32 × Mem) :=
  bnd (sI σ 0 0 (0 : Int32)) fun s1 =>
  if (t_M_isPlayer a1 s1) = (0 : Int32) then
  (some ((-2 : Int32), s1))
  else
  (if (t_M_many s1) = (1 : Int32) then
  (some ((-3 : Int32), s1))
  else
  (ob (f_M_remember N s1) fun s2 =>
  bnd ((t_M_many s2) - (1 : Int32)) fun x3 =>
  it2 (M_drop_B40 N a1 x3) N a1 s2))
set_option maxRecDepth 100000 in
set_option maxHeartbeats 4000000 in
theorem w_M_drop {κ : Ctx} (hR : kR κ = { frames := 2, cells := 0, slots := 0, locals := 46 }) (hC : ok κ wM cX10_drop 4 RX10 (some .int)) (N : Nat) (a1 : Int32) (σ : Mem) : wF κ wM 4 (qOM κ wM) σ 0 [some (.ref (ad κ 0)), some (.int a1), none, none] [] (f_M_drop N a1 σ) := by
  unfold f_M_drop
  refine r_aload_n (pc := 0) hC rfl dX10_drop_0 ?_
  refine r_iconst (pc := 1) hC (v := (0 : Int32)) (by decide) dX10_drop_1 ?_
  refine pM_0_0 (pc := 2) hC k_1037 dX10_drop_2 ?_
  refine r_letm (fun s1 => ?_)
  refine r_aload_n (pc := 5) hC rfl dX10_drop_5 ?_
  refine r_iload_n (pc := 6) hC rfl dX10_drop_6 ?_
  refine r_cT (pc := 7) (rest := []) (runV [.int a1] hC (c_M_isPlayer (kl κ) (kW κ) hC.2.2.2.2.2.2.2.2.1 a1 s1) o_X10_isPlayer k_1220 (q0 := 0) (ci := 10) rfl rfl (rm_ok hR rfl) rfl (Nat.le_of_ble_eq_true rfl) dX10_drop_7) ?_
  refine r_if_ne (pc := 10) (tgt := 16) hC dX10_drop_10 (by decide) ?_ ?_
  · refine r_aload_n (pc := 16) hC rfl dX10_drop_16 ?_
    refine r_cT (pc := 17) (rest := []) (runV [] hC (c_M_many (kl κ) (kW κ) hC.2.2.2.2.2.2.2.2.1 s1) o_X10_many k_1274 (q0 := 0) (ci := 10) rfl rfl (rm_ok hR rfl) rfl (Nat.le_of_ble_eq_true rfl) dX10_drop_17) ?_
    refine r_iconst (pc := 20) hC (v := (1 : Int32)) (by decide) dX10_drop_20 ?_
    refine r_icmp_ne (pc := 21) (tgt := 27) hC dX10_drop_21 (by decide) ?_ ?_
    · refine r_aload_n (pc := 27) hC rfl dX10_drop_27 ?_
      refine r_cM (pc := 28) (rest := []) (fun s2 hf => runV [] hC (c_M_remember (kl κ) (kW κ) hC.2.2.2.2.2.2.2.2.1 N s1 s2 hf) o_X10_remember k_1262 (q0 := 0) (ci := 10) rfl rfl (rm_ok hR rfl) rfl (Nat.le_of_ble_eq_true rfl) dX10_drop_28) (fun s2 => ?_)
      refine r_aload_n (pc := 31) hC rfl dX10_drop_31 ?_
      refine r_cT (pc := 32) (rest := []) (runV [] hC (c_M_many (kl κ) (kW κ) hC.2.2.2.2.2.2.2.2.1 s2) o_X10_many k_1274 (q0 := 0) (ci := 10) rfl rfl (rm_ok hR rfl) rfl (Nat.le_of_ble_eq_true rfl) dX10_drop_32) ?_
      refine r_iconst (pc := 35) hC (v := (1 : Int32)) (by decide) dX10_drop_35 ?_
      refine r_isub (pc := 36) hC dX10_drop_36 ?_
      refine r_let (fun x3 => ?_)
      refine r_istore_n (pc := 37) hC rfl rfl dX10_drop_37 ?_
      refine r_iload_n (pc := 38) hC rfl dX10_drop_38 ?_
      refine r_istore_n (pc := 39) hC rfl rfl dX10_drop_39 ?_
      have hK69_11 : ∀ (s4 : Mem), wF κ wM 4 (qOM κ wM) s4 69 [some (.ref (ad κ 0)), some (.int a1), some (.int x3), none] [] (M_drop_K69 N a1 x3 s4) := by
        intro s4
        unfold M_drop_K69
        refine r_aload_n (pc := 69) hC rfl dX10_drop_69 ?_
        refine gM_0_1 (pc := 70) hC k_1038 dX10_drop_70 ?_
        refine r_iconst (pc := 73) hC (v := (1 : Int32)) (by decide) dX10_drop_73 ?_
        refine r_iload_n (pc := 74) hC rfl dX10_drop_74 ?_
        refine r_iadd (pc := 75) hC dX10_drop_75 ?_
        refine r_iconst (pc := 76) hC (v := (0 : Int32)) (by decide) dX10_drop_76 ?_
        refine bM_1 (pc := 77) hC dX10_drop_77 ?_
        refine r_letm (fun s5 => ?_)
        refine r_iconst (pc := 78) hC (v := (0 : Int32)) (by decide) dX10_drop_78 ?_
        refine r_istore_n (pc := 79) hC rfl rfl dX10_drop_79 ?_
        have hK111_7 : ∀ (s6 : Mem), wF κ wM 4 (qOM κ wM) s6 111 [some (.ref (ad κ 0)), none, some (.int x3), none] [] (M_drop_K111 x3 s6) := by
          intro s6
          unfold M_drop_K111
          refine r_aload_n (pc := 111) hC rfl dX10_drop_111 ?_
          refine gM_0_1 (pc := 112) hC k_1038 dX10_drop_112 ?_
          refine r_iconst (pc := 115) hC (v := (0 : Int32)) (by decide) dX10_drop_115 ?_
          refine r_iload_n (pc := 116) hC rfl dX10_drop_116 ?_
          refine r_ung (b := inb (0 : Int32) 9) (by decide) ?_
          refine bM_1 (pc := 117) hC dX10_drop_117 ?_
          refine r_letm (fun s7 => ?_)
          refine r_iload_n (pc := 118) hC rfl dX10_drop_118 ?_
          exact r_retOM hC rfl dX10_drop_119
        refine w_it2 (fun i8 s9 => s9) (fun i8 s9 => [some (.ref (ad κ 0)), some (.int a1), some (.int x3), some (.int i8)]) (fun self10 ih80_10 i8 s9 => ?_) N (0 : Int32) s5
        unfold M_drop_B80
        refine r_iload_n (pc := 80) hC rfl dX10_drop_80 ?_
        refine r_iload_n (pc := 81) hC rfl dX10_drop_81 ?_
        refine r_icmp_ge (pc := 82) (tgt := 111) hC dX10_drop_82 (by decide) ?_ ?_
        · exact r_wk [true, false, true, false] (hK111_7 s9)
        · refine r_aload_n (pc := 85) hC rfl dX10_drop_85 ?_
          refine gM_0_1 (pc := 86) hC k_1038 dX10_drop_86 ?_
          refine r_iconst (pc := 89) hC (v := (1 : Int32)) (by decide) dX10_drop_89 ?_
          refine r_iload_n (pc := 90) hC rfl dX10_drop_90 ?_
          refine r_iadd (pc := 91) hC dX10_drop_91 ?_
          refine r_aload_n (pc := 92) hC rfl dX10_drop_92 ?_
          refine gM_0_1 (pc := 93) hC k_1038 dX10_drop_93 ?_
          refine r_iconst (pc := 96) hC (v := (1 : Int32)) (by decide) dX10_drop_96 ?_
          refine r_iload_n (pc := 97) hC rfl dX10_drop_97 ?_
          refine r_iadd (pc := 98) hC dX10_drop_98 ?_
          refine aM_1 (pc := 99) hC dX10_drop_99 ?_
          refine r_iload_n (pc := 100) hC rfl dX10_drop_100 ?_
          refine r_cT (pc := 101) (rest := [.int ((1 : Int32) + i8), .ref (ad κ 1)]) (runS [.int (gI s9 1 ((1 : Int32) + i8).toNatClampNeg), .int a1] hC (c_M_without (kl κ) (kW κ) hC.2.2.2.2.2.2.2.2.1 (gI s9 1 ((1 : Int32) + i8).toNatClampNeg) a1 s9) o_X10_without k_1282 (rm_ok hR rfl) rfl (Nat.le_of_ble_eq_true rfl) dX10_drop_101) ?_
          refine bM_1 (pc := 104) hC dX10_drop_104 ?_
          refine r_letm (fun s11 => ?_)
          refine r_iinc (pc := 105) hC (v := (1 : Int32)) rfl (by decide) rfl rfl dX10_drop_105 ?_
          refine r_goto (pc := 108) (tgt := 80) hC dX10_drop_108 (by decide) ?_
          exact ih80_10 (i8 + (1 : Int32)) s11
      refine w_it2 (fun i12 s13 => s13) (fun i12 s13 => [some (.ref (ad κ 0)), some (.int a1), some (.int x3), some (.int i12)]) (fun self14 ih40_14 i12 s13 => ?_) N a1 s2
      unfold M_drop_B40
      refine r_iload_n (pc := 40) hC rfl dX10_drop_40 ?_
      refine r_iload_n (pc := 41) hC rfl dX10_drop_41 ?_
      refine r_icmp_ge (pc := 42) (tgt := 69) hC dX10_drop_42 (by decide) ?_ ?_
      · exact r_wk [true, true, true, false] (hK69_11 s13)
      · refine r_aload_n (pc := 45) hC rfl dX10_drop_45 ?_
        refine gM_0_1 (pc := 46) hC k_1038 dX10_drop_46 ?_
        refine r_iconst (pc := 49) hC (v := (1 : Int32)) (by decide) dX10_drop_49 ?_
        refine r_iload_n (pc := 50) hC rfl dX10_drop_50 ?_
        refine r_iadd (pc := 51) hC dX10_drop_51 ?_
        refine r_aload_n (pc := 52) hC rfl dX10_drop_52 ?_
        refine gM_0_1 (pc := 53) hC k_1038 dX10_drop_53 ?_
        refine r_iconst (pc := 56) hC (v := (1 : Int32)) (by decide) dX10_drop_56 ?_
        refine r_iload_n (pc := 57) hC rfl dX10_drop_57 ?_
        refine r_iadd (pc := 58) hC dX10_drop_58 ?_
        refine r_iconst (pc := 59) hC (v := (1 : Int32)) (by decide) dX10_drop_59 ?_
        refine r_iadd (pc := 60) hC dX10_drop_60 ?_
        refine aM_1 (pc := 61) hC dX10_drop_61 ?_
        refine bM_1 (pc := 62) hC dX10_drop_62 ?_
        refine r_letm (fun s15 => ?_)
        refine r_iinc (pc := 63) hC (v := (1 : Int32)) rfl (by decide) rfl rfl dX10_drop_63 ?_
        refine r_goto (pc := 66) (tgt := 40) hC dX10_drop_66 (by decide) ?_
        exact ih40_14 (i12 + (1 : Int32)) s15
    · refine r_bipush (pc := 24) hC (v := (-3 : Int32)) (by decide) dX10_drop_24 ?_
      exact r_retOM hC rfl dX10_drop_26
  · refine r_bipush (pc := 13) hC (v := (-2 : Int32)) (by decide) dX10_drop_13 ?_
    exact r_retOM hC rfl dX10_drop_15
set_option maxRecDepth 100000 in
set_option maxHeartbeats 4000000 in
theorem c_M_drop (l : Launch) (w : Wenv) (hw : okw w wM) (N : Nat) (a1 : Int32) (σ : Mem) (r : Int32) (τ : Mem) (hf : f_M_drop N a1 σ = some (r, τ)) : Ctr l w wM yX10_drop cX10_drop 4 (some .int) 2 46 [.ref (w.2.2.1 0), .int a1] σ (cQi w wM r τ) := mk_ctr (Q := fun κ => qOM κ wM) (lv := [some (.ref (w.2.2.1 0)), some (.int a1), none, none]) (by decide) rfl hw (Nat.le_of_ble_eq_true rfl) rfl hf (fun κ h => by subst h; rfl) (fun κ hl h hR hC => by
    subst h
    exact w_M_drop hR hC N a1 σ)
-- DuelRoundModel.covers(III)Z (0, None, None, None) kind O
def f_M_covers (a1 : Int32) (a2 : Int32) (a3 : Int32) (σ : Mem) : Option Int32 :=
  ob (f_M_beats a1 σ) fun r1 =>
  if (t_M_has r1 a2) = (0 : Int32) then
  (some (0 : Int32))
  else
  (ob (f_M_beats a2 σ) fun r2 =>
  ob (f_M_beats a1 σ) fun r3 =>
  if (t_M_isWithin (r2 &&& a3) r3) = (0 : Int32) then
  (some (0 : Int32))
  else
  (some (1 : Int32)))
set_option maxRecDepth 100000 in
set_option maxHeartbeats 4000000 in
theorem w_M_covers {κ : Ctx} (hR : kR κ = { frames := 1, cells := 0, slots := 0, locals := 21 }) (hC : ok κ wM cX10_covers 4 RX10 (some .boolean)) (a1 : Int32) (a2 : Int32) (a3 : Int32) (σ : Mem) : wF κ wM 4 (qO κ wM σ) σ 0 [some (.ref (ad κ 0)), some (.int a1), some (.int a2), some (.int a3)] [] (f_M_covers a1 a2 a3 σ) := by
  unfold f_M_covers
  refine r_aload_n (pc := 0) hC rfl dX10_covers_0 ?_
  refine r_iload_n (pc := 1) hC rfl dX10_covers_1 ?_
  refine r_cO (pc := 2) (rest := []) (fun r1 hf => runV [.int a1] hC (c_M_beats (kl κ) (kW κ) hC.2.2.2.2.2.2.2.2.1 a1 σ r1 hf) o_X10_beats k_1224 (q0 := 0) (ci := 10) rfl rfl (rm_ok hR rfl) rfl (Nat.le_of_ble_eq_true rfl) dX10_covers_2) (fun r1 => ?_)
  refine r_iload_n (pc := 5) hC rfl dX10_covers_5 ?_
  refine r_cT (pc := 6) (rest := []) (runS [.int r1, .int a2] hC (c_M_has (kl κ) (kW κ) hC.2.2.2.2.2.2.2.2.1 r1 a2 σ) o_X10_has k_1194 (rm_ok hR rfl) rfl (Nat.le_of_ble_eq_true rfl) dX10_covers_6) ?_
  refine r_if_eq (pc := 9) (tgt := 34) hC dX10_covers_9 (by decide) ?_ ?_
  · refine r_iconst (pc := 34) hC (v := (0 : Int32)) (by decide) dX10_covers_34 ?_
    exact r_retO hC rfl dX10_covers_35
  · refine r_aload_n (pc := 12) hC rfl dX10_covers_12 ?_
    refine r_iload_n (pc := 13) hC rfl dX10_covers_13 ?_
    refine r_cO (pc := 14) (rest := []) (fun r2 hf => runV [.int a2] hC (c_M_beats (kl κ) (kW κ) hC.2.2.2.2.2.2.2.2.1 a2 σ r2 hf) o_X10_beats k_1224 (q0 := 0) (ci := 10) rfl rfl (rm_ok hR rfl) rfl (Nat.le_of_ble_eq_true rfl) dX10_covers_14) (fun r2 => ?_)
    refine r_iload_n (pc := 17) hC rfl dX10_covers_17 ?_
    refine r_iand (pc := 18) hC dX10_covers_18 ?_
    refine r_aload_n (pc := 19) hC rfl dX10_covers_19 ?_
    refine r_iload_n (pc := 20) hC rfl dX10_covers_20 ?_
    refine r_cO (pc := 21) (rest := [.int (r2 &&& a3)]) (fun r3 hf => runV [.int a1] hC (c_M_beats (kl κ) (kW κ) hC.2.2.2.2.2.2.2.2.1 a1 σ r3 hf) o_X10_beats k_1224 (q0 := 0) (ci := 10) rfl rfl (rm_ok hR rfl) rfl (Nat.le_of_ble_eq_true rfl) dX10_covers_21) (fun r3 => ?_)
    refine r_cT (pc := 24) (rest := []) (runS [.int (r2 &&& a3), .int r3] hC (c_M_isWithin (kl κ) (kW κ) hC.2.2.2.2.2.2.2.2.1 (r2 &&& a3) r3 σ) o_X10_isWithin k_1236 (rm_ok hR rfl) rfl (Nat.le_of_ble_eq_true rfl) dX10_covers_24) ?_
    refine r_if_eq (pc := 27) (tgt := 34) hC dX10_covers_27 (by decide) ?_ ?_
    · refine r_iconst (pc := 34) hC (v := (0 : Int32)) (by decide) dX10_covers_34 ?_
      exact r_retO hC rfl dX10_covers_35
    · refine r_iconst (pc := 30) hC (v := (1 : Int32)) (by decide) dX10_covers_30 ?_
      refine r_goto (pc := 31) (tgt := 35) hC dX10_covers_31 (by decide) ?_
      exact r_retO hC rfl dX10_covers_35
set_option maxRecDepth 100000 in
set_option maxHeartbeats 4000000 in
theorem c_M_covers (l : Launch) (w : Wenv) (hw : okw w wM) (a1 : Int32) (a2 : Int32) (a3 : Int32) (σ : Mem) (r : Int32) (hf : f_M_covers a1 a2 a3 σ = some r) : Ctr l w wM yX10_covers cX10_covers 4 (some .boolean) 1 21 [.ref (w.2.2.1 0), .int a1, .int a2, .int a3] σ (cQi w wM r σ) := mk_ctr (Q := fun κ => qO κ wM σ) (lv := [some (.ref (w.2.2.1 0)), some (.int a1), some (.int a2), some (.int a3)]) (by decide) rfl hw (Nat.le_of_ble_eq_true rfl) rfl hf (fun κ h => by subst h; rfl) (fun κ hl h hR hC => by
    subst h
    exact w_M_covers hR hC a1 a2 a3 σ)
-- DuelRoundModel.duel(III)I (0, None, None, None) kind OM
def M_duel_J27 (N : Nat) (σ : Mem) (a1 : Int32) (a2 : Int32) (a3 : Int32) (v1 : Int32) : Option (Int32 × Mem) :=
  bnd (sI σ 0 0 v1) fun s2 =>
  if (gI s2 0 0) = (1 : Int32) then
  (some ((0 : Int32), s2))
  else
  (swc a3 [((0 : Int32), ob (f_M_beats a1 s2) fun r3 =>
  if (t_M_has r3 a2) = (0 : Int32) then
  (some ((0 : Int32), s2))
  else
  (some ((1 : Int32), s2))),
  ((1 : Int32), ob (f_M_covers a1 a2 (t_M_all s2) s2) fun r4 =>
  if r4 = (0 : Int32) then
  (some ((0 : Int32), s2))
  else
  (some ((1 : Int32), s2))),
  ((2 : Int32), ob (f_M_beats a1 s2) fun r5 =>
  ob (f_M_over a2 s2) fun r6 =>
  ob (f_M_first N (r5 &&& r6)) fun r7 =>
  some (r7, s2))]
  (some ((-1 : Int32), s2)))
def M_duel_J26 (N : Nat) (σ : Mem) (a1 : Int32) (a2 : Int32) (a3 : Int32) : Option (Int32 × Mem) :=
  M_duel_J27 N σ a1 a2 a3 (1 : Int32)
def f_M_duel (N : Nat) (a1 : Int32) (a2 : Int32) (a3 : Int32) (σ : Mem) : Option (Int32 × Mem) :=
  if (t_M_isPlayer a1 σ) = (0 : Int32) then
  (M_duel_J26 N σ a1 a2 a3)
  else
  (if (t_M_isPlayer a2 σ) = (0 : Int32) then
  (M_duel_J26 N σ a1 a2 a3)
  else
  (if a1 = a2 then
  (M_duel_J26 N σ a1 a2 a3)
  else
  (M_duel_J27 N σ a1 a2 a3 (0 : Int32))))
set_option maxRecDepth 100000 in
set_option maxHeartbeats 4000000 in
theorem w_M_duel {κ : Ctx} (hR : kR κ = { frames := 2, cells := 0, slots := 0, locals := 46 }) (hC : ok κ wM cX10_duel 4 RX10 (some .int)) (N : Nat) (a1 : Int32) (a2 : Int32) (a3 : Int32) (σ : Mem) : wF κ wM 4 (qOM κ wM) σ 0 [some (.ref (ad κ 0)), some (.int a1), some (.int a2), some (.int a3)] [] (f_M_duel N a1 a2 a3 σ) := by
  unfold f_M_duel
  refine r_aload_n (pc := 0) hC rfl dX10_duel_0 ?_
  refine r_aload_n (pc := 1) hC rfl dX10_duel_1 ?_
  refine r_iload_n (pc := 2) hC rfl dX10_duel_2 ?_
  refine r_cT (pc := 3) (rest := [.ref (ad κ 0)]) (runV [.int a1] hC (c_M_isPlayer (kl κ) (kW κ) hC.2.2.2.2.2.2.2.2.1 a1 σ) o_X10_isPlayer k_1220 (q0 := 0) (ci := 10) rfl rfl (rm_ok hR rfl) rfl (Nat.le_of_ble_eq_true rfl) dX10_duel_3) ?_
  have hJ27_7 : ∀ (v1 : Int32), wF κ wM 4 (qOM κ wM) σ 27 [some (.ref (ad κ 0)), some (.int a1), some (.int a2), some (.int a3)] [.int v1, .ref (ad κ 0)] (M_duel_J27 N σ a1 a2 a3 v1) := by
    intro v1
    unfold M_duel_J27
    refine pM_0_0 (pc := 27) hC k_1037 dX10_duel_27 ?_
    refine r_letm (fun s2 => ?_)
    refine r_aload_n (pc := 30) hC rfl dX10_duel_30 ?_
    refine gM_0_0 (pc := 31) hC k_1037 dX10_duel_31 ?_
    refine r_iconst (pc := 34) hC (v := (1 : Int32)) (by decide) dX10_duel_34 ?_
    refine r_icmp_ne (pc := 35) (tgt := 40) hC dX10_duel_35 (by decide) ?_ ?_
    · refine r_iload_n (pc := 40) hC rfl dX10_duel_40 ?_
      refine r_table (pc := 41) (tg := fun i => ([68, 86, 105] : List Nat).getD i 0) (dt := 120) hC 3 dX10_duel_41 (by decide) (by decide) rfl (fun i hi => ?_) ?_
      · rcases (show i = 0 ∨ i = 1 ∨ i = 2 by omega) with rfl | rfl | rfl
        · refine ⟨_, _, _, rfl, by decide, rfl, by decide, ?_⟩
          refine r_aload_n (pc := 68) hC rfl dX10_duel_68 ?_
          refine r_iload_n (pc := 69) hC rfl dX10_duel_69 ?_
          refine r_cO (pc := 70) (rest := []) (fun r3 hf => runV [.int a1] hC (c_M_beats (kl κ) (kW κ) hC.2.2.2.2.2.2.2.2.1 a1 s2 r3 hf) o_X10_beats k_1224 (q0 := 0) (ci := 10) rfl rfl (rm_ok hR rfl) rfl (Nat.le_of_ble_eq_true rfl) dX10_duel_70) (fun r3 => ?_)
          refine r_iload_n (pc := 73) hC rfl dX10_duel_73 ?_
          refine r_cT (pc := 74) (rest := []) (runS [.int r3, .int a2] hC (c_M_has (kl κ) (kW κ) hC.2.2.2.2.2.2.2.2.1 r3 a2 s2) o_X10_has k_1194 (rm_ok hR rfl) rfl (Nat.le_of_ble_eq_true rfl) dX10_duel_74) ?_
          refine r_if_eq (pc := 77) (tgt := 84) hC dX10_duel_77 (by decide) ?_ ?_
          · refine r_iconst (pc := 84) hC (v := (0 : Int32)) (by decide) dX10_duel_84 ?_
            exact r_retOM hC rfl dX10_duel_85
          · refine r_iconst (pc := 80) hC (v := (1 : Int32)) (by decide) dX10_duel_80 ?_
            refine r_goto (pc := 81) (tgt := 85) hC dX10_duel_81 (by decide) ?_
            exact r_retOM hC rfl dX10_duel_85
        · refine ⟨_, _, _, rfl, by decide, rfl, by decide, ?_⟩
          refine r_aload_n (pc := 86) hC rfl dX10_duel_86 ?_
          refine r_iload_n (pc := 87) hC rfl dX10_duel_87 ?_
          refine r_iload_n (pc := 88) hC rfl dX10_duel_88 ?_
          refine r_aload_n (pc := 89) hC rfl dX10_duel_89 ?_
          refine r_cT (pc := 90) (rest := [.int a2, .int a1, .ref (ad κ 0)]) (runV [] hC (c_M_all (kl κ) (kW κ) hC.2.2.2.2.2.2.2.2.1 s2) o_X10_all k_1228 (q0 := 0) (ci := 10) rfl rfl (rm_ok hR rfl) rfl (Nat.le_of_ble_eq_true rfl) dX10_duel_90) ?_
          refine r_cO (pc := 93) (rest := []) (fun r4 hf => runV [.int a1, .int a2, .int (t_M_all s2)] hC (c_M_covers (kl κ) (kW κ) hC.2.2.2.2.2.2.2.2.1 a1 a2 (t_M_all s2) s2 r4 hf) o_X10_covers k_1232 (q0 := 0) (ci := 10) rfl rfl (rm_ok hR rfl) rfl (Nat.le_of_ble_eq_true rfl) dX10_duel_93) (fun r4 => ?_)
          refine r_if_eq (pc := 96) (tgt := 103) hC dX10_duel_96 (by decide) ?_ ?_
          · refine r_iconst (pc := 103) hC (v := (0 : Int32)) (by decide) dX10_duel_103 ?_
            exact r_retOM hC rfl dX10_duel_104
          · refine r_iconst (pc := 99) hC (v := (1 : Int32)) (by decide) dX10_duel_99 ?_
            refine r_goto (pc := 100) (tgt := 104) hC dX10_duel_100 (by decide) ?_
            exact r_retOM hC rfl dX10_duel_104
        · refine ⟨_, _, _, rfl, by decide, rfl, by decide, ?_⟩
          refine r_aload_n (pc := 105) hC rfl dX10_duel_105 ?_
          refine r_iload_n (pc := 106) hC rfl dX10_duel_106 ?_
          refine r_cO (pc := 107) (rest := []) (fun r5 hf => runV [.int a1] hC (c_M_beats (kl κ) (kW κ) hC.2.2.2.2.2.2.2.2.1 a1 s2 r5 hf) o_X10_beats k_1224 (q0 := 0) (ci := 10) rfl rfl (rm_ok hR rfl) rfl (Nat.le_of_ble_eq_true rfl) dX10_duel_107) (fun r5 => ?_)
          refine r_aload_n (pc := 110) hC rfl dX10_duel_110 ?_
          refine r_iload_n (pc := 111) hC rfl dX10_duel_111 ?_
          refine r_cO (pc := 112) (rest := [.int r5]) (fun r6 hf => runV [.int a2] hC (c_M_over (kl κ) (kW κ) hC.2.2.2.2.2.2.2.2.1 a2 s2 r6 hf) o_X10_over k_1239 (q0 := 0) (ci := 10) rfl rfl (rm_ok hR rfl) rfl (Nat.le_of_ble_eq_true rfl) dX10_duel_112) (fun r6 => ?_)
          refine r_iand (pc := 115) hC dX10_duel_115 ?_
          refine r_cO (pc := 116) (rest := []) (fun r7 hf => runS [.int (r5 &&& r6)] hC (c_M_first (kl κ) (kW κ) hC.2.2.2.2.2.2.2.2.1 N (r5 &&& r6) s2 r7 hf) o_X10_first k_1243 (rm_ok hR rfl) rfl (Nat.le_of_ble_eq_true rfl) dX10_duel_116) (fun r7 => ?_)
          exact r_retOM hC rfl dX10_duel_119
      · refine r_iconst (pc := 120) hC (v := (-1 : Int32)) (by decide) dX10_duel_120 ?_
        exact r_retOM hC rfl dX10_duel_121
    · refine r_iconst (pc := 38) hC (v := (0 : Int32)) (by decide) dX10_duel_38 ?_
      exact r_retOM hC rfl dX10_duel_39
  have hJ26_7 : wF κ wM 4 (qOM κ wM) σ 26 [some (.ref (ad κ 0)), some (.int a1), some (.int a2), some (.int a3)] [.ref (ad κ 0)] (M_duel_J26 N σ a1 a2 a3) := by
    unfold M_duel_J26
    refine r_iconst (pc := 26) hC (v := (1 : Int32)) (by decide) dX10_duel_26 ?_
    exact hJ27_7 (1 : Int32)
  refine r_if_eq (pc := 6) (tgt := 26) hC dX10_duel_6 (by decide) ?_ ?_
  · exact hJ26_7
  · refine r_aload_n (pc := 9) hC rfl dX10_duel_9 ?_
    refine r_iload_n (pc := 10) hC rfl dX10_duel_10 ?_
    refine r_cT (pc := 11) (rest := [.ref (ad κ 0)]) (runV [.int a2] hC (c_M_isPlayer (kl κ) (kW κ) hC.2.2.2.2.2.2.2.2.1 a2 σ) o_X10_isPlayer k_1220 (q0 := 0) (ci := 10) rfl rfl (rm_ok hR rfl) rfl (Nat.le_of_ble_eq_true rfl) dX10_duel_11) ?_
    refine r_if_eq (pc := 14) (tgt := 26) hC dX10_duel_14 (by decide) ?_ ?_
    · exact hJ26_7
    · refine r_iload_n (pc := 17) hC rfl dX10_duel_17 ?_
      refine r_iload_n (pc := 18) hC rfl dX10_duel_18 ?_
      refine r_icmp_eq (pc := 19) (tgt := 26) hC dX10_duel_19 (by decide) ?_ ?_
      · exact hJ26_7
      · refine r_iconst (pc := 22) hC (v := (0 : Int32)) (by decide) dX10_duel_22 ?_
        refine r_goto (pc := 23) (tgt := 27) hC dX10_duel_23 (by decide) ?_
        exact hJ27_7 (0 : Int32)
set_option maxRecDepth 100000 in
set_option maxHeartbeats 4000000 in
theorem c_M_duel (l : Launch) (w : Wenv) (hw : okw w wM) (N : Nat) (a1 : Int32) (a2 : Int32) (a3 : Int32) (σ : Mem) (r : Int32) (τ : Mem) (hf : f_M_duel N a1 a2 a3 σ = some (r, τ)) : Ctr l w wM yX10_duel cX10_duel 4 (some .int) 2 46 [.ref (w.2.2.1 0), .int a1, .int a2, .int a3] σ (cQi w wM r τ) := mk_ctr (Q := fun κ => qOM κ wM) (lv := [some (.ref (w.2.2.1 0)), some (.int a1), some (.int a2), some (.int a3)]) (by decide) rfl hw (Nat.le_of_ble_eq_true rfl) rfl hf (fun κ h => by subst h; rfl) (fun κ hl h hR hC => by
    subst h
    exact w_M_duel hR hC N a1 a2 a3 σ)
-- DuelRoundModel.end(I)Z (0, None) kind OM
def f_M_end (a1 : Int32) (σ : Mem) : Option (Int32 × Mem) :=
  bnd (sI σ 0 0 (0 : Int32)) fun s1 =>
  if (t_M_in (a1.toInt64) (0 : Int64) ((gI s1 7 0).toInt64)) = (0 : Int32) then
  (some ((0 : Int32), s1))
  else
  (bnd (sI s1 7 0 a1) fun s2 =>
  some ((1 : Int32), s2))
set_option maxRecDepth 100000 in
set_option maxHeartbeats 4000000 in
theorem w_M_end {κ : Ctx} (hR : kR κ = { frames := 1, cells := 0, slots := 0, locals := 25 }) (hC : ok κ wM cX10_end 2 RX10 (some .boolean)) (a1 : Int32) (σ : Mem) : wF κ wM 2 (qOM κ wM) σ 0 [some (.ref (ad κ 0)), some (.int a1)] [] (f_M_end a1 σ) := by
  unfold f_M_end
  refine r_aload_n (pc := 0) hC rfl dX10_end_0 ?_
  refine r_iconst (pc := 1) hC (v := (0 : Int32)) (by decide) dX10_end_1 ?_
  refine pM_0_0 (pc := 2) hC k_1037 dX10_end_2 ?_
  refine r_letm (fun s1 => ?_)
  refine r_iload_n (pc := 5) hC rfl dX10_end_5 ?_
  refine r_i2l (pc := 6) hC dX10_end_6 ?_
  refine r_lconst (pc := 7) hC (v := (0 : Int64)) (by decide) dX10_end_7 ?_
  refine r_aload_n (pc := 8) hC rfl dX10_end_8 ?_
  refine gM_0_7 (pc := 9) hC k_1044 dX10_end_9 ?_
  refine r_i2l (pc := 12) hC dX10_end_12 ?_
  refine r_cT (pc := 13) (rest := []) (runS [.long (a1.toInt64), .long (0 : Int64), .long ((gI s1 7 0).toInt64)] hC (c_M_in (kl κ) (kW κ) hC.2.2.2.2.2.2.2.2.1 (a1.toInt64) (0 : Int64) ((gI s1 7 0).toInt64) s1) o_X10_in k_1161 (rm_ok hR rfl) rfl (Nat.le_of_ble_eq_true rfl) dX10_end_13) ?_
  refine r_if_ne (pc := 16) (tgt := 21) hC dX10_end_16 (by decide) ?_ ?_
  · refine r_aload_n (pc := 21) hC rfl dX10_end_21 ?_
    refine r_iload_n (pc := 22) hC rfl dX10_end_22 ?_
    refine pM_0_7 (pc := 23) hC k_1044 dX10_end_23 ?_
    refine r_letm (fun s2 => ?_)
    refine r_iconst (pc := 26) hC (v := (1 : Int32)) (by decide) dX10_end_26 ?_
    exact r_retOM hC rfl dX10_end_27
  · refine r_iconst (pc := 19) hC (v := (0 : Int32)) (by decide) dX10_end_19 ?_
    exact r_retOM hC rfl dX10_end_20
set_option maxRecDepth 100000 in
set_option maxHeartbeats 4000000 in
theorem c_M_end (l : Launch) (w : Wenv) (hw : okw w wM) (a1 : Int32) (σ : Mem) (r : Int32) (τ : Mem) (hf : f_M_end a1 σ = some (r, τ)) : Ctr l w wM yX10_end cX10_end 2 (some .boolean) 1 25 [.ref (w.2.2.1 0), .int a1] σ (cQi w wM r τ) := mk_ctr (Q := fun κ => qOM κ wM) (lv := [some (.ref (w.2.2.1 0)), some (.int a1)]) (by decide) rfl hw (Nat.le_of_ble_eq_true rfl) rfl hf (fun κ h => by subst h; rfl) (fun κ hl h hR hC => by
    subst h
    exact w_M_end hR hC a1 σ)
-- DuelRoundModel.cupOf(I)I (0, None) kind OM
def M_cupOf_B20 (s2 : Mem) (a1 : Int32) (self5 : Int32 → Int32 → Option (Int32 × Mem)) (i3 : Int32) (i4 : Int32) : Option (Int32 × Mem) :=
  if (t_M_many s2) ≤ i4 then
  (some (i3, s2))
  else
  (gd (inb (((8 : Int32) * a1) + i4) 2048) (if (gI s2 24 (((8 : Int32) * a1) + i4).toNatClampNeg) ≤ (0 : Int32) then
  (bnd (i3 ||| (0 : Int32)) fun x6 =>
  self5 x6 (i4 + (1 : Int32)))
  else
  (bnd (i3 ||| ((1 : Int32) <<< (i4 &&& 31))) fun x7 =>
  self5 x7 (i4 + (1 : Int32)))))
def f_M_cupOf (N : Nat) (a1 : Int32) (σ : Mem) : Option (Int32 × Mem) :=
  ob (f_M_sizeOf N a1) fun r1 =>
  if (t_M_isCup r1) = (0 : Int32) then
  (some ((0 : Int32), σ))
  else
  (ob (f_M_layCups N σ) fun s2 =>
  it2 (M_cupOf_B20 s2 a1) N (0 : Int32) (0 : Int32))
set_option maxRecDepth 100000 in
set_option maxHeartbeats 4000000 in
theorem w_M_cupOf {κ : Ctx} (hR : kR κ = { frames := 3, cells := 0, slots := 0, locals := 69 }) (hC : ok κ wM cX10_cupOf 4 RX10 (some .int)) (N : Nat) (a1 : Int32) (σ : Mem) : wF κ wM 4 (qOM κ wM) σ 0 [some (.ref (ad κ 0)), some (.int a1), none, none] [] (f_M_cupOf N a1 σ) := by
  unfold f_M_cupOf
  refine r_iload_n (pc := 0) hC rfl dX10_cupOf_0 ?_
  refine r_cO (pc := 1) (rest := []) (fun r1 hf => runS [.int a1] hC (c_M_sizeOf (kl κ) (kW κ) hC.2.2.2.2.2.2.2.2.1 N a1 σ r1 hf) o_X10_sizeOf k_1298 (rm_ok hR rfl) rfl (Nat.le_of_ble_eq_true rfl) dX10_cupOf_1) (fun r1 => ?_)
  refine r_cT (pc := 4) (rest := []) (runS [.int r1] hC (c_M_isCup (kl κ) (kW κ) hC.2.2.2.2.2.2.2.2.1 r1 σ) o_X10_isCup k_1384 (rm_ok hR rfl) rfl (Nat.le_of_ble_eq_true rfl) dX10_cupOf_4) ?_
  refine r_if_ne (pc := 7) (tgt := 12) hC dX10_cupOf_7 (by decide) ?_ ?_
  · refine r_aload_n (pc := 12) hC rfl dX10_cupOf_12 ?_
    refine r_cM (pc := 13) (rest := []) (fun s2 hf => runV [] hC (c_M_layCups (kl κ) (kW κ) hC.2.2.2.2.2.2.2.2.1 N σ s2 hf) o_X10_layCups k_1387 (q0 := 0) (ci := 10) rfl rfl (rm_ok hR rfl) rfl (Nat.le_of_ble_eq_true rfl) dX10_cupOf_13) (fun s2 => ?_)
    refine r_iconst (pc := 16) hC (v := (0 : Int32)) (by decide) dX10_cupOf_16 ?_
    refine r_istore_n (pc := 17) hC rfl rfl dX10_cupOf_17 ?_
    refine r_iconst (pc := 18) hC (v := (0 : Int32)) (by decide) dX10_cupOf_18 ?_
    refine r_istore_n (pc := 19) hC rfl rfl dX10_cupOf_19 ?_
    refine w_it2 (fun i3 i4 => s2) (fun i3 i4 => [some (.ref (ad κ 0)), some (.int a1), some (.int i3), some (.int i4)]) (fun self5 ih20_5 i3 i4 => ?_) N (0 : Int32) (0 : Int32)
    unfold M_cupOf_B20
    refine r_iload_n (pc := 20) hC rfl dX10_cupOf_20 ?_
    refine r_aload_n (pc := 21) hC rfl dX10_cupOf_21 ?_
    refine r_cT (pc := 22) (rest := [.int i4]) (runV [] hC (c_M_many (kl κ) (kW κ) hC.2.2.2.2.2.2.2.2.1 s2) o_X10_many k_1274 (q0 := 0) (ci := 10) rfl rfl (rm_ok hR rfl) rfl (Nat.le_of_ble_eq_true rfl) dX10_cupOf_22) ?_
    refine r_icmp_ge (pc := 25) (tgt := 58) hC dX10_cupOf_25 (by decide) ?_ ?_
    · refine r_iload_n (pc := 58) hC rfl dX10_cupOf_58 ?_
      exact r_retOM hC rfl dX10_cupOf_59
    · refine r_iload_n (pc := 28) hC rfl dX10_cupOf_28 ?_
      refine r_aload_n (pc := 29) hC rfl dX10_cupOf_29 ?_
      refine gM_0_24 (pc := 30) hC k_1061 dX10_cupOf_30 ?_
      refine r_bipush (pc := 33) hC (v := (8 : Int32)) (by decide) dX10_cupOf_33 ?_
      refine r_iload_n (pc := 35) hC rfl dX10_cupOf_35 ?_
      refine r_imul (pc := 36) hC dX10_cupOf_36 ?_
      refine r_iload_n (pc := 37) hC rfl dX10_cupOf_37 ?_
      refine r_iadd (pc := 38) hC dX10_cupOf_38 ?_
      refine aM_18 (pc := 39) hC dX10_cupOf_39 ?_
      refine r_if_le (pc := 40) (tgt := 49) hC dX10_cupOf_40 (by decide) ?_ ?_
      · refine r_iconst (pc := 49) hC (v := (0 : Int32)) (by decide) dX10_cupOf_49 ?_
        refine r_ior (pc := 50) hC dX10_cupOf_50 ?_
        refine r_let (fun x6 => ?_)
        refine r_istore_n (pc := 51) hC rfl rfl dX10_cupOf_51 ?_
        refine r_iinc (pc := 52) hC (v := (1 : Int32)) rfl (by decide) rfl rfl dX10_cupOf_52 ?_
        refine r_goto (pc := 55) (tgt := 20) hC dX10_cupOf_55 (by decide) ?_
        exact ih20_5 x6 (i4 + (1 : Int32))
      · refine r_iconst (pc := 43) hC (v := (1 : Int32)) (by decide) dX10_cupOf_43 ?_
        refine r_iload_n (pc := 44) hC rfl dX10_cupOf_44 ?_
        refine r_ishl (pc := 45) hC dX10_cupOf_45 ?_
        refine r_goto (pc := 46) (tgt := 50) hC dX10_cupOf_46 (by decide) ?_
        refine r_ior (pc := 50) hC dX10_cupOf_50 ?_
        refine r_let (fun x7 => ?_)
        refine r_istore_n (pc := 51) hC rfl rfl dX10_cupOf_51 ?_
        refine r_iinc (pc := 52) hC (v := (1 : Int32)) rfl (by decide) rfl rfl dX10_cupOf_52 ?_
        refine r_goto (pc := 55) (tgt := 20) hC dX10_cupOf_55 (by decide) ?_
        exact ih20_5 x7 (i4 + (1 : Int32))
  · refine r_iconst (pc := 10) hC (v := (0 : Int32)) (by decide) dX10_cupOf_10 ?_
    exact r_retOM hC rfl dX10_cupOf_11
set_option maxRecDepth 100000 in
set_option maxHeartbeats 4000000 in
theorem c_M_cupOf (l : Launch) (w : Wenv) (hw : okw w wM) (N : Nat) (a1 : Int32) (σ : Mem) (r : Int32) (τ : Mem) (hf : f_M_cupOf N a1 σ = some (r, τ)) : Ctr l w wM yX10_cupOf cX10_cupOf 4 (some .int) 3 69 [.ref (w.2.2.1 0), .int a1] σ (cQi w wM r τ) := mk_ctr (Q := fun κ => qOM κ wM) (lv := [some (.ref (w.2.2.1 0)), some (.int a1), none, none]) (by decide) rfl hw (Nat.le_of_ble_eq_true rfl) rfl hf (fun κ h => by subst h; rfl) (fun κ hl h hR hC => by
    subst h
    exact w_M_cupOf hR hC N a1 σ)
-- DuelRoundModel.closed(II)I (0, None, None) kind O
def M_closed_B19 (σ : Mem) (a2 : Int32) (i2 : Int32) (self4 : Int32 → Int32 → Option Int32) (self7 : Int32 → Int32 → Option Int32) (i5 : Int32) (i6 : Int32) : Option Int32 :=
  if (t_M_many σ) ≤ i6 then
  (self4 i5 i2)
  else
  (if (t_M_has i2 i6) = (0 : Int32) then
  (bnd (i5 ||| (0 : Int32)) fun x8 =>
  self7 x8 (i6 + (1 : Int32)))
  else
  (ob (f_M_over i6 σ) fun r9 =>
  gd (inb (r9 &&& a2) 256) (bnd (i5 ||| (gI σ 22 (r9 &&& a2).toNatClampNeg)) fun x10 =>
  self7 x10 (i6 + (1 : Int32)))))
def M_closed_B7 (N : Nat) (σ : Mem) (a2 : Int32) (self4 : Int32 → Int32 → Option Int32) (i2 : Int32) (i3 : Int32) : Option Int32 :=
  if i3 = i2 then
  (some i2)
  else
  (it2 (M_closed_B19 σ a2 i2 self4) N i2 (0 : Int32))
def f_M_closed (N : Nat) (a1 : Int32) (a2 : Int32) (σ : Mem) : Option Int32 :=
  bnd ((1 : Int32) <<< (a1 &&& 31)) fun x1 =>
  it2 (M_closed_B7 N σ a2) N x1 (0 : Int32)
set_option maxRecDepth 100000 in
set_option maxHeartbeats 4000000 in
theorem w_M_closed {κ : Ctx} (hR : kR κ = { frames := 2, cells := 0, slots := 0, locals := 41 }) (hC : ok κ wM cX10_closed 6 RX10 (some .int)) (N : Nat) (a1 : Int32) (a2 : Int32) (σ : Mem) : wF κ wM 6 (qO κ wM σ) σ 0 [some (.ref (ad κ 0)), some (.int a1), some (.int a2), none, none, none] [] (f_M_closed N a1 a2 σ) := by
  unfold f_M_closed
  refine r_iconst (pc := 0) hC (v := (1 : Int32)) (by decide) dX10_closed_0 ?_
  refine r_iload_n (pc := 1) hC rfl dX10_closed_1 ?_
  refine r_ishl (pc := 2) hC dX10_closed_2 ?_
  refine r_let (fun x1 => ?_)
  refine r_istore_n (pc := 3) hC rfl rfl dX10_closed_3 ?_
  refine r_iconst (pc := 4) hC (v := (0 : Int32)) (by decide) dX10_closed_4 ?_
  refine r_istore (pc := 5) hC rfl rfl dX10_closed_5 ?_
  refine r_wk [true, false, true, true, true, false] (w_it2 (fun i2 i3 => σ) (fun i2 i3 => [some (.ref (ad κ 0)), none, some (.int a2), some (.int i2), some (.int i3), none]) (fun self4 ih7_4 i2 i3 => ?_) N x1 (0 : Int32))
  unfold M_closed_B7
  refine r_iload (pc := 7) hC rfl dX10_closed_7 ?_
  refine r_iload_n (pc := 9) hC rfl dX10_closed_9 ?_
  refine r_icmp_eq (pc := 10) (tgt := 67) hC dX10_closed_10 (by decide) ?_ ?_
  · refine r_iload_n (pc := 67) hC rfl dX10_closed_67 ?_
    exact r_retO hC rfl dX10_closed_68
  · refine r_iload_n (pc := 13) hC rfl dX10_closed_13 ?_
    refine r_istore (pc := 14) hC rfl rfl dX10_closed_14 ?_
    refine r_iconst (pc := 16) hC (v := (0 : Int32)) (by decide) dX10_closed_16 ?_
    refine r_istore (pc := 17) hC rfl rfl dX10_closed_17 ?_
    refine w_it2 (fun i5 i6 => σ) (fun i5 i6 => [some (.ref (ad κ 0)), none, some (.int a2), some (.int i5), some (.int i2), some (.int i6)]) (fun self7 ih19_7 i5 i6 => ?_) N i2 (0 : Int32)
    unfold M_closed_B19
    refine r_iload (pc := 19) hC rfl dX10_closed_19 ?_
    refine r_aload_n (pc := 21) hC rfl dX10_closed_21 ?_
    refine r_cT (pc := 22) (rest := [.int i6]) (runV [] hC (c_M_many (kl κ) (kW κ) hC.2.2.2.2.2.2.2.2.1 σ) o_X10_many k_1274 (q0 := 0) (ci := 10) rfl rfl (rm_ok hR rfl) rfl (Nat.le_of_ble_eq_true rfl) dX10_closed_22) ?_
    refine r_icmp_ge (pc := 25) (tgt := 64) hC dX10_closed_25 (by decide) ?_ ?_
    · refine r_goto (pc := 64) (tgt := 7) hC dX10_closed_64 (by decide) ?_
      exact r_wk [true, false, true, true, true, false] (ih7_4 i5 i2)
    · refine r_iload_n (pc := 28) hC rfl dX10_closed_28 ?_
      refine r_iload (pc := 29) hC rfl dX10_closed_29 ?_
      refine r_iload (pc := 31) hC rfl dX10_closed_31 ?_
      refine r_cT (pc := 33) (rest := [.int i5]) (runS [.int i2, .int i6] hC (c_M_has (kl κ) (kW κ) hC.2.2.2.2.2.2.2.2.1 i2 i6 σ) o_X10_has k_1194 (rm_ok hR rfl) rfl (Nat.le_of_ble_eq_true rfl) dX10_closed_33) ?_
      refine r_if_eq (pc := 36) (tgt := 55) hC dX10_closed_36 (by decide) ?_ ?_
      · refine r_iconst (pc := 55) hC (v := (0 : Int32)) (by decide) dX10_closed_55 ?_
        refine r_ior (pc := 56) hC dX10_closed_56 ?_
        refine r_let (fun x8 => ?_)
        refine r_istore_n (pc := 57) hC rfl rfl dX10_closed_57 ?_
        refine r_iinc (pc := 58) hC (v := (1 : Int32)) rfl (by decide) rfl rfl dX10_closed_58 ?_
        refine r_goto (pc := 61) (tgt := 19) hC dX10_closed_61 (by decide) ?_
        exact ih19_7 x8 (i6 + (1 : Int32))
      · refine r_aload_n (pc := 39) hC rfl dX10_closed_39 ?_
        refine gM_0_22 (pc := 40) hC k_1059 dX10_closed_40 ?_
        refine r_aload_n (pc := 43) hC rfl dX10_closed_43 ?_
        refine r_iload (pc := 44) hC rfl dX10_closed_44 ?_
        refine r_cO (pc := 46) (rest := [.ref (ad κ 16), .int i5]) (fun r9 hf => runV [.int i6] hC (c_M_over (kl κ) (kW κ) hC.2.2.2.2.2.2.2.2.1 i6 σ r9 hf) o_X10_over k_1239 (q0 := 0) (ci := 10) rfl rfl (rm_ok hR rfl) rfl (Nat.le_of_ble_eq_true rfl) dX10_closed_46) (fun r9 => ?_)
        refine r_iload_n (pc := 49) hC rfl dX10_closed_49 ?_
        refine r_iand (pc := 50) hC dX10_closed_50 ?_
        refine aM_16 (pc := 51) hC dX10_closed_51 ?_
        refine r_goto (pc := 52) (tgt := 56) hC dX10_closed_52 (by decide) ?_
        refine r_ior (pc := 56) hC dX10_closed_56 ?_
        refine r_let (fun x10 => ?_)
        refine r_istore_n (pc := 57) hC rfl rfl dX10_closed_57 ?_
        refine r_iinc (pc := 58) hC (v := (1 : Int32)) rfl (by decide) rfl rfl dX10_closed_58 ?_
        refine r_goto (pc := 61) (tgt := 19) hC dX10_closed_61 (by decide) ?_
        exact ih19_7 x10 (i6 + (1 : Int32))
set_option maxRecDepth 100000 in
set_option maxHeartbeats 4000000 in
theorem c_M_closed (l : Launch) (w : Wenv) (hw : okw w wM) (N : Nat) (a1 : Int32) (a2 : Int32) (σ : Mem) (r : Int32) (hf : f_M_closed N a1 a2 σ = some r) : Ctr l w wM yX10_closed cX10_closed 6 (some .int) 2 41 [.ref (w.2.2.1 0), .int a1, .int a2] σ (cQi w wM r σ) := mk_ctr (Q := fun κ => qO κ wM σ) (lv := [some (.ref (w.2.2.1 0)), some (.int a1), some (.int a2), none, none, none]) (by decide) rfl hw (Nat.le_of_ble_eq_true rfl) rfl hf (fun κ h => by subst h; rfl) (fun κ hl h hR hC => by
    subst h
    exact w_M_closed hR hC N a1 a2 σ)
