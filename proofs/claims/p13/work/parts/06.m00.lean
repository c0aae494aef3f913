-- DuelRound$Past.isKept(I)Z (4, None) kind O
def f_Pa_isKept (a1 : Int32) (σ : Mem) : Option Int32 :=
  if a1 < (0 : Int32) then
  (some (0 : Int32))
  else
  (if (2 : Int32) ≤ a1 then
  (some (0 : Int32))
  else
  (gd (inb a1 2) (if (lg_cmp (gJ σ 16 a1.toNatClampNeg) (0 : Int64)) = (0 : Int32) then
  (some (0 : Int32))
  else
  (some (1 : Int32)))))
set_option maxRecDepth 100000 in
set_option maxHeartbeats 4000000 in
theorem w_Pa_isKept {κ : Ctx} (hR : kR κ = { frames := 0, cells := 0, slots := 0, locals := 0 }) (hC : ok κ wC cX4_isKept 2 RX4 (some .boolean)) (a1 : Int32) (σ : Mem) : wF κ wC 2 (qO κ wC σ) σ 0 [some (.ref (ad κ 4)), some (.int a1)] [] (f_Pa_isKept a1 σ) := by
  unfold f_Pa_isKept
  refine r_iload_n (pc := 0) hC rfl dX4_isKept_0 ?_
  refine r_if_lt (pc := 1) (tgt := 24) hC dX4_isKept_1 (by decide) ?_ ?_
  · refine r_iconst (pc := 24) hC (v := (0 : Int32)) (by decide) dX4_isKept_24 ?_
    exact r_retO hC rfl dX4_isKept_25
  · refine r_iload_n (pc := 4) hC rfl dX4_isKept_4 ?_
    refine r_iconst (pc := 5) hC (v := (2 : Int32)) (by decide) dX4_isKept_5 ?_
    refine r_icmp_ge (pc := 6) (tgt := 24) hC dX4_isKept_6 (by decide) ?_ ?_
    · refine r_iconst (pc := 24) hC (v := (0 : Int32)) (by decide) dX4_isKept_24 ?_
      exact r_retO hC rfl dX4_isKept_25
    · refine r_aload_n (pc := 9) hC rfl dX4_isKept_9 ?_
      refine gC_4_1 (pc := 10) hC k_159 dX4_isKept_10 ?_
      refine r_iload_n (pc := 13) hC rfl dX4_isKept_13 ?_
      refine aC_16 (pc := 14) hC dX4_isKept_14 ?_
      refine r_lconst (pc := 15) hC (v := (0 : Int64)) (by decide) dX4_isKept_15 ?_
      refine r_lcmp (pc := 16) hC dX4_isKept_16 ?_
      refine r_if_eq (pc := 17) (tgt := 24) hC dX4_isKept_17 (by decide) ?_ ?_
      · refine r_iconst (pc := 24) hC (v := (0 : Int32)) (by decide) dX4_isKept_24 ?_
        exact r_retO hC rfl dX4_isKept_25
      · refine r_iconst (pc := 20) hC (v := (1 : Int32)) (by decide) dX4_isKept_20 ?_
        refine r_goto (pc := 21) (tgt := 25) hC dX4_isKept_21 (by decide) ?_
        exact r_retO hC rfl dX4_isKept_25
set_option maxRecDepth 100000 in
set_option maxHeartbeats 4000000 in
theorem c_Pa_isKept (l : Launch) (w : Wenv) (hw : okw w wC) (a1 : Int32) (σ : Mem) (r : Int32) (hf : f_Pa_isKept a1 σ = some r) : Ctr l w wC yX4_isKept cX4_isKept 2 (some .boolean) 0 0 [.ref (w.2.2.1 4), .int a1] σ (cQi w wC r σ) := mk_ctr (Q := fun κ => qO κ wC σ) (lv := [some (.ref (w.2.2.1 4)), some (.int a1)]) (by decide) rfl hw (Nat.le_of_ble_eq_true rfl) rfl hf (fun κ h => by subst h; rfl) (fun κ hl h hR hC => by
    subst h
    exact w_Pa_isKept hR hC a1 σ)
-- DuelRound.bitOf(II)I (None, None) kind T
def t_D_bitOf (a1 : Int32) (a2 : Int32) : Int32 :=
  ((a1 >>> (a2 &&& 31)) &&& (1 : Int32))
def f_D_bitOf (a1 : Int32) (a2 : Int32) : Option Int32 :=
  some ((a1 >>> (a2 &&& 31)) &&& (1 : Int32))
theorem e_D_bitOf (a1 : Int32) (a2 : Int32) : f_D_bitOf a1 a2 = some (t_D_bitOf a1 a2) := by
  unfold f_D_bitOf t_D_bitOf
  try first | rfl | (repeat' split) <;> rfl
set_option maxRecDepth 100000 in
set_option maxHeartbeats 4000000 in
theorem w_D_bitOf {κ : Ctx} (hR : kR κ = { frames := 0, cells := 0, slots := 0, locals := 0 }) (hC : ok κ wC cX9_bitOf 2 RX9 (some .int)) (a1 : Int32) (a2 : Int32) (σ : Mem) : wF κ wC 2 (qO κ wC σ) σ 0 [some (.int a1), some (.int a2)] [] (f_D_bitOf a1 a2) := by
  unfold f_D_bitOf
  refine r_iload_n (pc := 0) hC rfl dX9_bitOf_0 ?_
  refine r_iload_n (pc := 1) hC rfl dX9_bitOf_1 ?_
  refine r_ishr (pc := 2) hC dX9_bitOf_2 ?_
  refine r_iconst (pc := 3) hC (v := (1 : Int32)) (by decide) dX9_bitOf_3 ?_
  refine r_iand (pc := 4) hC dX9_bitOf_4 ?_
  exact r_retO hC rfl dX9_bitOf_5
set_option maxRecDepth 100000 in
set_option maxHeartbeats 4000000 in
theorem c_D_bitOf (l : Launch) (w : Wenv) (hw : okw w wC) (a1 : Int32) (a2 : Int32) (σ : Mem) : Ctr l w wC yX9_bitOf cX9_bitOf 2 (some .int) 0 0 [.int a1, .int a2] σ (cQi w wC (t_D_bitOf a1 a2) σ) := mk_ctr (Q := fun κ => qO κ wC σ) (lv := [some (.int a1), some (.int a2)]) (by decide) rfl hw (Nat.le_of_ble_eq_true rfl) rfl (e_D_bitOf a1 a2) (fun κ h => by subst h; rfl) (fun κ hl h hR hC => by
    subst h
    exact w_D_bitOf hR hC a1 a2 σ)
-- DuelRound$Duels.packed()J (2,) kind L
def Du_packedN_B17 (σ : Mem) (i2 : Int32) (self3 : Int64 → Int32 → Option Int64) (self7 : Int64 → Int32 → Option Int64) (i5 : Int64) (i6 : Int32) : Option Int64 :=
  if (gI σ 3 0) ≤ i6 then
  (self3 i5 (i2 + (1 : Int32)))
  else
  (gd (inb i2 8) (bnd ((i5 <<< ((1 : Int32).toInt64 &&& 63)) ||| ((t_D_bitOf (gI σ 13 i2.toNatClampNeg) i6).toInt64)) fun l8 =>
  self7 l8 (i6 + (1 : Int32))))
def Du_packedN_B4 (N : Nat) (σ : Mem) (self3 : Int64 → Int32 → Option Int64) (i1 : Int64) (i2 : Int32) : Option Int64 :=
  if (gI σ 3 0) ≤ i2 then
  (some ((i1 <<< ((4 : Int32).toInt64 &&& 63)) ||| ((gI σ 3 0).toInt64)))
  else
  (bnd (i2 + (1 : Int32)) fun x4 =>
  it2 (Du_packedN_B17 σ i2 self3) N i1 x4)
def f_Du_packedN (N : Nat) (σ : Mem) : Option Int64 :=
  it2 (Du_packedN_B4 N σ) N (0 : Int64) (0 : Int32)
set_option maxRecDepth 100000 in
set_option maxHeartbeats 4000000 in
theorem w_Du_packedN {κ : Ctx} (hR : kR κ = { frames := 1, cells := 0, slots := 0, locals := 21 }) (hC : ok κ wC cX1_packed 5 RX1 (some .long)) (N : Nat) (σ : Mem) : wF κ wC 5 (qL κ wC σ) σ 0 [some (.ref (ad κ 2)), none, none, none, none] [] (f_Du_packedN N  σ) := by
  unfold f_Du_packedN
  refine r_lconst (pc := 0) hC (v := (0 : Int64)) (by decide) dX1_packed_0 ?_
  refine r_lstore_n (pc := 1) hC rfl rfl dX1_packed_1 ?_
  refine r_iconst (pc := 2) hC (v := (0 : Int32)) (by decide) dX1_packed_2 ?_
  refine r_istore_n (pc := 3) hC rfl rfl dX1_packed_3 ?_
  refine w_it2 (fun i1 i2 => σ) (fun i1 i2 => [some (.ref (ad κ 2)), some (.long i1), none, some (.int i2), none]) (fun self3 ih4_3 i1 i2 => ?_) N (0 : Int64) (0 : Int32)
  unfold Du_packedN_B4
  refine r_iload_n (pc := 4) hC rfl dX1_packed_4 ?_
  refine r_aload_n (pc := 5) hC rfl dX1_packed_5 ?_
  refine gC_2_1 (pc := 6) hC k_139 dX1_packed_6 ?_
  refine r_icmp_ge (pc := 9) (tgt := 55) hC dX1_packed_9 (by decide) ?_ ?_
  · refine r_lload_n (pc := 55) hC rfl dX1_packed_55 ?_
    refine r_iconst (pc := 56) hC (v := (4 : Int32)) (by decide) dX1_packed_56 ?_
    refine r_lshl (pc := 57) hC dX1_packed_57 ?_
    refine r_aload_n (pc := 58) hC rfl dX1_packed_58 ?_
    refine gC_2_1 (pc := 59) hC k_139 dX1_packed_59 ?_
    refine r_i2l (pc := 62) hC dX1_packed_62 ?_
    refine r_lor (pc := 63) hC dX1_packed_63 ?_
    exact r_retL hC dX1_packed_64
  · refine r_iload_n (pc := 12) hC rfl dX1_packed_12 ?_
    refine r_iconst (pc := 13) hC (v := (1 : Int32)) (by decide) dX1_packed_13 ?_
    refine r_iadd (pc := 14) hC dX1_packed_14 ?_
    refine r_let (fun x4 => ?_)
    refine r_istore (pc := 15) hC rfl rfl dX1_packed_15 ?_
    refine w_it2 (fun i5 i6 => σ) (fun i5 i6 => [some (.ref (ad κ 2)), some (.long i5), none, some (.int i2), some (.int i6)]) (fun self7 ih17_7 i5 i6 => ?_) N i1 x4
    unfold Du_packedN_B17
    refine r_iload (pc := 17) hC rfl dX1_packed_17 ?_
    refine r_aload_n (pc := 19) hC rfl dX1_packed_19 ?_
    refine gC_2_1 (pc := 20) hC k_139 dX1_packed_20 ?_
    refine r_icmp_ge (pc := 23) (tgt := 49) hC dX1_packed_23 (by decide) ?_ ?_
    · refine r_iinc (pc := 49) hC (v := (1 : Int32)) rfl (by decide) rfl rfl dX1_packed_49 ?_
      refine r_goto (pc := 52) (tgt := 4) hC dX1_packed_52 (by decide) ?_
      exact r_wk [true, true, false, true, false] (ih4_3 i5 (i2 + (1 : Int32)))
    · refine r_lload_n (pc := 26) hC rfl dX1_packed_26 ?_
      refine r_iconst (pc := 27) hC (v := (1 : Int32)) (by decide) dX1_packed_27 ?_
      refine r_lshl (pc := 28) hC dX1_packed_28 ?_
      refine r_aload_n (pc := 29) hC rfl dX1_packed_29 ?_
      refine gC_2_0 (pc := 30) hC k_132 dX1_packed_30 ?_
      refine r_iload_n (pc := 33) hC rfl dX1_packed_33 ?_
      refine aC_13 (pc := 34) hC dX1_packed_34 ?_
      refine r_iload (pc := 35) hC rfl dX1_packed_35 ?_
      refine r_cT (pc := 37) (rest := [.long (i5 <<< ((1 : Int32).toInt64 &&& 63))]) (runSN [.int (gI σ 13 i2.toNatClampNeg), .int i6] hC (c_D_bitOf (kl κ) (kW κ) hC.2.2.2.2.2.2.2.2.1 (gI σ 13 i2.toNatClampNeg) i6 σ) o_X9_bitOf (k_423 hC.2.2.2.2.2.2.2.2.2) (rm_ok hR rfl) rfl (Nat.le_of_ble_eq_true rfl) dX1_packed_37) ?_
      refine r_i2l (pc := 40) hC dX1_packed_40 ?_
      refine r_lor (pc := 41) hC dX1_packed_41 ?_
      refine r_letl (fun l8 => ?_)
      refine r_lstore_n (pc := 42) hC rfl rfl dX1_packed_42 ?_
      refine r_iinc (pc := 43) hC (v := (1 : Int32)) rfl (by decide) rfl rfl dX1_packed_43 ?_
      refine r_goto (pc := 46) (tgt := 17) hC dX1_packed_46 (by decide) ?_
      exact ih17_7 l8 (i6 + (1 : Int32))
set_option maxRecDepth 100000 in
set_option maxHeartbeats 4000000 in
theorem c_Du_packedN (l : Launch) (w : Wenv) (hw : okw w wC) (N : Nat) (σ : Mem) (r : Int64) (hf : f_Du_packedN N  σ = some r) : Ctr l w wC yX1_packed cX1_packed 5 (some .long) 1 21 [.ref (w.2.2.1 2)] σ (cQl w wC r σ) := mk_ctr (Q := fun κ => qL κ wC σ) (lv := [some (.ref (w.2.2.1 2)), none, none, none, none]) (by decide) rfl hw (Nat.le_of_ble_eq_true rfl) rfl hf (fun κ h => by subst h; rfl) (fun κ hl h hR hC => by
    subst h
    exact w_Du_packedN hR hC N  σ)
-- DuelRound$Past.remember(J)V (4, None) kind M
def Pa_remember_J34 (a1 : Int64) (s1 : Mem) : Option Mem :=
  gd (inb (gI s1 5 0) 10) (bnd (sJ s1 15 (gI s1 5 0).toNatClampNeg a1) fun s2 =>
  bnd (sI s2 5 0 ((gI s2 5 0) + (1 : Int32))) fun s3 =>
  some s3)
def f_Pa_remember (a1 : Int64) (σ : Mem) : Option Mem :=
  if (gI σ 5 0) = (10 : Int32) then
  (bnd (cJ σ 15 1 0 9) fun s4 =>
  bnd (sI s4 5 0 ((gI s4 5 0) - (1 : Int32))) fun s5 =>
  Pa_remember_J34 a1 s5)
  else
  (Pa_remember_J34 a1 σ)
set_option maxRecDepth 100000 in
set_option maxHeartbeats 4000000 in
theorem w_Pa_remember {κ : Ctx} (hR : kR κ = { frames := 1, cells := 0, slots := 0, locals := 60 }) (hC : ok κ wC cX4_remember 3 RX4 none) (a1 : Int64) (σ : Mem) : wF κ wC 3 (qM κ wC) σ 0 [some (.ref (ad κ 4)), some (.long a1), none] [] (f_Pa_remember a1 σ) := by
  unfold f_Pa_remember
  refine r_aload_n (pc := 0) hC rfl dX4_remember_0 ?_
  refine gC_4_2 (pc := 1) hC k_161 dX4_remember_1 ?_
  refine r_bipush (pc := 4) hC (v := (10 : Int32)) (by decide) dX4_remember_4 ?_
  have hJ34_3 : ∀ (s1 : Mem), wF κ wC 3 (qM κ wC) s1 34 [some (.ref (ad κ 4)), some (.long a1), none] [] (Pa_remember_J34 a1 s1) := by
    intro s1
    unfold Pa_remember_J34
    refine r_aload_n (pc := 34) hC rfl dX4_remember_34 ?_
    refine gC_4_0 (pc := 35) hC k_158 dX4_remember_35 ?_
    refine r_aload_n (pc := 38) hC rfl dX4_remember_38 ?_
    refine gC_4_2 (pc := 39) hC k_161 dX4_remember_39 ?_
    refine r_lload_n (pc := 42) hC rfl dX4_remember_42 ?_
    refine bC_15 (pc := 43) hC dX4_remember_43 ?_
    refine r_letm (fun s2 => ?_)
    refine r_aload_n (pc := 44) hC rfl dX4_remember_44 ?_
    refine r_dup (pc := 45) hC rfl dX4_remember_45 ?_
    refine gC_4_2 (pc := 46) hC k_161 dX4_remember_46 ?_
    refine r_iconst (pc := 49) hC (v := (1 : Int32)) (by decide) dX4_remember_49 ?_
    refine r_iadd (pc := 50) hC dX4_remember_50 ?_
    refine pC_4_2 (pc := 51) hC k_161 dX4_remember_51 ?_
    refine r_letm (fun s3 => ?_)
    exact r_retM hC dX4_remember_54
  refine r_icmp_ne (pc := 6) (tgt := 34) hC dX4_remember_6 (by decide) ?_ ?_
  · exact hJ34_3 σ
  · refine r_aload_n (pc := 9) hC rfl dX4_remember_9 ?_
    refine gC_4_0 (pc := 10) hC k_158 dX4_remember_10 ?_
    refine r_iconst (pc := 13) hC (v := (1 : Int32)) (by decide) dX4_remember_13 ?_
    refine r_aload_n (pc := 14) hC rfl dX4_remember_14 ?_
    refine gC_4_0 (pc := 15) hC k_158 dX4_remember_15 ?_
    refine r_iconst (pc := 18) hC (v := (0 : Int32)) (by decide) dX4_remember_18 ?_
    refine r_bipush (pc := 19) hC (v := (9 : Int32)) (by decide) dX4_remember_19 ?_
    refine cpC_15 (pc := 21) hC hR rfl k_467 dX4_remember_21 ?_
    refine r_letm (fun s4 => ?_)
    refine r_aload_n (pc := 24) hC rfl dX4_remember_24 ?_
    refine r_dup (pc := 25) hC rfl dX4_remember_25 ?_
    refine gC_4_2 (pc := 26) hC k_161 dX4_remember_26 ?_
    refine r_iconst (pc := 29) hC (v := (1 : Int32)) (by decide) dX4_remember_29 ?_
    refine r_isub (pc := 30) hC dX4_remember_30 ?_
    refine pC_4_2 (pc := 31) hC k_161 dX4_remember_31 ?_
    refine r_letm (fun s5 => ?_)
    exact hJ34_3 s5
set_option maxRecDepth 100000 in
set_option maxHeartbeats 4000000 in
theorem c_Pa_remember (l : Launch) (w : Wenv) (hw : okw w wC) (a1 : Int64) (σ : Mem) (τ : Mem) (hf : f_Pa_remember a1 σ = some τ) : Ctr l w wC yX4_remember cX4_remember 3 none 1 60 [.ref (w.2.2.1 4), .long a1] σ (cQv w wC τ) := mk_ctr (Q := fun κ => qM κ wC) (lv := [some (.ref (w.2.2.1 4)), some (.long a1), none]) (by decide) rfl hw (Nat.le_of_ble_eq_true rfl) rfl hf (fun κ h => by subst h; rfl) (fun κ hl h hR hC => by
    subst h
    exact w_Pa_remember hR hC a1 σ)
-- DuelRound$Duels.clear()V (2,) kind M
def Du_clearN_B7 (self4 : Int32 → Mem → Option Mem) (i2 : Int32) (s3 : Mem) : Option Mem :=
  if (8 : Int32) ≤ i2 then
  (some s3)
  else
  (gd (inb i2 8) (bnd (sI s3 13 i2.toNatClampNeg (0 : Int32)) fun s5 =>
  self4 (i2 + (1 : Int32)) s5))
def f_Du_clearN (N : Nat) (σ : Mem) : Option Mem :=
  bnd (sI σ 3 0 (0 : Int32)) fun s1 =>
  it2 (Du_clearN_B7) N (0 : Int32) s1
set_option maxRecDepth 100000 in
set_option maxHeartbeats 4000000 in
theorem w_Du_clearN {κ : Ctx} (hR : kR κ = { frames := 0, cells := 0, slots := 0, locals := 0 }) (hC : ok κ wC cX1_clear 2 RX1 none) (N : Nat) (σ : Mem) : wF κ wC 2 (qM κ wC) σ 0 [some (.ref (ad κ 2)), none] [] (f_Du_clearN N  σ) := by
  unfold f_Du_clearN
  refine r_aload_n (pc := 0) hC rfl dX1_clear_0 ?_
  refine r_iconst (pc := 1) hC (v := (0 : Int32)) (by decide) dX1_clear_1 ?_
  refine pC_2_1 (pc := 2) hC k_139 dX1_clear_2 ?_
  refine r_letm (fun s1 => ?_)
  refine r_iconst (pc := 5) hC (v := (0 : Int32)) (by decide) dX1_clear_5 ?_
  refine r_istore_n (pc := 6) hC rfl rfl dX1_clear_6 ?_
  refine w_it2 (fun i2 s3 => s3) (fun i2 s3 => [some (.ref (ad κ 2)), some (.int i2)]) (fun self4 ih7_4 i2 s3 => ?_) N (0 : Int32) s1
  unfold Du_clearN_B7
  refine r_iload_n (pc := 7) hC rfl dX1_clear_7 ?_
  refine r_bipush (pc := 8) hC (v := (8 : Int32)) (by decide) dX1_clear_8 ?_
  refine r_icmp_ge (pc := 10) (tgt := 26) hC dX1_clear_10 (by decide) ?_ ?_
  · exact r_retM hC dX1_clear_26
  · refine r_aload_n (pc := 13) hC rfl dX1_clear_13 ?_
    refine gC_2_0 (pc := 14) hC k_132 dX1_clear_14 ?_
    refine r_iload_n (pc := 17) hC rfl dX1_clear_17 ?_
    refine r_iconst (pc := 18) hC (v := (0 : Int32)) (by decide) dX1_clear_18 ?_
    refine bC_13 (pc := 19) hC dX1_clear_19 ?_
    refine r_letm (fun s5 => ?_)
    refine r_iinc (pc := 20) hC (v := (1 : Int32)) rfl (by decide) rfl rfl dX1_clear_20 ?_
    refine r_goto (pc := 23) (tgt := 7) hC dX1_clear_23 (by decide) ?_
    exact ih7_4 (i2 + (1 : Int32)) s5
set_option maxRecDepth 100000 in
set_option maxHeartbeats 4000000 in
theorem c_Du_clearN (l : Launch) (w : Wenv) (hw : okw w wC) (N : Nat) (σ : Mem) (τ : Mem) (hf : f_Du_clearN N  σ = some τ) : Ctr l w wC yX1_clear cX1_clear 2 none 0 0 [.ref (w.2.2.1 2)] σ (cQv w wC τ) := mk_ctr (Q := fun κ => qM κ wC) (lv := [some (.ref (w.2.2.1 2)), none]) (by decide) rfl hw (Nat.le_of_ble_eq_true rfl) rfl hf (fun κ h => by subst h; rfl) (fun κ hl h hR hC => by
    subst h
    exact w_Du_clearN hR hC N  σ)
-- DuelRound$Duels.letBeat(II)V (2, None, None) kind M
def f_Du_letBeatN (a1 : Int32) (a2 : Int32) (σ : Mem) : Option Mem :=
  gd (inb a1 8) (gd (inb a1 8) (bnd (sI σ 13 a1.toNatClampNeg ((gI σ 13 a1.toNatClampNeg) ||| ((1 : Int32) <<< (a2 &&& 31)))) fun s1 =>
  gd (inb a2 8) (gd (inb a2 8) (bnd (sI s1 13 a2.toNatClampNeg ((gI s1 13 a2.toNatClampNeg) &&& (((1 : Int32) <<< (a1 &&& 31)) ^^^ (-1 : Int32)))) fun s2 =>
  some s2))))
set_option maxRecDepth 100000 in
set_option maxHeartbeats 4000000 in
theorem w_Du_letBeatN {κ : Ctx} (hR : kR κ = { frames := 0, cells := 0, slots := 0, locals := 0 }) (hC : ok κ wC cX1_letBeat 3 RX1 none) (a1 : Int32) (a2 : Int32) (σ : Mem) : wF κ wC 3 (qM κ wC) σ 0 [some (.ref (ad κ 2)), some (.int a1), some (.int a2)] [] (f_Du_letBeatN a1 a2 σ) := by
  unfold f_Du_letBeatN
  refine r_aload_n (pc := 0) hC rfl dX1_letBeat_0 ?_
  refine gC_2_0 (pc := 1) hC k_132 dX1_letBeat_1 ?_
  refine r_iload_n (pc := 4) hC rfl dX1_letBeat_4 ?_
  refine r_dup2 (pc := 5) hC rfl rfl dX1_letBeat_5 ?_
  refine aC_13 (pc := 6) hC dX1_letBeat_6 ?_
  refine r_iconst (pc := 7) hC (v := (1 : Int32)) (by decide) dX1_letBeat_7 ?_
  refine r_iload_n (pc := 8) hC rfl dX1_letBeat_8 ?_
  refine r_ishl (pc := 9) hC dX1_letBeat_9 ?_
  refine r_ior (pc := 10) hC dX1_letBeat_10 ?_
  refine bC_13 (pc := 11) hC dX1_letBeat_11 ?_
  refine r_letm (fun s1 => ?_)
  refine r_aload_n (pc := 12) hC rfl dX1_letBeat_12 ?_
  refine gC_2_0 (pc := 13) hC k_132 dX1_letBeat_13 ?_
  refine r_iload_n (pc := 16) hC rfl dX1_letBeat_16 ?_
  refine r_dup2 (pc := 17) hC rfl rfl dX1_letBeat_17 ?_
  refine aC_13 (pc := 18) hC dX1_letBeat_18 ?_
  refine r_iconst (pc := 19) hC (v := (1 : Int32)) (by decide) dX1_letBeat_19 ?_
  refine r_iload_n (pc := 20) hC rfl dX1_letBeat_20 ?_
  refine r_ishl (pc := 21) hC dX1_letBeat_21 ?_
  refine r_iconst (pc := 22) hC (v := (-1 : Int32)) (by decide) dX1_letBeat_22 ?_
  refine r_ixor (pc := 23) hC dX1_letBeat_23 ?_
  refine r_iand (pc := 24) hC dX1_letBeat_24 ?_
  refine bC_13 (pc := 25) hC dX1_letBeat_25 ?_
  refine r_letm (fun s2 => ?_)
  exact r_retM hC dX1_letBeat_26
set_option maxRecDepth 100000 in
set_option maxHeartbeats 4000000 in
theorem c_Du_letBeatN (l : Launch) (w : Wenv) (hw : okw w wC) (a1 : Int32) (a2 : Int32) (σ : Mem) (τ : Mem) (hf : f_Du_letBeatN a1 a2 σ = some τ) : Ctr l w wC yX1_letBeat cX1_letBeat 3 none 0 0 [.ref (w.2.2.1 2), .int a1, .int a2] σ (cQv w wC τ) := mk_ctr (Q := fun κ => qM κ wC) (lv := [some (.ref (w.2.2.1 2)), some (.int a1), some (.int a2)]) (by decide) rfl hw (Nat.le_of_ble_eq_true rfl) rfl hf (fun κ h => by subst h; rfl) (fun κ hl h hR hC => by
    subst h
    exact w_Du_letBeatN hR hC a1 a2 σ)
-- DuelRound$Duels.unpack(J)V (2, None) kind M
def Du_unpackN_K84 (x2 : Int32) (s5 : Mem) : Option Mem :=
  bnd (sI s5 3 0 x2) fun s6 =>
  some s6
def Du_unpackN_B31 (i8 : Int32) (self10 : Int64 → Int32 → Mem → Option Mem) (self15 : Int64 → Int32 → Mem → Option Mem) (i12 : Int64) (i13 : Int32) (s14 : Mem) : Option Mem :=
  if i13 ≤ i8 then
  (self10 i12 (i8 + (-1 : Int32)) s14)
  else
  (if (lg_cmp (i12 &&& (1 : Int64)) (1 : Int64)) = (0 : Int32) then
  (ob (f_Du_letBeatN i8 i13 s14) fun s18 =>
  bnd (i12 >>> ((1 : Int32).toInt64 &&& 63)) fun l19 =>
  self15 l19 (i13 + (-1 : Int32)) s18)
  else
  (ob (f_Du_letBeatN i13 i8 s14) fun s16 =>
  bnd (i12 >>> ((1 : Int32).toInt64 &&& 63)) fun l17 =>
  self15 l17 (i13 + (-1 : Int32)) s16))
def Du_unpackN_B21 (N : Nat) (x2 : Int32) (self10 : Int64 → Int32 → Mem → Option Mem) (i7 : Int64) (i8 : Int32) (s9 : Mem) : Option Mem :=
  if i8 < (0 : Int32) then
  (Du_unpackN_K84 x2 s9)
  else
  (bnd (x2 - (1 : Int32)) fun x11 =>
  it3 (Du_unpackN_B31 i8 self10) N i7 x11 s9)
def f_Du_unpackN (N : Nat) (a1 : Int64) (σ : Mem) : Option Mem :=
  ob (f_Du_clearN N σ) fun s1 =>
  bnd ((a1 &&& (15 : Int64)).toInt32) fun x2 =>
  bnd (a1 >>> ((4 : Int32).toInt64 &&& 63)) fun l3 =>
  bnd (x2 - (1 : Int32)) fun x4 =>
  it3 (Du_unpackN_B21 N x2) N l3 x4 s1
set_option maxRecDepth 100000 in
set_option maxHeartbeats 4000000 in
theorem w_Du_unpackN {κ : Ctx} (hR : kR κ = { frames := 1, cells := 0, slots := 0, locals := 22 }) (hC : ok κ wC cX1_unpack 8 RX1 none) (N : Nat) (a1 : Int64) (σ : Mem) : wF κ wC 8 (qM κ wC) σ 0 [some (.ref (ad κ 2)), some (.long a1), none, none, none, none, none, none] [] (f_Du_unpackN N a1 σ) := by
  unfold f_Du_unpackN
  refine r_aload_n (pc := 0) hC rfl dX1_unpack_0 ?_
  refine r_cM (pc := 1) (rest := []) (fun s1 hf => runV [] hC (c_Du_clearN (kl κ) (kW κ) hC.2.2.2.2.2.2.2.2.1 N σ s1 hf) o_X1_clear k_430 (q0 := 2) (ci := 1) rfl rfl (rm_ok hR rfl) rfl (Nat.le_of_ble_eq_true rfl) dX1_unpack_1) (fun s1 => ?_)
  refine r_lload_n (pc := 4) hC rfl dX1_unpack_4 ?_
  refine r_ldc2 (pc := 5) hC (v := (15 : Int64)) k_431 dX1_unpack_5 ?_
  refine r_land (pc := 8) hC dX1_unpack_8 ?_
  refine r_l2i (pc := 9) hC dX1_unpack_9 ?_
  refine r_let (fun x2 => ?_)
  refine r_istore_n (pc := 10) hC rfl rfl dX1_unpack_10 ?_
  refine r_lload_n (pc := 11) hC rfl dX1_unpack_11 ?_
  refine r_iconst (pc := 12) hC (v := (4 : Int32)) (by decide) dX1_unpack_12 ?_
  refine r_lshr (pc := 13) hC dX1_unpack_13 ?_
  refine r_letl (fun l3 => ?_)
  refine r_lstore (pc := 14) hC rfl rfl dX1_unpack_14 ?_
  refine r_iload_n (pc := 16) hC rfl dX1_unpack_16 ?_
  refine r_iconst (pc := 17) hC (v := (1 : Int32)) (by decide) dX1_unpack_17 ?_
  refine r_isub (pc := 18) hC dX1_unpack_18 ?_
  refine r_let (fun x4 => ?_)
  refine r_istore (pc := 19) hC rfl rfl dX1_unpack_19 ?_
  have hK84_6 : ∀ (s5 : Mem), wF κ wC 8 (qM κ wC) s5 84 [some (.ref (ad κ 2)), none, none, some (.int x2), none, none, none, none] [] (Du_unpackN_K84 x2 s5) := by
    intro s5
    unfold Du_unpackN_K84
    refine r_aload_n (pc := 84) hC rfl dX1_unpack_84 ?_
    refine r_iload_n (pc := 85) hC rfl dX1_unpack_85 ?_
    refine pC_2_1 (pc := 86) hC k_139 dX1_unpack_86 ?_
    refine r_letm (fun s6 => ?_)
    exact r_retM hC dX1_unpack_89
  refine r_wk [true, false, false, true, true, false, true, false] (w_it3 (fun i7 i8 s9 => s9) (fun i7 i8 s9 => [some (.ref (ad κ 2)), none, none, some (.int x2), some (.long i7), none, some (.int i8), none]) (fun self10 ih21_10 i7 i8 s9 => ?_) N l3 x4 s1)
  unfold Du_unpackN_B21
  refine r_iload (pc := 21) hC rfl dX1_unpack_21 ?_
  refine r_if_lt (pc := 23) (tgt := 84) hC dX1_unpack_23 (by decide) ?_ ?_
  · exact r_wk [true, false, false, true, false, false, false, false] (hK84_6 s9)
  · refine r_iload_n (pc := 26) hC rfl dX1_unpack_26 ?_
    refine r_iconst (pc := 27) hC (v := (1 : Int32)) (by decide) dX1_unpack_27 ?_
    refine r_isub (pc := 28) hC dX1_unpack_28 ?_
    refine r_let (fun x11 => ?_)
    refine r_istore (pc := 29) hC rfl rfl dX1_unpack_29 ?_
    refine w_it3 (fun i12 i13 s14 => s14) (fun i12 i13 s14 => [some (.ref (ad κ 2)), none, none, some (.int x2), some (.long i12), none, some (.int i8), some (.int i13)]) (fun self15 ih31_15 i12 i13 s14 => ?_) N i7 x11 s9
    unfold Du_unpackN_B31
    refine r_iload (pc := 31) hC rfl dX1_unpack_31 ?_
    refine r_iload (pc := 33) hC rfl dX1_unpack_33 ?_
    refine r_icmp_le (pc := 35) (tgt := 78) hC dX1_unpack_35 (by decide) ?_ ?_
    · refine r_iinc (pc := 78) hC (v := (-1 : Int32)) rfl (by decide) rfl rfl dX1_unpack_78 ?_
      refine r_goto (pc := 81) (tgt := 21) hC dX1_unpack_81 (by decide) ?_
      exact r_wk [true, false, false, true, true, false, true, false] (ih21_10 i12 (i8 + (-1 : Int32)) s14)
    · refine r_lload (pc := 38) hC rfl dX1_unpack_38 ?_
      refine r_lconst (pc := 40) hC (v := (1 : Int64)) (by decide) dX1_unpack_40 ?_
      refine r_land (pc := 41) hC dX1_unpack_41 ?_
      refine r_lconst (pc := 42) hC (v := (1 : Int64)) (by decide) dX1_unpack_42 ?_
      refine r_lcmp (pc := 43) hC dX1_unpack_43 ?_
      refine r_if_ne (pc := 44) (tgt := 58) hC dX1_unpack_44 (by decide) ?_ ?_
      · refine r_aload_n (pc := 58) hC rfl dX1_unpack_58 ?_
        refine r_iload (pc := 59) hC rfl dX1_unpack_59 ?_
        refine r_iload (pc := 61) hC rfl dX1_unpack_61 ?_
        refine r_cM (pc := 63) (rest := []) (fun s16 hf => runV [.int i13, .int i8] hC (c_Du_letBeatN (kl κ) (kW κ) hC.2.2.2.2.2.2.2.2.1 i13 i8 s14 s16 hf) o_X1_letBeat k_432 (q0 := 2) (ci := 1) rfl rfl (rm_ok hR rfl) rfl (Nat.le_of_ble_eq_true rfl) dX1_unpack_63) (fun s16 => ?_)
        refine r_lload (pc := 66) hC rfl dX1_unpack_66 ?_
        refine r_iconst (pc := 68) hC (v := (1 : Int32)) (by decide) dX1_unpack_68 ?_
        refine r_lshr (pc := 69) hC dX1_unpack_69 ?_
        refine r_letl (fun l17 => ?_)
        refine r_lstore (pc := 70) hC rfl rfl dX1_unpack_70 ?_
        refine r_iinc (pc := 72) hC (v := (-1 : Int32)) rfl (by decide) rfl rfl dX1_unpack_72 ?_
        refine r_goto (pc := 75) (tgt := 31) hC dX1_unpack_75 (by decide) ?_
        exact ih31_15 l17 (i13 + (-1 : Int32)) s16
      · refine r_aload_n (pc := 47) hC rfl dX1_unpack_47 ?_
        refine r_iload (pc := 48) hC rfl dX1_unpack_48 ?_
        refine r_iload (pc := 50) hC rfl dX1_unpack_50 ?_
        refine r_cM (pc := 52) (rest := []) (fun s18 hf => runV [.int i8, .int i13] hC (c_Du_letBeatN (kl κ) (kW κ) hC.2.2.2.2.2.2.2.2.1 i8 i13 s14 s18 hf) o_X1_letBeat k_432 (q0 := 2) (ci := 1) rfl rfl (rm_ok hR rfl) rfl (Nat.le_of_ble_eq_true rfl) dX1_unpack_52) (fun s18 => ?_)
        refine r_goto (pc := 55) (tgt := 66) hC dX1_unpack_55 (by decide) ?_
        refine r_lload (pc := 66) hC rfl dX1_unpack_66 ?_
        refine r_iconst (pc := 68) hC (v := (1 : Int32)) (by decide) dX1_unpack_68 ?_
        refine r_lshr (pc := 69) hC dX1_unpack_69 ?_
        refine r_letl (fun l19 => ?_)
        refine r_lstore (pc := 70) hC rfl rfl dX1_unpack_70 ?_
        refine r_iinc (pc := 72) hC (v := (-1 : Int32)) rfl (by decide) rfl rfl dX1_unpack_72 ?_
        refine r_goto (pc := 75) (tgt := 31) hC dX1_unpack_75 (by decide) ?_
        exact ih31_15 l19 (i13 + (-1 : Int32)) s18
set_option maxRecDepth 100000 in
set_option maxHeartbeats 4000000 in
theorem c_Du_unpackN (l : Launch) (w : Wenv) (hw : okw w wC) (N : Nat) (a1 : Int64) (σ : Mem) (τ : Mem) (hf : f_Du_unpackN N a1 σ = some τ) : Ctr l w wC yX1_unpack cX1_unpack 8 none 1 22 [.ref (w.2.2.1 2), .long a1] σ (cQv w wC τ) := mk_ctr (Q := fun κ => qM κ wC) (lv := [some (.ref (w.2.2.1 2)), some (.long a1), none, none, none, none, none, none]) (by decide) rfl hw (Nat.le_of_ble_eq_true rfl) rfl hf (fun κ h => by subst h; rfl) (fun κ hl h hR hC => by
    subst h
    exact w_Du_unpackN hR hC N a1 σ)
-- DuelRound.again(I)Z (0, None) kind OM
def f_D_again (N : Nat) (a1 : Int32) (σ : Mem) : Option (Int32 × Mem) :=
  ob (f_Pa_isKept a1 σ) fun r1 =>
  if r1 = (0 : Int32) then
  (some ((0 : Int32), σ))
  else
  (ob (f_Du_packedN N σ) fun r2 =>
  ob (f_Pa_remember r2 σ) fun s3 =>
  gd (inb a1 2) (ob (f_Du_unpackN N (gJ s3 16 a1.toNatClampNeg) s3) fun s4 =>
  some ((1 : Int32), s4)))
set_option maxRecDepth 100000 in
set_option maxHeartbeats 4000000 in
theorem w_D_again {κ : Ctx} (hR : kR κ = { frames := 2, cells := 0, slots := 0, locals := 82 }) (hC : ok κ wC cX9_again 2 RX9 (some .boolean)) (N : Nat) (a1 : Int32) (σ : Mem) : wF κ wC 2 (qOM κ wC) σ 0 [some (.ref (ad κ 0)), some (.int a1)] [] (f_D_again N a1 σ) := by
  unfold f_D_again
  refine r_aload_n (pc := 0) hC rfl dX9_again_0 ?_
  refine gC_0_3 (pc := 1) hC k_314 dX9_again_1 ?_
  refine r_iload_n (pc := 4) hC rfl dX9_again_4 ?_
  refine r_cO (pc := 5) (rest := []) (fun r1 hf => runV [.int a1] hC (c_Pa_isKept (kl κ) (kW κ) hC.2.2.2.2.2.2.2.2.1 a1 σ r1 hf) o_X4_isKept k_930 (q0 := 4) (ci := 4) rfl rfl (rm_ok hR rfl) rfl (Nat.le_of_ble_eq_true rfl) dX9_again_5) (fun r1 => ?_)
  refine r_if_ne (pc := 8) (tgt := 13) hC dX9_again_8 (by decide) ?_ ?_
  · refine r_aload_n (pc := 13) hC rfl dX9_again_13 ?_
    refine gC_0_3 (pc := 14) hC k_314 dX9_again_14 ?_
    refine r_aload_n (pc := 17) hC rfl dX9_again_17 ?_
    refine gC_0_1 (pc := 18) hC k_312 dX9_again_18 ?_
    refine r_cL (pc := 21) (rest := [.ref (ad κ 4)]) (fun r2 hf => runV [] hC (c_Du_packedN (kl κ) (kW κ) hC.2.2.2.2.2.2.2.2.1 N σ r2 hf) o_X1_packed k_419 (q0 := 2) (ci := 1) rfl rfl (rm_ok hR rfl) rfl (Nat.le_of_ble_eq_true rfl) dX9_again_21) (fun r2 => ?_)
    refine r_cM (pc := 24) (rest := []) (fun s3 hf => runV [.long r2] hC (c_Pa_remember (kl κ) (kW κ) hC.2.2.2.2.2.2.2.2.1 r2 σ s3 hf) o_X4_remember k_463 (q0 := 4) (ci := 4) rfl rfl (rm_ok hR rfl) rfl (Nat.le_of_ble_eq_true rfl) dX9_again_24) (fun s3 => ?_)
    refine r_aload_n (pc := 27) hC rfl dX9_again_27 ?_
    refine gC_0_1 (pc := 28) hC k_312 dX9_again_28 ?_
    refine r_aload_n (pc := 31) hC rfl dX9_again_31 ?_
    refine gC_0_3 (pc := 32) hC k_314 dX9_again_32 ?_
    refine gC_4_1 (pc := 35) hC k_160 dX9_again_35 ?_
    refine r_iload_n (pc := 38) hC rfl dX9_again_38 ?_
    refine aC_16 (pc := 39) hC dX9_again_39 ?_
    refine r_cM (pc := 40) (rest := []) (fun s4 hf => runV [.long (gJ s3 16 a1.toNatClampNeg)] hC (c_Du_unpackN (kl κ) (kW κ) hC.2.2.2.2.2.2.2.2.1 N (gJ s3 16 a1.toNatClampNeg) s3 s4 hf) o_X1_unpack k_426 (q0 := 2) (ci := 1) rfl rfl (rm_ok hR rfl) rfl (Nat.le_of_ble_eq_true rfl) dX9_again_40) (fun s4 => ?_)
    refine r_iconst (pc := 43) hC (v := (1 : Int32)) (by decide) dX9_again_43 ?_
    exact r_retOM hC rfl dX9_again_44
  · refine r_iconst (pc := 11) hC (v := (0 : Int32)) (by decide) dX9_again_11 ?_
    exact r_retOM hC rfl dX9_again_12
set_option maxRecDepth 100000 in
set_option maxHeartbeats 4000000 in
theorem c_D_again (l : Launch) (w : Wenv) (hw : okw w wC) (N : Nat) (a1 : Int32) (σ : Mem) (r : Int32) (τ : Mem) (hf : f_D_again N a1 σ = some (r, τ)) : Ctr l w wC yX9_again cX9_again 2 (some .boolean) 2 82 [.ref (w.2.2.1 0), .int a1] σ (cQi w wC r τ) := mk_ctr (Q := fun κ => qOM κ wC) (lv := [some (.ref (w.2.2.1 0)), some (.int a1)]) (by decide) rfl hw (Nat.le_of_ble_eq_true rfl) rfl hf (fun κ h => by subst h; rfl) (fun κ hl h hR hC => by
    subst h
    exact w_D_again hR hC N a1 σ)
-- DuelRound$Duels.clear()V (3,) kind M
def Du_clearS_B7 (self4 : Int32 → Mem → Option Mem) (i2 : Int32) (s3 : Mem) : Option Mem :=
  if (8 : Int32) ≤ i2 then
  (some s3)
  else
  (gd (inb i2 8) (bnd (sI s3 14 i2.toNatClampNeg (0 : Int32)) fun s5 =>
  self4 (i2 + (1 : Int32)) s5))
def f_Du_clearS (N : Nat) (σ : Mem) : Option Mem :=
  bnd (sI σ 4 0 (0 : Int32)) fun s1 =>
  it2 (Du_clearS_B7) N (0 : Int32) s1
set_option maxRecDepth 100000 in
set_option maxHeartbeats 4000000 in
theorem w_Du_clearS {κ : Ctx} (hR : kR κ = { frames := 0, cells := 0, slots := 0, locals := 0 }) (hC : ok κ wC cX1_clear 2 RX1 none) (N : Nat) (σ : Mem) : wF κ wC 2 (qM κ wC) σ 0 [some (.ref (ad κ 3)), none] [] (f_Du_clearS N  σ) := by
  unfold f_Du_clearS
  refine r_aload_n (pc := 0) hC rfl dX1_clear_0 ?_
  refine r_iconst (pc := 1) hC (v := (0 : Int32)) (by decide) dX1_clear_1 ?_
  refine pC_3_1 (pc := 2) hC k_139 dX1_clear_2 ?_
  refine r_letm (fun s1 => ?_)
  refine r_iconst (pc := 5) hC (v := (0 : Int32)) (by decide) dX1_clear_5 ?_
  refine r_istore_n (pc := 6) hC rfl rfl dX1_clear_6 ?_
  refine w_it2 (fun i2 s3 => s3) (fun i2 s3 => [some (.ref (ad κ 3)), some (.int i2)]) (fun self4 ih7_4 i2 s3 => ?_) N (0 : Int32) s1
  unfold Du_clearS_B7
  refine r_iload_n (pc := 7) hC rfl dX1_clear_7 ?_
  refine r_bipush (pc := 8) hC (v := (8 : Int32)) (by decide) dX1_clear_8 ?_
  refine r_icmp_ge (pc := 10) (tgt := 26) hC dX1_clear_10 (by decide) ?_ ?_
  · exact r_retM hC dX1_clear_26
  · refine r_aload_n (pc := 13) hC rfl dX1_clear_13 ?_
    refine gC_3_0 (pc := 14) hC k_132 dX1_clear_14 ?_
    refine r_iload_n (pc := 17) hC rfl dX1_clear_17 ?_
    refine r_iconst (pc := 18) hC (v := (0 : Int32)) (by decide) dX1_clear_18 ?_
    refine bC_14 (pc := 19) hC dX1_clear_19 ?_
    refine r_letm (fun s5 => ?_)
    refine r_iinc (pc := 20) hC (v := (1 : Int32)) rfl (by decide) rfl rfl dX1_clear_20 ?_
    refine r_goto (pc := 23) (tgt := 7) hC dX1_clear_23 (by decide) ?_
    exact ih7_4 (i2 + (1 : Int32)) s5
set_option maxRecDepth 100000 in
set_option maxHeartbeats 4000000 in
theorem c_Du_clearS (l : Launch) (w : Wenv) (hw : okw w wC) (N : Nat) (σ : Mem) (τ : Mem) (hf : f_Du_clearS N  σ = some τ) : Ctr l w wC yX1_clear cX1_clear 2 none 0 0 [.ref (w.2.2.1 3)] σ (cQv w wC τ) := mk_ctr (Q := fun κ => qM κ wC) (lv := [some (.ref (w.2.2.1 3)), none]) (by decide) rfl hw (Nat.le_of_ble_eq_true rfl) rfl hf (fun κ h => by subst h; rfl) (fun κ hl h hR hC => by
    subst h
    exact w_Du_clearS hR hC N  σ)
-- DuelRound$Duels.letBeat(II)V (3, None, None) kind M
def f_Du_letBeatS (a1 : Int32) (a2 : Int32) (σ : Mem) : Option Mem :=
  gd (inb a1 8) (gd (inb a1 8) (bnd (sI σ 14 a1.toNatClampNeg ((gI σ 14 a1.toNatClampNeg) ||| ((1 : Int32) <<< (a2 &&& 31)))) fun s1 =>
  gd (inb a2 8) (gd (inb a2 8) (bnd (sI s1 14 a2.toNatClampNeg ((gI s1 14 a2.toNatClampNeg) &&& (((1 : Int32) <<< (a1 &&& 31)) ^^^ (-1 : Int32)))) fun s2 =>
  some s2))))
set_option maxRecDepth 100000 in
set_option maxHeartbeats 4000000 in
theorem w_Du_letBeatS {κ : Ctx} (hR : kR κ = { frames := 0, cells := 0, slots := 0, locals := 0 }) (hC : ok κ wC cX1_letBeat 3 RX1 none) (a1 : Int32) (a2 : Int32) (σ : Mem) : wF κ wC 3 (qM κ wC) σ 0 [some (.ref (ad κ 3)), some (.int a1), some (.int a2)] [] (f_Du_letBeatS a1 a2 σ) := by
  unfold f_Du_letBeatS
  refine r_aload_n (pc := 0) hC rfl dX1_letBeat_0 ?_
  refine gC_3_0 (pc := 1) hC k_132 dX1_letBeat_1 ?_
  refine r_iload_n (pc := 4) hC rfl dX1_letBeat_4 ?_
  refine r_dup2 (pc := 5) hC rfl rfl dX1_letBeat_5 ?_
  refine aC_14 (pc := 6) hC dX1_letBeat_6 ?_
  refine r_iconst (pc := 7) hC (v := (1 : Int32)) (by decide) dX1_letBeat_7 ?_
  refine r_iload_n (pc := 8) hC rfl dX1_letBeat_8 ?_
  refine r_ishl (pc := 9) hC dX1_letBeat_9 ?_
  refine r_ior (pc := 10) hC dX1_letBeat_10 ?_
  refine bC_14 (pc := 11) hC dX1_letBeat_11 ?_
  refine r_letm (fun s1 => ?_)
  refine r_aload_n (pc := 12) hC rfl dX1_letBeat_12 ?_
  refine gC_3_0 (pc := 13) hC k_132 dX1_letBeat_13 ?_
  refine r_iload_n (pc := 16) hC rfl dX1_letBeat_16 ?_
  refine r_dup2 (pc := 17) hC rfl rfl dX1_letBeat_17 ?_
  refine aC_14 (pc := 18) hC dX1_letBeat_18 ?_
  refine r_iconst (pc := 19) hC (v := (1 : Int32)) (by decide) dX1_letBeat_19 ?_
  refine r_iload_n (pc := 20) hC rfl dX1_letBeat_20 ?_
  refine r_ishl (pc := 21) hC dX1_letBeat_21 ?_
  refine r_iconst (pc := 22) hC (v := (-1 : Int32)) (by decide) dX1_letBeat_22 ?_
  refine r_ixor (pc := 23) hC dX1_letBeat_23 ?_
  refine r_iand (pc := 24) hC dX1_letBeat_24 ?_
  refine bC_14 (pc := 25) hC dX1_letBeat_25 ?_
  refine r_letm (fun s2 => ?_)
  exact r_retM hC dX1_letBeat_26
set_option maxRecDepth 100000 in
set_option maxHeartbeats 4000000 in
theorem c_Du_letBeatS (l : Launch) (w : Wenv) (hw : okw w wC) (a1 : Int32) (a2 : Int32) (σ : Mem) (τ : Mem) (hf : f_Du_letBeatS a1 a2 σ = some τ) : Ctr l w wC yX1_letBeat cX1_letBeat 3 none 0 0 [.ref (w.2.2.1 3), .int a1, .int a2] σ (cQv w wC τ) := mk_ctr (Q := fun κ => qM κ wC) (lv := [some (.ref (w.2.2.1 3)), some (.int a1), some (.int a2)]) (by decide) rfl hw (Nat.le_of_ble_eq_true rfl) rfl hf (fun κ h => by subst h; rfl) (fun κ hl h hR hC => by
    subst h
    exact w_Du_letBeatS hR hC a1 a2 σ)
-- DuelRound$Duels.unpack(J)V (3, None) kind M
def Du_unpackS_K84 (x2 : Int32) (s5 : Mem) : Option Mem :=
  bnd (sI s5 4 0 x2) fun s6 =>
  some s6
def Du_unpackS_B31 (i8 : Int32) (self10 : Int64 → Int32 → Mem → Option Mem) (self15 : Int64 → Int32 → Mem → Option Mem) (i12 : Int64) (i13 : Int32) (s14 : Mem) : Option Mem :=
  if i13 ≤ i8 then
  (self10 i12 (i8 + (-1 : Int32)) s14)
  else
  (if (lg_cmp (i12 &&& (1 : Int64)) (1 : Int64)) = (0 : Int32) then
  (ob (f_Du_letBeatS i8 i13 s14) fun s18 =>
  bnd (i12 >>> ((1 : Int32).toInt64 &&& 63)) fun l19 =>
  self15 l19 (i13 + (-1 : Int32)) s18)
  else
  (ob (f_Du_letBeatS i13 i8 s14) fun s16 =>
  bnd (i12 >>> ((1 : Int32).toInt64 &&& 63)) fun l17 =>
  self15 l17 (i13 + (-1 : Int32)) s16))
def Du_unpackS_B21 (N : Nat) (x2 : Int32) (self10 : Int64 → Int32 → Mem → Option Mem) (i7 : Int64) (i8 : Int32) (s9 : Mem) : Option Mem :=
  if i8 < (0 : Int32) then
  (Du_unpackS_K84 x2 s9)
  else
  (bnd (x2 - (1 : Int32)) fun x11 =>
  it3 (Du_unpackS_B31 i8 self10) N i7 x11 s9)
def f_Du_unpackS (N : Nat) (a1 : Int64) (σ : Mem) : Option Mem :=
  ob (f_Du_clearS N σ) fun s1 =>
  bnd ((a1 &&& (15 : Int64)).toInt32) fun x2 =>
  bnd (a1 >>> ((4 : Int32).toInt64 &&& 63)) fun l3 =>
  bnd (x2 - (1 : Int32)) fun x4 =>
  it3 (Du_unpackS_B21 N x2) N l3 x4 s1
set_option maxRecDepth 100000 in
set_option maxHeartbeats 4000000 in
theorem w_Du_unpackS {κ : Ctx} (hR : kR κ = { frames := 1, cells := 0, slots := 0, locals := 22 }) (hC : ok κ wC cX1_unpack 8 RX1 none) (N : Nat) (a1 : Int64) (σ : Mem) : wF κ wC 8 (qM κ wC) σ 0 [some (.ref (ad κ 3)), some (.long a1), none, none, none, none, none, none] [] (f_Du_unpackS N a1 σ) := by
  unfold f_Du_unpackS
  refine r_aload_n (pc := 0) hC rfl dX1_unpack_0 ?_
  refine r_cM (pc := 1) (rest := []) (fun s1 hf => runV [] hC (c_Du_clearS (kl κ) (kW κ) hC.2.2.2.2.2.2.2.2.1 N σ s1 hf) o_X1_clear k_430 (q0 := 3) (ci := 1) rfl rfl (rm_ok hR rfl) rfl (Nat.le_of_ble_eq_true rfl) dX1_unpack_1) (fun s1 => ?_)
  refine r_lload_n (pc := 4) hC rfl dX1_unpack_4 ?_
  refine r_ldc2 (pc := 5) hC (v := (15 : Int64)) k_431 dX1_unpack_5 ?_
  refine r_land (pc := 8) hC dX1_unpack_8 ?_
  refine r_l2i (pc := 9) hC dX1_unpack_9 ?_
  refine r_let (fun x2 => ?_)
  refine r_istore_n (pc := 10) hC rfl rfl dX1_unpack_10 ?_
  refine r_lload_n (pc := 11) hC rfl dX1_unpack_11 ?_
  refine r_iconst (pc := 12) hC (v := (4 : Int32)) (by decide) dX1_unpack_12 ?_
  refine r_lshr (pc := 13) hC dX1_unpack_13 ?_
  refine r_letl (fun l3 => ?_)
  refine r_lstore (pc := 14) hC rfl rfl dX1_unpack_14 ?_
  refine r_iload_n (pc := 16) hC rfl dX1_unpack_16 ?_
  refine r_iconst (pc := 17) hC (v := (1 : Int32)) (by decide) dX1_unpack_17 ?_
  refine r_isub (pc := 18) hC dX1_unpack_18 ?_
  refine r_let (fun x4 => ?_)
  refine r_istore (pc := 19) hC rfl rfl dX1_unpack_19 ?_
  have hK84_6 : ∀ (s5 : Mem), wF κ wC 8 (qM κ wC) s5 84 [some (.ref (ad κ 3)), none, none, some (.int x2), none, none, none, none] [] (Du_unpackS_K84 x2 s5) := by
    intro s5
    unfold Du_unpackS_K84
    refine r_aload_n (pc := 84) hC rfl dX1_unpack_84 ?_
    refine r_iload_n (pc := 85) hC rfl dX1_unpack_85 ?_
    refine pC_3_1 (pc := 86) hC k_139 dX1_unpack_86 ?_
    refine r_letm (fun s6 => ?_)
    exact r_retM hC dX1_unpack_89
  refine r_wk [true, false, false, true, true, false, true, false] (w_it3 (fun i7 i8 s9 => s9) (fun i7 i8 s9 => [some (.ref (ad κ 3)), none, none, some (.int x2), some (.long i7), none, some (.int i8), none]) (fun self10 ih21_10 i7 i8 s9 => ?_) N l3 x4 s1)
  unfold Du_unpackS_B21
  refine r_iload (pc := 21) hC rfl dX1_unpack_21 ?_
  refine r_if_lt (pc := 23) (tgt := 84) hC dX1_unpack_23 (by decide) ?_ ?_
  · exact r_wk [true, false, false, true, false, false, false, false] (hK84_6 s9)
  · refine r_iload_n (pc := 26) hC rfl dX1_unpack_26 ?_
    refine r_iconst (pc := 27) hC (v := (1 : Int32)) (by decide) dX1_unpack_27 ?_
    refine r_isub (pc := 28) hC dX1_unpack_28 ?_
    refine r_let (fun x11 => ?_)
    refine r_istore (pc := 29) hC rfl rfl dX1_unpack_29 ?_
    refine w_it3 (fun i12 i13 s14 => s14) (fun i12 i13 s14 => [some (.ref (ad κ 3)), none, none, some (.int x2), some (.long i12), none, some (.int i8), some (.int i13)]) (fun self15 ih31_15 i12 i13 s14 => ?_) N i7 x11 s9
    unfold Du_unpackS_B31
    refine r_iload (pc := 31) hC rfl dX1_unpack_31 ?_
    refine r_iload (pc := 33) hC rfl dX1_unpack_33 ?_
    refine r_icmp_le (pc := 35) (tgt := 78) hC dX1_unpack_35 (by decide) ?_ ?_
    · refine r_iinc (pc := 78) hC (v := (-1 : Int32)) rfl (by decide) rfl rfl dX1_unpack_78 ?_
      refine r_goto (pc := 81) (tgt := 21) hC dX1_unpack_81 (by decide) ?_
      exact r_wk [true, false, false, true, true, false, true, false] (ih21_10 i12 (i8 + (-1 : Int32)) s14)
    · refine r_lload (pc := 38) hC rfl dX1_unpack_38 ?_
      refine r_lconst (pc := 40) hC (v := (1 : Int64)) (by decide) dX1_unpack_40 ?_
      refine r_land (pc := 41) hC dX1_unpack_41 ?_
      refine r_lconst (pc := 42) hC (v := (1 : Int64)) (by decide) dX1_unpack_42 ?_
      refine r_lcmp (pc := 43) hC dX1_unpack_43 ?_
      refine r_if_ne (pc := 44) (tgt := 58) hC dX1_unpack_44 (by decide) ?_ ?_
      · refine r_aload_n (pc := 58) hC rfl dX1_unpack_58 ?_
        refine r_iload (pc := 59) hC rfl dX1_unpack_59 ?_
        refine r_iload (pc := 61) hC rfl dX1_unpack_61 ?_
        refine r_cM (pc := 63) (rest := []) (fun s16 hf => runV [.int i13, .int i8] hC (c_Du_letBeatS (kl κ) (kW κ) hC.2.2.2.2.2.2.2.2.1 i13 i8 s14 s16 hf) o_X1_letBeat k_432 (q0 := 3) (ci := 1) rfl rfl (rm_ok hR rfl) rfl (Nat.le_of_ble_eq_true rfl) dX1_unpack_63) (fun s16 => ?_)
        refine r_lload (pc := 66) hC rfl dX1_unpack_66 ?_
        refine r_iconst (pc := 68) hC (v := (1 : Int32)) (by decide) dX1_unpack_68 ?_
        refine r_lshr (pc := 69) hC dX1_unpack_69 ?_
        refine r_letl (fun l17 => ?_)
        refine r_lstore (pc := 70) hC rfl rfl dX1_unpack_70 ?_
        refine r_iinc (pc := 72) hC (v := (-1 : Int32)) rfl (by decide) rfl rfl dX1_unpack_72 ?_
        refine r_goto (pc := 75) (tgt := 31) hC dX1_unpack_75 (by decide) ?_
        exact ih31_15 l17 (i13 + (-1 : Int32)) s16
      · refine r_aload_n (pc := 47) hC rfl dX1_unpack_47 ?_
        refine r_iload (pc := 48) hC rfl dX1_unpack_48 ?_
        refine r_iload (pc := 50) hC rfl dX1_unpack_50 ?_
        refine r_cM (pc := 52) (rest := []) (fun s18 hf => runV [.int i8, .int i13] hC (c_Du_letBeatS (kl κ) (kW κ) hC.2.2.2.2.2.2.2.2.1 i8 i13 s14 s18 hf) o_X1_letBeat k_432 (q0 := 3) (ci := 1) rfl rfl (rm_ok hR rfl) rfl (Nat.le_of_ble_eq_true rfl) dX1_unpack_52) (fun s18 => ?_)
        refine r_goto (pc := 55) (tgt := 66) hC dX1_unpack_55 (by decide) ?_
        refine r_lload (pc := 66) hC rfl dX1_unpack_66 ?_
        refine r_iconst (pc := 68) hC (v := (1 : Int32)) (by decide) dX1_unpack_68 ?_
        refine r_lshr (pc := 69) hC dX1_unpack_69 ?_
        refine r_letl (fun l19 => ?_)
        refine r_lstore (pc := 70) hC rfl rfl dX1_unpack_70 ?_
        refine r_iinc (pc := 72) hC (v := (-1 : Int32)) rfl (by decide) rfl rfl dX1_unpack_72 ?_
        refine r_goto (pc := 75) (tgt := 31) hC dX1_unpack_75 (by decide) ?_
        exact ih31_15 l19 (i13 + (-1 : Int32)) s18
set_option maxRecDepth 100000 in
set_option maxHeartbeats 4000000 in
theorem c_Du_unpackS (l : Launch) (w : Wenv) (hw : okw w wC) (N : Nat) (a1 : Int64) (σ : Mem) (τ : Mem) (hf : f_Du_unpackS N a1 σ = some τ) : Ctr l w wC yX1_unpack cX1_unpack 8 none 1 22 [.ref (w.2.2.1 3), .long a1] σ (cQv w wC τ) := mk_ctr (Q := fun κ => qM κ wC) (lv := [some (.ref (w.2.2.1 3)), some (.long a1), none, none, none, none, none, none]) (by decide) rfl hw (Nat.le_of_ble_eq_true rfl) rfl hf (fun κ h => by subst h; rfl) (fun κ hl h hR hC => by
    subst h
    exact w_Du_unpackS hR hC N a1 σ)
-- DuelRound$Duels.isBeating(II)Z (2, None, None) kind O
def f_Du_isBeatingN (a1 : Int32) (a2 : Int32) (σ : Mem) : Option Int32 :=
  gd (inb a1 8) (if (((gI σ 13 a1.toNatClampNeg) >>> (a2 &&& 31)) &&& (1 : Int32)) = (1 : Int32) then
  (some (1 : Int32))
  else
  (some (0 : Int32)))
set_option maxRecDepth 100000 in
set_option maxHeartbeats 4000000 in
theorem w_Du_isBeatingN {κ : Ctx} (hR : kR κ = { frames := 0, cells := 0, slots := 0, locals := 0 }) (hC : ok κ wC cX1_isBeating 3 RX1 (some .boolean)) (a1 : Int32) (a2 : Int32) (σ : Mem) : wF κ wC 3 (qO κ wC σ) σ 0 [some (.ref (ad κ 2)), some (.int a1), some (.int a2)] [] (f_Du_isBeatingN a1 a2 σ) := by
  unfold f_Du_isBeatingN
  refine r_aload_n (pc := 0) hC rfl dX1_isBeating_0 ?_
  refine gC_2_0 (pc := 1) hC k_132 dX1_isBeating_1 ?_
  refine r_iload_n (pc := 4) hC rfl dX1_isBeating_4 ?_
  refine aC_13 (pc := 5) hC dX1_isBeating_5 ?_
  refine r_iload_n (pc := 6) hC rfl dX1_isBeating_6 ?_
  refine r_ishr (pc := 7) hC dX1_isBeating_7 ?_
  refine r_iconst (pc := 8) hC (v := (1 : Int32)) (by decide) dX1_isBeating_8 ?_
  refine r_iand (pc := 9) hC dX1_isBeating_9 ?_
  refine r_iconst (pc := 10) hC (v := (1 : Int32)) (by decide) dX1_isBeating_10 ?_
  refine r_icmp_ne (pc := 11) (tgt := 18) hC dX1_isBeating_11 (by decide) ?_ ?_
  · refine r_iconst (pc := 18) hC (v := (0 : Int32)) (by decide) dX1_isBeating_18 ?_
    exact r_retO hC rfl dX1_isBeating_19
  · refine r_iconst (pc := 14) hC (v := (1 : Int32)) (by decide) dX1_isBeating_14 ?_
    refine r_goto (pc := 15) (tgt := 19) hC dX1_isBeating_15 (by decide) ?_
    exact r_retO hC rfl dX1_isBeating_19
set_option maxRecDepth 100000 in
set_option maxHeartbeats 4000000 in
theorem c_Du_isBeatingN (l : Launch) (w : Wenv) (hw : okw w wC) (a1 : Int32) (a2 : Int32) (σ : Mem) (r : Int32) (hf : f_Du_isBeatingN a1 a2 σ = some r) : Ctr l w wC yX1_isBeating cX1_isBeating 3 (some .boolean) 0 0 [.ref (w.2.2.1 2), .int a1, .int a2] σ (cQi w wC r σ) := mk_ctr (Q := fun κ => qO κ wC σ) (lv := [some (.ref (w.2.2.1 2)), some (.int a1), some (.int a2)]) (by decide) rfl hw (Nat.le_of_ble_eq_true rfl) rfl hf (fun κ h => by subst h; rfl) (fun κ hl h hR hC => by
    subst h
    exact w_Du_isBeatingN hR hC a1 a2 σ)
-- DuelRound$Duels.isBeating(II)Z (3, None, None) kind O
def f_Du_isBeatingS (a1 : Int32) (a2 : Int32) (σ : Mem) : Option Int32 :=
  gd (inb a1 8) (if (((gI σ 14 a1.toNatClampNeg) >>> (a2 &&& 31)) &&& (1 : Int32)) = (1 : Int32) then
  (some (1 : Int32))
  else
  (some (0 : Int32)))
set_option maxRecDepth 100000 in
set_option maxHeartbeats 4000000 in
theorem w_Du_isBeatingS {κ : Ctx} (hR : kR κ = { frames := 0, cells := 0, slots := 0, locals := 0 }) (hC : ok κ wC cX1_isBeating 3 RX1 (some .boolean)) (a1 : Int32) (a2 : Int32) (σ : Mem) : wF κ wC 3 (qO κ wC σ) σ 0 [some (.ref (ad κ 3)), some (.int a1), some (.int a2)] [] (f_Du_isBeatingS a1 a2 σ) := by
  unfold f_Du_isBeatingS
  refine r_aload_n (pc := 0) hC rfl dX1_isBeating_0 ?_
  refine gC_3_0 (pc := 1) hC k_132 dX1_isBeating_1 ?_
  refine r_iload_n (pc := 4) hC rfl dX1_isBeating_4 ?_
  refine aC_14 (pc := 5) hC dX1_isBeating_5 ?_
  refine r_iload_n (pc := 6) hC rfl dX1_isBeating_6 ?_
  refine r_ishr (pc := 7) hC dX1_isBeating_7 ?_
  refine r_iconst (pc := 8) hC (v := (1 : Int32)) (by decide) dX1_isBeating_8 ?_
  refine r_iand (pc := 9) hC dX1_isBeating_9 ?_
  refine r_iconst (pc := 10) hC (v := (1 : Int32)) (by decide) dX1_isBeating_10 ?_
  refine r_icmp_ne (pc := 11) (tgt := 18) hC dX1_isBeating_11 (by decide) ?_ ?_
  · refine r_iconst (pc := 18) hC (v := (0 : Int32)) (by decide) dX1_isBeating_18 ?_
    exact r_retO hC rfl dX1_isBeating_19
  · refine r_iconst (pc := 14) hC (v := (1 : Int32)) (by decide) dX1_isBeating_14 ?_
    refine r_goto (pc := 15) (tgt := 19) hC dX1_isBeating_15 (by decide) ?_
    exact r_retO hC rfl dX1_isBeating_19
set_option maxRecDepth 100000 in
set_option maxHeartbeats 4000000 in
theorem c_Du_isBeatingS (l : Launch) (w : Wenv) (hw : okw w wC) (a1 : Int32) (a2 : Int32) (σ : Mem) (r : Int32) (hf : f_Du_isBeatingS a1 a2 σ = some r) : Ctr l w wC yX1_isBeating cX1_isBeating 3 (some .boolean) 0 0 [.ref (w.2.2.1 3), .int a1, .int a2] σ (cQi w wC r σ) := mk_ctr (Q := fun κ => qO κ wC σ) (lv := [some (.ref (w.2.2.1 3)), some (.int a1), some (.int a2)]) (by decide) rfl hw (Nat.le_of_ble_eq_true rfl) rfl hf (fun κ h => by subst h; rfl) (fun κ hl h hR hC => by
    subst h
    exact w_Du_isBeatingS hR hC a1 a2 σ)
-- DuelRound$Names.isFitting(LDuelRound$Duels;LDuelRound$Duels;II)Z (10, 2, 3, None, None) kind O
def Na_isFittingNS_B3 (σ : Mem) (a1 : Int32) (a2 : Int32) (self2 : Int32 → Option Int32) (i1 : Int32) : Option Int32 :=
  if a1 ≤ i1 then
  (some (1 : Int32))
  else
  (ob (f_Du_isBeatingN a1 i1 σ) fun r3 =>
  gd (inb i1 8) (ob (f_Du_isBeatingS a2 (gI σ 27 i1.toNatClampNeg) σ) fun r4 =>
  if r3 = r4 then
  (self2 (i1 + (1 : Int32)))
  else
  (some (0 : Int32))))
def f_Na_isFittingNS (N : Nat) (a1 : Int32) (a2 : Int32) (σ : Mem) : Option Int32 :=
  it1 (Na_isFittingNS_B3 σ a1 a2) N (0 : Int32)
set_option maxRecDepth 100000 in
set_option maxHeartbeats 4000000 in
theorem w_Na_isFittingNS {κ : Ctx} (hR : kR κ = { frames := 1, cells := 0, slots := 0, locals := 22 }) (hC : ok κ wC cX2_isFitting 6 RX2 (some .boolean)) (N : Nat) (a1 : Int32) (a2 : Int32) (σ : Mem) : wF κ wC 6 (qO κ wC σ) σ 0 [some (.ref (ad κ 10)), some (.ref (ad κ 2)), some (.ref (ad κ 3)), some (.int a1), some (.int a2), none] [] (f_Na_isFittingNS N a1 a2 σ) := by
  unfold f_Na_isFittingNS
  refine r_iconst (pc := 0) hC (v := (0 : Int32)) (by decide) dX2_isFitting_0 ?_
  refine r_istore (pc := 1) hC rfl rfl dX2_isFitting_1 ?_
  refine w_it1 (fun i1 => σ) (fun i1 => [some (.ref (ad κ 10)), some (.ref (ad κ 2)), some (.ref (ad κ 3)), some (.int a1), some (.int a2), some (.int i1)]) (fun self2 ih3_2 i1 => ?_) N (0 : Int32)
  unfold Na_isFittingNS_B3
  refine r_iload (pc := 3) hC rfl dX2_isFitting_3 ?_
  refine r_iload_n (pc := 5) hC rfl dX2_isFitting_5 ?_
  refine r_icmp_ge (pc := 6) (tgt := 40) hC dX2_isFitting_6 (by decide) ?_ ?_
  · refine r_iconst (pc := 40) hC (v := (1 : Int32)) (by decide) dX2_isFitting_40 ?_
    exact r_retO hC rfl dX2_isFitting_41
  · refine r_aload_n (pc := 9) hC rfl dX2_isFitting_9 ?_
    refine r_iload_n (pc := 10) hC rfl dX2_isFitting_10 ?_
    refine r_iload (pc := 11) hC rfl dX2_isFitting_11 ?_
    refine r_cO (pc := 13) (rest := []) (fun r3 hf => runV [.int a1, .int i1] hC (c_Du_isBeatingN (kl κ) (kW κ) hC.2.2.2.2.2.2.2.2.1 a1 i1 σ r3 hf) o_X1_isBeating k_913 (q0 := 2) (ci := 1) rfl rfl (rm_ok hR rfl) rfl (Nat.le_of_ble_eq_true rfl) dX2_isFitting_13) (fun r3 => ?_)
    refine r_aload_n (pc := 16) hC rfl dX2_isFitting_16 ?_
    refine r_iload (pc := 17) hC rfl dX2_isFitting_17 ?_
    refine r_aload_n (pc := 19) hC rfl dX2_isFitting_19 ?_
    refine gC_10_0 (pc := 20) hC k_307 dX2_isFitting_20 ?_
    refine r_iload (pc := 23) hC rfl dX2_isFitting_23 ?_
    refine aC_27 (pc := 25) hC dX2_isFitting_25 ?_
    refine r_cO (pc := 26) (rest := [.int r3]) (fun r4 hf => runV [.int a2, .int (gI σ 27 i1.toNatClampNeg)] hC (c_Du_isBeatingS (kl κ) (kW κ) hC.2.2.2.2.2.2.2.2.1 a2 (gI σ 27 i1.toNatClampNeg) σ r4 hf) o_X1_isBeating k_913 (q0 := 3) (ci := 1) rfl rfl (rm_ok hR rfl) rfl (Nat.le_of_ble_eq_true rfl) dX2_isFitting_26) (fun r4 => ?_)
    refine r_icmp_eq (pc := 29) (tgt := 34) hC dX2_isFitting_29 (by decide) ?_ ?_
    · refine r_iinc (pc := 34) hC (v := (1 : Int32)) rfl (by decide) rfl rfl dX2_isFitting_34 ?_
      refine r_goto (pc := 37) (tgt := 3) hC dX2_isFitting_37 (by decide) ?_
      exact ih3_2 (i1 + (1 : Int32))
    · refine r_iconst (pc := 32) hC (v := (0 : Int32)) (by decide) dX2_isFitting_32 ?_
      exact r_retO hC rfl dX2_isFitting_33
set_option maxRecDepth 100000 in
set_option maxHeartbeats 4000000 in
theorem c_Na_isFittingNS (l : Launch) (w : Wenv) (hw : okw w wC) (N : Nat) (a1 : Int32) (a2 : Int32) (σ : Mem) (r : Int32) (hf : f_Na_isFittingNS N a1 a2 σ = some r) : Ctr l w wC yX2_isFitting cX2_isFitting 6 (some .boolean) 1 22 [.ref (w.2.2.1 10), .ref (w.2.2.1 2), .ref (w.2.2.1 3), .int a1, .int a2] σ (cQi w wC r σ) := mk_ctr (Q := fun κ => qO κ wC σ) (lv := [some (.ref (w.2.2.1 10)), some (.ref (w.2.2.1 2)), some (.ref (w.2.2.1 3)), some (.int a1), some (.int a2), none]) (by decide) rfl hw (Nat.le_of_ble_eq_true rfl) rfl hf (fun κ h => by subst h; rfl) (fun κ hl h hR hC => by
    subst h
    exact w_Na_isFittingNS hR hC N a1 a2 σ)
-- DuelRound$Names.waysFrom(LDuelRound$Duels;LDuelRound$Duels;II)I (10, 2, 3, None, None) kind OM
def Na_waysFromNS_B16 (N : Nat) (a1 : Int32) (a2 : Int32) (self : Int32 → Int32 → Mem → Option (Int32 × Mem)) (self4 : Int32 → Int32 → Mem → Option (Int32 × Mem)) (i1 : Int32) (i2 : Int32) (s3 : Mem) : Option (Int32 × Mem) :=
  if (gI s3 4 0) ≤ i2 then
  (some (i1, s3))
  else
  (if (t_D_bitOf a2 i2) = (0 : Int32) then
  (ob (f_Na_isFittingNS N a1 i2 s3) fun r5 =>
  if r5 = (0 : Int32) then
  (self4 i1 (i2 + (1 : Int32)) s3)
  else
  (gd (inb a1 8) (bnd (sI s3 27 a1.toNatClampNeg i2) fun s6 =>
  ob2 (self (a1 + (1 : Int32)) (a2 ||| ((1 : Int32) <<< (i2 &&& 31))) s6) fun r8 s7 =>
  bnd (i1 + r8) fun x9 =>
  self4 x9 (i2 + (1 : Int32)) s7)))
  else
  (self4 i1 (i2 + (1 : Int32)) s3))
def Na_waysFromNS_R (N : Nat) (self : Int32 → Int32 → Mem → Option (Int32 × Mem)) (a1 : Int32) (a2 : Int32) (σ : Mem) : Option (Int32 × Mem) :=
  if a1 < (gI σ 3 0) then
  (it3 (Na_waysFromNS_B16 N a1 a2 self) N (0 : Int32) (0 : Int32) σ)
  else
  (some ((1 : Int32), σ))
def f_Na_waysFromNS (N d : Nat) (a1 : Int32) (a2 : Int32) (σ : Mem) : Option (Int32 × Mem) := it3 (Na_waysFromNS_R N) d a1 a2 σ
set_option maxRecDepth 100000 in
set_option maxHeartbeats 4000000 in
theorem w_Na_waysFromNS {κ : Ctx} {d : Nat} (hR : kR κ = { frames := 2 + (d + 1), cells := 0, slots := 0, locals := 47 + (d + 1) * 26 }) (hC : ok κ wC cX2_waysFrom 7 RX2 (some .int)) (N : Nat) (self : Int32 → Int32 → Mem → Option (Int32 × Mem)) (hself : ∀ (a1 : Int32) (a2 : Int32) (σ : Mem) (r : Int32) (τ : Mem), self a1 a2 σ = some (r, τ) → Ctr (kl κ) (kW κ) wC yX2_waysFrom cX2_waysFrom 7 (some .int) (2 + d) (47 + d * 26) [.ref ((kW κ).2.2.1 10), .ref ((kW κ).2.2.1 2), .ref ((kW κ).2.2.1 3), .int a1, .int a2] σ (cQi (kW κ) wC r τ)) (a1 : Int32) (a2 : Int32) (σ : Mem) : wF κ wC 7 (qOM κ wC) σ 0 [some (.ref (ad κ 10)), some (.ref (ad κ 2)), some (.ref (ad κ 3)), some (.int a1), some (.int a2), none, none] [] (Na_waysFromNS_R N self a1 a2 σ) := by
  have hRs : 2 + d + 1 ≤ (kR κ).frames ∧ 8 + (7 + 11) + (47 + d * 26) ≤ (kR κ).locals := by rw [hR]; exact ⟨by dsimp only; omega, by dsimp only; omega⟩
  have hRb : 2 ≤ (kR κ).frames ∧ 47 ≤ (kR κ).locals := by rw [hR]; exact ⟨by dsimp only; omega, by dsimp only; omega⟩
  unfold Na_waysFromNS_R
  refine r_iload_n (pc := 0) hC rfl dX2_waysFrom_0 ?_
  refine r_aload_n (pc := 1) hC rfl dX2_waysFrom_1 ?_
  refine gC_2_1 (pc := 2) hC k_138 dX2_waysFrom_2 ?_
  refine r_icmp_lt (pc := 5) (tgt := 10) hC dX2_waysFrom_5 (by decide) ?_ ?_
  · refine r_iconst (pc := 10) hC (v := (0 : Int32)) (by decide) dX2_waysFrom_10 ?_
    refine r_istore (pc := 11) hC rfl rfl dX2_waysFrom_11 ?_
    refine r_iconst (pc := 13) hC (v := (0 : Int32)) (by decide) dX2_waysFrom_13 ?_
    refine r_istore (pc := 14) hC rfl rfl dX2_waysFrom_14 ?_
    refine w_it3 (fun i1 i2 s3 => s3) (fun i1 i2 s3 => [some (.ref (ad κ 10)), some (.ref (ad κ 2)), some (.ref (ad κ 3)), some (.int a1), some (.int a2), some (.int i1), some (.int i2)]) (fun self4 ih16_4 i1 i2 s3 => ?_) N (0 : Int32) (0 : Int32) σ
    unfold Na_waysFromNS_B16
    refine r_iload (pc := 16) hC rfl dX2_waysFrom_16 ?_
    refine r_aload_n (pc := 18) hC rfl dX2_waysFrom_18 ?_
    refine gC_3_1 (pc := 19) hC k_138 dX2_waysFrom_19 ?_
    refine r_icmp_ge (pc := 22) (tgt := 82) hC dX2_waysFrom_22 (by decide) ?_ ?_
    · refine r_iload (pc := 82) hC rfl dX2_waysFrom_82 ?_
      exact r_retOM hC rfl dX2_waysFrom_84
    · refine r_iload (pc := 25) hC rfl dX2_waysFrom_25 ?_
      refine r_iload (pc := 27) hC rfl dX2_waysFrom_27 ?_
      refine r_cT (pc := 29) (rest := []) (runSN [.int a2, .int i2] hC (c_D_bitOf (kl κ) (kW κ) hC.2.2.2.2.2.2.2.2.1 a2 i2 s3) o_X9_bitOf (k_908 hC.2.2.2.2.2.2.2.2.2) (rm_le hRb rfl) rfl (Nat.le_of_ble_eq_true rfl) dX2_waysFrom_29) ?_
      refine r_if_ne (pc := 32) (tgt := 76) hC dX2_waysFrom_32 (by decide) ?_ ?_
      · refine r_iinc (pc := 76) hC (v := (1 : Int32)) rfl (by decide) rfl rfl dX2_waysFrom_76 ?_
        refine r_goto (pc := 79) (tgt := 16) hC dX2_waysFrom_79 (by decide) ?_
        exact ih16_4 i1 (i2 + (1 : Int32)) s3
      · refine r_aload_n (pc := 35) hC rfl dX2_waysFrom_35 ?_
        refine r_aload_n (pc := 36) hC rfl dX2_waysFrom_36 ?_
        refine r_aload_n (pc := 37) hC rfl dX2_waysFrom_37 ?_
        refine r_iload_n (pc := 38) hC rfl dX2_waysFrom_38 ?_
        refine r_iload (pc := 39) hC rfl dX2_waysFrom_39 ?_
        refine r_cO (pc := 41) (rest := []) (fun r5 hf => runV [.ref (ad κ 2), .ref (ad κ 3), .int a1, .int i2] hC (c_Na_isFittingNS (kl κ) (kW κ) hC.2.2.2.2.2.2.2.2.1 N a1 i2 s3 r5 hf) o_X2_isFitting k_909 (q0 := 10) (ci := 2) rfl rfl (rm_le hRb rfl) rfl (Nat.le_of_ble_eq_true rfl) dX2_waysFrom_41) (fun r5 => ?_)
        refine r_if_eq (pc := 44) (tgt := 76) hC dX2_waysFrom_44 (by decide) ?_ ?_
        · refine r_iinc (pc := 76) hC (v := (1 : Int32)) rfl (by decide) rfl rfl dX2_waysFrom_76 ?_
          refine r_goto (pc := 79) (tgt := 16) hC dX2_waysFrom_79 (by decide) ?_
          exact ih16_4 i1 (i2 + (1 : Int32)) s3
        · refine r_aload_n (pc := 47) hC rfl dX2_waysFrom_47 ?_
          refine gC_10_0 (pc := 48) hC k_307 dX2_waysFrom_48 ?_
          refine r_iload_n (pc := 51) hC rfl dX2_waysFrom_51 ?_
          refine r_iload (pc := 52) hC rfl dX2_waysFrom_52 ?_
          refine bC_27 (pc := 54) hC dX2_waysFrom_54 ?_
          refine r_letm (fun s6 => ?_)
          refine r_iload (pc := 55) hC rfl dX2_waysFrom_55 ?_
          refine r_aload_n (pc := 57) hC rfl dX2_waysFrom_57 ?_
          refine r_aload_n (pc := 58) hC rfl dX2_waysFrom_58 ?_
          refine r_aload_n (pc := 59) hC rfl dX2_waysFrom_59 ?_
          refine r_iload_n (pc := 60) hC rfl dX2_waysFrom_60 ?_
          refine r_iconst (pc := 61) hC (v := (1 : Int32)) (by decide) dX2_waysFrom_61 ?_
          refine r_iadd (pc := 62) hC dX2_waysFrom_62 ?_
          refine r_iload (pc := 63) hC rfl dX2_waysFrom_63 ?_
          refine r_iconst (pc := 65) hC (v := (1 : Int32)) (by decide) dX2_waysFrom_65 ?_
          refine r_iload (pc := 66) hC rfl dX2_waysFrom_66 ?_
          refine r_ishl (pc := 68) hC dX2_waysFrom_68 ?_
          refine r_ior (pc := 69) hC dX2_waysFrom_69 ?_
          refine r_cOM (pc := 70) (rest := [.int i1]) (fun r8 s7 hf => runV [.ref (ad κ 2), .ref (ad κ 3), .int (a1 + (1 : Int32)), .int (a2 ||| ((1 : Int32) <<< (i2 &&& 31)))] hC (hself (a1 + (1 : Int32)) (a2 ||| ((1 : Int32) <<< (i2 &&& 31))) s6 r8 s7 hf) o_X2_waysFrom k_904 (q0 := 10) (ci := 2) rfl rfl hRs rfl (Nat.le_of_ble_eq_true rfl) dX2_waysFrom_70) (fun r8 s7 => ?_)
          refine r_iadd (pc := 73) hC dX2_waysFrom_73 ?_
          refine r_let (fun x9 => ?_)
          refine r_istore (pc := 74) hC rfl rfl dX2_waysFrom_74 ?_
          refine r_iinc (pc := 76) hC (v := (1 : Int32)) rfl (by decide) rfl rfl dX2_waysFrom_76 ?_
          refine r_goto (pc := 79) (tgt := 16) hC dX2_waysFrom_79 (by decide) ?_
          exact ih16_4 x9 (i2 + (1 : Int32)) s7
  · refine r_iconst (pc := 8) hC (v := (1 : Int32)) (by decide) dX2_waysFrom_8 ?_
    exact r_retOM hC rfl dX2_waysFrom_9
set_option maxRecDepth 100000 in
set_option maxHeartbeats 4000000 in
theorem c_Na_waysFromNS (l : Launch) (w : Wenv) (hw : okw w wC) (N : Nat) : ∀ (d : Nat) (a1 : Int32) (a2 : Int32) (σ : Mem) (r : Int32) (τ : Mem) (hf : f_Na_waysFromNS N d a1 a2 σ = some (r, τ)), Ctr l w wC yX2_waysFrom cX2_waysFrom 7 (some .int) (2 + d) (47 + d * 26) [.ref (w.2.2.1 10), .ref (w.2.2.1 2), .ref (w.2.2.1 3), .int a1, .int a2] σ (cQi w wC r τ)
  | 0, a1, a2, σ, r, τ, hf => by cases hf
  | d + 1, a1, a2, σ, r, τ, hf => mk_ctr (Q := fun κ => qOM κ wC) (lv := [some (.ref (w.2.2.1 10)), some (.ref (w.2.2.1 2)), some (.ref (w.2.2.1 3)), some (.int a1), some (.int a2), none, none]) (by decide) rfl hw (Nat.le_of_ble_eq_true rfl) rfl hf (fun κ h => by subst h; rfl) (fun κ hl h hR hC => by
      subst h; subst hl
      exact w_Na_waysFromNS hR hC N _ (fun a1 a2 σ r τ h => c_Na_waysFromNS (kl κ) (kW κ) hw N d a1 a2 σ r τ h) a1 a2 σ)
-- DuelRound$Names.waysToRename(LDuelRound$Duels;LDuelRound$Duels;)I (10, 2, 3) kind OM
def f_Na_waysToRenameNS (N : Nat) (σ : Mem) : Option (Int32 × Mem) :=
  if (gI σ 3 0) = (gI σ 4 0) then
  (ob2 (f_Na_waysFromNS N 10 (0 : Int32) (0 : Int32) σ) fun r2 s1 =>
  some (r2, s1))
  else
  (some ((0 : Int32), σ))
set_option maxRecDepth 100000 in
set_option maxHeartbeats 4000000 in
theorem w_Na_waysToRenameNS {κ : Ctx} (hR : kR κ = { frames := 13, cells := 0, slots := 0, locals := 333 }) (hC : ok κ wC cX2_waysToRename 3 RX2 (some .int)) (N : Nat) (σ : Mem) : wF κ wC 3 (qOM κ wC) σ 0 [some (.ref (ad κ 10)), some (.ref (ad κ 2)), some (.ref (ad κ 3))] [] (f_Na_waysToRenameNS N  σ) := by
  unfold f_Na_waysToRenameNS
  refine r_aload_n (pc := 0) hC rfl dX2_waysToRename_0 ?_
  refine gC_2_1 (pc := 1) hC k_138 dX2_waysToRename_1 ?_
  refine r_aload_n (pc := 4) hC rfl dX2_waysToRename_4 ?_
  refine gC_3_1 (pc := 5) hC k_138 dX2_waysToRename_5 ?_
  refine r_icmp_ne (pc := 8) (tgt := 22) hC dX2_waysToRename_8 (by decide) ?_ ?_
  · refine r_iconst (pc := 22) hC (v := (0 : Int32)) (by decide) dX2_waysToRename_22 ?_
    exact r_retOM hC rfl dX2_waysToRename_23
  · refine r_aload_n (pc := 11) hC rfl dX2_waysToRename_11 ?_
    refine r_aload_n (pc := 12) hC rfl dX2_waysToRename_12 ?_
    refine r_aload_n (pc := 13) hC rfl dX2_waysToRename_13 ?_
    refine r_iconst (pc := 14) hC (v := (0 : Int32)) (by decide) dX2_waysToRename_14 ?_
    refine r_iconst (pc := 15) hC (v := (0 : Int32)) (by decide) dX2_waysToRename_15 ?_
    refine r_cOM (pc := 16) (rest := []) (fun r2 s1 hf => runV [.ref (ad κ 2), .ref (ad κ 3), .int (0 : Int32), .int (0 : Int32)] hC (c_Na_waysFromNS (kl κ) (kW κ) hC.2.2.2.2.2.2.2.2.1 N 10 (0 : Int32) (0 : Int32) σ r2 s1 hf) o_X2_waysFrom k_904 (q0 := 10) (ci := 2) rfl rfl (rm_ok hR rfl) rfl (Nat.le_of_ble_eq_true rfl) dX2_waysToRename_16) (fun r2 s1 => ?_)
    refine r_goto (pc := 19) (tgt := 23) hC dX2_waysToRename_19 (by decide) ?_
    exact r_retOM hC rfl dX2_waysToRename_23
set_option maxRecDepth 100000 in
set_option maxHeartbeats 4000000 in
theorem c_Na_waysToRenameNS (l : Launch) (w : Wenv) (hw : okw w wC) (N : Nat) (σ : Mem) (r : Int32) (τ : Mem) (hf : f_Na_waysToRenameNS N  σ = some (r, τ)) : Ctr l w wC yX2_waysToRename cX2_waysToRename 3 (some .int) 13 333 [.ref (w.2.2.1 10), .ref (w.2.2.1 2), .ref (w.2.2.1 3)] σ (cQi w wC r τ) := mk_ctr (Q := fun κ => qOM κ wC) (lv := [some (.ref (w.2.2.1 10)), some (.ref (w.2.2.1 2)), some (.ref (w.2.2.1 3))]) (by decide) rfl hw (Nat.le_of_ble_eq_true rfl) rfl hf (fun κ h => by subst h; rfl) (fun κ hl h hR hC => by
    subst h
    exact w_Na_waysToRenameNS hR hC N  σ)
-- java/lang/Integer.bitCount(I)I (None,) kind T
def t_J_bitCount (a1 : Int32) : Int32 :=
  (bnd (a1 - (((a1.toUInt32 >>> ((1 : Int32).toUInt32 &&& Int32.toUInt32 31)).toInt32) &&& (1431655765 : Int32))) fun x1 => (bnd ((x1 &&& (858993459 : Int32)) + (((x1.toUInt32 >>> ((2 : Int32).toUInt32 &&& Int32.toUInt32 31)).toInt32) &&& (858993459 : Int32))) fun x2 => (bnd ((x2 + ((x2.toUInt32 >>> ((4 : Int32).toUInt32 &&& Int32.toUInt32 31)).toInt32)) &&& (252645135 : Int32)) fun x3 => (bnd (x3 + ((x3.toUInt32 >>> ((8 : Int32).toUInt32 &&& Int32.toUInt32 31)).toInt32)) fun x4 => (bnd (x4 + ((x4.toUInt32 >>> ((16 : Int32).toUInt32 &&& Int32.toUInt32 31)).toInt32)) fun x5 => (x5 &&& (63 : Int32)))))))
def f_J_bitCount (a1 : Int32) : Option Int32 :=
  bnd (a1 - (((a1.toUInt32 >>> ((1 : Int32).toUInt32 &&& Int32.toUInt32 31)).toInt32) &&& (1431655765 : Int32))) fun x1 =>
  bnd ((x1 &&& (858993459 : Int32)) + (((x1.toUInt32 >>> ((2 : Int32).toUInt32 &&& Int32.toUInt32 31)).toInt32) &&& (858993459 : Int32))) fun x2 =>
  bnd ((x2 + ((x2.toUInt32 >>> ((4 : Int32).toUInt32 &&& Int32.toUInt32 31)).toInt32)) &&& (252645135 : Int32)) fun x3 =>
  bnd (x3 + ((x3.toUInt32 >>> ((8 : Int32).toUInt32 &&& Int32.toUInt32 31)).toInt32)) fun x4 =>
  bnd (x4 + ((x4.toUInt32 >>> ((16 : Int32).toUInt32 &&& Int32.toUInt32 31)).toInt32)) fun x5 =>
  some (x5 &&& (63 : Int32))
theorem e_J_bitCount (a1 : Int32) : f_J_bitCount a1 = some (t_J_bitCount a1) := by
  unfold f_J_bitCount t_J_bitCount
  try first | rfl | (repeat' split) <;> rfl
set_option maxRecDepth 100000 in
set_option maxHeartbeats 4000000 in
theorem w_J_bitCount {κ : Ctx} (hR : kR κ = { frames := 0, cells := 0, slots := 0, locals := 0 }) (hC : ok κ wC cJ6_bitCount_0f7a4 1 RJ6 (some .int)) (a1 : Int32) (σ : Mem) : wF κ wC 1 (qO κ wC σ) σ 0 [some (.int a1)] [] (f_J_bitCount a1) := by
  unfold f_J_bitCount
  refine r_iload_n (pc := 0) hC rfl dJ6_bitCount_0f7a4_0 ?_
  refine r_iload_n (pc := 1) hC rfl dJ6_bitCount_0f7a4_1 ?_
  refine r_iconst (pc := 2) hC (v := (1 : Int32)) (by decide) dJ6_bitCount_0f7a4_2 ?_
  refine r_iushr (pc := 3) hC dJ6_bitCount_0f7a4_3 ?_
  refine r_ldcw (pc := 4) hC (v := (1431655765 : Int32)) k_408 dJ6_bitCount_0f7a4_4 ?_
  refine r_iand (pc := 7) hC dJ6_bitCount_0f7a4_7 ?_
  refine r_isub (pc := 8) hC dJ6_bitCount_0f7a4_8 ?_
  refine r_let (fun x1 => ?_)
  refine r_istore_n (pc := 9) hC rfl rfl dJ6_bitCount_0f7a4_9 ?_
  refine r_iload_n (pc := 10) hC rfl dJ6_bitCount_0f7a4_10 ?_
  refine r_ldcw (pc := 11) hC (v := (858993459 : Int32)) k_409 dJ6_bitCount_0f7a4_11 ?_
  refine r_iand (pc := 14) hC dJ6_bitCount_0f7a4_14 ?_
  refine r_iload_n (pc := 15) hC rfl dJ6_bitCount_0f7a4_15 ?_
  refine r_iconst (pc := 16) hC (v := (2 : Int32)) (by decide) dJ6_bitCount_0f7a4_16 ?_
  refine r_iushr (pc := 17) hC dJ6_bitCount_0f7a4_17 ?_
  refine r_ldcw (pc := 18) hC (v := (858993459 : Int32)) k_409 dJ6_bitCount_0f7a4_18 ?_
  refine r_iand (pc := 21) hC dJ6_bitCount_0f7a4_21 ?_
  refine r_iadd (pc := 22) hC dJ6_bitCount_0f7a4_22 ?_
  refine r_let (fun x2 => ?_)
  refine r_istore_n (pc := 23) hC rfl rfl dJ6_bitCount_0f7a4_23 ?_
  refine r_iload_n (pc := 24) hC rfl dJ6_bitCount_0f7a4_24 ?_
  refine r_iload_n (pc := 25) hC rfl dJ6_bitCount_0f7a4_25 ?_
  refine r_iconst (pc := 26) hC (v := (4 : Int32)) (by decide) dJ6_bitCount_0f7a4_26 ?_
  refine r_iushr (pc := 27) hC dJ6_bitCount_0f7a4_27 ?_
  refine r_iadd (pc := 28) hC dJ6_bitCount_0f7a4_28 ?_
  refine r_ldcw (pc := 29) hC (v := (252645135 : Int32)) k_410 dJ6_bitCount_0f7a4_29 ?_
  refine r_iand (pc := 32) hC dJ6_bitCount_0f7a4_32 ?_
  refine r_let (fun x3 => ?_)
  refine r_istore_n (pc := 33) hC rfl rfl dJ6_bitCount_0f7a4_33 ?_
  refine r_iload_n (pc := 34) hC rfl dJ6_bitCount_0f7a4_34 ?_
  refine r_iload_n (pc := 35) hC rfl dJ6_bitCount_0f7a4_35 ?_
  refine r_bipush (pc := 36) hC (v := (8 : Int32)) (by decide) dJ6_bitCount_0f7a4_36 ?_
  refine r_iushr (pc := 38) hC dJ6_bitCount_0f7a4_38 ?_
  refine r_iadd (pc := 39) hC dJ6_bitCount_0f7a4_39 ?_
  refine r_let (fun x4 => ?_)
  refine r_istore_n (pc := 40) hC rfl rfl dJ6_bitCount_0f7a4_40 ?_
  refine r_iload_n (pc := 41) hC rfl dJ6_bitCount_0f7a4_41 ?_
  refine r_iload_n (pc := 42) hC rfl dJ6_bitCount_0f7a4_42 ?_
  refine r_bipush (pc := 43) hC (v := (16 : Int32)) (by decide) dJ6_bitCount_0f7a4_43 ?_
  refine r_iushr (pc := 45) hC dJ6_bitCount_0f7a4_45 ?_
  refine r_iadd (pc := 46) hC dJ6_bitCount_0f7a4_46 ?_
  refine r_let (fun x5 => ?_)
  refine r_istore_n (pc := 47) hC rfl rfl dJ6_bitCount_0f7a4_47 ?_
  refine r_iload_n (pc := 48) hC rfl dJ6_bitCount_0f7a4_48 ?_
  refine r_bipush (pc := 49) hC (v := (63 : Int32)) (by decide) dJ6_bitCount_0f7a4_49 ?_
  refine r_iand (pc := 51) hC dJ6_bitCount_0f7a4_51 ?_
  exact r_retO hC rfl dJ6_bitCount_0f7a4_52
set_option maxRecDepth 100000 in
set_option maxHeartbeats 4000000 in
theorem c_J_bitCount (l : Launch) (w : Wenv) (hw : okw w wC) (a1 : Int32) (σ : Mem) : Ctr l w wC yJ6_bitCount_0f7a4 cJ6_bitCount_0f7a4 1 (some .int) 0 0 [.int a1] σ (cQi w wC (t_J_bitCount a1) σ) := mk_ctr (Q := fun κ => qO κ wC σ) (lv := [some (.int a1)]) (by decide) rfl hw (Nat.le_of_ble_eq_true rfl) rfl (e_J_bitCount a1) (fun κ h => by subst h; rfl) (fun κ hl h hR hC => by
    subst h
    exact w_J_bitCount hR hC a1 σ)
-- DuelRound$Duels.arrowsUnlike(LDuelRound$Duels;)I (2, 3) kind O
def Du_arrowsUnlikeN_B21 (σ : Mem) (x1 : Int32) (self4 : Int32 → Int32 → Option Int32) (i2 : Int32) (i3 : Int32) : Option Int32 :=
  if (8 : Int32) ≤ i3 then
  (some (i2 / (2 : Int32)))
  else
  (if (t_D_bitOf x1 i3) = (1 : Int32) then
  (gd (inb i3 8) (gd (inb i3 8) (bnd (i2 + (t_J_bitCount (((gI σ 13 i3.toNatClampNeg) ^^^ (gI σ 14 i3.toNatClampNeg)) &&& x1))) fun x5 =>
  self4 x5 (i3 + (1 : Int32)))))
  else
  (self4 i2 (i3 + (1 : Int32))))
def f_Du_arrowsUnlikeN (N : Nat) (σ : Mem) : Option Int32 :=
  bnd (((1 : Int32) <<< ((if (gI σ 4 0) < (gI σ 3 0) then (gI σ 4 0) else (gI σ 3 0)) &&& 31)) - (1 : Int32)) fun x1 =>
  it2 (Du_arrowsUnlikeN_B21 σ x1) N (0 : Int32) (0 : Int32)
set_option maxRecDepth 100000 in
set_option maxHeartbeats 4000000 in
theorem w_Du_arrowsUnlikeN {κ : Ctx} (hR : kR κ = { frames := 1, cells := 0, slots := 0, locals := 21 }) (hC : ok κ wC cX1_arrowsUnlike 5 RX1 (some .int)) (N : Nat) (σ : Mem) : wF κ wC 5 (qO κ wC σ) σ 0 [some (.ref (ad κ 2)), some (.ref (ad κ 3)), none, none, none] [] (f_Du_arrowsUnlikeN N  σ) := by
  unfold f_Du_arrowsUnlikeN
  refine r_iconst (pc := 0) hC (v := (1 : Int32)) (by decide) dX1_arrowsUnlike_0 ?_
  refine r_aload_n (pc := 1) hC rfl dX1_arrowsUnlike_1 ?_
  refine gC_2_1 (pc := 2) hC k_139 dX1_arrowsUnlike_2 ?_
  refine r_aload_n (pc := 5) hC rfl dX1_arrowsUnlike_5 ?_
  refine gC_3_1 (pc := 6) hC k_139 dX1_arrowsUnlike_6 ?_
  refine r_mmin (pc := 9) (rest := [.int (1 : Int32)]) hC hR rfl k_942 k_943 k_91 k_944 (Nat.le_of_ble_eq_true rfl) dX1_arrowsUnlike_9 ?_
  refine r_ishl (pc := 12) hC dX1_arrowsUnlike_12 ?_
  refine r_iconst (pc := 13) hC (v := (1 : Int32)) (by decide) dX1_arrowsUnlike_13 ?_
  refine r_isub (pc := 14) hC dX1_arrowsUnlike_14 ?_
  refine r_let (fun x1 => ?_)
  refine r_istore_n (pc := 15) hC rfl rfl dX1_arrowsUnlike_15 ?_
  refine r_iconst (pc := 16) hC (v := (0 : Int32)) (by decide) dX1_arrowsUnlike_16 ?_
  refine r_istore_n (pc := 17) hC rfl rfl dX1_arrowsUnlike_17 ?_
  refine r_iconst (pc := 18) hC (v := (0 : Int32)) (by decide) dX1_arrowsUnlike_18 ?_
  refine r_istore (pc := 19) hC rfl rfl dX1_arrowsUnlike_19 ?_
  refine w_it2 (fun i2 i3 => σ) (fun i2 i3 => [some (.ref (ad κ 2)), some (.ref (ad κ 3)), some (.int x1), some (.int i2), some (.int i3)]) (fun self4 ih21_4 i2 i3 => ?_) N (0 : Int32) (0 : Int32)
  unfold Du_arrowsUnlikeN_B21
  refine r_iload (pc := 21) hC rfl dX1_arrowsUnlike_21 ?_
  refine r_bipush (pc := 23) hC (v := (8 : Int32)) (by decide) dX1_arrowsUnlike_23 ?_
  refine r_icmp_ge (pc := 25) (tgt := 67) hC dX1_arrowsUnlike_25 (by decide) ?_ ?_
  · refine r_iload_n (pc := 67) hC rfl dX1_arrowsUnlike_67 ?_
    refine r_iconst (pc := 68) hC (v := (2 : Int32)) (by decide) dX1_arrowsUnlike_68 ?_
    refine r_idiv (pc := 69) hC (by decide) dX1_arrowsUnlike_69 ?_
    exact r_retO hC rfl dX1_arrowsUnlike_70
  · refine r_iload_n (pc := 28) hC rfl dX1_arrowsUnlike_28 ?_
    refine r_iload (pc := 29) hC rfl dX1_arrowsUnlike_29 ?_
    refine r_cT (pc := 31) (rest := []) (runSN [.int x1, .int i3] hC (c_D_bitOf (kl κ) (kW κ) hC.2.2.2.2.2.2.2.2.1 x1 i3 σ) o_X9_bitOf (k_423 hC.2.2.2.2.2.2.2.2.2) (rm_ok hR rfl) rfl (Nat.le_of_ble_eq_true rfl) dX1_arrowsUnlike_31) ?_
    refine r_iconst (pc := 34) hC (v := (1 : Int32)) (by decide) dX1_arrowsUnlike_34 ?_
    refine r_icmp_ne (pc := 35) (tgt := 61) hC dX1_arrowsUnlike_35 (by decide) ?_ ?_
    · refine r_iinc (pc := 61) hC (v := (1 : Int32)) rfl (by decide) rfl rfl dX1_arrowsUnlike_61 ?_
      refine r_goto (pc := 64) (tgt := 21) hC dX1_arrowsUnlike_64 (by decide) ?_
      exact ih21_4 i2 (i3 + (1 : Int32))
    · refine r_iload_n (pc := 38) hC rfl dX1_arrowsUnlike_38 ?_
      refine r_aload_n (pc := 39) hC rfl dX1_arrowsUnlike_39 ?_
      refine gC_2_0 (pc := 40) hC k_132 dX1_arrowsUnlike_40 ?_
      refine r_iload (pc := 43) hC rfl dX1_arrowsUnlike_43 ?_
      refine aC_13 (pc := 45) hC dX1_arrowsUnlike_45 ?_
      refine r_aload_n (pc := 46) hC rfl dX1_arrowsUnlike_46 ?_
      refine gC_3_0 (pc := 47) hC k_132 dX1_arrowsUnlike_47 ?_
      refine r_iload (pc := 50) hC rfl dX1_arrowsUnlike_50 ?_
      refine aC_14 (pc := 52) hC dX1_arrowsUnlike_52 ?_
      refine r_ixor (pc := 53) hC dX1_arrowsUnlike_53 ?_
      refine r_iload_n (pc := 54) hC rfl dX1_arrowsUnlike_54 ?_
      refine r_iand (pc := 55) hC dX1_arrowsUnlike_55 ?_
      refine r_cT (pc := 56) (rest := [.int i2]) (runS [.int (((gI σ 13 i3.toNatClampNeg) ^^^ (gI σ 14 i3.toNatClampNeg)) &&& x1)] hC (c_J_bitCount (kl κ) (kW κ) hC.2.2.2.2.2.2.2.2.1 (((gI σ 13 i3.toNatClampNeg) ^^^ (gI σ 14 i3.toNatClampNeg)) &&& x1) σ) o_J6_bitCount_0f7a4 k_405 (rm_ok hR rfl) rfl (Nat.le_of_ble_eq_true rfl) dX1_arrowsUnlike_56) ?_
      refine r_iadd (pc := 59) hC dX1_arrowsUnlike_59 ?_
      refine r_let (fun x5 => ?_)
      refine r_istore_n (pc := 60) hC rfl rfl dX1_arrowsUnlike_60 ?_
      refine r_iinc (pc := 61) hC (v := (1 : Int32)) rfl (by decide) rfl rfl dX1_arrowsUnlike_61 ?_
      refine r_goto (pc := 64) (tgt := 21) hC dX1_arrowsUnlike_64 (by decide) ?_
      exact ih21_4 x5 (i3 + (1 : Int32))
set_option maxRecDepth 100000 in
set_option maxHeartbeats 4000000 in
theorem c_Du_arrowsUnlikeN (l : Launch) (w : Wenv) (hw : okw w wC) (N : Nat) (σ : Mem) (r : Int32) (hf : f_Du_arrowsUnlikeN N  σ = some r) : Ctr l w wC yX1_arrowsUnlike cX1_arrowsUnlike 5 (some .int) 1 21 [.ref (w.2.2.1 2), .ref (w.2.2.1 3)] σ (cQi w wC r σ) := mk_ctr (Q := fun κ => qO κ wC σ) (lv := [some (.ref (w.2.2.1 2)), some (.ref (w.2.2.1 3)), none, none, none]) (by decide) rfl hw (Nat.le_of_ble_eq_true rfl) rfl hf (fun κ h => by subst h; rfl) (fun κ hl h hR hC => by
    subst h
    exact w_Du_arrowsUnlikeN hR hC N  σ)
-- DuelRound.alike(II)I (0, None, None) kind OM
def f_D_alike (N : Nat) (a1 : Int32) (a2 : Int32) (σ : Mem) : Option (Int32 × Mem) :=
  ob (f_Pa_isKept a1 σ) fun r1 =>
  if r1 = (0 : Int32) then
  (some ((-1 : Int32), σ))
  else
  (if a2 < (0 : Int32) then
  (some ((-1 : Int32), σ))
  else
  (if a2 ≤ (1 : Int32) then
  (gd (inb a1 2) (ob (f_Du_unpackS N (gJ σ 16 a1.toNatClampNeg) σ) fun s2 =>
  if a2 = (0 : Int32) then
  (ob2 (f_Na_waysToRenameNS N s2) fun r5 s4 =>
  if r5 ≤ (0 : Int32) then
  (some ((0 : Int32), s4))
  else
  (some ((1 : Int32), s4)))
  else
  (ob (f_Du_arrowsUnlikeN N s2) fun r3 =>
  some (r3, s2))))
  else
  (some ((-1 : Int32), σ))))
set_option maxRecDepth 100000 in
set_option maxHeartbeats 4000000 in
theorem w_D_alike {κ : Ctx} (hR : kR κ = { frames := 14, cells := 0, slots := 0, locals := 355 }) (hC : ok κ wC cX9_alike 3 RX9 (some .int)) (N : Nat) (a1 : Int32) (a2 : Int32) (σ : Mem) : wF κ wC 3 (qOM κ wC) σ 0 [some (.ref (ad κ 0)), some (.int a1), some (.int a2)] [] (f_D_alike N a1 a2 σ) := by
  unfold f_D_alike
  refine r_aload_n (pc := 0) hC rfl dX9_alike_0 ?_
  refine gC_0_3 (pc := 1) hC k_314 dX9_alike_1 ?_
  refine r_iload_n (pc := 4) hC rfl dX9_alike_4 ?_
  refine r_cO (pc := 5) (rest := []) (fun r1 hf => runV [.int a1] hC (c_Pa_isKept (kl κ) (kW κ) hC.2.2.2.2.2.2.2.2.1 a1 σ r1 hf) o_X4_isKept k_930 (q0 := 4) (ci := 4) rfl rfl (rm_ok hR rfl) rfl (Nat.le_of_ble_eq_true rfl) dX9_alike_5) (fun r1 => ?_)
  refine r_if_eq (pc := 8) (tgt := 20) hC dX9_alike_8 (by decide) ?_ ?_
  · refine r_iconst (pc := 20) hC (v := (-1 : Int32)) (by decide) dX9_alike_20 ?_
    exact r_retOM hC rfl dX9_alike_21
  · refine r_iload_n (pc := 11) hC rfl dX9_alike_11 ?_
    refine r_if_lt (pc := 12) (tgt := 20) hC dX9_alike_12 (by decide) ?_ ?_
    · refine r_iconst (pc := 20) hC (v := (-1 : Int32)) (by decide) dX9_alike_20 ?_
      exact r_retOM hC rfl dX9_alike_21
    · refine r_iload_n (pc := 15) hC rfl dX9_alike_15 ?_
      refine r_iconst (pc := 16) hC (v := (1 : Int32)) (by decide) dX9_alike_16 ?_
      refine r_icmp_le (pc := 17) (tgt := 22) hC dX9_alike_17 (by decide) ?_ ?_
      · refine r_aload_n (pc := 22) hC rfl dX9_alike_22 ?_
        refine gC_0_2 (pc := 23) hC k_313 dX9_alike_23 ?_
        refine r_aload_n (pc := 26) hC rfl dX9_alike_26 ?_
        refine gC_0_3 (pc := 27) hC k_314 dX9_alike_27 ?_
        refine gC_4_1 (pc := 30) hC k_160 dX9_alike_30 ?_
        refine r_iload_n (pc := 33) hC rfl dX9_alike_33 ?_
        refine aC_16 (pc := 34) hC dX9_alike_34 ?_
        refine r_cM (pc := 35) (rest := []) (fun s2 hf => runV [.long (gJ σ 16 a1.toNatClampNeg)] hC (c_Du_unpackS (kl κ) (kW κ) hC.2.2.2.2.2.2.2.2.1 N (gJ σ 16 a1.toNatClampNeg) σ s2 hf) o_X1_unpack k_426 (q0 := 3) (ci := 1) rfl rfl (rm_ok hR rfl) rfl (Nat.le_of_ble_eq_true rfl) dX9_alike_35) (fun s2 => ?_)
        refine r_iload_n (pc := 38) hC rfl dX9_alike_38 ?_
        refine r_if_ne (pc := 39) (tgt := 66) hC dX9_alike_39 (by decide) ?_ ?_
        · refine r_aload_n (pc := 66) hC rfl dX9_alike_66 ?_
          refine gC_0_1 (pc := 67) hC k_312 dX9_alike_67 ?_
          refine r_aload_n (pc := 70) hC rfl dX9_alike_70 ?_
          refine gC_0_2 (pc := 71) hC k_313 dX9_alike_71 ?_
          refine r_cO (pc := 74) (rest := []) (fun r3 hf => runV [.ref (ad κ 3)] hC (c_Du_arrowsUnlikeN (kl κ) (kW κ) hC.2.2.2.2.2.2.2.2.1 N s2 r3 hf) o_X1_arrowsUnlike k_938 (q0 := 2) (ci := 1) rfl rfl (rm_ok hR rfl) rfl (Nat.le_of_ble_eq_true rfl) dX9_alike_74) (fun r3 => ?_)
          exact r_retOM hC rfl dX9_alike_77
        · refine r_aload_n (pc := 42) hC rfl dX9_alike_42 ?_
          refine gC_0_9 (pc := 43) hC k_320 dX9_alike_43 ?_
          refine r_aload_n (pc := 46) hC rfl dX9_alike_46 ?_
          refine gC_0_1 (pc := 47) hC k_312 dX9_alike_47 ?_
          refine r_aload_n (pc := 50) hC rfl dX9_alike_50 ?_
          refine gC_0_2 (pc := 51) hC k_313 dX9_alike_51 ?_
          refine r_cOM (pc := 54) (rest := []) (fun r5 s4 hf => runV [.ref (ad κ 2), .ref (ad κ 3)] hC (c_Na_waysToRenameNS (kl κ) (kW κ) hC.2.2.2.2.2.2.2.2.1 N s2 r5 s4 hf) o_X2_waysToRename k_900 (q0 := 10) (ci := 2) rfl rfl (rm_ok hR rfl) rfl (Nat.le_of_ble_eq_true rfl) dX9_alike_54) (fun r5 s4 => ?_)
          refine r_if_le (pc := 57) (tgt := 64) hC dX9_alike_57 (by decide) ?_ ?_
          · refine r_iconst (pc := 64) hC (v := (0 : Int32)) (by decide) dX9_alike_64 ?_
            exact r_retOM hC rfl dX9_alike_65
          · refine r_iconst (pc := 60) hC (v := (1 : Int32)) (by decide) dX9_alike_60 ?_
            refine r_goto (pc := 61) (tgt := 65) hC dX9_alike_61 (by decide) ?_
            exact r_retOM hC rfl dX9_alike_65
      · refine r_iconst (pc := 20) hC (v := (-1 : Int32)) (by decide) dX9_alike_20 ?_
        exact r_retOM hC rfl dX9_alike_21
set_option maxRecDepth 100000 in
set_option maxHeartbeats 4000000 in
theorem c_D_alike (l : Launch) (w : Wenv) (hw : okw w wC) (N : Nat) (a1 : Int32) (a2 : Int32) (σ : Mem) (r : Int32) (τ : Mem) (hf : f_D_alike N a1 a2 σ = some (r, τ)) : Ctr l w wC yX9_alike cX9_alike 3 (some .int) 14 355 [.ref (w.2.2.1 0), .int a1, .int a2] σ (cQi w wC r τ) := mk_ctr (Q := fun κ => qOM κ wC) (lv := [some (.ref (w.2.2.1 0)), some (.int a1), some (.int a2)]) (by decide) rfl hw (Nat.le_of_ble_eq_true rfl) rfl hf (fun κ h => by subst h; rfl) (fun κ hl h hR hC => by
    subst h
    exact w_D_alike hR hC N a1 a2 σ)
-- DuelRound$Duels.isPlayer(I)Z (2, None) kind T
def t_Du_isPlayerN (a1 : Int32) (σ : Mem) : Int32 :=
  (if a1 < (0 : Int32) then (0 : Int32) else (if (gI σ 3 0) ≤ a1 then (0 : Int32) else (1 : Int32)))
def f_Du_isPlayerN (a1 : Int32) (σ : Mem) : Option Int32 :=
  if a1 < (0 : Int32) then
  (some (0 : Int32))
  else
  (if (gI σ 3 0) ≤ a1 then
  (some (0 : Int32))
  else
  (some (1 : Int32)))
theorem e_Du_isPlayerN (a1 : Int32) (σ : Mem) : f_Du_isPlayerN a1 σ = some (t_Du_isPlayerN a1 σ) := by
  unfold f_Du_isPlayerN t_Du_isPlayerN
  try first | rfl | (repeat' split) <;> rfl
theorem z_Du_isPlayerN (a1 : Int32) (σ : Mem) : isb (t_Du_isPlayerN a1 σ) = true := by
  unfold t_Du_isPlayerN
  (repeat' split) <;> rfl
set_option maxRecDepth 100000 in
set_option maxHeartbeats 4000000 in
theorem w_Du_isPlayerN {κ : Ctx} (hR : kR κ = { frames := 0, cells := 0, slots := 0, locals := 0 }) (hC : ok κ wC cX1_isPlayer 2 RX1 (some .boolean)) (a1 : Int32) (σ : Mem) : wF κ wC 2 (qO κ wC σ) σ 0 [some (.ref (ad κ 2)), some (.int a1)] [] (f_Du_isPlayerN a1 σ) := by
  unfold f_Du_isPlayerN
  refine r_iload_n (pc := 0) hC rfl dX1_isPlayer_0 ?_
  refine r_if_lt (pc := 1) (tgt := 16) hC dX1_isPlayer_1 (by decide) ?_ ?_
  · refine r_iconst (pc := 16) hC (v := (0 : Int32)) (by decide) dX1_isPlayer_16 ?_
    exact r_retO hC rfl dX1_isPlayer_17
  · refine r_iload_n (pc := 4) hC rfl dX1_isPlayer_4 ?_
    refine r_aload_n (pc := 5) hC rfl dX1_isPlayer_5 ?_
    refine gC_2_1 (pc := 6) hC k_139 dX1_isPlayer_6 ?_
    refine r_icmp_ge (pc := 9) (tgt := 16) hC dX1_isPlayer_9 (by decide) ?_ ?_
    · refine r_iconst (pc := 16) hC (v := (0 : Int32)) (by decide) dX1_isPlayer_16 ?_
      exact r_retO hC rfl dX1_isPlayer_17
    · refine r_iconst (pc := 12) hC (v := (1 : Int32)) (by decide) dX1_isPlayer_12 ?_
      refine r_goto (pc := 13) (tgt := 17) hC dX1_isPlayer_13 (by decide) ?_
      exact r_retO hC rfl dX1_isPlayer_17
set_option maxRecDepth 100000 in
set_option maxHeartbeats 4000000 in
theorem c_Du_isPlayerN (l : Launch) (w : Wenv) (hw : okw w wC) (a1 : Int32) (σ : Mem) : Ctr l w wC yX1_isPlayer cX1_isPlayer 2 (some .boolean) 0 0 [.ref (w.2.2.1 2), .int a1] σ (cQi w wC (t_Du_isPlayerN a1 σ) σ) := mk_ctr (Q := fun κ => qO κ wC σ) (lv := [some (.ref (w.2.2.1 2)), some (.int a1)]) (by decide) rfl hw (Nat.le_of_ble_eq_true rfl) rfl (e_Du_isPlayerN a1 σ) (fun κ h => by subst h; rfl) (fun κ hl h hR hC => by
    subst h
    exact w_Du_isPlayerN hR hC a1 σ)
-- DuelRound$Duels.everybody()I (2,) kind T
def t_Du_everybodyN (σ : Mem) : Int32 :=
  (((1 : Int32) <<< ((gI σ 3 0) &&& 31)) - (1 : Int32))
def f_Du_everybodyN (σ : Mem) : Option Int32 :=
  some (((1 : Int32) <<< ((gI σ 3 0) &&& 31)) - (1 : Int32))
theorem e_Du_everybodyN (σ : Mem) : f_Du_everybodyN  σ = some (t_Du_everybodyN  σ) := by
  unfold f_Du_everybodyN t_Du_everybodyN
  try first | rfl | (repeat' split) <;> rfl
set_option maxRecDepth 100000 in
set_option maxHeartbeats 4000000 in
theorem w_Du_everybodyN {κ : Ctx} (hR : kR κ = { frames := 0, cells := 0, slots := 0, locals := 0 }) (hC : ok κ wC cX1_everybody 1 RX1 (some .int)) (σ : Mem) : wF κ wC 1 (qO κ wC σ) σ 0 [some (.ref (ad κ 2))] [] (f_Du_everybodyN  σ) := by
  unfold f_Du_everybodyN
  refine r_iconst (pc := 0) hC (v := (1 : Int32)) (by decide) dX1_everybody_0 ?_
  refine r_aload_n (pc := 1) hC rfl dX1_everybody_1 ?_
  refine gC_2_1 (pc := 2) hC k_139 dX1_everybody_2 ?_
  refine r_ishl (pc := 5) hC dX1_everybody_5 ?_
  refine r_iconst (pc := 6) hC (v := (1 : Int32)) (by decide) dX1_everybody_6 ?_
  refine r_isub (pc := 7) hC dX1_everybody_7 ?_
  exact r_retO hC rfl dX1_everybody_8
set_option maxRecDepth 100000 in
set_option maxHeartbeats 4000000 in
theorem c_Du_everybodyN (l : Launch) (w : Wenv) (hw : okw w wC) (σ : Mem) : Ctr l w wC yX1_everybody cX1_everybody 1 (some .int) 0 0 [.ref (w.2.2.1 2)] σ (cQi w wC (t_Du_everybodyN  σ) σ) := mk_ctr (Q := fun κ => qO κ wC σ) (lv := [some (.ref (w.2.2.1 2))]) (by decide) rfl hw (Nat.le_of_ble_eq_true rfl) rfl (e_Du_everybodyN  σ) (fun κ h => by subst h; rfl) (fun κ hl h hR hC => by
    subst h
    exact w_Du_everybodyN hR hC  σ)
-- DuelRound$Duels.arePlayers(I)Z (2, None) kind T
def t_Du_arePlayersN (a1 : Int32) (σ : Mem) : Int32 :=
  (if (a1 &&& ((t_Du_everybodyN σ) ^^^ (-1 : Int32))) = (0 : Int32) then (1 : Int32) else (0 : Int32))
def f_Du_arePlayersN (a1 : Int32) (σ : Mem) : Option Int32 :=
  if (a1 &&& ((t_Du_everybodyN σ) ^^^ (-1 : Int32))) = (0 : Int32) then
  (some (1 : Int32))
  else
  (some (0 : Int32))
theorem e_Du_arePlayersN (a1 : Int32) (σ : Mem) : f_Du_arePlayersN a1 σ = some (t_Du_arePlayersN a1 σ) := by
  unfold f_Du_arePlayersN t_Du_arePlayersN
  try first | rfl | (repeat' split) <;> rfl
theorem z_Du_arePlayersN (a1 : Int32) (σ : Mem) : isb (t_Du_arePlayersN a1 σ) = true := by
  unfold t_Du_arePlayersN
  (repeat' split) <;> rfl
set_option maxRecDepth 100000 in
set_option maxHeartbeats 4000000 in
theorem w_Du_arePlayersN {κ : Ctx} (hR : kR κ = { frames := 1, cells := 0, slots := 0, locals := 20 }) (hC : ok κ wC cX1_arePlayers 2 RX1 (some .boolean)) (a1 : Int32) (σ : Mem) : wF κ wC 2 (qO κ wC σ) σ 0 [some (.ref (ad κ 2)), some (.int a1)] [] (f_Du_arePlayersN a1 σ) := by
  unfold f_Du_arePlayersN
  refine r_iload_n (pc := 0) hC rfl dX1_arePlayers_0 ?_
  refine r_aload_n (pc := 1) hC rfl dX1_arePlayers_1 ?_
  refine r_cT (pc := 2) (rest := [.int a1]) (runV [] hC (c_Du_everybodyN (kl κ) (kW κ) hC.2.2.2.2.2.2.2.2.1 σ) o_X1_everybody k_455 (q0 := 2) (ci := 1) rfl rfl (rm_ok hR rfl) rfl (Nat.le_of_ble_eq_true rfl) dX1_arePlayers_2) ?_
  refine r_iconst (pc := 5) hC (v := (-1 : Int32)) (by decide) dX1_arePlayers_5 ?_
  refine r_ixor (pc := 6) hC dX1_arePlayers_6 ?_
  refine r_iand (pc := 7) hC dX1_arePlayers_7 ?_
  refine r_if_ne (pc := 8) (tgt := 15) hC dX1_arePlayers_8 (by decide) ?_ ?_
  · refine r_iconst (pc := 15) hC (v := (0 : Int32)) (by decide) dX1_arePlayers_15 ?_
    exact r_retO hC rfl dX1_arePlayers_16
  · refine r_iconst (pc := 11) hC (v := (1 : Int32)) (by decide) dX1_arePlayers_11 ?_
    refine r_goto (pc := 12) (tgt := 16) hC dX1_arePlayers_12 (by decide) ?_
    exact r_retO hC rfl dX1_arePlayers_16
set_option maxRecDepth 100000 in
set_option maxHeartbeats 4000000 in
theorem c_Du_arePlayersN (l : Launch) (w : Wenv) (hw : okw w wC) (a1 : Int32) (σ : Mem) : Ctr l w wC yX1_arePlayers cX1_arePlayers 2 (some .boolean) 1 20 [.ref (w.2.2.1 2), .int a1] σ (cQi w wC (t_Du_arePlayersN a1 σ) σ) := mk_ctr (Q := fun κ => qO κ wC σ) (lv := [some (.ref (w.2.2.1 2)), some (.int a1)]) (by decide) rfl hw (Nat.le_of_ble_eq_true rfl) rfl (e_Du_arePlayersN a1 σ) (fun κ h => by subst h; rfl) (fun κ hl h hR hC => by
    subst h
    exact w_Du_arePlayersN hR hC a1 σ)
-- DuelRound.beaten(II)I (0, None, None) kind O
def f_D_beaten (a1 : Int32) (a2 : Int32) (σ : Mem) : Option Int32 :=
  if (t_Du_isPlayerN a1 σ) = (0 : Int32) then
  (some (-1 : Int32))
  else
  (if (t_Du_arePlayersN a2 σ) = (0 : Int32) then
  (some (-1 : Int32))
  else
  (gd (inb a1 8) (some ((gI σ 13 a1.toNatClampNeg) &&& a2))))
set_option maxRecDepth 100000 in
set_option maxHeartbeats 4000000 in
theorem w_D_beaten {κ : Ctx} (hR : kR κ = { frames := 2, cells := 0, slots := 0, locals := 41 }) (hC : ok κ wC cX9_beaten 3 RX9 (some .int)) (a1 : Int32) (a2 : Int32) (σ : Mem) : wF κ wC 3 (qO κ wC σ) σ 0 [some (.ref (ad κ 0)), some (.int a1), some (.int a2)] [] (f_D_beaten a1 a2 σ) := by
  unfold f_D_beaten
  refine r_aload_n (pc := 0) hC rfl dX9_beaten_0 ?_
  refine gC_0_1 (pc := 1) hC k_312 dX9_beaten_1 ?_
  refine r_iload_n (pc := 4) hC rfl dX9_beaten_4 ?_
  refine r_cT (pc := 5) (rest := []) (runV [.int a1] hC (c_Du_isPlayerN (kl κ) (kW κ) hC.2.2.2.2.2.2.2.2.1 a1 σ) o_X1_isPlayer k_447 (q0 := 2) (ci := 1) rfl rfl (rm_ok hR rfl) rfl (Nat.le_of_ble_eq_true rfl) dX9_beaten_5) ?_
  refine r_if_eq (pc := 8) (tgt := 22) hC dX9_beaten_8 (by decide) ?_ ?_
  · refine r_iconst (pc := 22) hC (v := (-1 : Int32)) (by decide) dX9_beaten_22 ?_
    exact r_retO hC rfl dX9_beaten_23
  · refine r_aload_n (pc := 11) hC rfl dX9_beaten_11 ?_
    refine gC_0_1 (pc := 12) hC k_312 dX9_beaten_12 ?_
    refine r_iload_n (pc := 15) hC rfl dX9_beaten_15 ?_
    refine r_cT (pc := 16) (rest := []) (runV [.int a2] hC (c_Du_arePlayersN (kl κ) (kW κ) hC.2.2.2.2.2.2.2.2.1 a2 σ) o_X1_arePlayers k_451 (q0 := 2) (ci := 1) rfl rfl (rm_ok hR rfl) rfl (Nat.le_of_ble_eq_true rfl) dX9_beaten_16) ?_
    refine r_if_ne (pc := 19) (tgt := 24) hC dX9_beaten_19 (by decide) ?_ ?_
    · refine r_aload_n (pc := 24) hC rfl dX9_beaten_24 ?_
      refine gC_0_1 (pc := 25) hC k_312 dX9_beaten_25 ?_
      refine gC_2_0 (pc := 28) hC k_135 dX9_beaten_28 ?_
      refine r_iload_n (pc := 31) hC rfl dX9_beaten_31 ?_
      refine aC_13 (pc := 32) hC dX9_beaten_32 ?_
      refine r_iload_n (pc := 33) hC rfl dX9_beaten_33 ?_
      refine r_iand (pc := 34) hC dX9_beaten_34 ?_
      exact r_retO hC rfl dX9_beaten_35
    · refine r_iconst (pc := 22) hC (v := (-1 : Int32)) (by decide) dX9_beaten_22 ?_
      exact r_retO hC rfl dX9_beaten_23
set_option maxRecDepth 100000 in
set_option maxHeartbeats 4000000 in
theorem c_D_beaten (l : Launch) (w : Wenv) (hw : okw w wC) (a1 : Int32) (a2 : Int32) (σ : Mem) (r : Int32) (hf : f_D_beaten a1 a2 σ = some r) : Ctr l w wC yX9_beaten cX9_beaten 3 (some .int) 2 41 [.ref (w.2.2.1 0), .int a1, .int a2] σ (cQi w wC r σ) := mk_ctr (Q := fun κ => qO κ wC σ) (lv := [some (.ref (w.2.2.1 0)), some (.int a1), some (.int a2)]) (by decide) rfl hw (Nat.le_of_ble_eq_true rfl) rfl hf (fun κ h => by subst h; rfl) (fun κ hl h hR hC => by
    subst h
    exact w_D_beaten hR hC a1 a2 σ)
-- DuelRound$Orders.turnedWithFirst(II)I (5, None, None) kind O
def f_Or_turnedWithFirst (a1 : Int32) (a2 : Int32) (σ : Mem) : Option Int32 :=
  bnd (a2 &&& (((1 : Int32) <<< (a1 &&& 31)) ^^^ (-1 : Int32))) fun x1 =>
  gd (inb x1 256) (gd (inb a1 8) (some ((gI σ 17 x1.toNatClampNeg) + (t_J_bitCount (x1 &&& ((gI σ 13 a1.toNatClampNeg) ^^^ (-1 : Int32)))))))
set_option maxRecDepth 100000 in
set_option maxHeartbeats 4000000 in
theorem w_Or_turnedWithFirst {κ : Ctx} (hR : kR κ = { frames := 1, cells := 0, slots := 0, locals := 20 }) (hC : ok κ wC cX3_turnedWithFirst 4 RX3 (some .int)) (a1 : Int32) (a2 : Int32) (σ : Mem) : wF κ wC 4 (qO κ wC σ) σ 0 [some (.ref (ad κ 5)), some (.int a1), some (.int a2), none] [] (f_Or_turnedWithFirst a1 a2 σ) := by
  unfold f_Or_turnedWithFirst
  refine r_iload_n (pc := 0) hC rfl dX3_turnedWithFirst_0 ?_
  refine r_iconst (pc := 1) hC (v := (1 : Int32)) (by decide) dX3_turnedWithFirst_1 ?_
  refine r_iload_n (pc := 2) hC rfl dX3_turnedWithFirst_2 ?_
  refine r_ishl (pc := 3) hC dX3_turnedWithFirst_3 ?_
  refine r_iconst (pc := 4) hC (v := (-1 : Int32)) (by decide) dX3_turnedWithFirst_4 ?_
  refine r_ixor (pc := 5) hC dX3_turnedWithFirst_5 ?_
  refine r_iand (pc := 6) hC dX3_turnedWithFirst_6 ?_
  refine r_let (fun x1 => ?_)
  refine r_istore_n (pc := 7) hC rfl rfl dX3_turnedWithFirst_7 ?_
  refine r_aload_n (pc := 8) hC rfl dX3_turnedWithFirst_8 ?_
  refine gC_5_1 (pc := 9) hC k_178 dX3_turnedWithFirst_9 ?_
  refine r_iload_n (pc := 12) hC rfl dX3_turnedWithFirst_12 ?_
  refine aC_17 (pc := 13) hC dX3_turnedWithFirst_13 ?_
  refine r_iload_n (pc := 14) hC rfl dX3_turnedWithFirst_14 ?_
  refine r_aload_n (pc := 15) hC rfl dX3_turnedWithFirst_15 ?_
  refine gC_5_0 (pc := 16) hC k_177 dX3_turnedWithFirst_16 ?_
  refine gC_2_0 (pc := 19) hC k_133 dX3_turnedWithFirst_19 ?_
  refine r_iload_n (pc := 22) hC rfl dX3_turnedWithFirst_22 ?_
  refine aC_13 (pc := 23) hC dX3_turnedWithFirst_23 ?_
  refine r_iconst (pc := 24) hC (v := (-1 : Int32)) (by decide) dX3_turnedWithFirst_24 ?_
  refine r_ixor (pc := 25) hC dX3_turnedWithFirst_25 ?_
  refine r_iand (pc := 26) hC dX3_turnedWithFirst_26 ?_
  refine r_cT (pc := 27) (rest := [.int (gI σ 17 x1.toNatClampNeg)]) (runS [.int (x1 &&& ((gI σ 13 a1.toNatClampNeg) ^^^ (-1 : Int32)))] hC (c_J_bitCount (kl κ) (kW κ) hC.2.2.2.2.2.2.2.2.1 (x1 &&& ((gI σ 13 a1.toNatClampNeg) ^^^ (-1 : Int32))) σ) o_J6_bitCount_0f7a4 k_568 (rm_ok hR rfl) rfl (Nat.le_of_ble_eq_true rfl) dX3_turnedWithFirst_27) ?_
  refine r_iadd (pc := 30) hC dX3_turnedWithFirst_30 ?_
  exact r_retO hC rfl dX3_turnedWithFirst_31
set_option maxRecDepth 100000 in
set_option maxHeartbeats 4000000 in
theorem c_Or_turnedWithFirst (l : Launch) (w : Wenv) (hw : okw w wC) (a1 : Int32) (a2 : Int32) (σ : Mem) (r : Int32) (hf : f_Or_turnedWithFirst a1 a2 σ = some r) : Ctr l w wC yX3_turnedWithFirst cX3_turnedWithFirst 4 (some .int) 1 20 [.ref (w.2.2.1 5), .int a1, .int a2] σ (cQi w wC r σ) := mk_ctr (Q := fun κ => qO κ wC σ) (lv := [some (.ref (w.2.2.1 5)), some (.int a1), some (.int a2), none]) (by decide) rfl hw (Nat.le_of_ble_eq_true rfl) rfl hf (fun κ h => by subst h; rfl) (fun κ hl h hR hC => by
    subst h
    exact w_Or_turnedWithFirst hR hC a1 a2 σ)
-- DuelRound$Orders.measure(I)V (5, None) kind M
def Or_measure_J105 (i3 : Int32) (i8 : Int32) (r11 : Int32) (self10 : Int32 → Mem → Option Mem) (s12 : Mem) : Option Mem :=
  gd (inb i3 256) (if r11 = (gI s12 17 i3.toNatClampNeg) then
  (gd (inb i3 256) (gd (inb (i3 &&& (((1 : Int32) <<< (i8 &&& 31)) ^^^ (-1 : Int32))) 256) (gd (inb i3 256) (bnd (sI s12 18 i3.toNatClampNeg ((gI s12 18 i3.toNatClampNeg) + (gI s12 18 (i3 &&& (((1 : Int32) <<< (i8 &&& 31)) ^^^ (-1 : Int32))).toNatClampNeg))) fun s13 =>
  self10 (i8 + (1 : Int32)) s13))))
  else
  (self10 (i8 + (1 : Int32)) s12))
def Or_measure_B49 (i3 : Int32) (self5 : Int32 → Mem → Option Mem) (self10 : Int32 → Mem → Option Mem) (i8 : Int32) (s9 : Mem) : Option Mem :=
  if (gI s9 3 0) ≤ i8 then
  (self5 (i3 + (1 : Int32)) s9)
  else
  (if (t_D_bitOf i3 i8) = (0 : Int32) then
  (self10 (i8 + (1 : Int32)) s9)
  else
  (ob (f_Or_turnedWithFirst i8 i3 s9) fun r11 =>
  gd (inb i3 256) (if (gI s9 17 i3.toNatClampNeg) ≤ r11 then
  (Or_measure_J105 i3 i8 r11 self10 s9)
  else
  (gd (inb i3 256) (bnd (sI s9 17 i3.toNatClampNeg r11) fun s14 =>
  gd (inb i3 256) (bnd (sI s14 18 i3.toNatClampNeg (0 : Int32)) fun s15 =>
  Or_measure_J105 i3 i8 r11 self10 s15))))))
def Or_measure_B16 (N : Nat) (a1 : Int32) (self5 : Int32 → Mem → Option Mem) (i3 : Int32) (s4 : Mem) : Option Mem :=
  if a1 < i3 then
  (some s4)
  else
  (if (i3 &&& (a1 ^^^ (-1 : Int32))) = (0 : Int32) then
  (gd (inb i3 256) (bnd (sI s4 17 i3.toNatClampNeg (64 : Int32)) fun s6 =>
  gd (inb i3 256) (bnd (sI s6 18 i3.toNatClampNeg (0 : Int32)) fun s7 =>
  it2 (Or_measure_B49 i3 self5) N (0 : Int32) s7)))
  else
  (self5 (i3 + (1 : Int32)) s4))
def f_Or_measure (N : Nat) (a1 : Int32) (σ : Mem) : Option Mem :=
  bnd (sI σ 17 (0 : Int32).toNatClampNeg (0 : Int32)) fun s1 =>
  bnd (sI s1 18 (0 : Int32).toNatClampNeg (1 : Int32)) fun s2 =>
  it2 (Or_measure_B16 N a1) N (1 : Int32) s2
set_option maxRecDepth 100000 in
set_option maxHeartbeats 4000000 in
theorem w_Or_measure {κ : Ctx} (hR : kR κ = { frames := 2, cells := 0, slots := 0, locals := 43 }) (hC : ok κ wC cX3_measure 5 RX3 none) (N : Nat) (a1 : Int32) (σ : Mem) : wF κ wC 5 (qM κ wC) σ 0 [some (.ref (ad κ 5)), some (.int a1), none, none, none] [] (f_Or_measure N a1 σ) := by
  unfold f_Or_measure
  refine r_aload_n (pc := 0) hC rfl dX3_measure_0 ?_
  refine gC_5_1 (pc := 1) hC k_178 dX3_measure_1 ?_
  refine r_iconst (pc := 4) hC (v := (0 : Int32)) (by decide) dX3_measure_4 ?_
  refine r_iconst (pc := 5) hC (v := (0 : Int32)) (by decide) dX3_measure_5 ?_
  refine r_ung (b := inb (0 : Int32) 256) (by decide) ?_
  refine bC_17 (pc := 6) hC dX3_measure_6 ?_
  refine r_letm (fun s1 => ?_)
  refine r_aload_n (pc := 7) hC rfl dX3_measure_7 ?_
  refine gC_5_2 (pc := 8) hC k_180 dX3_measure_8 ?_
  refine r_iconst (pc := 11) hC (v := (0 : Int32)) (by decide) dX3_measure_11 ?_
  refine r_iconst (pc := 12) hC (v := (1 : Int32)) (by decide) dX3_measure_12 ?_
  refine r_ung (b := inb (0 : Int32) 256) (by decide) ?_
  refine bC_18 (pc := 13) hC dX3_measure_13 ?_
  refine r_letm (fun s2 => ?_)
  refine r_iconst (pc := 14) hC (v := (1 : Int32)) (by decide) dX3_measure_14 ?_
  refine r_istore_n (pc := 15) hC rfl rfl dX3_measure_15 ?_
  refine w_it2 (fun i3 s4 => s4) (fun i3 s4 => [some (.ref (ad κ 5)), some (.int a1), some (.int i3), none, none]) (fun self5 ih16_5 i3 s4 => ?_) N (1 : Int32) s2
  unfold Or_measure_B16
  refine r_iload_n (pc := 16) hC rfl dX3_measure_16 ?_
  refine r_iload_n (pc := 17) hC rfl dX3_measure_17 ?_
  refine r_icmp_gt (pc := 18) (tgt := 149) hC dX3_measure_18 (by decide) ?_ ?_
  · exact r_retM hC dX3_measure_149
  · refine r_iload_n (pc := 21) hC rfl dX3_measure_21 ?_
    refine r_iload_n (pc := 22) hC rfl dX3_measure_22 ?_
    refine r_iconst (pc := 23) hC (v := (-1 : Int32)) (by decide) dX3_measure_23 ?_
    refine r_ixor (pc := 24) hC dX3_measure_24 ?_
    refine r_iand (pc := 25) hC dX3_measure_25 ?_
    refine r_if_eq (pc := 26) (tgt := 32) hC dX3_measure_26 (by decide) ?_ ?_
    · refine r_aload_n (pc := 32) hC rfl dX3_measure_32 ?_
      refine gC_5_1 (pc := 33) hC k_178 dX3_measure_33 ?_
      refine r_iload_n (pc := 36) hC rfl dX3_measure_36 ?_
      refine r_bipush (pc := 37) hC (v := (64 : Int32)) (by decide) dX3_measure_37 ?_
      refine bC_17 (pc := 39) hC dX3_measure_39 ?_
      refine r_letm (fun s6 => ?_)
      refine r_aload_n (pc := 40) hC rfl dX3_measure_40 ?_
      refine gC_5_2 (pc := 41) hC k_180 dX3_measure_41 ?_
      refine r_iload_n (pc := 44) hC rfl dX3_measure_44 ?_
      refine r_iconst (pc := 45) hC (v := (0 : Int32)) (by decide) dX3_measure_45 ?_
      refine bC_18 (pc := 46) hC dX3_measure_46 ?_
      refine r_letm (fun s7 => ?_)
      refine r_iconst (pc := 47) hC (v := (0 : Int32)) (by decide) dX3_measure_47 ?_
      refine r_istore_n (pc := 48) hC rfl rfl dX3_measure_48 ?_
      refine w_it2 (fun i8 s9 => s9) (fun i8 s9 => [some (.ref (ad κ 5)), some (.int a1), some (.int i3), some (.int i8), none]) (fun self10 ih49_10 i8 s9 => ?_) N (0 : Int32) s7
      unfold Or_measure_B49
      refine r_iload_n (pc := 49) hC rfl dX3_measure_49 ?_
      refine r_aload_n (pc := 50) hC rfl dX3_measure_50 ?_
      refine gC_5_0 (pc := 51) hC k_177 dX3_measure_51 ?_
      refine gC_2_1 (pc := 54) hC k_140 dX3_measure_54 ?_
      refine r_icmp_ge (pc := 57) (tgt := 143) hC dX3_measure_57 (by decide) ?_ ?_
      · refine r_iinc (pc := 143) hC (v := (1 : Int32)) rfl (by decide) rfl rfl dX3_measure_143 ?_
        refine r_goto (pc := 146) (tgt := 16) hC dX3_measure_146 (by decide) ?_
        exact r_wk [true, true, true, false, false] (ih16_5 (i3 + (1 : Int32)) s9)
      · refine r_iload_n (pc := 60) hC rfl dX3_measure_60 ?_
        refine r_iload_n (pc := 61) hC rfl dX3_measure_61 ?_
        refine r_cT (pc := 62) (rest := []) (runSN [.int i3, .int i8] hC (c_D_bitOf (kl κ) (kW κ) hC.2.2.2.2.2.2.2.2.1 i3 i8 s9) o_X9_bitOf (k_563 hC.2.2.2.2.2.2.2.2.2) (rm_ok hR rfl) rfl (Nat.le_of_ble_eq_true rfl) dX3_measure_62) ?_
        refine r_if_ne (pc := 65) (tgt := 71) hC dX3_measure_65 (by decide) ?_ ?_
        · refine r_aload_n (pc := 71) hC rfl dX3_measure_71 ?_
          refine r_iload_n (pc := 72) hC rfl dX3_measure_72 ?_
          refine r_iload_n (pc := 73) hC rfl dX3_measure_73 ?_
          refine r_cO (pc := 74) (rest := []) (fun r11 hf => runV [.int i8, .int i3] hC (c_Or_turnedWithFirst (kl κ) (kW κ) hC.2.2.2.2.2.2.2.2.1 i8 i3 s9 r11 hf) o_X3_turnedWithFirst k_564 (q0 := 5) (ci := 3) rfl rfl (rm_ok hR rfl) rfl (Nat.le_of_ble_eq_true rfl) dX3_measure_74) (fun r11 => ?_)
          refine r_istore (pc := 77) hC rfl rfl dX3_measure_77 ?_
          refine r_iload (pc := 79) hC rfl dX3_measure_79 ?_
          refine r_aload_n (pc := 81) hC rfl dX3_measure_81 ?_
          refine gC_5_1 (pc := 82) hC k_178 dX3_measure_82 ?_
          refine r_iload_n (pc := 85) hC rfl dX3_measure_85 ?_
          refine aC_17 (pc := 86) hC dX3_measure_86 ?_
          have hJ105_13 : ∀ (s12 : Mem), wF κ wC 5 (qM κ wC) s12 105 [some (.ref (ad κ 5)), some (.int a1), some (.int i3), some (.int i8), some (.int r11)] [] (Or_measure_J105 i3 i8 r11 self10 s12) := by
            intro s12
            unfold Or_measure_J105
            refine r_iload (pc := 105) hC rfl dX3_measure_105 ?_
            refine r_aload_n (pc := 107) hC rfl dX3_measure_107 ?_
            refine gC_5_1 (pc := 108) hC k_178 dX3_measure_108 ?_
            refine r_iload_n (pc := 111) hC rfl dX3_measure_111 ?_
            refine aC_17 (pc := 112) hC dX3_measure_112 ?_
            refine r_icmp_ne (pc := 113) (tgt := 137) hC dX3_measure_113 (by decide) ?_ ?_
            · refine r_iinc (pc := 137) hC (v := (1 : Int32)) rfl (by decide) rfl rfl dX3_measure_137 ?_
              refine r_goto (pc := 140) (tgt := 49) hC dX3_measure_140 (by decide) ?_
              exact r_wk [true, true, true, true, false] (ih49_10 (i8 + (1 : Int32)) s12)
            · refine r_aload_n (pc := 116) hC rfl dX3_measure_116 ?_
              refine gC_5_2 (pc := 117) hC k_180 dX3_measure_117 ?_
              refine r_iload_n (pc := 120) hC rfl dX3_measure_120 ?_
              refine r_dup2 (pc := 121) hC rfl rfl dX3_measure_121 ?_
              refine aC_18 (pc := 122) hC dX3_measure_122 ?_
              refine r_aload_n (pc := 123) hC rfl dX3_measure_123 ?_
              refine gC_5_2 (pc := 124) hC k_180 dX3_measure_124 ?_
              refine r_iload_n (pc := 127) hC rfl dX3_measure_127 ?_
              refine r_iconst (pc := 128) hC (v := (1 : Int32)) (by decide) dX3_measure_128 ?_
              refine r_iload_n (pc := 129) hC rfl dX3_measure_129 ?_
              refine r_ishl (pc := 130) hC dX3_measure_130 ?_
              refine r_iconst (pc := 131) hC (v := (-1 : Int32)) (by decide) dX3_measure_131 ?_
              refine r_ixor (pc := 132) hC dX3_measure_132 ?_
              refine r_iand (pc := 133) hC dX3_measure_133 ?_
              refine aC_18 (pc := 134) hC dX3_measure_134 ?_
              refine r_iadd (pc := 135) hC dX3_measure_135 ?_
              refine bC_18 (pc := 136) hC dX3_measure_136 ?_
              refine r_letm (fun s13 => ?_)
              refine r_iinc (pc := 137) hC (v := (1 : Int32)) rfl (by decide) rfl rfl dX3_measure_137 ?_
              refine r_goto (pc := 140) (tgt := 49) hC dX3_measure_140 (by decide) ?_
              exact r_wk [true, true, true, true, false] (ih49_10 (i8 + (1 : Int32)) s13)
          refine r_icmp_ge (pc := 87) (tgt := 105) hC dX3_measure_87 (by decide) ?_ ?_
          · exact hJ105_13 s9
          · refine r_aload_n (pc := 90) hC rfl dX3_measure_90 ?_
            refine gC_5_1 (pc := 91) hC k_178 dX3_measure_91 ?_
            refine r_iload_n (pc := 94) hC rfl dX3_measure_94 ?_
            refine r_iload (pc := 95) hC rfl dX3_measure_95 ?_
            refine bC_17 (pc := 97) hC dX3_measure_97 ?_
            refine r_letm (fun s14 => ?_)
            refine r_aload_n (pc := 98) hC rfl dX3_measure_98 ?_
            refine gC_5_2 (pc := 99) hC k_180 dX3_measure_99 ?_
            refine r_iload_n (pc := 102) hC rfl dX3_measure_102 ?_
            refine r_iconst (pc := 103) hC (v := (0 : Int32)) (by decide) dX3_measure_103 ?_
            refine bC_18 (pc := 104) hC dX3_measure_104 ?_
            refine r_letm (fun s15 => ?_)
            exact hJ105_13 s15
        · refine r_goto (pc := 68) (tgt := 137) hC dX3_measure_68 (by decide) ?_
          refine r_iinc (pc := 137) hC (v := (1 : Int32)) rfl (by decide) rfl rfl dX3_measure_137 ?_
          refine r_goto (pc := 140) (tgt := 49) hC dX3_measure_140 (by decide) ?_
          exact ih49_10 (i8 + (1 : Int32)) s9
    · refine r_goto (pc := 29) (tgt := 143) hC dX3_measure_29 (by decide) ?_
      refine r_iinc (pc := 143) hC (v := (1 : Int32)) rfl (by decide) rfl rfl dX3_measure_143 ?_
      refine r_goto (pc := 146) (tgt := 16) hC dX3_measure_146 (by decide) ?_
      exact ih16_5 (i3 + (1 : Int32)) s4
set_option maxRecDepth 100000 in
set_option maxHeartbeats 4000000 in
theorem c_Or_measure (l : Launch) (w : Wenv) (hw : okw w wC) (N : Nat) (a1 : Int32) (σ : Mem) (τ : Mem) (hf : f_Or_measure N a1 σ = some τ) : Ctr l w wC yX3_measure cX3_measure 5 none 2 43 [.ref (w.2.2.1 5), .int a1] σ (cQv w wC τ) := mk_ctr (Q := fun κ => qM κ wC) (lv := [some (.ref (w.2.2.1 5)), some (.int a1), none, none, none]) (by decide) rfl hw (Nat.le_of_ble_eq_true rfl) rfl hf (fun κ h => by subst h; rfl) (fun κ hl h hR hC => by
    subst h
    exact w_Or_measure hR hC N a1 σ)
-- DuelRound$Orders.fewestTurned(I)I (5, None) kind OM
def f_Or_fewestTurned (N : Nat) (a1 : Int32) (σ : Mem) : Option (Int32 × Mem) :=
  ob (f_Or_measure N a1 σ) fun s1 =>
  gd (inb a1 256) (some ((gI s1 17 a1.toNatClampNeg), s1))
set_option maxRecDepth 100000 in
set_option maxHeartbeats 4000000 in
theorem w_Or_fewestTurned {κ : Ctx} (hR : kR κ = { frames := 3, cells := 0, slots := 0, locals := 67 }) (hC : ok κ wC cX3_fewestTurned 2 RX3 (some .int)) (N : Nat) (a1 : Int32) (σ : Mem) : wF κ wC 2 (qOM κ wC) σ 0 [some (.ref (ad κ 5)), some (.int a1)] [] (f_Or_fewestTurned N a1 σ) := by
  unfold f_Or_fewestTurned
  refine r_aload_n (pc := 0) hC rfl dX3_fewestTurned_0 ?_
  refine r_iload_n (pc := 1) hC rfl dX3_fewestTurned_1 ?_
  refine r_cM (pc := 2) (rest := []) (fun s1 hf => runV [.int a1] hC (c_Or_measure (kl κ) (kW κ) hC.2.2.2.2.2.2.2.2.1 N a1 σ s1 hf) o_X3_measure k_559 (q0 := 5) (ci := 3) rfl rfl (rm_ok hR rfl) rfl (Nat.le_of_ble_eq_true rfl) dX3_fewestTurned_2) (fun s1 => ?_)
  refine r_aload_n (pc := 5) hC rfl dX3_fewestTurned_5 ?_
  refine gC_5_1 (pc := 6) hC k_178 dX3_fewestTurned_6 ?_
  refine r_iload_n (pc := 9) hC rfl dX3_fewestTurned_9 ?_
  refine aC_17 (pc := 10) hC dX3_fewestTurned_10 ?_
  exact r_retOM hC rfl dX3_fewestTurned_11
set_option maxRecDepth 100000 in
set_option maxHeartbeats 4000000 in
theorem c_Or_fewestTurned (l : Launch) (w : Wenv) (hw : okw w wC) (N : Nat) (a1 : Int32) (σ : Mem) (r : Int32) (τ : Mem) (hf : f_Or_fewestTurned N a1 σ = some (r, τ)) : Ctr l w wC yX3_fewestTurned cX3_fewestTurned 2 (some .int) 3 67 [.ref (w.2.2.1 5), .int a1] σ (cQi w wC r τ) := mk_ctr (Q := fun κ => qOM κ wC) (lv := [some (.ref (w.2.2.1 5)), some (.int a1)]) (by decide) rfl hw (Nat.le_of_ble_eq_true rfl) rfl hf (fun κ h => by subst h; rfl) (fun κ hl h hR hC => by
    subst h
    exact w_Or_fewestTurned hR hC N a1 σ)
-- DuelRound$Orders.howMany(I)I (5, None) kind OM
def f_Or_howMany (N : Nat) (a1 : Int32) (σ : Mem) : Option (Int32 × Mem) :=
  ob (f_Or_measure N a1 σ) fun s1 =>
  gd (inb a1 256) (some ((gI s1 18 a1.toNatClampNeg), s1))
set_option maxRecDepth 100000 in
set_option maxHeartbeats 4000000 in
theorem w_Or_howMany {κ : Ctx} (hR : kR κ = { frames := 3, cells := 0, slots := 0, locals := 67 }) (hC : ok κ wC cX3_howMany 2 RX3 (some .int)) (N : Nat) (a1 : Int32) (σ : Mem) : wF κ wC 2 (qOM κ wC) σ 0 [some (.ref (ad κ 5)), some (.int a1)] [] (f_Or_howMany N a1 σ) := by
  unfold f_Or_howMany
  refine r_aload_n (pc := 0) hC rfl dX3_howMany_0 ?_
  refine r_iload_n (pc := 1) hC rfl dX3_howMany_1 ?_
  refine r_cM (pc := 2) (rest := []) (fun s1 hf => runV [.int a1] hC (c_Or_measure (kl κ) (kW κ) hC.2.2.2.2.2.2.2.2.1 N a1 σ s1 hf) o_X3_measure k_559 (q0 := 5) (ci := 3) rfl rfl (rm_ok hR rfl) rfl (Nat.le_of_ble_eq_true rfl) dX3_howMany_2) (fun s1 => ?_)
  refine r_aload_n (pc := 5) hC rfl dX3_howMany_5 ?_
  refine gC_5_2 (pc := 6) hC k_180 dX3_howMany_6 ?_
  refine r_iload_n (pc := 9) hC rfl dX3_howMany_9 ?_
  refine aC_18 (pc := 10) hC dX3_howMany_10 ?_
  exact r_retOM hC rfl dX3_howMany_11
set_option maxRecDepth 100000 in
set_option maxHeartbeats 4000000 in
theorem c_Or_howMany (l : Launch) (w : Wenv) (hw : okw w wC) (N : Nat) (a1 : Int32) (σ : Mem) (r : Int32) (τ : Mem) (hf : f_Or_howMany N a1 σ = some (r, τ)) : Ctr l w wC yX3_howMany cX3_howMany 2 (some .int) 3 67 [.ref (w.2.2.1 5), .int a1] σ (cQi w wC r τ) := mk_ctr (Q := fun κ => qOM κ wC) (lv := [some (.ref (w.2.2.1 5)), some (.int a1)]) (by decide) rfl hw (Nat.le_of_ble_eq_true rfl) rfl hf (fun κ h => by subst h; rfl) (fun κ hl h hR hC => by
    subst h
    exact w_Or_howMany hR hC N a1 σ)
-- DuelRound$Orders.isFirstOfBest(II)Z (5, None, None) kind O
def f_Or_isFirstOfBest (a1 : Int32) (a2 : Int32) (σ : Mem) : Option Int32 :=
  if (t_D_bitOf a2 a1) = (1 : Int32) then
  (ob (f_Or_turnedWithFirst a1 a2 σ) fun r1 =>
  gd (inb a2 256) (if r1 = (gI σ 17 a2.toNatClampNeg) then
  (some (1 : Int32))
  else
  (some (0 : Int32))))
  else
  (some (0 : Int32))
set_option maxRecDepth 100000 in
set_option maxHeartbeats 4000000 in
theorem w_Or_isFirstOfBest {κ : Ctx} (hR : kR κ = { frames := 2, cells := 0, slots := 0, locals := 43 }) (hC : ok κ wC cX3_isFirstOfBest 3 RX3 (some .boolean)) (a1 : Int32) (a2 : Int32) (σ : Mem) : wF κ wC 3 (qO κ wC σ) σ 0 [some (.ref (ad κ 5)), some (.int a1), some (.int a2)] [] (f_Or_isFirstOfBest a1 a2 σ) := by
  unfold f_Or_isFirstOfBest
  refine r_iload_n (pc := 0) hC rfl dX3_isFirstOfBest_0 ?_
  refine r_iload_n (pc := 1) hC rfl dX3_isFirstOfBest_1 ?_
  refine r_cT (pc := 2) (rest := []) (runSN [.int a2, .int a1] hC (c_D_bitOf (kl κ) (kW κ) hC.2.2.2.2.2.2.2.2.1 a2 a1 σ) o_X9_bitOf (k_563 hC.2.2.2.2.2.2.2.2.2) (rm_ok hR rfl) rfl (Nat.le_of_ble_eq_true rfl) dX3_isFirstOfBest_2) ?_
  refine r_iconst (pc := 5) hC (v := (1 : Int32)) (by decide) dX3_isFirstOfBest_5 ?_
  refine r_icmp_ne (pc := 6) (tgt := 28) hC dX3_isFirstOfBest_6 (by decide) ?_ ?_
  · refine r_iconst (pc := 28) hC (v := (0 : Int32)) (by decide) dX3_isFirstOfBest_28 ?_
    exact r_retO hC rfl dX3_isFirstOfBest_29
  · refine r_aload_n (pc := 9) hC rfl dX3_isFirstOfBest_9 ?_
    refine r_iload_n (pc := 10) hC rfl dX3_isFirstOfBest_10 ?_
    refine r_iload_n (pc := 11) hC rfl dX3_isFirstOfBest_11 ?_
    refine r_cO (pc := 12) (rest := []) (fun r1 hf => runV [.int a1, .int a2] hC (c_Or_turnedWithFirst (kl κ) (kW κ) hC.2.2.2.2.2.2.2.2.1 a1 a2 σ r1 hf) o_X3_turnedWithFirst k_564 (q0 := 5) (ci := 3) rfl rfl (rm_ok hR rfl) rfl (Nat.le_of_ble_eq_true rfl) dX3_isFirstOfBest_12) (fun r1 => ?_)
    refine r_aload_n (pc := 15) hC rfl dX3_isFirstOfBest_15 ?_
    refine gC_5_1 (pc := 16) hC k_178 dX3_isFirstOfBest_16 ?_
    refine r_iload_n (pc := 19) hC rfl dX3_isFirstOfBest_19 ?_
    refine aC_17 (pc := 20) hC dX3_isFirstOfBest_20 ?_
    refine r_icmp_ne (pc := 21) (tgt := 28) hC dX3_isFirstOfBest_21 (by decide) ?_ ?_
    · refine r_iconst (pc := 28) hC (v := (0 : Int32)) (by decide) dX3_isFirstOfBest_28 ?_
      exact r_retO hC rfl dX3_isFirstOfBest_29
    · refine r_iconst (pc := 24) hC (v := (1 : Int32)) (by decide) dX3_isFirstOfBest_24 ?_
      refine r_goto (pc := 25) (tgt := 29) hC dX3_isFirstOfBest_25 (by decide) ?_
      exact r_retO hC rfl dX3_isFirstOfBest_29
set_option maxRecDepth 100000 in
set_option maxHeartbeats 4000000 in
theorem c_Or_isFirstOfBest (l : Launch) (w : Wenv) (hw : okw w wC) (a1 : Int32) (a2 : Int32) (σ : Mem) (r : Int32) (hf : f_Or_isFirstOfBest a1 a2 σ = some r) : Ctr l w wC yX3_isFirstOfBest cX3_isFirstOfBest 3 (some .boolean) 2 43 [.ref (w.2.2.1 5), .int a1, .int a2] σ (cQi w wC r σ) := mk_ctr (Q := fun κ => qO κ wC σ) (lv := [some (.ref (w.2.2.1 5)), some (.int a1), some (.int a2)]) (by decide) rfl hw (Nat.le_of_ble_eq_true rfl) rfl hf (fun κ h => by subst h; rfl) (fun κ hl h hR hC => by
    subst h
    exact w_Or_isFirstOfBest hR hC a1 a2 σ)
-- DuelRound$Orders.leastFirst(I)I (5, None) kind O
def Or_leastFirst_B2 (σ : Mem) (a1 : Int32) (self2 : Int32 → Option Int32) (i1 : Int32) : Option Int32 :=
  if (gI σ 3 0) ≤ i1 then
  (some (-1 : Int32))
  else
  (ob (f_Or_isFirstOfBest i1 a1 σ) fun r3 =>
  if r3 = (0 : Int32) then
  (self2 (i1 + (1 : Int32)))
  else
  (some i1))
def f_Or_leastFirst (N : Nat) (a1 : Int32) (σ : Mem) : Option Int32 :=
  it1 (Or_leastFirst_B2 σ a1) N (0 : Int32)
set_option maxRecDepth 100000 in
set_option maxHeartbeats 4000000 in
theorem w_Or_leastFirst {κ : Ctx} (hR : kR κ = { frames := 3, cells := 0, slots := 0, locals := 65 }) (hC : ok κ wC cX3_leastFirst 3 RX3 (some .int)) (N : Nat) (a1 : Int32) (σ : Mem) : wF κ wC 3 (qO κ wC σ) σ 0 [some (.ref (ad κ 5)), some (.int a1), none] [] (f_Or_leastFirst N a1 σ) := by
  unfold f_Or_leastFirst
  refine r_iconst (pc := 0) hC (v := (0 : Int32)) (by decide) dX3_leastFirst_0 ?_
  refine r_istore_n (pc := 1) hC rfl rfl dX3_leastFirst_1 ?_
  refine w_it1 (fun i1 => σ) (fun i1 => [some (.ref (ad κ 5)), some (.int a1), some (.int i1)]) (fun self2 ih2_2 i1 => ?_) N (0 : Int32)
  unfold Or_leastFirst_B2
  refine r_iload_n (pc := 2) hC rfl dX3_leastFirst_2 ?_
  refine r_aload_n (pc := 3) hC rfl dX3_leastFirst_3 ?_
  refine gC_5_0 (pc := 4) hC k_177 dX3_leastFirst_4 ?_
  refine gC_2_1 (pc := 7) hC k_140 dX3_leastFirst_7 ?_
  refine r_icmp_ge (pc := 10) (tgt := 30) hC dX3_leastFirst_10 (by decide) ?_ ?_
  · refine r_iconst (pc := 30) hC (v := (-1 : Int32)) (by decide) dX3_leastFirst_30 ?_
    exact r_retO hC rfl dX3_leastFirst_31
  · refine r_aload_n (pc := 13) hC rfl dX3_leastFirst_13 ?_
    refine r_iload_n (pc := 14) hC rfl dX3_leastFirst_14 ?_
    refine r_iload_n (pc := 15) hC rfl dX3_leastFirst_15 ?_
    refine r_cO (pc := 16) (rest := []) (fun r3 hf => runV [.int i1, .int a1] hC (c_Or_isFirstOfBest (kl κ) (kW κ) hC.2.2.2.2.2.2.2.2.1 i1 a1 σ r3 hf) o_X3_isFirstOfBest k_569 (q0 := 5) (ci := 3) rfl rfl (rm_ok hR rfl) rfl (Nat.le_of_ble_eq_true rfl) dX3_leastFirst_16) (fun r3 => ?_)
    refine r_if_eq (pc := 19) (tgt := 24) hC dX3_leastFirst_19 (by decide) ?_ ?_
    · refine r_iinc (pc := 24) hC (v := (1 : Int32)) rfl (by decide) rfl rfl dX3_leastFirst_24 ?_
      refine r_goto (pc := 27) (tgt := 2) hC dX3_leastFirst_27 (by decide) ?_
      exact ih2_2 (i1 + (1 : Int32))
    · refine r_iload_n (pc := 22) hC rfl dX3_leastFirst_22 ?_
      exact r_retO hC rfl dX3_leastFirst_23
set_option maxRecDepth 100000 in
set_option maxHeartbeats 4000000 in
theorem c_Or_leastFirst (l : Launch) (w : Wenv) (hw : okw w wC) (N : Nat) (a1 : Int32) (σ : Mem) (r : Int32) (hf : f_Or_leastFirst N a1 σ = some r) : Ctr l w wC yX3_leastFirst cX3_leastFirst 3 (some .int) 3 65 [.ref (w.2.2.1 5), .int a1] σ (cQi w wC r σ) := mk_ctr (Q := fun κ => qO κ wC σ) (lv := [some (.ref (w.2.2.1 5)), some (.int a1), none]) (by decide) rfl hw (Nat.le_of_ble_eq_true rfl) rfl hf (fun κ h => by subst h; rfl) (fun κ hl h hR hC => by
    subst h
    exact w_Or_leastFirst hR hC N a1 σ)
-- DuelRound$Orders.placeInLeast(II)I (5, None, None) kind OM
def Or_placeInLeast_B13 (N : Nat) (s1 : Mem) (a1 : Int32) (self5 : Int32 → Int32 → Int32 → Option (Int32 × Mem)) (i2 : Int32) (i3 : Int32) (i4 : Int32) : Option (Int32 × Mem) :=
  if a1 < i4 then
  (some (i3, s1))
  else
  (ob (f_Or_leastFirst N i2 s1) fun r6 =>
  if r6 = (-1 : Int32) then
  (some ((-1 : Int32), s1))
  else
  (bnd (i2 &&& (((1 : Int32) <<< (r6 &&& 31)) ^^^ (-1 : Int32))) fun x7 =>
  self5 x7 r6 (i4 + (1 : Int32))))
def f_Or_placeInLeast (N : Nat) (a1 : Int32) (a2 : Int32) (σ : Mem) : Option (Int32 × Mem) :=
  ob (f_Or_measure N a2 σ) fun s1 =>
  it3 (Or_placeInLeast_B13 N s1 a1) N a2 (-1 : Int32) (0 : Int32)
set_option maxRecDepth 100000 in
set_option maxHeartbeats 4000000 in
theorem w_Or_placeInLeast {κ : Ctx} (hR : kR κ = { frames := 4, cells := 0, slots := 0, locals := 87 }) (hC : ok κ wC cX3_placeInLeast 6 RX3 (some .int)) (N : Nat) (a1 : Int32) (a2 : Int32) (σ : Mem) : wF κ wC 6 (qOM κ wC) σ 0 [some (.ref (ad κ 5)), some (.int a1), some (.int a2), none, none, none] [] (f_Or_placeInLeast N a1 a2 σ) := by
  unfold f_Or_placeInLeast
  refine r_aload_n (pc := 0) hC rfl dX3_placeInLeast_0 ?_
  refine r_iload_n (pc := 1) hC rfl dX3_placeInLeast_1 ?_
  refine r_cM (pc := 2) (rest := []) (fun s1 hf => runV [.int a2] hC (c_Or_measure (kl κ) (kW κ) hC.2.2.2.2.2.2.2.2.1 N a2 σ s1 hf) o_X3_measure k_559 (q0 := 5) (ci := 3) rfl rfl (rm_ok hR rfl) rfl (Nat.le_of_ble_eq_true rfl) dX3_placeInLeast_2) (fun s1 => ?_)
  refine r_iload_n (pc := 5) hC rfl dX3_placeInLeast_5 ?_
  refine r_istore_n (pc := 6) hC rfl rfl dX3_placeInLeast_6 ?_
  refine r_iconst (pc := 7) hC (v := (-1 : Int32)) (by decide) dX3_placeInLeast_7 ?_
  refine r_istore (pc := 8) hC rfl rfl dX3_placeInLeast_8 ?_
  refine r_iconst (pc := 10) hC (v := (0 : Int32)) (by decide) dX3_placeInLeast_10 ?_
  refine r_istore (pc := 11) hC rfl rfl dX3_placeInLeast_11 ?_
  refine r_wk [true, true, false, true, true, true] (w_it3 (fun i2 i3 i4 => s1) (fun i2 i3 i4 => [some (.ref (ad κ 5)), some (.int a1), none, some (.int i2), some (.int i3), some (.int i4)]) (fun self5 ih13_5 i2 i3 i4 => ?_) N a2 (-1 : Int32) (0 : Int32))
  unfold Or_placeInLeast_B13
  refine r_iload (pc := 13) hC rfl dX3_placeInLeast_13 ?_
  refine r_iload_n (pc := 15) hC rfl dX3_placeInLeast_15 ?_
  refine r_icmp_gt (pc := 16) (tgt := 49) hC dX3_placeInLeast_16 (by decide) ?_ ?_
  · refine r_iload (pc := 49) hC rfl dX3_placeInLeast_49 ?_
    exact r_retOM hC rfl dX3_placeInLeast_51
  · refine r_aload_n (pc := 19) hC rfl dX3_placeInLeast_19 ?_
    refine r_iload_n (pc := 20) hC rfl dX3_placeInLeast_20 ?_
    refine r_cO (pc := 21) (rest := []) (fun r6 hf => runV [.int i2] hC (c_Or_leastFirst (kl κ) (kW κ) hC.2.2.2.2.2.2.2.2.1 N i2 s1 r6 hf) o_X3_leastFirst k_693 (q0 := 5) (ci := 3) rfl rfl (rm_ok hR rfl) rfl (Nat.le_of_ble_eq_true rfl) dX3_placeInLeast_21) (fun r6 => ?_)
    refine r_istore (pc := 24) hC rfl rfl dX3_placeInLeast_24 ?_
    refine r_iload (pc := 26) hC rfl dX3_placeInLeast_26 ?_
    refine r_iconst (pc := 28) hC (v := (-1 : Int32)) (by decide) dX3_placeInLeast_28 ?_
    refine r_icmp_ne (pc := 29) (tgt := 34) hC dX3_placeInLeast_29 (by decide) ?_ ?_
    · refine r_iload_n (pc := 34) hC rfl dX3_placeInLeast_34 ?_
      refine r_iconst (pc := 35) hC (v := (1 : Int32)) (by decide) dX3_placeInLeast_35 ?_
      refine r_iload (pc := 36) hC rfl dX3_placeInLeast_36 ?_
      refine r_ishl (pc := 38) hC dX3_placeInLeast_38 ?_
      refine r_iconst (pc := 39) hC (v := (-1 : Int32)) (by decide) dX3_placeInLeast_39 ?_
      refine r_ixor (pc := 40) hC dX3_placeInLeast_40 ?_
      refine r_iand (pc := 41) hC dX3_placeInLeast_41 ?_
      refine r_let (fun x7 => ?_)
      refine r_istore_n (pc := 42) hC rfl rfl dX3_placeInLeast_42 ?_
      refine r_iinc (pc := 43) hC (v := (1 : Int32)) rfl (by decide) rfl rfl dX3_placeInLeast_43 ?_
      refine r_goto (pc := 46) (tgt := 13) hC dX3_placeInLeast_46 (by decide) ?_
      exact ih13_5 x7 r6 (i4 + (1 : Int32))
    · refine r_iconst (pc := 32) hC (v := (-1 : Int32)) (by decide) dX3_placeInLeast_32 ?_
      exact r_retOM hC rfl dX3_placeInLeast_33
set_option maxRecDepth 100000 in
set_option maxHeartbeats 4000000 in
theorem c_Or_placeInLeast (l : Launch) (w : Wenv) (hw : okw w wC) (N : Nat) (a1 : Int32) (a2 : Int32) (σ : Mem) (r : Int32) (τ : Mem) (hf : f_Or_placeInLeast N a1 a2 σ = some (r, τ)) : Ctr l w wC yX3_placeInLeast cX3_placeInLeast 6 (some .int) 4 87 [.ref (w.2.2.1 5), .int a1, .int a2] σ (cQi w wC r τ) := mk_ctr (Q := fun κ => qOM κ wC) (lv := [some (.ref (w.2.2.1 5)), some (.int a1), some (.int a2), none, none, none]) (by decide) rfl hw (Nat.le_of_ble_eq_true rfl) rfl hf (fun κ h => by subst h; rfl) (fun κ hl h hR hC => by
    subst h
    exact w_Or_placeInLeast hR hC N a1 a2 σ)
-- DuelRound.best(I)I (0, None) kind OM
def f_D_best (N : Nat) (a1 : Int32) (σ : Mem) : Option (Int32 × Mem) :=
  if (gI σ 3 0) = (0 : Int32) then
  (some ((-1 : Int32), σ))
  else
  (if a1 = (0 : Int32) then
  (ob2 (f_Or_fewestTurned N (t_Du_everybodyN σ) σ) fun r6 s5 =>
  some (r6, s5))
  else
  (if a1 = (1 : Int32) then
  (ob2 (f_Or_howMany N (t_Du_everybodyN σ) σ) fun r4 s3 =>
  some (r4, s3))
  else
  (if a1 < (10 : Int32) then
  (some ((-1 : Int32), σ))
  else
  (if a1 < ((10 : Int32) + (gI σ 3 0)) then
  (ob2 (f_Or_placeInLeast N (a1 - (10 : Int32)) (t_Du_everybodyN σ) σ) fun r2 s1 =>
  some (r2, s1))
  else
  (some ((-1 : Int32), σ))))))
set_option maxRecDepth 100000 in
set_option maxHeartbeats 4000000 in
theorem w_D_best {κ : Ctx} (hR : kR κ = { frames := 5, cells := 0, slots := 0, locals := 112 }) (hC : ok κ wC cX9_best 2 RX9 (some .int)) (N : Nat) (a1 : Int32) (σ : Mem) : wF κ wC 2 (qOM κ wC) σ 0 [some (.ref (ad κ 0)), some (.int a1)] [] (f_D_best N a1 σ) := by
  unfold f_D_best
  refine r_aload_n (pc := 0) hC rfl dX9_best_0 ?_
  refine gC_0_1 (pc := 1) hC k_312 dX9_best_1 ?_
  refine gC_2_1 (pc := 4) hC k_144 dX9_best_4 ?_
  refine r_if_ne (pc := 7) (tgt := 12) hC dX9_best_7 (by decide) ?_ ?_
  · refine r_iload_n (pc := 12) hC rfl dX9_best_12 ?_
    refine r_if_ne (pc := 13) (tgt := 31) hC dX9_best_13 (by decide) ?_ ?_
    · refine r_iload_n (pc := 31) hC rfl dX9_best_31 ?_
      refine r_iconst (pc := 32) hC (v := (1 : Int32)) (by decide) dX9_best_32 ?_
      refine r_icmp_ne (pc := 33) (tgt := 51) hC dX9_best_33 (by decide) ?_ ?_
      · refine r_iload_n (pc := 51) hC rfl dX9_best_51 ?_
        refine r_bipush (pc := 52) hC (v := (10 : Int32)) (by decide) dX9_best_52 ?_
        refine r_icmp_lt (pc := 54) (tgt := 71) hC dX9_best_54 (by decide) ?_ ?_
        · refine r_iconst (pc := 71) hC (v := (-1 : Int32)) (by decide) dX9_best_71 ?_
          exact r_retOM hC rfl dX9_best_72
        · refine r_iload_n (pc := 57) hC rfl dX9_best_57 ?_
          refine r_bipush (pc := 58) hC (v := (10 : Int32)) (by decide) dX9_best_58 ?_
          refine r_aload_n (pc := 60) hC rfl dX9_best_60 ?_
          refine gC_0_1 (pc := 61) hC k_312 dX9_best_61 ?_
          refine gC_2_1 (pc := 64) hC k_144 dX9_best_64 ?_
          refine r_iadd (pc := 67) hC dX9_best_67 ?_
          refine r_icmp_lt (pc := 68) (tgt := 73) hC dX9_best_68 (by decide) ?_ ?_
          · refine r_aload_n (pc := 73) hC rfl dX9_best_73 ?_
            refine gC_0_4 (pc := 74) hC k_315 dX9_best_74 ?_
            refine r_iload_n (pc := 77) hC rfl dX9_best_77 ?_
            refine r_bipush (pc := 78) hC (v := (10 : Int32)) (by decide) dX9_best_78 ?_
            refine r_isub (pc := 80) hC dX9_best_80 ?_
            refine r_aload_n (pc := 81) hC rfl dX9_best_81 ?_
            refine gC_0_1 (pc := 82) hC k_312 dX9_best_82 ?_
            refine r_cT (pc := 85) (rest := [.int (a1 - (10 : Int32)), .ref (ad κ 5)]) (runV [] hC (c_Du_everybodyN (kl κ) (kW κ) hC.2.2.2.2.2.2.2.2.1 σ) o_X1_everybody k_659 (q0 := 2) (ci := 1) rfl rfl (rm_ok hR rfl) rfl (Nat.le_of_ble_eq_true rfl) dX9_best_85) ?_
            refine r_cOM (pc := 88) (rest := []) (fun r2 s1 hf => runV [.int (a1 - (10 : Int32)), .int (t_Du_everybodyN σ)] hC (c_Or_placeInLeast (kl κ) (kW κ) hC.2.2.2.2.2.2.2.2.1 N (a1 - (10 : Int32)) (t_Du_everybodyN σ) σ r2 s1 hf) o_X3_placeInLeast k_689 (q0 := 5) (ci := 3) rfl rfl (rm_ok hR rfl) rfl (Nat.le_of_ble_eq_true rfl) dX9_best_88) (fun r2 s1 => ?_)
            exact r_retOM hC rfl dX9_best_91
          · refine r_iconst (pc := 71) hC (v := (-1 : Int32)) (by decide) dX9_best_71 ?_
            exact r_retOM hC rfl dX9_best_72
      · refine r_aload_n (pc := 36) hC rfl dX9_best_36 ?_
        refine gC_0_4 (pc := 37) hC k_315 dX9_best_37 ?_
        refine r_aload_n (pc := 40) hC rfl dX9_best_40 ?_
        refine gC_0_1 (pc := 41) hC k_312 dX9_best_41 ?_
        refine r_cT (pc := 44) (rest := [.ref (ad κ 5)]) (runV [] hC (c_Du_everybodyN (kl κ) (kW κ) hC.2.2.2.2.2.2.2.2.1 σ) o_X1_everybody k_659 (q0 := 2) (ci := 1) rfl rfl (rm_ok hR rfl) rfl (Nat.le_of_ble_eq_true rfl) dX9_best_44) ?_
        refine r_cOM (pc := 47) (rest := []) (fun r4 s3 hf => runV [.int (t_Du_everybodyN σ)] hC (c_Or_howMany (kl κ) (kW κ) hC.2.2.2.2.2.2.2.2.1 N (t_Du_everybodyN σ) σ r4 s3 hf) o_X3_howMany k_685 (q0 := 5) (ci := 3) rfl rfl (rm_ok hR rfl) rfl (Nat.le_of_ble_eq_true rfl) dX9_best_47) (fun r4 s3 => ?_)
        exact r_retOM hC rfl dX9_best_50
    · refine r_aload_n (pc := 16) hC rfl dX9_best_16 ?_
      refine gC_0_4 (pc := 17) hC k_315 dX9_best_17 ?_
      refine r_aload_n (pc := 20) hC rfl dX9_best_20 ?_
      refine gC_0_1 (pc := 21) hC k_312 dX9_best_21 ?_
      refine r_cT (pc := 24) (rest := [.ref (ad κ 5)]) (runV [] hC (c_Du_everybodyN (kl κ) (kW κ) hC.2.2.2.2.2.2.2.2.1 σ) o_X1_everybody k_659 (q0 := 2) (ci := 1) rfl rfl (rm_ok hR rfl) rfl (Nat.le_of_ble_eq_true rfl) dX9_best_24) ?_
      refine r_cOM (pc := 27) (rest := []) (fun r6 s5 hf => runV [.int (t_Du_everybodyN σ)] hC (c_Or_fewestTurned (kl κ) (kW κ) hC.2.2.2.2.2.2.2.2.1 N (t_Du_everybodyN σ) σ r6 s5 hf) o_X3_fewestTurned k_681 (q0 := 5) (ci := 3) rfl rfl (rm_ok hR rfl) rfl (Nat.le_of_ble_eq_true rfl) dX9_best_27) (fun r6 s5 => ?_)
      exact r_retOM hC rfl dX9_best_30
  · refine r_iconst (pc := 10) hC (v := (-1 : Int32)) (by decide) dX9_best_10 ?_
    exact r_retOM hC rfl dX9_best_11
set_option maxRecDepth 100000 in
set_option maxHeartbeats 4000000 in
theorem c_D_best (l : Launch) (w : Wenv) (hw : okw w wC) (N : Nat) (a1 : Int32) (σ : Mem) (r : Int32) (τ : Mem) (hf : f_D_best N a1 σ = some (r, τ)) : Ctr l w wC yX9_best cX9_best 2 (some .int) 5 112 [.ref (w.2.2.1 0), .int a1] σ (cQi w wC r τ) := mk_ctr (Q := fun κ => qOM κ wC) (lv := [some (.ref (w.2.2.1 0)), some (.int a1)]) (by decide) rfl hw (Nat.le_of_ble_eq_true rfl) rfl hf (fun κ h => by subst h; rfl) (fun κ hl h hR hC => by
    subst h
    exact w_D_best hR hC N a1 σ)
-- DuelRound$Duels.winnerOf(II)I (2, None, None) kind O
def f_Du_winnerOfN (a1 : Int32) (a2 : Int32) (σ : Mem) : Option Int32 :=
  gd (inb a1 8) (if (((gI σ 13 a1.toNatClampNeg) >>> (a2 &&& 31)) &&& (1 : Int32)) = (1 : Int32) then
  (some a1)
  else
  (some a2))
set_option maxRecDepth 100000 in
set_option maxHeartbeats 4000000 in
theorem w_Du_winnerOfN {κ : Ctx} (hR : kR κ = { frames := 0, cells := 0, slots := 0, locals := 0 }) (hC : ok κ wC cX1_winnerOf 3 RX1 (some .int)) (a1 : Int32) (a2 : Int32) (σ : Mem) : wF κ wC 3 (qO κ wC σ) σ 0 [some (.ref (ad κ 2)), some (.int a1), some (.int a2)] [] (f_Du_winnerOfN a1 a2 σ) := by
  unfold f_Du_winnerOfN
  refine r_aload_n (pc := 0) hC rfl dX1_winnerOf_0 ?_
  refine gC_2_0 (pc := 1) hC k_132 dX1_winnerOf_1 ?_
  refine r_iload_n (pc := 4) hC rfl dX1_winnerOf_4 ?_
  refine aC_13 (pc := 5) hC dX1_winnerOf_5 ?_
  refine r_iload_n (pc := 6) hC rfl dX1_winnerOf_6 ?_
  refine r_ishr (pc := 7) hC dX1_winnerOf_7 ?_
  refine r_iconst (pc := 8) hC (v := (1 : Int32)) (by decide) dX1_winnerOf_8 ?_
  refine r_iand (pc := 9) hC dX1_winnerOf_9 ?_
  refine r_iconst (pc := 10) hC (v := (1 : Int32)) (by decide) dX1_winnerOf_10 ?_
  refine r_icmp_ne (pc := 11) (tgt := 18) hC dX1_winnerOf_11 (by decide) ?_ ?_
  · refine r_iload_n (pc := 18) hC rfl dX1_winnerOf_18 ?_
    exact r_retO hC rfl dX1_winnerOf_19
  · refine r_iload_n (pc := 14) hC rfl dX1_winnerOf_14 ?_
    refine r_goto (pc := 15) (tgt := 19) hC dX1_winnerOf_15 (by decide) ?_
    exact r_retO hC rfl dX1_winnerOf_19
set_option maxRecDepth 100000 in
set_option maxHeartbeats 4000000 in
theorem c_Du_winnerOfN (l : Launch) (w : Wenv) (hw : okw w wC) (a1 : Int32) (a2 : Int32) (σ : Mem) (r : Int32) (hf : f_Du_winnerOfN a1 a2 σ = some r) : Ctr l w wC yX1_winnerOf cX1_winnerOf 3 (some .int) 0 0 [.ref (w.2.2.1 2), .int a1, .int a2] σ (cQi w wC r σ) := mk_ctr (Q := fun κ => qO κ wC σ) (lv := [some (.ref (w.2.2.1 2)), some (.int a1), some (.int a2)]) (by decide) rfl hw (Nat.le_of_ble_eq_true rfl) rfl hf (fun κ h => by subst h; rfl) (fun κ hl h hR hC => by
    subst h
    exact w_Du_winnerOfN hR hC a1 a2 σ)
-- DuelRound$Orders.turnedByWins()I (5,) kind O
def Or_turnedByWins_J67 (σ : Mem) (i2 : Int32) (i5 : Int32) (i6 : Int32) (self7 : Int32 → Int32 → Option Int32) (v9 : Int32) : Option Int32 :=
  ob (f_Du_winnerOfN i2 i6 σ) fun r10 =>
  if r10 = v9 then
  (self7 i5 (i6 + (1 : Int32)))
  else
  (self7 (i5 + (1 : Int32)) (i6 + (1 : Int32)))
def Or_turnedByWins_B19 (σ : Mem) (i2 : Int32) (self3 : Int32 → Int32 → Option Int32) (self7 : Int32 → Int32 → Option Int32) (i5 : Int32) (i6 : Int32) : Option Int32 :=
  if (gI σ 3 0) ≤ i6 then
  (self3 i5 (i2 + (1 : Int32)))
  else
  (gd (inb i6 8) (gd (inb i2 8) (bnd ((t_J_bitCount (gI σ 13 i6.toNatClampNeg)) - (t_J_bitCount (gI σ 13 i2.toNatClampNeg))) fun x8 =>
  if x8 ≤ (0 : Int32) then
  (Or_turnedByWins_J67 σ i2 i5 i6 self7 i2)
  else
  (Or_turnedByWins_J67 σ i2 i5 i6 self7 i6))))
def Or_turnedByWins_B4 (N : Nat) (σ : Mem) (self3 : Int32 → Int32 → Option Int32) (i1 : Int32) (i2 : Int32) : Option Int32 :=
  if (gI σ 3 0) ≤ i2 then
  (some i1)
  else
  (bnd (i2 + (1 : Int32)) fun x4 =>
  it2 (Or_turnedByWins_B19 σ i2 self3) N i1 x4)
def f_Or_turnedByWins (N : Nat) (σ : Mem) : Option Int32 :=
  it2 (Or_turnedByWins_B4 N σ) N (0 : Int32) (0 : Int32)
set_option maxRecDepth 100000 in
set_option maxHeartbeats 4000000 in
theorem w_Or_turnedByWins {κ : Ctx} (hR : kR κ = { frames := 1, cells := 0, slots := 0, locals := 22 }) (hC : ok κ wC cX3_turnedByWins 6 RX3 (some .int)) (N : Nat) (σ : Mem) : wF κ wC 6 (qO κ wC σ) σ 0 [some (.ref (ad κ 5)), none, none, none, none, none] [] (f_Or_turnedByWins N  σ) := by
  unfold f_Or_turnedByWins
  refine r_iconst (pc := 0) hC (v := (0 : Int32)) (by decide) dX3_turnedByWins_0 ?_
  refine r_istore_n (pc := 1) hC rfl rfl dX3_turnedByWins_1 ?_
  refine r_iconst (pc := 2) hC (v := (0 : Int32)) (by decide) dX3_turnedByWins_2 ?_
  refine r_istore_n (pc := 3) hC rfl rfl dX3_turnedByWins_3 ?_
  refine w_it2 (fun i1 i2 => σ) (fun i1 i2 => [some (.ref (ad κ 5)), some (.int i1), some (.int i2), none, none, none]) (fun self3 ih4_3 i1 i2 => ?_) N (0 : Int32) (0 : Int32)
  unfold Or_turnedByWins_B4
  refine r_iload_n (pc := 4) hC rfl dX3_turnedByWins_4 ?_
  refine r_aload_n (pc := 5) hC rfl dX3_turnedByWins_5 ?_
  refine gC_5_0 (pc := 6) hC k_177 dX3_turnedByWins_6 ?_
  refine gC_2_1 (pc := 9) hC k_140 dX3_turnedByWins_9 ?_
  refine r_icmp_ge (pc := 12) (tgt := 98) hC dX3_turnedByWins_12 (by decide) ?_ ?_
  · refine r_iload_n (pc := 98) hC rfl dX3_turnedByWins_98 ?_
    exact r_retO hC rfl dX3_turnedByWins_99
  · refine r_iload_n (pc := 15) hC rfl dX3_turnedByWins_15 ?_
    refine r_iconst (pc := 16) hC (v := (1 : Int32)) (by decide) dX3_turnedByWins_16 ?_
    refine r_iadd (pc := 17) hC dX3_turnedByWins_17 ?_
    refine r_let (fun x4 => ?_)
    refine r_istore_n (pc := 18) hC rfl rfl dX3_turnedByWins_18 ?_
    refine w_it2 (fun i5 i6 => σ) (fun i5 i6 => [some (.ref (ad κ 5)), some (.int i5), some (.int i2), some (.int i6), none, none]) (fun self7 ih19_7 i5 i6 => ?_) N i1 x4
    unfold Or_turnedByWins_B19
    refine r_iload_n (pc := 19) hC rfl dX3_turnedByWins_19 ?_
    refine r_aload_n (pc := 20) hC rfl dX3_turnedByWins_20 ?_
    refine gC_5_0 (pc := 21) hC k_177 dX3_turnedByWins_21 ?_
    refine gC_2_1 (pc := 24) hC k_140 dX3_turnedByWins_24 ?_
    refine r_icmp_ge (pc := 27) (tgt := 92) hC dX3_turnedByWins_27 (by decide) ?_ ?_
    · refine r_iinc (pc := 92) hC (v := (1 : Int32)) rfl (by decide) rfl rfl dX3_turnedByWins_92 ?_
      refine r_goto (pc := 95) (tgt := 4) hC dX3_turnedByWins_95 (by decide) ?_
      exact r_wk [true, true, true, false, false, false] (ih4_3 i5 (i2 + (1 : Int32)))
    · refine r_aload_n (pc := 30) hC rfl dX3_turnedByWins_30 ?_
      refine gC_5_0 (pc := 31) hC k_177 dX3_turnedByWins_31 ?_
      refine gC_2_0 (pc := 34) hC k_133 dX3_turnedByWins_34 ?_
      refine r_iload_n (pc := 37) hC rfl dX3_turnedByWins_37 ?_
      refine aC_13 (pc := 38) hC dX3_turnedByWins_38 ?_
      refine r_cT (pc := 39) (rest := []) (runS [.int (gI σ 13 i6.toNatClampNeg)] hC (c_J_bitCount (kl κ) (kW κ) hC.2.2.2.2.2.2.2.2.1 (gI σ 13 i6.toNatClampNeg) σ) o_J6_bitCount_0f7a4 k_568 (rm_ok hR rfl) rfl (Nat.le_of_ble_eq_true rfl) dX3_turnedByWins_39) ?_
      refine r_aload_n (pc := 42) hC rfl dX3_turnedByWins_42 ?_
      refine gC_5_0 (pc := 43) hC k_177 dX3_turnedByWins_43 ?_
      refine gC_2_0 (pc := 46) hC k_133 dX3_turnedByWins_46 ?_
      refine r_iload_n (pc := 49) hC rfl dX3_turnedByWins_49 ?_
      refine aC_13 (pc := 50) hC dX3_turnedByWins_50 ?_
      refine r_cT (pc := 51) (rest := [.int (t_J_bitCount (gI σ 13 i6.toNatClampNeg))]) (runS [.int (gI σ 13 i2.toNatClampNeg)] hC (c_J_bitCount (kl κ) (kW κ) hC.2.2.2.2.2.2.2.2.1 (gI σ 13 i2.toNatClampNeg) σ) o_J6_bitCount_0f7a4 k_568 (rm_ok hR rfl) rfl (Nat.le_of_ble_eq_true rfl) dX3_turnedByWins_51) ?_
      refine r_isub (pc := 54) hC dX3_turnedByWins_54 ?_
      refine r_let (fun x8 => ?_)
      refine r_istore (pc := 55) hC rfl rfl dX3_turnedByWins_55 ?_
      refine r_iload (pc := 57) hC rfl dX3_turnedByWins_57 ?_
      have hJ67_10 : ∀ (v9 : Int32), wF κ wC 6 (qO κ wC σ) σ 67 [some (.ref (ad κ 5)), some (.int i5), some (.int i2), some (.int i6), none, none] [.int v9] (Or_turnedByWins_J67 σ i2 i5 i6 self7 v9) := by
        intro v9
        unfold Or_turnedByWins_J67
        refine r_istore (pc := 67) hC rfl rfl dX3_turnedByWins_67 ?_
        refine r_aload_n (pc := 69) hC rfl dX3_turnedByWins_69 ?_
        refine gC_5_0 (pc := 70) hC k_177 dX3_turnedByWins_70 ?_
        refine r_iload_n (pc := 73) hC rfl dX3_turnedByWins_73 ?_
        refine r_iload_n (pc := 74) hC rfl dX3_turnedByWins_74 ?_
        refine r_cO (pc := 75) (rest := []) (fun r10 hf => runV [.int i2, .int i6] hC (c_Du_winnerOfN (kl κ) (kW κ) hC.2.2.2.2.2.2.2.2.1 i2 i6 σ r10 hf) o_X1_winnerOf k_705 (q0 := 2) (ci := 1) rfl rfl (rm_ok hR rfl) rfl (Nat.le_of_ble_eq_true rfl) dX3_turnedByWins_75) (fun r10 => ?_)
        refine r_iload (pc := 78) hC rfl dX3_turnedByWins_78 ?_
        refine r_icmp_eq (pc := 80) (tgt := 86) hC dX3_turnedByWins_80 (by decide) ?_ ?_
        · refine r_iinc (pc := 86) hC (v := (1 : Int32)) rfl (by decide) rfl rfl dX3_turnedByWins_86 ?_
          refine r_goto (pc := 89) (tgt := 19) hC dX3_turnedByWins_89 (by decide) ?_
          exact r_wk [true, true, true, true, false, false] (ih19_7 i5 (i6 + (1 : Int32)))
        · refine r_iinc (pc := 83) hC (v := (1 : Int32)) rfl (by decide) rfl rfl dX3_turnedByWins_83 ?_
          refine r_iinc (pc := 86) hC (v := (1 : Int32)) rfl (by decide) rfl rfl dX3_turnedByWins_86 ?_
          refine r_goto (pc := 89) (tgt := 19) hC dX3_turnedByWins_89 (by decide) ?_
          exact r_wk [true, true, true, true, false, false] (ih19_7 (i5 + (1 : Int32)) (i6 + (1 : Int32)))
      refine r_if_le (pc := 59) (tgt := 66) hC dX3_turnedByWins_59 (by decide) ?_ ?_
      · refine r_iload_n (pc := 66) hC rfl dX3_turnedByWins_66 ?_
        exact r_wk [true, true, true, true, false, false] (hJ67_10 i2)
      · refine r_iload_n (pc := 62) hC rfl dX3_turnedByWins_62 ?_
        refine r_goto (pc := 63) (tgt := 67) hC dX3_turnedByWins_63 (by decide) ?_
        exact r_wk [true, true, true, true, false, false] (hJ67_10 i6)
set_option maxRecDepth 100000 in
set_option maxHeartbeats 4000000 in
theorem c_Or_turnedByWins (l : Launch) (w : Wenv) (hw : okw w wC) (N : Nat) (σ : Mem) (r : Int32) (hf : f_Or_turnedByWins N  σ = some r) : Ctr l w wC yX3_turnedByWins cX3_turnedByWins 6 (some .int) 1 22 [.ref (w.2.2.1 5)] σ (cQi w wC r σ) := mk_ctr (Q := fun κ => qO κ wC σ) (lv := [some (.ref (w.2.2.1 5)), none, none, none, none, none]) (by decide) rfl hw (Nat.le_of_ble_eq_true rfl) rfl hf (fun κ h => by subst h; rfl) (fun κ hl h hR hC => by
    subst h
    exact w_Or_turnedByWins hR hC N  σ)
-- DuelRound.byWins(I)I (0, None) kind OM
def f_D_byWins (N : Nat) (a1 : Int32) (σ : Mem) : Option (Int32 × Mem) :=
  if (gI σ 3 0) = (0 : Int32) then
  (some ((-1 : Int32), σ))
  else
  (if a1 < (0 : Int32) then
  (some ((-1 : Int32), σ))
  else
  (if a1 ≤ (1 : Int32) then
  (ob (f_Or_turnedByWins N σ) fun r1 =>
  if a1 = (0 : Int32) then
  (some (r1, σ))
  else
  (ob2 (f_Or_fewestTurned N (t_Du_everybodyN σ) σ) fun r3 s2 =>
  some ((r1 - r3), s2)))
  else
  (some ((-1 : Int32), σ))))
set_option maxRecDepth 100000 in
set_option maxHeartbeats 4000000 in
theorem w_D_byWins {κ : Ctx} (hR : kR κ = { frames := 4, cells := 0, slots := 0, locals := 88 }) (hC : ok κ wC cX9_byWins 3 RX9 (some .int)) (N : Nat) (a1 : Int32) (σ : Mem) : wF κ wC 3 (qOM κ wC) σ 0 [some (.ref (ad κ 0)), some (.int a1), none] [] (f_D_byWins N a1 σ) := by
  unfold f_D_byWins
  refine r_aload_n (pc := 0) hC rfl dX9_byWins_0 ?_
  refine gC_0_1 (pc := 1) hC k_312 dX9_byWins_1 ?_
  refine gC_2_1 (pc := 4) hC k_144 dX9_byWins_4 ?_
  refine r_if_eq (pc := 7) (tgt := 19) hC dX9_byWins_7 (by decide) ?_ ?_
  · refine r_iconst (pc := 19) hC (v := (-1 : Int32)) (by decide) dX9_byWins_19 ?_
    exact r_retOM hC rfl dX9_byWins_20
  · refine r_iload_n (pc := 10) hC rfl dX9_byWins_10 ?_
    refine r_if_lt (pc := 11) (tgt := 19) hC dX9_byWins_11 (by decide) ?_ ?_
    · refine r_iconst (pc := 19) hC (v := (-1 : Int32)) (by decide) dX9_byWins_19 ?_
      exact r_retOM hC rfl dX9_byWins_20
    · refine r_iload_n (pc := 14) hC rfl dX9_byWins_14 ?_
      refine r_iconst (pc := 15) hC (v := (1 : Int32)) (by decide) dX9_byWins_15 ?_
      refine r_icmp_le (pc := 16) (tgt := 21) hC dX9_byWins_16 (by decide) ?_ ?_
      · refine r_aload_n (pc := 21) hC rfl dX9_byWins_21 ?_
        refine gC_0_4 (pc := 22) hC k_315 dX9_byWins_22 ?_
        refine r_cO (pc := 25) (rest := []) (fun r1 hf => runV [] hC (c_Or_turnedByWins (kl κ) (kW κ) hC.2.2.2.2.2.2.2.2.1 N σ r1 hf) o_X3_turnedByWins k_701 (q0 := 5) (ci := 3) rfl rfl (rm_ok hR rfl) rfl (Nat.le_of_ble_eq_true rfl) dX9_byWins_25) (fun r1 => ?_)
        refine r_istore_n (pc := 28) hC rfl rfl dX9_byWins_28 ?_
        refine r_iload_n (pc := 29) hC rfl dX9_byWins_29 ?_
        refine r_if_ne (pc := 30) (tgt := 37) hC dX9_byWins_30 (by decide) ?_ ?_
        · refine r_iload_n (pc := 37) hC rfl dX9_byWins_37 ?_
          refine r_aload_n (pc := 38) hC rfl dX9_byWins_38 ?_
          refine gC_0_4 (pc := 39) hC k_315 dX9_byWins_39 ?_
          refine r_aload_n (pc := 42) hC rfl dX9_byWins_42 ?_
          refine gC_0_1 (pc := 43) hC k_312 dX9_byWins_43 ?_
          refine r_cT (pc := 46) (rest := [.ref (ad κ 5), .int r1]) (runV [] hC (c_Du_everybodyN (kl κ) (kW κ) hC.2.2.2.2.2.2.2.2.1 σ) o_X1_everybody k_659 (q0 := 2) (ci := 1) rfl rfl (rm_ok hR rfl) rfl (Nat.le_of_ble_eq_true rfl) dX9_byWins_46) ?_
          refine r_cOM (pc := 49) (rest := [.int r1]) (fun r3 s2 hf => runV [.int (t_Du_everybodyN σ)] hC (c_Or_fewestTurned (kl κ) (kW κ) hC.2.2.2.2.2.2.2.2.1 N (t_Du_everybodyN σ) σ r3 s2 hf) o_X3_fewestTurned k_681 (q0 := 5) (ci := 3) rfl rfl (rm_ok hR rfl) rfl (Nat.le_of_ble_eq_true rfl) dX9_byWins_49) (fun r3 s2 => ?_)
          refine r_isub (pc := 52) hC dX9_byWins_52 ?_
          exact r_retOM hC rfl dX9_byWins_53
        · refine r_iload_n (pc := 33) hC rfl dX9_byWins_33 ?_
          refine r_goto (pc := 34) (tgt := 53) hC dX9_byWins_34 (by decide) ?_
          exact r_retOM hC rfl dX9_byWins_53
      · refine r_iconst (pc := 19) hC (v := (-1 : Int32)) (by decide) dX9_byWins_19 ?_
        exact r_retOM hC rfl dX9_byWins_20
set_option maxRecDepth 100000 in
set_option maxHeartbeats 4000000 in
theorem c_D_byWins (l : Launch) (w : Wenv) (hw : okw w wC) (N : Nat) (a1 : Int32) (σ : Mem) (r : Int32) (τ : Mem) (hf : f_D_byWins N a1 σ = some (r, τ)) : Ctr l w wC yX9_byWins cX9_byWins 3 (some .int) 4 88 [.ref (w.2.2.1 0), .int a1] σ (cQi w wC r τ) := mk_ctr (Q := fun κ => qOM κ wC) (lv := [some (.ref (w.2.2.1 0)), some (.int a1), none]) (by decide) rfl hw (Nat.le_of_ble_eq_true rfl) rfl hf (fun κ h => by subst h; rfl) (fun κ hl h hR hC => by
    subst h
    exact w_D_byWins hR hC N a1 σ)
-- DuelRound$Duels.beatersOf(II)I (2, None, None) kind O
def f_Du_beatersOfN (a1 : Int32) (a2 : Int32) (σ : Mem) : Option Int32 :=
  gd (inb a1 8) (some ((a2 &&& ((gI σ 13 a1.toNatClampNeg) ^^^ (-1 : Int32))) &&& (((1 : Int32) <<< (a1 &&& 31)) ^^^ (-1 : Int32))))
set_option maxRecDepth 100000 in
set_option maxHeartbeats 4000000 in
theorem w_Du_beatersOfN {κ : Ctx} (hR : kR κ = { frames := 0, cells := 0, slots := 0, locals := 0 }) (hC : ok κ wC cX1_beatersOf 3 RX1 (some .int)) (a1 : Int32) (a2 : Int32) (σ : Mem) : wF κ wC 3 (qO κ wC σ) σ 0 [some (.ref (ad κ 2)), some (.int a1), some (.int a2)] [] (f_Du_beatersOfN a1 a2 σ) := by
  unfold f_Du_beatersOfN
  refine r_iload_n (pc := 0) hC rfl dX1_beatersOf_0 ?_
  refine r_aload_n (pc := 1) hC rfl dX1_beatersOf_1 ?_
  refine gC_2_0 (pc := 2) hC k_132 dX1_beatersOf_2 ?_
  refine r_iload_n (pc := 5) hC rfl dX1_beatersOf_5 ?_
  refine aC_13 (pc := 6) hC dX1_beatersOf_6 ?_
  refine r_iconst (pc := 7) hC (v := (-1 : Int32)) (by decide) dX1_beatersOf_7 ?_
  refine r_ixor (pc := 8) hC dX1_beatersOf_8 ?_
  refine r_iand (pc := 9) hC dX1_beatersOf_9 ?_
  refine r_iconst (pc := 10) hC (v := (1 : Int32)) (by decide) dX1_beatersOf_10 ?_
  refine r_iload_n (pc := 11) hC rfl dX1_beatersOf_11 ?_
  refine r_ishl (pc := 12) hC dX1_beatersOf_12 ?_
  refine r_iconst (pc := 13) hC (v := (-1 : Int32)) (by decide) dX1_beatersOf_13 ?_
  refine r_ixor (pc := 14) hC dX1_beatersOf_14 ?_
  refine r_iand (pc := 15) hC dX1_beatersOf_15 ?_
  exact r_retO hC rfl dX1_beatersOf_16
set_option maxRecDepth 100000 in
set_option maxHeartbeats 4000000 in
theorem c_Du_beatersOfN (l : Launch) (w : Wenv) (hw : okw w wC) (a1 : Int32) (a2 : Int32) (σ : Mem) (r : Int32) (hf : f_Du_beatersOfN a1 a2 σ = some r) : Ctr l w wC yX1_beatersOf cX1_beatersOf 3 (some .int) 0 0 [.ref (w.2.2.1 2), .int a1, .int a2] σ (cQi w wC r σ) := mk_ctr (Q := fun κ => qO κ wC σ) (lv := [some (.ref (w.2.2.1 2)), some (.int a1), some (.int a2)]) (by decide) rfl hw (Nat.le_of_ble_eq_true rfl) rfl hf (fun κ h => by subst h; rfl) (fun κ hl h hR hC => by
    subst h
    exact w_Du_beatersOfN hR hC a1 a2 σ)
-- DuelRound$Sets.chainFrom(III)I (8, None, None, None) kind OM
def Se_chainFrom_B17 (a1 : Int32) (a2 : Int32) (a3 : Int32) (self : Int32 → Int32 → Int32 → Mem → Option (Int32 × Mem)) (self3 : Int32 → Mem → Option (Int32 × Mem)) (i1 : Int32) (s2 : Mem) : Option (Int32 × Mem) :=
  if (gI s2 3 0) ≤ i1 then
  (some ((0 : Int32), s2))
  else
  (if (t_D_bitOf a2 i1) = (1 : Int32) then
  (gd (inb a1 8) (bnd (sI s2 22 a1.toNatClampNeg i1) fun s4 =>
  gd (inb i1 8) (ob (f_Du_beatersOfN i1 a3 s4) fun r5 =>
  ob2 (self (a1 + (1 : Int32)) (a2 &&& (gI s4 13 i1.toNatClampNeg)) r5 s4) fun r7 s6 =>
  if r7 ≤ (0 : Int32) then
  (self3 (i1 + (1 : Int32)) s6)
  else
  (some (r7, s6)))))
  else
  (self3 (i1 + (1 : Int32)) s2))
def Se_chainFrom_R (N : Nat) (self : Int32 → Int32 → Int32 → Mem → Option (Int32 × Mem)) (a1 : Int32) (a2 : Int32) (a3 : Int32) (σ : Mem) : Option (Int32 × Mem) :=
  if a3 = (0 : Int32) then
  (some (a1, σ))
  else
  (if a1 < (8 : Int32) then
  (it2 (Se_chainFrom_B17 a1 a2 a3 self) N (0 : Int32) σ)
  else
  (some ((0 : Int32), σ)))
def f_Se_chainFrom (N d : Nat) (a1 : Int32) (a2 : Int32) (a3 : Int32) (σ : Mem) : Option (Int32 × Mem) := it4 (Se_chainFrom_R N) d a1 a2 a3 σ
set_option maxRecDepth 100000 in
set_option maxHeartbeats 4000000 in
theorem w_Se_chainFrom {κ : Ctx} {d : Nat} (hR : kR κ = { frames := 1 + (d + 1), cells := 0, slots := 0, locals := 22 + (d + 1) * 25 }) (hC : ok κ wC cX6_chainFrom 6 RX6 (some .int)) (N : Nat) (self : Int32 → Int32 → Int32 → Mem → Option (Int32 × Mem)) (hself : ∀ (a1 : Int32) (a2 : Int32) (a3 : Int32) (σ : Mem) (r : Int32) (τ : Mem), self a1 a2 a3 σ = some (r, τ) → Ctr (kl κ) (kW κ) wC yX6_chainFrom cX6_chainFrom 6 (some .int) (1 + d) (22 + d * 25) [.ref ((kW κ).2.2.1 8), .int a1, .int a2, .int a3] σ (cQi (kW κ) wC r τ)) (a1 : Int32) (a2 : Int32) (a3 : Int32) (σ : Mem) : wF κ wC 6 (qOM κ wC) σ 0 [some (.ref (ad κ 8)), some (.int a1), some (.int a2), some (.int a3), none, none] [] (Se_chainFrom_R N self a1 a2 a3 σ) := by
  have hRs : 1 + d + 1 ≤ (kR κ).frames ∧ 8 + (6 + 11) + (22 + d * 25) ≤ (kR κ).locals := by rw [hR]; exact ⟨by dsimp only; omega, by dsimp only; omega⟩
  have hRb : 1 ≤ (kR κ).frames ∧ 22 ≤ (kR κ).locals := by rw [hR]; exact ⟨by dsimp only; omega, by dsimp only; omega⟩
  unfold Se_chainFrom_R
  refine r_iload_n (pc := 0) hC rfl dX6_chainFrom_0 ?_
  refine r_if_ne (pc := 1) (tgt := 6) hC dX6_chainFrom_1 (by decide) ?_ ?_
  · refine r_iload_n (pc := 6) hC rfl dX6_chainFrom_6 ?_
    refine r_bipush (pc := 7) hC (v := (8 : Int32)) (by decide) dX6_chainFrom_7 ?_
    refine r_icmp_lt (pc := 9) (tgt := 14) hC dX6_chainFrom_9 (by decide) ?_ ?_
    · refine r_iconst (pc := 14) hC (v := (0 : Int32)) (by decide) dX6_chainFrom_14 ?_
      refine r_istore (pc := 15) hC rfl rfl dX6_chainFrom_15 ?_
      refine w_it2 (fun i1 s2 => s2) (fun i1 s2 => [some (.ref (ad κ 8)), some (.int a1), some (.int a2), some (.int a3), some (.int i1), none]) (fun self3 ih17_3 i1 s2 => ?_) N (0 : Int32) σ
      unfold Se_chainFrom_B17
      refine r_iload (pc := 17) hC rfl dX6_chainFrom_17 ?_
      refine r_aload_n (pc := 19) hC rfl dX6_chainFrom_19 ?_
      refine gC_8_0 (pc := 20) hC k_224 dX6_chainFrom_20 ?_
      refine gC_2_1 (pc := 23) hC k_141 dX6_chainFrom_23 ?_
      refine r_icmp_ge (pc := 26) (tgt := 92) hC dX6_chainFrom_26 (by decide) ?_ ?_
      · refine r_iconst (pc := 92) hC (v := (0 : Int32)) (by decide) dX6_chainFrom_92 ?_
        exact r_retOM hC rfl dX6_chainFrom_93
      · refine r_iload_n (pc := 29) hC rfl dX6_chainFrom_29 ?_
        refine r_iload (pc := 30) hC rfl dX6_chainFrom_30 ?_
        refine r_cT (pc := 32) (rest := []) (runSN [.int a2, .int i1] hC (c_D_bitOf (kl κ) (kW κ) hC.2.2.2.2.2.2.2.2.1 a2 i1 s2) o_X9_bitOf (k_509 hC.2.2.2.2.2.2.2.2.2) (rm_le hRb rfl) rfl (Nat.le_of_ble_eq_true rfl) dX6_chainFrom_32) ?_
        refine r_iconst (pc := 35) hC (v := (1 : Int32)) (by decide) dX6_chainFrom_35 ?_
        refine r_icmp_ne (pc := 36) (tgt := 86) hC dX6_chainFrom_36 (by decide) ?_ ?_
        · refine r_iinc (pc := 86) hC (v := (1 : Int32)) rfl (by decide) rfl rfl dX6_chainFrom_86 ?_
          refine r_goto (pc := 89) (tgt := 17) hC dX6_chainFrom_89 (by decide) ?_
          exact ih17_3 (i1 + (1 : Int32)) s2
        · refine r_aload_n (pc := 39) hC rfl dX6_chainFrom_39 ?_
          refine gC_8_4 (pc := 40) hC k_228 dX6_chainFrom_40 ?_
          refine r_iload_n (pc := 43) hC rfl dX6_chainFrom_43 ?_
          refine r_iload (pc := 44) hC rfl dX6_chainFrom_44 ?_
          refine bC_22 (pc := 46) hC dX6_chainFrom_46 ?_
          refine r_letm (fun s4 => ?_)
          refine r_aload_n (pc := 47) hC rfl dX6_chainFrom_47 ?_
          refine r_iload_n (pc := 48) hC rfl dX6_chainFrom_48 ?_
          refine r_iconst (pc := 49) hC (v := (1 : Int32)) (by decide) dX6_chainFrom_49 ?_
          refine r_iadd (pc := 50) hC dX6_chainFrom_50 ?_
          refine r_iload_n (pc := 51) hC rfl dX6_chainFrom_51 ?_
          refine r_aload_n (pc := 52) hC rfl dX6_chainFrom_52 ?_
          refine gC_8_0 (pc := 53) hC k_224 dX6_chainFrom_53 ?_
          refine gC_2_0 (pc := 56) hC k_134 dX6_chainFrom_56 ?_
          refine r_iload (pc := 59) hC rfl dX6_chainFrom_59 ?_
          refine aC_13 (pc := 61) hC dX6_chainFrom_61 ?_
          refine r_iand (pc := 62) hC dX6_chainFrom_62 ?_
          refine r_aload_n (pc := 63) hC rfl dX6_chainFrom_63 ?_
          refine gC_8_0 (pc := 64) hC k_224 dX6_chainFrom_64 ?_
          refine r_iload (pc := 67) hC rfl dX6_chainFrom_67 ?_
          refine r_iload_n (pc := 69) hC rfl dX6_chainFrom_69 ?_
          refine r_cO (pc := 70) (rest := [.int (a2 &&& (gI s4 13 i1.toNatClampNeg)), .int (a1 + (1 : Int32)), .ref (ad κ 8)]) (fun r5 hf => runV [.int i1, .int a3] hC (c_Du_beatersOfN (kl κ) (kW κ) hC.2.2.2.2.2.2.2.2.1 i1 a3 s4 r5 hf) o_X1_beatersOf k_510 (q0 := 2) (ci := 1) rfl rfl (rm_le hRb rfl) rfl (Nat.le_of_ble_eq_true rfl) dX6_chainFrom_70) (fun r5 => ?_)
          refine r_cOM (pc := 73) (rest := []) (fun r7 s6 hf => runV [.int (a1 + (1 : Int32)), .int (a2 &&& (gI s4 13 i1.toNatClampNeg)), .int r5] hC (hself (a1 + (1 : Int32)) (a2 &&& (gI s4 13 i1.toNatClampNeg)) r5 s4 r7 s6 hf) o_X6_chainFrom k_551 (q0 := 8) (ci := 6) rfl rfl hRs rfl (Nat.le_of_ble_eq_true rfl) dX6_chainFrom_73) (fun r7 s6 => ?_)
          refine r_istore (pc := 76) hC rfl rfl dX6_chainFrom_76 ?_
          refine r_iload (pc := 78) hC rfl dX6_chainFrom_78 ?_
          refine r_if_le (pc := 80) (tgt := 86) hC dX6_chainFrom_80 (by decide) ?_ ?_
          · refine r_iinc (pc := 86) hC (v := (1 : Int32)) rfl (by decide) rfl rfl dX6_chainFrom_86 ?_
            refine r_goto (pc := 89) (tgt := 17) hC dX6_chainFrom_89 (by decide) ?_
            exact r_wk [true, true, true, true, true, false] (ih17_3 (i1 + (1 : Int32)) s6)
          · refine r_iload (pc := 83) hC rfl dX6_chainFrom_83 ?_
            exact r_retOM hC rfl dX6_chainFrom_85
    · refine r_iconst (pc := 12) hC (v := (0 : Int32)) (by decide) dX6_chainFrom_12 ?_
      exact r_retOM hC rfl dX6_chainFrom_13
  · refine r_iload_n (pc := 4) hC rfl dX6_chainFrom_4 ?_
    exact r_retOM hC rfl dX6_chainFrom_5
set_option maxRecDepth 100000 in
set_option maxHeartbeats 4000000 in
theorem c_Se_chainFrom (l : Launch) (w : Wenv) (hw : okw w wC) (N : Nat) : ∀ (d : Nat) (a1 : Int32) (a2 : Int32) (a3 : Int32) (σ : Mem) (r : Int32) (τ : Mem) (hf : f_Se_chainFrom N d a1 a2 a3 σ = some (r, τ)), Ctr l w wC yX6_chainFrom cX6_chainFrom 6 (some .int) (1 + d) (22 + d * 25) [.ref (w.2.2.1 8), .int a1, .int a2, .int a3] σ (cQi w wC r τ)
  | 0, a1, a2, a3, σ, r, τ, hf => by cases hf
  | d + 1, a1, a2, a3, σ, r, τ, hf => mk_ctr (Q := fun κ => qOM κ wC) (lv := [some (.ref (w.2.2.1 8)), some (.int a1), some (.int a2), some (.int a3), none, none]) (by decide) rfl hw (Nat.le_of_ble_eq_true rfl) rfl hf (fun κ h => by subst h; rfl) (fun κ hl h hR hC => by
      subst h; subst hl
      exact w_Se_chainFrom hR hC N _ (fun a1 a2 a3 σ r τ h => c_Se_chainFrom (kl κ) (kW κ) hw N d a1 a2 a3 σ r τ h) a1 a2 a3 σ)
-- DuelRound$Sets.leastChain(II)I (8, None, None) kind OM
def f_Se_leastChain (N : Nat) (a1 : Int32) (a2 : Int32) (σ : Mem) : Option (Int32 × Mem) :=
  bnd (sI σ 22 (0 : Int32).toNatClampNeg a1) fun s1 =>
  gd (inb a1 8) (ob (f_Du_beatersOfN a1 a2 s1) fun r2 =>
  ob2 (f_Se_chainFrom N 10 (1 : Int32) ((gI s1 13 a1.toNatClampNeg) &&& a2) r2 s1) fun r4 s3 =>
  some (r4, s3))
set_option maxRecDepth 100000 in
set_option maxHeartbeats 4000000 in
theorem w_Se_leastChain {κ : Ctx} (hR : kR κ = { frames := 12, cells := 0, slots := 0, locals := 297 }) (hC : ok κ wC cX6_leastChain 3 RX6 (some .int)) (N : Nat) (a1 : Int32) (a2 : Int32) (σ : Mem) : wF κ wC 3 (qOM κ wC) σ 0 [some (.ref (ad κ 8)), some (.int a1), some (.int a2)] [] (f_Se_leastChain N a1 a2 σ) := by
  unfold f_Se_leastChain
  refine r_aload_n (pc := 0) hC rfl dX6_leastChain_0 ?_
  refine gC_8_4 (pc := 1) hC k_228 dX6_leastChain_1 ?_
  refine r_iconst (pc := 4) hC (v := (0 : Int32)) (by decide) dX6_leastChain_4 ?_
  refine r_iload_n (pc := 5) hC rfl dX6_leastChain_5 ?_
  refine r_ung (b := inb (0 : Int32) 8) (by decide) ?_
  refine bC_22 (pc := 6) hC dX6_leastChain_6 ?_
  refine r_letm (fun s1 => ?_)
  refine r_aload_n (pc := 7) hC rfl dX6_leastChain_7 ?_
  refine r_iconst (pc := 8) hC (v := (1 : Int32)) (by decide) dX6_leastChain_8 ?_
  refine r_aload_n (pc := 9) hC rfl dX6_leastChain_9 ?_
  refine gC_8_0 (pc := 10) hC k_224 dX6_leastChain_10 ?_
  refine gC_2_0 (pc := 13) hC k_134 dX6_leastChain_13 ?_
  refine r_iload_n (pc := 16) hC rfl dX6_leastChain_16 ?_
  refine aC_13 (pc := 17) hC dX6_leastChain_17 ?_
  refine r_iload_n (pc := 18) hC rfl dX6_leastChain_18 ?_
  refine r_iand (pc := 19) hC dX6_leastChain_19 ?_
  refine r_aload_n (pc := 20) hC rfl dX6_leastChain_20 ?_
  refine gC_8_0 (pc := 21) hC k_224 dX6_leastChain_21 ?_
  refine r_iload_n (pc := 24) hC rfl dX6_leastChain_24 ?_
  refine r_iload_n (pc := 25) hC rfl dX6_leastChain_25 ?_
  refine r_cO (pc := 26) (rest := [.int ((gI s1 13 a1.toNatClampNeg) &&& a2), .int (1 : Int32), .ref (ad κ 8)]) (fun r2 hf => runV [.int a1, .int a2] hC (c_Du_beatersOfN (kl κ) (kW κ) hC.2.2.2.2.2.2.2.2.1 a1 a2 s1 r2 hf) o_X1_beatersOf k_510 (q0 := 2) (ci := 1) rfl rfl (rm_ok hR rfl) rfl (Nat.le_of_ble_eq_true rfl) dX6_leastChain_26) (fun r2 => ?_)
  refine r_cOM (pc := 29) (rest := []) (fun r4 s3 hf => runV [.int (1 : Int32), .int ((gI s1 13 a1.toNatClampNeg) &&& a2), .int r2] hC (c_Se_chainFrom (kl κ) (kW κ) hC.2.2.2.2.2.2.2.2.1 N 10 (1 : Int32) ((gI s1 13 a1.toNatClampNeg) &&& a2) r2 s1 r4 s3 hf) o_X6_chainFrom k_551 (q0 := 8) (ci := 6) rfl rfl (rm_ok hR rfl) rfl (Nat.le_of_ble_eq_true rfl) dX6_leastChain_29) (fun r4 s3 => ?_)
  exact r_retOM hC rfl dX6_leastChain_32
set_option maxRecDepth 100000 in
set_option maxHeartbeats 4000000 in
theorem c_Se_leastChain (l : Launch) (w : Wenv) (hw : okw w wC) (N : Nat) (a1 : Int32) (a2 : Int32) (σ : Mem) (r : Int32) (τ : Mem) (hf : f_Se_leastChain N a1 a2 σ = some (r, τ)) : Ctr l w wC yX6_leastChain cX6_leastChain 3 (some .int) 12 297 [.ref (w.2.2.1 8), .int a1, .int a2] σ (cQi w wC r τ) := mk_ctr (Q := fun κ => qOM κ wC) (lv := [some (.ref (w.2.2.1 8)), some (.int a1), some (.int a2)]) (by decide) rfl hw (Nat.le_of_ble_eq_true rfl) rfl hf (fun κ h => by subst h; rfl) (fun κ hl h hR hC => by
    subst h
    exact w_Se_leastChain hR hC N a1 a2 σ)
-- DuelRound.chain(III)I (0, None, None, None) kind OM
def f_D_chain (N : Nat) (a1 : Int32) (a2 : Int32) (a3 : Int32) (σ : Mem) : Option (Int32 × Mem) :=
  if (t_Du_isPlayerN a1 σ) = (0 : Int32) then
  (some ((-1 : Int32), σ))
  else
  (if (t_Du_arePlayersN a2 σ) = (0 : Int32) then
  (some ((-1 : Int32), σ))
  else
  (if (t_D_bitOf a2 a1) = (0 : Int32) then
  (some ((-1 : Int32), σ))
  else
  (if (-1 : Int32) ≤ a3 then
  (ob2 (f_Se_leastChain N a1 a2 σ) fun r2 s1 =>
  if r2 = (0 : Int32) then
  (some ((-3 : Int32), s1))
  else
  (if a3 = (-1 : Int32) then
  (some (r2, s1))
  else
  (if r2 ≤ a3 then
  (some ((-1 : Int32), s1))
  else
  (gd (inb a3 8) (some ((gI s1 22 a3.toNatClampNeg), s1))))))
  else
  (some ((-1 : Int32), σ)))))
set_option maxRecDepth 100000 in
set_option maxHeartbeats 4000000 in
theorem w_D_chain {κ : Ctx} (hR : kR κ = { frames := 13, cells := 0, slots := 0, locals := 319 }) (hC : ok κ wC cX9_chain 5 RX9 (some .int)) (N : Nat) (a1 : Int32) (a2 : Int32) (a3 : Int32) (σ : Mem) : wF κ wC 5 (qOM κ wC) σ 0 [some (.ref (ad κ 0)), some (.int a1), some (.int a2), some (.int a3), none] [] (f_D_chain N a1 a2 a3 σ) := by
  unfold f_D_chain
  refine r_aload_n (pc := 0) hC rfl dX9_chain_0 ?_
  refine gC_0_1 (pc := 1) hC k_312 dX9_chain_1 ?_
  refine r_iload_n (pc := 4) hC rfl dX9_chain_4 ?_
  refine r_cT (pc := 5) (rest := []) (runV [.int a1] hC (c_Du_isPlayerN (kl κ) (kW κ) hC.2.2.2.2.2.2.2.2.1 a1 σ) o_X1_isPlayer k_447 (q0 := 2) (ci := 1) rfl rfl (rm_ok hR rfl) rfl (Nat.le_of_ble_eq_true rfl) dX9_chain_5) ?_
  refine r_if_eq (pc := 8) (tgt := 35) hC dX9_chain_8 (by decide) ?_ ?_
  · refine r_iconst (pc := 35) hC (v := (-1 : Int32)) (by decide) dX9_chain_35 ?_
    exact r_retOM hC rfl dX9_chain_36
  · refine r_aload_n (pc := 11) hC rfl dX9_chain_11 ?_
    refine gC_0_1 (pc := 12) hC k_312 dX9_chain_12 ?_
    refine r_iload_n (pc := 15) hC rfl dX9_chain_15 ?_
    refine r_cT (pc := 16) (rest := []) (runV [.int a2] hC (c_Du_arePlayersN (kl κ) (kW κ) hC.2.2.2.2.2.2.2.2.1 a2 σ) o_X1_arePlayers k_451 (q0 := 2) (ci := 1) rfl rfl (rm_ok hR rfl) rfl (Nat.le_of_ble_eq_true rfl) dX9_chain_16) ?_
    refine r_if_eq (pc := 19) (tgt := 35) hC dX9_chain_19 (by decide) ?_ ?_
    · refine r_iconst (pc := 35) hC (v := (-1 : Int32)) (by decide) dX9_chain_35 ?_
      exact r_retOM hC rfl dX9_chain_36
    · refine r_iload_n (pc := 22) hC rfl dX9_chain_22 ?_
      refine r_iload_n (pc := 23) hC rfl dX9_chain_23 ?_
      refine r_cT (pc := 24) (rest := []) (runS [.int a2, .int a1] hC (c_D_bitOf (kl κ) (kW κ) hC.2.2.2.2.2.2.2.2.1 a2 a1 σ) o_X9_bitOf k_597 (rm_ok hR rfl) rfl (Nat.le_of_ble_eq_true rfl) dX9_chain_24) ?_
      refine r_if_eq (pc := 27) (tgt := 35) hC dX9_chain_27 (by decide) ?_ ?_
      · refine r_iconst (pc := 35) hC (v := (-1 : Int32)) (by decide) dX9_chain_35 ?_
        exact r_retOM hC rfl dX9_chain_36
      · refine r_iload_n (pc := 30) hC rfl dX9_chain_30 ?_
        refine r_iconst (pc := 31) hC (v := (-1 : Int32)) (by decide) dX9_chain_31 ?_
        refine r_icmp_ge (pc := 32) (tgt := 37) hC dX9_chain_32 (by decide) ?_ ?_
        · refine r_aload_n (pc := 37) hC rfl dX9_chain_37 ?_
          refine gC_0_7 (pc := 38) hC k_318 dX9_chain_38 ?_
          refine r_iload_n (pc := 41) hC rfl dX9_chain_41 ?_
          refine r_iload_n (pc := 42) hC rfl dX9_chain_42 ?_
          refine r_cOM (pc := 43) (rest := []) (fun r2 s1 hf => runV [.int a1, .int a2] hC (c_Se_leastChain (kl κ) (kW κ) hC.2.2.2.2.2.2.2.2.1 N a1 a2 σ r2 s1 hf) o_X6_leastChain k_676 (q0 := 8) (ci := 6) rfl rfl (rm_ok hR rfl) rfl (Nat.le_of_ble_eq_true rfl) dX9_chain_43) (fun r2 s1 => ?_)
          refine r_istore (pc := 46) hC rfl rfl dX9_chain_46 ?_
          refine r_iload (pc := 48) hC rfl dX9_chain_48 ?_
          refine r_if_ne (pc := 50) (tgt := 56) hC dX9_chain_50 (by decide) ?_ ?_
          · refine r_iload_n (pc := 56) hC rfl dX9_chain_56 ?_
            refine r_iconst (pc := 57) hC (v := (-1 : Int32)) (by decide) dX9_chain_57 ?_
            refine r_icmp_ne (pc := 58) (tgt := 64) hC dX9_chain_58 (by decide) ?_ ?_
            · refine r_iload_n (pc := 64) hC rfl dX9_chain_64 ?_
              refine r_iload (pc := 65) hC rfl dX9_chain_65 ?_
              refine r_icmp_ge (pc := 67) (tgt := 82) hC dX9_chain_67 (by decide) ?_ ?_
              · refine r_iconst (pc := 82) hC (v := (-1 : Int32)) (by decide) dX9_chain_82 ?_
                exact r_retOM hC rfl dX9_chain_83
              · refine r_aload_n (pc := 70) hC rfl dX9_chain_70 ?_
                refine gC_0_7 (pc := 71) hC k_318 dX9_chain_71 ?_
                refine gC_8_4 (pc := 74) hC k_229 dX9_chain_74 ?_
                refine r_iload_n (pc := 77) hC rfl dX9_chain_77 ?_
                refine aC_22 (pc := 78) hC dX9_chain_78 ?_
                refine r_goto (pc := 79) (tgt := 83) hC dX9_chain_79 (by decide) ?_
                exact r_retOM hC rfl dX9_chain_83
            · refine r_iload (pc := 61) hC rfl dX9_chain_61 ?_
              exact r_retOM hC rfl dX9_chain_63
          · refine r_bipush (pc := 53) hC (v := (-3 : Int32)) (by decide) dX9_chain_53 ?_
            exact r_retOM hC rfl dX9_chain_55
        · refine r_iconst (pc := 35) hC (v := (-1 : Int32)) (by decide) dX9_chain_35 ?_
          exact r_retOM hC rfl dX9_chain_36
set_option maxRecDepth 100000 in
set_option maxHeartbeats 4000000 in
theorem c_D_chain (l : Launch) (w : Wenv) (hw : okw w wC) (N : Nat) (a1 : Int32) (a2 : Int32) (a3 : Int32) (σ : Mem) (r : Int32) (τ : Mem) (hf : f_D_chain N a1 a2 a3 σ = some (r, τ)) : Ctr l w wC yX9_chain cX9_chain 5 (some .int) 13 319 [.ref (w.2.2.1 0), .int a1, .int a2, .int a3] σ (cQi w wC r τ) := mk_ctr (Q := fun κ => qOM κ wC) (lv := [some (.ref (w.2.2.1 0)), some (.int a1), some (.int a2), some (.int a3), none]) (by decide) rfl hw (Nat.le_of_ble_eq_true rfl) rfl hf (fun κ h => by subst h; rfl) (fun κ hl h hR hC => by
    subst h
    exact w_D_chain hR hC N a1 a2 a3 σ)
-- DuelRound$Duels.unbeatenOf(I)I (2, None) kind O
def Du_unbeatenOfN_B2 (σ : Mem) (a1 : Int32) (self2 : Int32 → Option Int32) (i1 : Int32) : Option Int32 :=
  if (gI σ 3 0) ≤ i1 then
  (some (0 : Int32))
  else
  (if (t_D_bitOf a1 i1) = (1 : Int32) then
  (ob (f_Du_beatersOfN i1 a1 σ) fun r3 =>
  if r3 = (0 : Int32) then
  (some ((1 : Int32) <<< (i1 &&& 31)))
  else
  (self2 (i1 + (1 : Int32))))
  else
  (self2 (i1 + (1 : Int32))))
def f_Du_unbeatenOfN (N : Nat) (a1 : Int32) (σ : Mem) : Option Int32 :=
  it1 (Du_unbeatenOfN_B2 σ a1) N (0 : Int32)
set_option maxRecDepth 100000 in
set_option maxHeartbeats 4000000 in
theorem w_Du_unbeatenOfN {κ : Ctx} (hR : kR κ = { frames := 1, cells := 0, slots := 0, locals := 22 }) (hC : ok κ wC cX1_unbeatenOf 3 RX1 (some .int)) (N : Nat) (a1 : Int32) (σ : Mem) : wF κ wC 3 (qO κ wC σ) σ 0 [some (.ref (ad κ 2)), some (.int a1), none] [] (f_Du_unbeatenOfN N a1 σ) := by
  unfold f_Du_unbeatenOfN
  refine r_iconst (pc := 0) hC (v := (0 : Int32)) (by decide) dX1_unbeatenOf_0 ?_
  refine r_istore_n (pc := 1) hC rfl rfl dX1_unbeatenOf_1 ?_
  refine w_it1 (fun i1 => σ) (fun i1 => [some (.ref (ad κ 2)), some (.int a1), some (.int i1)]) (fun self2 ih2_2 i1 => ?_) N (0 : Int32)
  unfold Du_unbeatenOfN_B2
  refine r_iload_n (pc := 2) hC rfl dX1_unbeatenOf_2 ?_
  refine r_aload_n (pc := 3) hC rfl dX1_unbeatenOf_3 ?_
  refine gC_2_1 (pc := 4) hC k_139 dX1_unbeatenOf_4 ?_
  refine r_icmp_ge (pc := 7) (tgt := 38) hC dX1_unbeatenOf_7 (by decide) ?_ ?_
  · refine r_iconst (pc := 38) hC (v := (0 : Int32)) (by decide) dX1_unbeatenOf_38 ?_
    exact r_retO hC rfl dX1_unbeatenOf_39
  · refine r_iload_n (pc := 10) hC rfl dX1_unbeatenOf_10 ?_
    refine r_iload_n (pc := 11) hC rfl dX1_unbeatenOf_11 ?_
    refine r_cT (pc := 12) (rest := []) (runSN [.int a1, .int i1] hC (c_D_bitOf (kl κ) (kW κ) hC.2.2.2.2.2.2.2.2.1 a1 i1 σ) o_X9_bitOf (k_423 hC.2.2.2.2.2.2.2.2.2) (rm_ok hR rfl) rfl (Nat.le_of_ble_eq_true rfl) dX1_unbeatenOf_12) ?_
    refine r_iconst (pc := 15) hC (v := (1 : Int32)) (by decide) dX1_unbeatenOf_15 ?_
    refine r_icmp_ne (pc := 16) (tgt := 32) hC dX1_unbeatenOf_16 (by decide) ?_ ?_
    · refine r_iinc (pc := 32) hC (v := (1 : Int32)) rfl (by decide) rfl rfl dX1_unbeatenOf_32 ?_
      refine r_goto (pc := 35) (tgt := 2) hC dX1_unbeatenOf_35 (by decide) ?_
      exact ih2_2 (i1 + (1 : Int32))
    · refine r_aload_n (pc := 19) hC rfl dX1_unbeatenOf_19 ?_
      refine r_iload_n (pc := 20) hC rfl dX1_unbeatenOf_20 ?_
      refine r_iload_n (pc := 21) hC rfl dX1_unbeatenOf_21 ?_
      refine r_cO (pc := 22) (rest := []) (fun r3 hf => runV [.int i1, .int a1] hC (c_Du_beatersOfN (kl κ) (kW κ) hC.2.2.2.2.2.2.2.2.1 i1 a1 σ r3 hf) o_X1_beatersOf k_627 (q0 := 2) (ci := 1) rfl rfl (rm_ok hR rfl) rfl (Nat.le_of_ble_eq_true rfl) dX1_unbeatenOf_22) (fun r3 => ?_)
      refine r_if_ne (pc := 25) (tgt := 32) hC dX1_unbeatenOf_25 (by decide) ?_ ?_
      · refine r_iinc (pc := 32) hC (v := (1 : Int32)) rfl (by decide) rfl rfl dX1_unbeatenOf_32 ?_
        refine r_goto (pc := 35) (tgt := 2) hC dX1_unbeatenOf_35 (by decide) ?_
        exact ih2_2 (i1 + (1 : Int32))
      · refine r_iconst (pc := 28) hC (v := (1 : Int32)) (by decide) dX1_unbeatenOf_28 ?_
        refine r_iload_n (pc := 29) hC rfl dX1_unbeatenOf_29 ?_
        refine r_ishl (pc := 30) hC dX1_unbeatenOf_30 ?_
        exact r_retO hC rfl dX1_unbeatenOf_31
set_option maxRecDepth 100000 in
set_option maxHeartbeats 4000000 in
theorem c_Du_unbeatenOfN (l : Launch) (w : Wenv) (hw : okw w wC) (N : Nat) (a1 : Int32) (σ : Mem) (r : Int32) (hf : f_Du_unbeatenOfN N a1 σ = some r) : Ctr l w wC yX1_unbeatenOf cX1_unbeatenOf 3 (some .int) 1 22 [.ref (w.2.2.1 2), .int a1] σ (cQi w wC r σ) := mk_ctr (Q := fun κ => qO κ wC σ) (lv := [some (.ref (w.2.2.1 2)), some (.int a1), none]) (by decide) rfl hw (Nat.le_of_ble_eq_true rfl) rfl hf (fun κ h => by subst h; rfl) (fun κ hl h hR hC => by
    subst h
    exact w_Du_unbeatenOfN hR hC N a1 σ)
-- DuelRound$Duels.cyclesOfThree()I (2,) kind O
def Du_cyclesOfThreeN_J68 (i5 : Int32) (i6 : Int32) (self7 : Int32 → Int32 → Option Int32) (v9 : Int32) : Option Int32 :=
  bnd (i5 + (t_J_bitCount v9)) fun x10 =>
  self7 x10 (i6 + (1 : Int32))
def Du_cyclesOfThreeN_B16 (σ : Mem) (i2 : Int32) (self3 : Int32 → Int32 → Option Int32) (self7 : Int32 → Int32 → Option Int32) (i5 : Int32) (i6 : Int32) : Option Int32 :=
  if (gI σ 3 0) ≤ i6 then
  (self3 i5 (i2 + (1 : Int32)))
  else
  (ob (f_Du_isBeatingN i2 i6 σ) fun r8 =>
  if r8 = (0 : Int32) then
  (gd (inb i2 8) (ob (f_Du_beatersOfN i6 (t_Du_everybodyN σ) σ) fun r11 =>
  Du_cyclesOfThreeN_J68 i5 i6 self7 ((gI σ 13 i2.toNatClampNeg) &&& r11)))
  else
  (gd (inb i6 8) (ob (f_Du_beatersOfN i2 (t_Du_everybodyN σ) σ) fun r12 =>
  Du_cyclesOfThreeN_J68 i5 i6 self7 ((gI σ 13 i6.toNatClampNeg) &&& r12))))
def Du_cyclesOfThreeN_B4 (N : Nat) (σ : Mem) (self3 : Int32 → Int32 → Option Int32) (i1 : Int32) (i2 : Int32) : Option Int32 :=
  if (gI σ 3 0) ≤ i2 then
  (some (i1 / (3 : Int32)))
  else
  (bnd (i2 + (1 : Int32)) fun x4 =>
  it2 (Du_cyclesOfThreeN_B16 σ i2 self3) N i1 x4)
def f_Du_cyclesOfThreeN (N : Nat) (σ : Mem) : Option Int32 :=
  it2 (Du_cyclesOfThreeN_B4 N σ) N (0 : Int32) (0 : Int32)
set_option maxRecDepth 100000 in
set_option maxHeartbeats 4000000 in
theorem w_Du_cyclesOfThreeN {κ : Ctx} (hR : kR κ = { frames := 1, cells := 0, slots := 0, locals := 22 }) (hC : ok κ wC cX1_cyclesOfThree 5 RX1 (some .int)) (N : Nat) (σ : Mem) : wF κ wC 5 (qO κ wC σ) σ 0 [some (.ref (ad κ 2)), none, none, none, none] [] (f_Du_cyclesOfThreeN N  σ) := by
  unfold f_Du_cyclesOfThreeN
  refine r_iconst (pc := 0) hC (v := (0 : Int32)) (by decide) dX1_cyclesOfThree_0 ?_
  refine r_istore_n (pc := 1) hC rfl rfl dX1_cyclesOfThree_1 ?_
  refine r_iconst (pc := 2) hC (v := (0 : Int32)) (by decide) dX1_cyclesOfThree_2 ?_
  refine r_istore_n (pc := 3) hC rfl rfl dX1_cyclesOfThree_3 ?_
  refine w_it2 (fun i1 i2 => σ) (fun i1 i2 => [some (.ref (ad κ 2)), some (.int i1), some (.int i2), none, none]) (fun self3 ih4_3 i1 i2 => ?_) N (0 : Int32) (0 : Int32)
  unfold Du_cyclesOfThreeN_B4
  refine r_iload_n (pc := 4) hC rfl dX1_cyclesOfThree_4 ?_
  refine r_aload_n (pc := 5) hC rfl dX1_cyclesOfThree_5 ?_
  refine gC_2_1 (pc := 6) hC k_139 dX1_cyclesOfThree_6 ?_
  refine r_icmp_ge (pc := 9) (tgt := 90) hC dX1_cyclesOfThree_9 (by decide) ?_ ?_
  · refine r_iload_n (pc := 90) hC rfl dX1_cyclesOfThree_90 ?_
    refine r_iconst (pc := 91) hC (v := (3 : Int32)) (by decide) dX1_cyclesOfThree_91 ?_
    refine r_idiv (pc := 92) hC (by decide) dX1_cyclesOfThree_92 ?_
    exact r_retO hC rfl dX1_cyclesOfThree_93
  · refine r_iload_n (pc := 12) hC rfl dX1_cyclesOfThree_12 ?_
    refine r_iconst (pc := 13) hC (v := (1 : Int32)) (by decide) dX1_cyclesOfThree_13 ?_
    refine r_iadd (pc := 14) hC dX1_cyclesOfThree_14 ?_
    refine r_let (fun x4 => ?_)
    refine r_istore_n (pc := 15) hC rfl rfl dX1_cyclesOfThree_15 ?_
    refine w_it2 (fun i5 i6 => σ) (fun i5 i6 => [some (.ref (ad κ 2)), some (.int i5), some (.int i2), some (.int i6), none]) (fun self7 ih16_7 i5 i6 => ?_) N i1 x4
    unfold Du_cyclesOfThreeN_B16
    refine r_iload_n (pc := 16) hC rfl dX1_cyclesOfThree_16 ?_
    refine r_aload_n (pc := 17) hC rfl dX1_cyclesOfThree_17 ?_
    refine gC_2_1 (pc := 18) hC k_139 dX1_cyclesOfThree_18 ?_
    refine r_icmp_ge (pc := 21) (tgt := 84) hC dX1_cyclesOfThree_21 (by decide) ?_ ?_
    · refine r_iinc (pc := 84) hC (v := (1 : Int32)) rfl (by decide) rfl rfl dX1_cyclesOfThree_84 ?_
      refine r_goto (pc := 87) (tgt := 4) hC dX1_cyclesOfThree_87 (by decide) ?_
      exact r_wk [true, true, true, false, false] (ih4_3 i5 (i2 + (1 : Int32)))
    · refine r_aload_n (pc := 24) hC rfl dX1_cyclesOfThree_24 ?_
      refine r_iload_n (pc := 25) hC rfl dX1_cyclesOfThree_25 ?_
      refine r_iload_n (pc := 26) hC rfl dX1_cyclesOfThree_26 ?_
      refine r_cO (pc := 27) (rest := []) (fun r8 hf => runV [.int i2, .int i6] hC (c_Du_isBeatingN (kl κ) (kW κ) hC.2.2.2.2.2.2.2.2.1 i2 i6 σ r8 hf) o_X1_isBeating k_390 (q0 := 2) (ci := 1) rfl rfl (rm_ok hR rfl) rfl (Nat.le_of_ble_eq_true rfl) dX1_cyclesOfThree_27) (fun r8 => ?_)
      have hJ68_10 : ∀ (v9 : Int32), wF κ wC 5 (qO κ wC σ) σ 68 [some (.ref (ad κ 2)), some (.int i5), some (.int i2), some (.int i6), none] [.int v9] (Du_cyclesOfThreeN_J68 i5 i6 self7 v9) := by
        intro v9
        unfold Du_cyclesOfThreeN_J68
        refine r_istore (pc := 68) hC rfl rfl dX1_cyclesOfThree_68 ?_
        refine r_iload_n (pc := 70) hC rfl dX1_cyclesOfThree_70 ?_
        refine r_iload (pc := 71) hC rfl dX1_cyclesOfThree_71 ?_
        refine r_cT (pc := 73) (rest := [.int i5]) (runS [.int v9] hC (c_J_bitCount (kl κ) (kW κ) hC.2.2.2.2.2.2.2.2.1 v9 σ) o_J6_bitCount_0f7a4 k_405 (rm_ok hR rfl) rfl (Nat.le_of_ble_eq_true rfl) dX1_cyclesOfThree_73) ?_
        refine r_iadd (pc := 76) hC dX1_cyclesOfThree_76 ?_
        refine r_let (fun x10 => ?_)
        refine r_istore_n (pc := 77) hC rfl rfl dX1_cyclesOfThree_77 ?_
        refine r_iinc (pc := 78) hC (v := (1 : Int32)) rfl (by decide) rfl rfl dX1_cyclesOfThree_78 ?_
        refine r_goto (pc := 81) (tgt := 16) hC dX1_cyclesOfThree_81 (by decide) ?_
        exact r_wk [true, true, true, true, false] (ih16_7 x10 (i6 + (1 : Int32)))
      refine r_if_eq (pc := 30) (tgt := 52) hC dX1_cyclesOfThree_30 (by decide) ?_ ?_
      · refine r_aload_n (pc := 52) hC rfl dX1_cyclesOfThree_52 ?_
        refine gC_2_0 (pc := 53) hC k_132 dX1_cyclesOfThree_53 ?_
        refine r_iload_n (pc := 56) hC rfl dX1_cyclesOfThree_56 ?_
        refine aC_13 (pc := 57) hC dX1_cyclesOfThree_57 ?_
        refine r_aload_n (pc := 58) hC rfl dX1_cyclesOfThree_58 ?_
        refine r_iload_n (pc := 59) hC rfl dX1_cyclesOfThree_59 ?_
        refine r_aload_n (pc := 60) hC rfl dX1_cyclesOfThree_60 ?_
        refine r_cT (pc := 61) (rest := [.int i6, .ref (ad κ 2), .int (gI σ 13 i2.toNatClampNeg)]) (runV [] hC (c_Du_everybodyN (kl κ) (kW κ) hC.2.2.2.2.2.2.2.2.1 σ) o_X1_everybody k_455 (q0 := 2) (ci := 1) rfl rfl (rm_ok hR rfl) rfl (Nat.le_of_ble_eq_true rfl) dX1_cyclesOfThree_61) ?_
        refine r_cO (pc := 64) (rest := [.int (gI σ 13 i2.toNatClampNeg)]) (fun r11 hf => runV [.int i6, .int (t_Du_everybodyN σ)] hC (c_Du_beatersOfN (kl κ) (kW κ) hC.2.2.2.2.2.2.2.2.1 i6 (t_Du_everybodyN σ) σ r11 hf) o_X1_beatersOf k_627 (q0 := 2) (ci := 1) rfl rfl (rm_ok hR rfl) rfl (Nat.le_of_ble_eq_true rfl) dX1_cyclesOfThree_64) (fun r11 => ?_)
        refine r_iand (pc := 67) hC dX1_cyclesOfThree_67 ?_
        exact hJ68_10 ((gI σ 13 i2.toNatClampNeg) &&& r11)
      · refine r_aload_n (pc := 33) hC rfl dX1_cyclesOfThree_33 ?_
        refine gC_2_0 (pc := 34) hC k_132 dX1_cyclesOfThree_34 ?_
        refine r_iload_n (pc := 37) hC rfl dX1_cyclesOfThree_37 ?_
        refine aC_13 (pc := 38) hC dX1_cyclesOfThree_38 ?_
        refine r_aload_n (pc := 39) hC rfl dX1_cyclesOfThree_39 ?_
        refine r_iload_n (pc := 40) hC rfl dX1_cyclesOfThree_40 ?_
        refine r_aload_n (pc := 41) hC rfl dX1_cyclesOfThree_41 ?_
        refine r_cT (pc := 42) (rest := [.int i2, .ref (ad κ 2), .int (gI σ 13 i6.toNatClampNeg)]) (runV [] hC (c_Du_everybodyN (kl κ) (kW κ) hC.2.2.2.2.2.2.2.2.1 σ) o_X1_everybody k_455 (q0 := 2) (ci := 1) rfl rfl (rm_ok hR rfl) rfl (Nat.le_of_ble_eq_true rfl) dX1_cyclesOfThree_42) ?_
        refine r_cO (pc := 45) (rest := [.int (gI σ 13 i6.toNatClampNeg)]) (fun r12 hf => runV [.int i2, .int (t_Du_everybodyN σ)] hC (c_Du_beatersOfN (kl κ) (kW κ) hC.2.2.2.2.2.2.2.2.1 i2 (t_Du_everybodyN σ) σ r12 hf) o_X1_beatersOf k_627 (q0 := 2) (ci := 1) rfl rfl (rm_ok hR rfl) rfl (Nat.le_of_ble_eq_true rfl) dX1_cyclesOfThree_45) (fun r12 => ?_)
        refine r_iand (pc := 48) hC dX1_cyclesOfThree_48 ?_
        refine r_goto (pc := 49) (tgt := 68) hC dX1_cyclesOfThree_49 (by decide) ?_
        exact hJ68_10 ((gI σ 13 i6.toNatClampNeg) &&& r12)
set_option maxRecDepth 100000 in
set_option maxHeartbeats 4000000 in
theorem c_Du_cyclesOfThreeN (l : Launch) (w : Wenv) (hw : okw w wC) (N : Nat) (σ : Mem) (r : Int32) (hf : f_Du_cyclesOfThreeN N  σ = some r) : Ctr l w wC yX1_cyclesOfThree cX1_cyclesOfThree 5 (some .int) 1 22 [.ref (w.2.2.1 2)] σ (cQi w wC r σ) := mk_ctr (Q := fun κ => qO κ wC σ) (lv := [some (.ref (w.2.2.1 2)), none, none, none, none]) (by decide) rfl hw (Nat.le_of_ble_eq_true rfl) rfl hf (fun κ h => by subst h; rfl) (fun κ hl h hR hC => by
    subst h
    exact w_Du_cyclesOfThreeN hR hC N  σ)
-- DuelRound$Duels.arrows()I (2,) kind T
def t_Du_arrowsN (σ : Mem) : Int32 :=
  (((gI σ 3 0) * ((gI σ 3 0) - (1 : Int32))) / (2 : Int32))
def f_Du_arrowsN (σ : Mem) : Option Int32 :=
  some (((gI σ 3 0) * ((gI σ 3 0) - (1 : Int32))) / (2 : Int32))
theorem e_Du_arrowsN (σ : Mem) : f_Du_arrowsN  σ = some (t_Du_arrowsN  σ) := by
  unfold f_Du_arrowsN t_Du_arrowsN
  try first | rfl | (repeat' split) <;> rfl
set_option maxRecDepth 100000 in
set_option maxHeartbeats 4000000 in
theorem w_Du_arrowsN {κ : Ctx} (hR : kR κ = { frames := 0, cells := 0, slots := 0, locals := 0 }) (hC : ok κ wC cX1_arrows 1 RX1 (some .int)) (σ : Mem) : wF κ wC 1 (qO κ wC σ) σ 0 [some (.ref (ad κ 2))] [] (f_Du_arrowsN  σ) := by
  unfold f_Du_arrowsN
  refine r_aload_n (pc := 0) hC rfl dX1_arrows_0 ?_
  refine gC_2_1 (pc := 1) hC k_139 dX1_arrows_1 ?_
  refine r_aload_n (pc := 4) hC rfl dX1_arrows_4 ?_
  refine gC_2_1 (pc := 5) hC k_139 dX1_arrows_5 ?_
  refine r_iconst (pc := 8) hC (v := (1 : Int32)) (by decide) dX1_arrows_8 ?_
  refine r_isub (pc := 9) hC dX1_arrows_9 ?_
  refine r_imul (pc := 10) hC dX1_arrows_10 ?_
  refine r_iconst (pc := 11) hC (v := (2 : Int32)) (by decide) dX1_arrows_11 ?_
  refine r_idiv (pc := 12) hC (by decide) dX1_arrows_12 ?_
  exact r_retO hC rfl dX1_arrows_13
set_option maxRecDepth 100000 in
set_option maxHeartbeats 4000000 in
theorem c_Du_arrowsN (l : Launch) (w : Wenv) (hw : okw w wC) (σ : Mem) : Ctr l w wC yX1_arrows cX1_arrows 1 (some .int) 0 0 [.ref (w.2.2.1 2)] σ (cQi w wC (t_Du_arrowsN  σ) σ) := mk_ctr (Q := fun κ => qO κ wC σ) (lv := [some (.ref (w.2.2.1 2))]) (by decide) rfl hw (Nat.le_of_ble_eq_true rfl) rfl (e_Du_arrowsN  σ) (fun κ h => by subst h; rfl) (fun κ hl h hR hC => by
    subst h
    exact w_Du_arrowsN hR hC  σ)
-- DuelRound.count(I)I (0, None) kind O
def f_D_count (N : Nat) (a1 : Int32) (σ : Mem) : Option Int32 :=
  swc a1 [((0 : Int32), some (gI σ 3 0)),
  ((1 : Int32), some (t_Du_arrowsN σ)),
  ((2 : Int32), ob (f_Du_cyclesOfThreeN N σ) fun r1 =>
  some r1),
  ((3 : Int32), some (gI σ 1 0)),
  ((4 : Int32), some (gI σ 5 0)),
  ((5 : Int32), ob (f_Du_unbeatenOfN N (t_Du_everybodyN σ) σ) fun r2 =>
  some r2)]
  (some (-1 : Int32))
set_option maxRecDepth 100000 in
set_option maxHeartbeats 4000000 in
theorem w_D_count {κ : Ctx} (hR : kR κ = { frames := 2, cells := 0, slots := 0, locals := 46 }) (hC : ok κ wC cX9_count 2 RX9 (some .int)) (N : Nat) (a1 : Int32) (σ : Mem) : wF κ wC 2 (qO κ wC σ) σ 0 [some (.ref (ad κ 0)), some (.int a1)] [] (f_D_count N a1 σ) := by
  unfold f_D_count
  refine r_iload_n (pc := 0) hC rfl dX9_count_0 ?_
  refine r_table (pc := 1) (tg := fun i => ([40, 48, 56, 64, 72, 80] : List Nat).getD i 0) (dt := 95) hC 6 dX9_count_1 (by decide) (by decide) rfl (fun i hi => ?_) ?_
  · rcases (show i = 0 ∨ i = 1 ∨ i = 2 ∨ i = 3 ∨ i = 4 ∨ i = 5 by omega) with rfl | rfl | rfl | rfl | rfl | rfl
    · refine ⟨_, _, _, rfl, by decide, rfl, by decide, ?_⟩
      refine r_aload_n (pc := 40) hC rfl dX9_count_40 ?_
      refine gC_0_1 (pc := 41) hC k_312 dX9_count_41 ?_
      refine gC_2_1 (pc := 44) hC k_144 dX9_count_44 ?_
      exact r_retO hC rfl dX9_count_47
    · refine ⟨_, _, _, rfl, by decide, rfl, by decide, ?_⟩
      refine r_aload_n (pc := 48) hC rfl dX9_count_48 ?_
      refine gC_0_1 (pc := 49) hC k_312 dX9_count_49 ?_
      refine r_cT (pc := 52) (rest := []) (runV [] hC (c_Du_arrowsN (kl κ) (kW κ) hC.2.2.2.2.2.2.2.2.1 σ) o_X1_arrows k_411 (q0 := 2) (ci := 1) rfl rfl (rm_ok hR rfl) rfl (Nat.le_of_ble_eq_true rfl) dX9_count_52) ?_
      exact r_retO hC rfl dX9_count_55
    · refine ⟨_, _, _, rfl, by decide, rfl, by decide, ?_⟩
      refine r_aload_n (pc := 56) hC rfl dX9_count_56 ?_
      refine gC_0_1 (pc := 57) hC k_312 dX9_count_57 ?_
      refine r_cO (pc := 60) (rest := []) (fun r1 hf => runV [] hC (c_Du_cyclesOfThreeN (kl κ) (kW κ) hC.2.2.2.2.2.2.2.2.1 N σ r1 hf) o_X1_cyclesOfThree k_949 (q0 := 2) (ci := 1) rfl rfl (rm_ok hR rfl) rfl (Nat.le_of_ble_eq_true rfl) dX9_count_60) (fun r1 => ?_)
      exact r_retO hC rfl dX9_count_63
    · refine ⟨_, _, _, rfl, by decide, rfl, by decide, ?_⟩
      refine r_aload_n (pc := 64) hC rfl dX9_count_64 ?_
      refine gC_0_0 (pc := 65) hC k_311 dX9_count_65 ?_
      refine gC_1_1 (pc := 68) hC k_114 dX9_count_68 ?_
      exact r_retO hC rfl dX9_count_71
    · refine ⟨_, _, _, rfl, by decide, rfl, by decide, ?_⟩
      refine r_aload_n (pc := 72) hC rfl dX9_count_72 ?_
      refine gC_0_3 (pc := 73) hC k_314 dX9_count_73 ?_
      refine gC_4_2 (pc := 76) hC k_162 dX9_count_76 ?_
      exact r_retO hC rfl dX9_count_79
    · refine ⟨_, _, _, rfl, by decide, rfl, by decide, ?_⟩
      refine r_aload_n (pc := 80) hC rfl dX9_count_80 ?_
      refine gC_0_1 (pc := 81) hC k_312 dX9_count_81 ?_
      refine r_aload_n (pc := 84) hC rfl dX9_count_84 ?_
      refine gC_0_1 (pc := 85) hC k_312 dX9_count_85 ?_
      refine r_cT (pc := 88) (rest := [.ref (ad κ 2)]) (runV [] hC (c_Du_everybodyN (kl κ) (kW κ) hC.2.2.2.2.2.2.2.2.1 σ) o_X1_everybody k_659 (q0 := 2) (ci := 1) rfl rfl (rm_ok hR rfl) rfl (Nat.le_of_ble_eq_true rfl) dX9_count_88) ?_
      refine r_cO (pc := 91) (rest := []) (fun r2 hf => runV [.int (t_Du_everybodyN σ)] hC (c_Du_unbeatenOfN (kl κ) (kW κ) hC.2.2.2.2.2.2.2.2.1 N (t_Du_everybodyN σ) σ r2 hf) o_X1_unbeatenOf k_953 (q0 := 2) (ci := 1) rfl rfl (rm_ok hR rfl) rfl (Nat.le_of_ble_eq_true rfl) dX9_count_91) (fun r2 => ?_)
      exact r_retO hC rfl dX9_count_94
  · refine r_iconst (pc := 95) hC (v := (-1 : Int32)) (by decide) dX9_count_95 ?_
    exact r_retO hC rfl dX9_count_96
set_option maxRecDepth 100000 in
set_option maxHeartbeats 4000000 in
theorem c_D_count (l : Launch) (w : Wenv) (hw : okw w wC) (N : Nat) (a1 : Int32) (σ : Mem) (r : Int32) (hf : f_D_count N a1 σ = some r) : Ctr l w wC yX9_count cX9_count 2 (some .int) 2 46 [.ref (w.2.2.1 0), .int a1] σ (cQi w wC r σ) := mk_ctr (Q := fun κ => qO κ wC σ) (lv := [some (.ref (w.2.2.1 0)), some (.int a1)]) (by decide) rfl hw (Nat.le_of_ble_eq_true rfl) rfl hf (fun κ h => by subst h; rfl) (fun κ hl h hR hC => by
    subst h
    exact w_D_count hR hC N a1 σ)
-- DuelRound$Cups.fits(I)Z (7, None) kind T
def t_Cu_fits (a1 : Int32) : Int32 :=
  (if a1 = (1 : Int32) then (1 : Int32) else (if a1 = (2 : Int32) then (1 : Int32) else (if a1 = (4 : Int32) then (1 : Int32) else (if a1 = (8 : Int32) then (1 : Int32) else (0 : Int32)))))
def f_Cu_fits (a1 : Int32) : Option Int32 :=
  if a1 = (1 : Int32) then
  (some (1 : Int32))
  else
  (if a1 = (2 : Int32) then
  (some (1 : Int32))
  else
  (if a1 = (4 : Int32) then
  (some (1 : Int32))
  else
  (if a1 = (8 : Int32) then
  (some (1 : Int32))
  else
  (some (0 : Int32)))))
theorem e_Cu_fits (a1 : Int32) : f_Cu_fits a1 = some (t_Cu_fits a1) := by
  unfold f_Cu_fits t_Cu_fits
  try first | rfl | (repeat' split) <;> rfl
theorem z_Cu_fits (a1 : Int32) : isb (t_Cu_fits a1) = true := by
  unfold t_Cu_fits
  (repeat' split) <;> rfl
set_option maxRecDepth 100000 in
set_option maxHeartbeats 4000000 in
theorem w_Cu_fits {κ : Ctx} (hR : kR κ = { frames := 0, cells := 0, slots := 0, locals := 0 }) (hC : ok κ wC cX0_fits 2 RX0 (some .boolean)) (a1 : Int32) (σ : Mem) : wF κ wC 2 (qO κ wC σ) σ 0 [some (.ref (ad κ 7)), some (.int a1)] [] (f_Cu_fits a1) := by
  unfold f_Cu_fits
  refine r_iload_n (pc := 0) hC rfl dX0_fits_0 ?_
  refine r_iconst (pc := 1) hC (v := (1 : Int32)) (by decide) dX0_fits_1 ?_
  refine r_icmp_eq (pc := 2) (tgt := 21) hC dX0_fits_2 (by decide) ?_ ?_
  · refine r_iconst (pc := 21) hC (v := (1 : Int32)) (by decide) dX0_fits_21 ?_
    refine r_goto (pc := 22) (tgt := 26) hC dX0_fits_22 (by decide) ?_
    exact r_retO hC rfl dX0_fits_26
  · refine r_iload_n (pc := 5) hC rfl dX0_fits_5 ?_
    refine r_iconst (pc := 6) hC (v := (2 : Int32)) (by decide) dX0_fits_6 ?_
    refine r_icmp_eq (pc := 7) (tgt := 21) hC dX0_fits_7 (by decide) ?_ ?_
    · refine r_iconst (pc := 21) hC (v := (1 : Int32)) (by decide) dX0_fits_21 ?_
      refine r_goto (pc := 22) (tgt := 26) hC dX0_fits_22 (by decide) ?_
      exact r_retO hC rfl dX0_fits_26
    · refine r_iload_n (pc := 10) hC rfl dX0_fits_10 ?_
      refine r_iconst (pc := 11) hC (v := (4 : Int32)) (by decide) dX0_fits_11 ?_
      refine r_icmp_eq (pc := 12) (tgt := 21) hC dX0_fits_12 (by decide) ?_ ?_
      · refine r_iconst (pc := 21) hC (v := (1 : Int32)) (by decide) dX0_fits_21 ?_
        refine r_goto (pc := 22) (tgt := 26) hC dX0_fits_22 (by decide) ?_
        exact r_retO hC rfl dX0_fits_26
      · refine r_iload_n (pc := 15) hC rfl dX0_fits_15 ?_
        refine r_bipush (pc := 16) hC (v := (8 : Int32)) (by decide) dX0_fits_16 ?_
        refine r_icmp_ne (pc := 18) (tgt := 25) hC dX0_fits_18 (by decide) ?_ ?_
        · refine r_iconst (pc := 25) hC (v := (0 : Int32)) (by decide) dX0_fits_25 ?_
          exact r_retO hC rfl dX0_fits_26
        · refine r_iconst (pc := 21) hC (v := (1 : Int32)) (by decide) dX0_fits_21 ?_
          refine r_goto (pc := 22) (tgt := 26) hC dX0_fits_22 (by decide) ?_
          exact r_retO hC rfl dX0_fits_26
set_option maxRecDepth 100000 in
set_option maxHeartbeats 4000000 in
theorem c_Cu_fits (l : Launch) (w : Wenv) (hw : okw w wC) (a1 : Int32) (σ : Mem) : Ctr l w wC yX0_fits cX0_fits 2 (some .boolean) 0 0 [.ref (w.2.2.1 7), .int a1] σ (cQi w wC (t_Cu_fits a1) σ) := mk_ctr (Q := fun κ => qO κ wC σ) (lv := [some (.ref (w.2.2.1 7)), some (.int a1)]) (by decide) rfl hw (Nat.le_of_ble_eq_true rfl) rfl (e_Cu_fits a1) (fun κ h => by subst h; rfl) (fun κ hl h hR hC => by
    subst h
    exact w_Cu_fits hR hC a1 σ)
-- DuelRound$Cups.putIntoRow(II)I (7, None, None) kind OM
def Cu_putIntoRow_B5 (a1 : Int32) (self4 : Int32 → Int32 → Mem → Option (Int32 × Mem)) (i1 : Int32) (i2 : Int32) (s3 : Mem) : Option (Int32 × Mem) :=
  if (gI s3 3 0) ≤ i2 then
  (some (i1, s3))
  else
  (if (t_D_bitOf a1 i2) = (1 : Int32) then
  (if (8 : Int32) ≤ i1 then
  (self4 i1 (i2 + (1 : Int32)) s3)
  else
  (gd (inb i1 8) (bnd (sI s3 21 i1.toNatClampNeg i2) fun s5 =>
  self4 (i1 + (1 : Int32)) (i2 + (1 : Int32)) s5)))
  else
  (self4 i1 (i2 + (1 : Int32)) s3))
def f_Cu_putIntoRow (N : Nat) (a1 : Int32) (a2 : Int32) (σ : Mem) : Option (Int32 × Mem) :=
  it3 (Cu_putIntoRow_B5 a1) N a2 (0 : Int32) σ
set_option maxRecDepth 100000 in
set_option maxHeartbeats 4000000 in
theorem w_Cu_putIntoRow {κ : Ctx} (hR : kR κ = { frames := 1, cells := 0, slots := 0, locals := 21 }) (hC : ok κ wC cX0_putIntoRow 5 RX0 (some .int)) (N : Nat) (a1 : Int32) (a2 : Int32) (σ : Mem) : wF κ wC 5 (qOM κ wC) σ 0 [some (.ref (ad κ 7)), some (.int a1), some (.int a2), none, none] [] (f_Cu_putIntoRow N a1 a2 σ) := by
  unfold f_Cu_putIntoRow
  refine r_iload_n (pc := 0) hC rfl dX0_putIntoRow_0 ?_
  refine r_istore_n (pc := 1) hC rfl rfl dX0_putIntoRow_1 ?_
  refine r_iconst (pc := 2) hC (v := (0 : Int32)) (by decide) dX0_putIntoRow_2 ?_
  refine r_istore (pc := 3) hC rfl rfl dX0_putIntoRow_3 ?_
  refine r_wk [true, true, false, true, true] (w_it3 (fun i1 i2 s3 => s3) (fun i1 i2 s3 => [some (.ref (ad κ 7)), some (.int a1), none, some (.int i1), some (.int i2)]) (fun self4 ih5_4 i1 i2 s3 => ?_) N a2 (0 : Int32) σ)
  unfold Cu_putIntoRow_B5
  refine r_iload (pc := 5) hC rfl dX0_putIntoRow_5 ?_
  refine r_aload_n (pc := 7) hC rfl dX0_putIntoRow_7 ?_
  refine gC_7_0 (pc := 8) hC k_211 dX0_putIntoRow_8 ?_
  refine gC_2_1 (pc := 11) hC k_142 dX0_putIntoRow_11 ?_
  refine r_icmp_ge (pc := 14) (tgt := 50) hC dX0_putIntoRow_14 (by decide) ?_ ?_
  · refine r_iload_n (pc := 50) hC rfl dX0_putIntoRow_50 ?_
    exact r_retOM hC rfl dX0_putIntoRow_51
  · refine r_iload_n (pc := 17) hC rfl dX0_putIntoRow_17 ?_
    refine r_iload (pc := 18) hC rfl dX0_putIntoRow_18 ?_
    refine r_cT (pc := 20) (rest := []) (runSN [.int a1, .int i2] hC (c_D_bitOf (kl κ) (kW κ) hC.2.2.2.2.2.2.2.2.1 a1 i2 s3) o_X9_bitOf (k_637 hC.2.2.2.2.2.2.2.2.2) (rm_ok hR rfl) rfl (Nat.le_of_ble_eq_true rfl) dX0_putIntoRow_20) ?_
    refine r_iconst (pc := 23) hC (v := (1 : Int32)) (by decide) dX0_putIntoRow_23 ?_
    refine r_icmp_ne (pc := 24) (tgt := 44) hC dX0_putIntoRow_24 (by decide) ?_ ?_
    · refine r_iinc (pc := 44) hC (v := (1 : Int32)) rfl (by decide) rfl rfl dX0_putIntoRow_44 ?_
      refine r_goto (pc := 47) (tgt := 5) hC dX0_putIntoRow_47 (by decide) ?_
      exact ih5_4 i1 (i2 + (1 : Int32)) s3
    · refine r_iload_n (pc := 27) hC rfl dX0_putIntoRow_27 ?_
      refine r_bipush (pc := 28) hC (v := (8 : Int32)) (by decide) dX0_putIntoRow_28 ?_
      refine r_icmp_ge (pc := 30) (tgt := 44) hC dX0_putIntoRow_30 (by decide) ?_ ?_
      · refine r_iinc (pc := 44) hC (v := (1 : Int32)) rfl (by decide) rfl rfl dX0_putIntoRow_44 ?_
        refine r_goto (pc := 47) (tgt := 5) hC dX0_putIntoRow_47 (by decide) ?_
        exact ih5_4 i1 (i2 + (1 : Int32)) s3
      · refine r_aload_n (pc := 33) hC rfl dX0_putIntoRow_33 ?_
        refine gC_7_1 (pc := 34) hC k_212 dX0_putIntoRow_34 ?_
        refine r_iload_n (pc := 37) hC rfl dX0_putIntoRow_37 ?_
        refine r_iload (pc := 38) hC rfl dX0_putIntoRow_38 ?_
        refine bC_21 (pc := 40) hC dX0_putIntoRow_40 ?_
        refine r_letm (fun s5 => ?_)
        refine r_iinc (pc := 41) hC (v := (1 : Int32)) rfl (by decide) rfl rfl dX0_putIntoRow_41 ?_
        refine r_iinc (pc := 44) hC (v := (1 : Int32)) rfl (by decide) rfl rfl dX0_putIntoRow_44 ?_
        refine r_goto (pc := 47) (tgt := 5) hC dX0_putIntoRow_47 (by decide) ?_
        exact ih5_4 (i1 + (1 : Int32)) (i2 + (1 : Int32)) s5
set_option maxRecDepth 100000 in
set_option maxHeartbeats 4000000 in
theorem c_Cu_putIntoRow (l : Launch) (w : Wenv) (hw : okw w wC) (N : Nat) (a1 : Int32) (a2 : Int32) (σ : Mem) (r : Int32) (τ : Mem) (hf : f_Cu_putIntoRow N a1 a2 σ = some (r, τ)) : Ctr l w wC yX0_putIntoRow cX0_putIntoRow 5 (some .int) 1 21 [.ref (w.2.2.1 7), .int a1, .int a2] σ (cQi w wC r τ) := mk_ctr (Q := fun κ => qOM κ wC) (lv := [some (.ref (w.2.2.1 7)), some (.int a1), some (.int a2), none, none]) (by decide) rfl hw (Nat.le_of_ble_eq_true rfl) rfl hf (fun κ h => by subst h; rfl) (fun κ hl h hR hC => by
    subst h
    exact w_Cu_putIntoRow hR hC N a1 a2 σ)
-- DuelRound$Cups.winnerByWay(I)I (7, None) kind O
def Cu_winnerByWay_J20 (σ : Mem) (a1 : Int32) (v1 : Int32) (v2 : Int32) : Option Int32 :=
  gd (inb (a1 + (1 : Int32)) 8) (ob (f_Du_winnerOfN (gI σ 21 (0 : Int32).toNatClampNeg) (gI σ 21 (a1 + (1 : Int32)).toNatClampNeg) σ) fun r3 =>
  gd (inb v1 8) (gd (inb v2 8) (ob (f_Du_winnerOfN (gI σ 21 v1.toNatClampNeg) (gI σ 21 v2.toNatClampNeg) σ) fun r4 =>
  ob (f_Du_winnerOfN r3 r4 σ) fun r5 =>
  some r5)))
def Cu_winnerByWay_J9 (σ : Mem) (a1 : Int32) (v1 : Int32) : Option Int32 :=
  if a1 = (2 : Int32) then
  (Cu_winnerByWay_J20 σ a1 v1 (2 : Int32))
  else
  (Cu_winnerByWay_J20 σ a1 v1 (3 : Int32))
def f_Cu_winnerByWay (a1 : Int32) (σ : Mem) : Option Int32 :=
  if a1 = (0 : Int32) then
  (Cu_winnerByWay_J9 σ a1 (2 : Int32))
  else
  (Cu_winnerByWay_J9 σ a1 (1 : Int32))
set_option maxRecDepth 100000 in
set_option maxHeartbeats 4000000 in
theorem w_Cu_winnerByWay {κ : Ctx} (hR : kR κ = { frames := 1, cells := 0, slots := 0, locals := 22 }) (hC : ok κ wC cX0_winnerByWay 4 RX0 (some .int)) (a1 : Int32) (σ : Mem) : wF κ wC 4 (qO κ wC σ) σ 0 [some (.ref (ad κ 7)), some (.int a1), none, none] [] (f_Cu_winnerByWay a1 σ) := by
  unfold f_Cu_winnerByWay
  refine r_iload_n (pc := 0) hC rfl dX0_winnerByWay_0 ?_
  have hJ9_5 : ∀ (v1 : Int32), wF κ wC 4 (qO κ wC σ) σ 9 [some (.ref (ad κ 7)), some (.int a1), none, none] [.int v1] (Cu_winnerByWay_J9 σ a1 v1) := by
    intro v1
    unfold Cu_winnerByWay_J9
    refine r_istore_n (pc := 9) hC rfl rfl dX0_winnerByWay_9 ?_
    refine r_iload_n (pc := 10) hC rfl dX0_winnerByWay_10 ?_
    refine r_iconst (pc := 11) hC (v := (2 : Int32)) (by decide) dX0_winnerByWay_11 ?_
    have hJ20_5 : ∀ (v2 : Int32), wF κ wC 4 (qO κ wC σ) σ 20 [some (.ref (ad κ 7)), some (.int a1), some (.int v1), none] [.int v2] (Cu_winnerByWay_J20 σ a1 v1 v2) := by
      intro v2
      unfold Cu_winnerByWay_J20
      refine r_istore_n (pc := 20) hC rfl rfl dX0_winnerByWay_20 ?_
      refine r_aload_n (pc := 21) hC rfl dX0_winnerByWay_21 ?_
      refine gC_7_0 (pc := 22) hC k_211 dX0_winnerByWay_22 ?_
      refine r_aload_n (pc := 25) hC rfl dX0_winnerByWay_25 ?_
      refine gC_7_0 (pc := 26) hC k_211 dX0_winnerByWay_26 ?_
      refine r_aload_n (pc := 29) hC rfl dX0_winnerByWay_29 ?_
      refine gC_7_1 (pc := 30) hC k_212 dX0_winnerByWay_30 ?_
      refine r_iconst (pc := 33) hC (v := (0 : Int32)) (by decide) dX0_winnerByWay_33 ?_
      refine r_ung (b := inb (0 : Int32) 8) (by decide) ?_
      refine aC_21 (pc := 34) hC dX0_winnerByWay_34 ?_
      refine r_aload_n (pc := 35) hC rfl dX0_winnerByWay_35 ?_
      refine gC_7_1 (pc := 36) hC k_212 dX0_winnerByWay_36 ?_
      refine r_iload_n (pc := 39) hC rfl dX0_winnerByWay_39 ?_
      refine r_iconst (pc := 40) hC (v := (1 : Int32)) (by decide) dX0_winnerByWay_40 ?_
      refine r_iadd (pc := 41) hC dX0_winnerByWay_41 ?_
      refine aC_21 (pc := 42) hC dX0_winnerByWay_42 ?_
      refine r_cO (pc := 43) (rest := [.ref (ad κ 2)]) (fun r3 hf => runV [.int (gI σ 21 (0 : Int32).toNatClampNeg), .int (gI σ 21 (a1 + (1 : Int32)).toNatClampNeg)] hC (c_Du_winnerOfN (kl κ) (kW κ) hC.2.2.2.2.2.2.2.2.1 (gI σ 21 (0 : Int32).toNatClampNeg) (gI σ 21 (a1 + (1 : Int32)).toNatClampNeg) σ r3 hf) o_X1_winnerOf k_638 (q0 := 2) (ci := 1) rfl rfl (rm_ok hR rfl) rfl (Nat.le_of_ble_eq_true rfl) dX0_winnerByWay_43) (fun r3 => ?_)
      refine r_aload_n (pc := 46) hC rfl dX0_winnerByWay_46 ?_
      refine gC_7_0 (pc := 47) hC k_211 dX0_winnerByWay_47 ?_
      refine r_aload_n (pc := 50) hC rfl dX0_winnerByWay_50 ?_
      refine gC_7_1 (pc := 51) hC k_212 dX0_winnerByWay_51 ?_
      refine r_iload_n (pc := 54) hC rfl dX0_winnerByWay_54 ?_
      refine aC_21 (pc := 55) hC dX0_winnerByWay_55 ?_
      refine r_aload_n (pc := 56) hC rfl dX0_winnerByWay_56 ?_
      refine gC_7_1 (pc := 57) hC k_212 dX0_winnerByWay_57 ?_
      refine r_iload_n (pc := 60) hC rfl dX0_winnerByWay_60 ?_
      refine aC_21 (pc := 61) hC dX0_winnerByWay_61 ?_
      refine r_cO (pc := 62) (rest := [.int r3, .ref (ad κ 2)]) (fun r4 hf => runV [.int (gI σ 21 v1.toNatClampNeg), .int (gI σ 21 v2.toNatClampNeg)] hC (c_Du_winnerOfN (kl κ) (kW κ) hC.2.2.2.2.2.2.2.2.1 (gI σ 21 v1.toNatClampNeg) (gI σ 21 v2.toNatClampNeg) σ r4 hf) o_X1_winnerOf k_638 (q0 := 2) (ci := 1) rfl rfl (rm_ok hR rfl) rfl (Nat.le_of_ble_eq_true rfl) dX0_winnerByWay_62) (fun r4 => ?_)
      refine r_cO (pc := 65) (rest := []) (fun r5 hf => runV [.int r3, .int r4] hC (c_Du_winnerOfN (kl κ) (kW κ) hC.2.2.2.2.2.2.2.2.1 r3 r4 σ r5 hf) o_X1_winnerOf k_638 (q0 := 2) (ci := 1) rfl rfl (rm_ok hR rfl) rfl (Nat.le_of_ble_eq_true rfl) dX0_winnerByWay_65) (fun r5 => ?_)
      exact r_retO hC rfl dX0_winnerByWay_68
    refine r_icmp_ne (pc := 12) (tgt := 19) hC dX0_winnerByWay_12 (by decide) ?_ ?_
    · refine r_iconst (pc := 19) hC (v := (3 : Int32)) (by decide) dX0_winnerByWay_19 ?_
      exact hJ20_5 (3 : Int32)
    · refine r_iconst (pc := 15) hC (v := (2 : Int32)) (by decide) dX0_winnerByWay_15 ?_
      refine r_goto (pc := 16) (tgt := 20) hC dX0_winnerByWay_16 (by decide) ?_
      exact hJ20_5 (2 : Int32)
  refine r_if_ne (pc := 1) (tgt := 8) hC dX0_winnerByWay_1 (by decide) ?_ ?_
  · refine r_iconst (pc := 8) hC (v := (1 : Int32)) (by decide) dX0_winnerByWay_8 ?_
    exact hJ9_5 (1 : Int32)
  · refine r_iconst (pc := 4) hC (v := (2 : Int32)) (by decide) dX0_winnerByWay_4 ?_
    refine r_goto (pc := 5) (tgt := 9) hC dX0_winnerByWay_5 (by decide) ?_
    exact hJ9_5 (2 : Int32)
set_option maxRecDepth 100000 in
set_option maxHeartbeats 4000000 in
theorem c_Cu_winnerByWay (l : Launch) (w : Wenv) (hw : okw w wC) (a1 : Int32) (σ : Mem) (r : Int32) (hf : f_Cu_winnerByWay a1 σ = some r) : Ctr l w wC yX0_winnerByWay cX0_winnerByWay 4 (some .int) 1 22 [.ref (w.2.2.1 7), .int a1] σ (cQi w wC r σ) := mk_ctr (Q := fun κ => qO κ wC σ) (lv := [some (.ref (w.2.2.1 7)), some (.int a1), none, none]) (by decide) rfl hw (Nat.le_of_ble_eq_true rfl) rfl hf (fun κ h => by subst h; rfl) (fun κ hl h hR hC => by
    subst h
    exact w_Cu_winnerByWay hR hC a1 σ)
-- DuelRound$Cups.rowsOfFour(II)I (7, None, None) kind OM
def Cu_rowsOfFour_B12 (s1 : Mem) (a2 : Int32) (self5 : Int32 → Int32 → Option (Int32 × Mem)) (i3 : Int32) (i4 : Int32) : Option (Int32 × Mem) :=
  if (3 : Int32) ≤ i4 then
  (some (((8 : Int32) * i3), s1))
  else
  (ob (f_Cu_winnerByWay i4 s1) fun r6 =>
  bnd (i3 + (t_D_bitOf a2 r6)) fun x7 =>
  self5 x7 (i4 + (1 : Int32)))
def f_Cu_rowsOfFour (N : Nat) (a1 : Int32) (a2 : Int32) (σ : Mem) : Option (Int32 × Mem) :=
  ob2 (f_Cu_putIntoRow N a1 (0 : Int32) σ) fun r2 s1 =>
  it2 (Cu_rowsOfFour_B12 s1 a2) N (0 : Int32) (0 : Int32)
set_option maxRecDepth 100000 in
set_option maxHeartbeats 4000000 in
theorem w_Cu_rowsOfFour {κ : Ctx} (hR : kR κ = { frames := 2, cells := 0, slots := 0, locals := 45 }) (hC : ok κ wC cX0_rowsOfFour 5 RX0 (some .int)) (N : Nat) (a1 : Int32) (a2 : Int32) (σ : Mem) : wF κ wC 5 (qOM κ wC) σ 0 [some (.ref (ad κ 7)), some (.int a1), some (.int a2), none, none] [] (f_Cu_rowsOfFour N a1 a2 σ) := by
  unfold f_Cu_rowsOfFour
  refine r_aload_n (pc := 0) hC rfl dX0_rowsOfFour_0 ?_
  refine r_iload_n (pc := 1) hC rfl dX0_rowsOfFour_1 ?_
  refine r_iconst (pc := 2) hC (v := (0 : Int32)) (by decide) dX0_rowsOfFour_2 ?_
  refine r_cOM (pc := 3) (rest := []) (fun r2 s1 hf => runV [.int a1, .int (0 : Int32)] hC (c_Cu_putIntoRow (kl κ) (kW κ) hC.2.2.2.2.2.2.2.2.1 N a1 (0 : Int32) σ r2 s1 hf) o_X0_putIntoRow k_633 (q0 := 7) (ci := 0) rfl rfl (rm_ok hR rfl) rfl (Nat.le_of_ble_eq_true rfl) dX0_rowsOfFour_3) (fun r2 s1 => ?_)
  refine r_pop (pc := 6) hC rfl dX0_rowsOfFour_6 ?_
  refine r_iconst (pc := 7) hC (v := (0 : Int32)) (by decide) dX0_rowsOfFour_7 ?_
  refine r_istore_n (pc := 8) hC rfl rfl dX0_rowsOfFour_8 ?_
  refine r_iconst (pc := 9) hC (v := (0 : Int32)) (by decide) dX0_rowsOfFour_9 ?_
  refine r_istore (pc := 10) hC rfl rfl dX0_rowsOfFour_10 ?_
  refine r_wk [true, false, true, true, true] (w_it2 (fun i3 i4 => s1) (fun i3 i4 => [some (.ref (ad κ 7)), none, some (.int a2), some (.int i3), some (.int i4)]) (fun self5 ih12_5 i3 i4 => ?_) N (0 : Int32) (0 : Int32))
  unfold Cu_rowsOfFour_B12
  refine r_iload (pc := 12) hC rfl dX0_rowsOfFour_12 ?_
  refine r_iconst (pc := 14) hC (v := (3 : Int32)) (by decide) dX0_rowsOfFour_14 ?_
  refine r_icmp_ge (pc := 15) (tgt := 37) hC dX0_rowsOfFour_15 (by decide) ?_ ?_
  · refine r_bipush (pc := 37) hC (v := (8 : Int32)) (by decide) dX0_rowsOfFour_37 ?_
    refine r_iload_n (pc := 39) hC rfl dX0_rowsOfFour_39 ?_
    refine r_imul (pc := 40) hC dX0_rowsOfFour_40 ?_
    exact r_retOM hC rfl dX0_rowsOfFour_41
  · refine r_iload_n (pc := 18) hC rfl dX0_rowsOfFour_18 ?_
    refine r_iload_n (pc := 19) hC rfl dX0_rowsOfFour_19 ?_
    refine r_aload_n (pc := 20) hC rfl dX0_rowsOfFour_20 ?_
    refine r_iload (pc := 21) hC rfl dX0_rowsOfFour_21 ?_
    refine r_cO (pc := 23) (rest := [.int a2, .int i3]) (fun r6 hf => runV [.int i4] hC (c_Cu_winnerByWay (kl κ) (kW κ) hC.2.2.2.2.2.2.2.2.1 i4 s1 r6 hf) o_X0_winnerByWay k_643 (q0 := 7) (ci := 0) rfl rfl (rm_ok hR rfl) rfl (Nat.le_of_ble_eq_true rfl) dX0_rowsOfFour_23) (fun r6 => ?_)
    refine r_cT (pc := 26) (rest := [.int i3]) (runSN [.int a2, .int r6] hC (c_D_bitOf (kl κ) (kW κ) hC.2.2.2.2.2.2.2.2.1 a2 r6 s1) o_X9_bitOf (k_637 hC.2.2.2.2.2.2.2.2.2) (rm_ok hR rfl) rfl (Nat.le_of_ble_eq_true rfl) dX0_rowsOfFour_26) ?_
    refine r_iadd (pc := 29) hC dX0_rowsOfFour_29 ?_
    refine r_let (fun x7 => ?_)
    refine r_istore_n (pc := 30) hC rfl rfl dX0_rowsOfFour_30 ?_
    refine r_iinc (pc := 31) hC (v := (1 : Int32)) rfl (by decide) rfl rfl dX0_rowsOfFour_31 ?_
    refine r_goto (pc := 34) (tgt := 12) hC dX0_rowsOfFour_34 (by decide) ?_
    exact ih12_5 x7 (i4 + (1 : Int32))
set_option maxRecDepth 100000 in
set_option maxHeartbeats 4000000 in
theorem c_Cu_rowsOfFour (l : Launch) (w : Wenv) (hw : okw w wC) (N : Nat) (a1 : Int32) (a2 : Int32) (σ : Mem) (r : Int32) (τ : Mem) (hf : f_Cu_rowsOfFour N a1 a2 σ = some (r, τ)) : Ctr l w wC yX0_rowsOfFour cX0_rowsOfFour 5 (some .int) 2 45 [.ref (w.2.2.1 7), .int a1, .int a2] σ (cQi w wC r τ) := mk_ctr (Q := fun κ => qOM κ wC) (lv := [some (.ref (w.2.2.1 7)), some (.int a1), some (.int a2), none, none]) (by decide) rfl hw (Nat.le_of_ble_eq_true rfl) rfl hf (fun κ h => by subst h; rfl) (fun κ hl h hR hC => by
    subst h
    exact w_Cu_rowsOfFour hR hC N a1 a2 σ)
-- DuelRound$Cups.rowsOfEight(II)I (7, None, None) kind OM
def Cu_rowsOfEight_B5 (N : Nat) (a1 : Int32) (a2 : Int32) (self4 : Int32 → Int32 → Mem → Option (Int32 × Mem)) (i1 : Int32) (i2 : Int32) (s3 : Mem) : Option (Int32 × Mem) :=
  if a1 ≤ i2 then
  (some (i1, s3))
  else
  (if (t_J_bitCount i2) = (4 : Int32) then
  (if (t_D_bitOf i2 a2) = (1 : Int32) then
  (ob2 (f_Cu_rowsOfFour N i2 ((1 : Int32) <<< (a2 &&& 31)) s3) fun r6 s5 =>
  gd (inb a2 8) (ob2 (f_Cu_rowsOfFour N (a1 &&& (i2 ^^^ (-1 : Int32))) (gI s5 13 a2.toNatClampNeg) s5) fun r8 s7 =>
  bnd (i1 + (((2 : Int32) * r6) * r8)) fun x9 =>
  self4 x9 (i2 + (1 : Int32)) s7))
  else
  (self4 i1 (i2 + (1 : Int32)) s3))
  else
  (self4 i1 (i2 + (1 : Int32)) s3))
def f_Cu_rowsOfEight (N : Nat) (a1 : Int32) (a2 : Int32) (σ : Mem) : Option (Int32 × Mem) :=
  it3 (Cu_rowsOfEight_B5 N a1 a2) N (0 : Int32) (1 : Int32) σ
set_option maxRecDepth 100000 in
set_option maxHeartbeats 4000000 in
theorem w_Cu_rowsOfEight {κ : Ctx} (hR : kR κ = { frames := 3, cells := 0, slots := 0, locals := 69 }) (hC : ok κ wC cX0_rowsOfEight 5 RX0 (some .int)) (N : Nat) (a1 : Int32) (a2 : Int32) (σ : Mem) : wF κ wC 5 (qOM κ wC) σ 0 [some (.ref (ad κ 7)), some (.int a1), some (.int a2), none, none] [] (f_Cu_rowsOfEight N a1 a2 σ) := by
  unfold f_Cu_rowsOfEight
  refine r_iconst (pc := 0) hC (v := (0 : Int32)) (by decide) dX0_rowsOfEight_0 ?_
  refine r_istore_n (pc := 1) hC rfl rfl dX0_rowsOfEight_1 ?_
  refine r_iconst (pc := 2) hC (v := (1 : Int32)) (by decide) dX0_rowsOfEight_2 ?_
  refine r_istore (pc := 3) hC rfl rfl dX0_rowsOfEight_3 ?_
  refine w_it3 (fun i1 i2 s3 => s3) (fun i1 i2 s3 => [some (.ref (ad κ 7)), some (.int a1), some (.int a2), some (.int i1), some (.int i2)]) (fun self4 ih5_4 i1 i2 s3 => ?_) N (0 : Int32) (1 : Int32) σ
  unfold Cu_rowsOfEight_B5
  refine r_iload (pc := 5) hC rfl dX0_rowsOfEight_5 ?_
  refine r_iload_n (pc := 7) hC rfl dX0_rowsOfEight_7 ?_
  refine r_icmp_ge (pc := 8) (tgt := 70) hC dX0_rowsOfEight_8 (by decide) ?_ ?_
  · refine r_iload_n (pc := 70) hC rfl dX0_rowsOfEight_70 ?_
    exact r_retOM hC rfl dX0_rowsOfEight_71
  · refine r_iload (pc := 11) hC rfl dX0_rowsOfEight_11 ?_
    refine r_cT (pc := 13) (rest := []) (runS [.int i2] hC (c_J_bitCount (kl κ) (kW κ) hC.2.2.2.2.2.2.2.2.1 i2 s3) o_J6_bitCount_0f7a4 k_632 (rm_ok hR rfl) rfl (Nat.le_of_ble_eq_true rfl) dX0_rowsOfEight_13) ?_
    refine r_iconst (pc := 16) hC (v := (4 : Int32)) (by decide) dX0_rowsOfEight_16 ?_
    refine r_icmp_ne (pc := 17) (tgt := 64) hC dX0_rowsOfEight_17 (by decide) ?_ ?_
    · refine r_iinc (pc := 64) hC (v := (1 : Int32)) rfl (by decide) rfl rfl dX0_rowsOfEight_64 ?_
      refine r_goto (pc := 67) (tgt := 5) hC dX0_rowsOfEight_67 (by decide) ?_
      exact ih5_4 i1 (i2 + (1 : Int32)) s3
    · refine r_iload (pc := 20) hC rfl dX0_rowsOfEight_20 ?_
      refine r_iload_n (pc := 22) hC rfl dX0_rowsOfEight_22 ?_
      refine r_cT (pc := 23) (rest := []) (runSN [.int i2, .int a2] hC (c_D_bitOf (kl κ) (kW κ) hC.2.2.2.2.2.2.2.2.1 i2 a2 s3) o_X9_bitOf (k_637 hC.2.2.2.2.2.2.2.2.2) (rm_ok hR rfl) rfl (Nat.le_of_ble_eq_true rfl) dX0_rowsOfEight_23) ?_
      refine r_iconst (pc := 26) hC (v := (1 : Int32)) (by decide) dX0_rowsOfEight_26 ?_
      refine r_icmp_ne (pc := 27) (tgt := 64) hC dX0_rowsOfEight_27 (by decide) ?_ ?_
      · refine r_iinc (pc := 64) hC (v := (1 : Int32)) rfl (by decide) rfl rfl dX0_rowsOfEight_64 ?_
        refine r_goto (pc := 67) (tgt := 5) hC dX0_rowsOfEight_67 (by decide) ?_
        exact ih5_4 i1 (i2 + (1 : Int32)) s3
      · refine r_iload_n (pc := 30) hC rfl dX0_rowsOfEight_30 ?_
        refine r_iconst (pc := 31) hC (v := (2 : Int32)) (by decide) dX0_rowsOfEight_31 ?_
        refine r_aload_n (pc := 32) hC rfl dX0_rowsOfEight_32 ?_
        refine r_iload (pc := 33) hC rfl dX0_rowsOfEight_33 ?_
        refine r_iconst (pc := 35) hC (v := (1 : Int32)) (by decide) dX0_rowsOfEight_35 ?_
        refine r_iload_n (pc := 36) hC rfl dX0_rowsOfEight_36 ?_
        refine r_ishl (pc := 37) hC dX0_rowsOfEight_37 ?_
        refine r_cOM (pc := 38) (rest := [.int (2 : Int32), .int i1]) (fun r6 s5 hf => runV [.int i2, .int ((1 : Int32) <<< (a2 &&& 31))] hC (c_Cu_rowsOfFour (kl κ) (kW κ) hC.2.2.2.2.2.2.2.2.1 N i2 ((1 : Int32) <<< (a2 &&& 31)) s3 r6 s5 hf) o_X0_rowsOfFour k_740 (q0 := 7) (ci := 0) rfl rfl (rm_ok hR rfl) rfl (Nat.le_of_ble_eq_true rfl) dX0_rowsOfEight_38) (fun r6 s5 => ?_)
        refine r_imul (pc := 41) hC dX0_rowsOfEight_41 ?_
        refine r_aload_n (pc := 42) hC rfl dX0_rowsOfEight_42 ?_
        refine r_iload_n (pc := 43) hC rfl dX0_rowsOfEight_43 ?_
        refine r_iload (pc := 44) hC rfl dX0_rowsOfEight_44 ?_
        refine r_iconst (pc := 46) hC (v := (-1 : Int32)) (by decide) dX0_rowsOfEight_46 ?_
        refine r_ixor (pc := 47) hC dX0_rowsOfEight_47 ?_
        refine r_iand (pc := 48) hC dX0_rowsOfEight_48 ?_
        refine r_aload_n (pc := 49) hC rfl dX0_rowsOfEight_49 ?_
        refine gC_7_0 (pc := 50) hC k_211 dX0_rowsOfEight_50 ?_
        refine gC_2_0 (pc := 53) hC k_136 dX0_rowsOfEight_53 ?_
        refine r_iload_n (pc := 56) hC rfl dX0_rowsOfEight_56 ?_
        refine aC_13 (pc := 57) hC dX0_rowsOfEight_57 ?_
        refine r_cOM (pc := 58) (rest := [.int ((2 : Int32) * r6), .int i1]) (fun r8 s7 hf => runV [.int (a1 &&& (i2 ^^^ (-1 : Int32))), .int (gI s5 13 a2.toNatClampNeg)] hC (c_Cu_rowsOfFour (kl κ) (kW κ) hC.2.2.2.2.2.2.2.2.1 N (a1 &&& (i2 ^^^ (-1 : Int32))) (gI s5 13 a2.toNatClampNeg) s5 r8 s7 hf) o_X0_rowsOfFour k_740 (q0 := 7) (ci := 0) rfl rfl (rm_ok hR rfl) rfl (Nat.le_of_ble_eq_true rfl) dX0_rowsOfEight_58) (fun r8 s7 => ?_)
        refine r_imul (pc := 61) hC dX0_rowsOfEight_61 ?_
        refine r_iadd (pc := 62) hC dX0_rowsOfEight_62 ?_
        refine r_let (fun x9 => ?_)
        refine r_istore_n (pc := 63) hC rfl rfl dX0_rowsOfEight_63 ?_
        refine r_iinc (pc := 64) hC (v := (1 : Int32)) rfl (by decide) rfl rfl dX0_rowsOfEight_64 ?_
        refine r_goto (pc := 67) (tgt := 5) hC dX0_rowsOfEight_67 (by decide) ?_
        exact ih5_4 x9 (i2 + (1 : Int32)) s7
set_option maxRecDepth 100000 in
set_option maxHeartbeats 4000000 in
theorem c_Cu_rowsOfEight (l : Launch) (w : Wenv) (hw : okw w wC) (N : Nat) (a1 : Int32) (a2 : Int32) (σ : Mem) (r : Int32) (τ : Mem) (hf : f_Cu_rowsOfEight N a1 a2 σ = some (r, τ)) : Ctr l w wC yX0_rowsOfEight cX0_rowsOfEight 5 (some .int) 3 69 [.ref (w.2.2.1 7), .int a1, .int a2] σ (cQi w wC r τ) := mk_ctr (Q := fun κ => qOM κ wC) (lv := [some (.ref (w.2.2.1 7)), some (.int a1), some (.int a2), none, none]) (by decide) rfl hw (Nat.le_of_ble_eq_true rfl) rfl hf (fun κ h => by subst h; rfl) (fun κ hl h hR hC => by
    subst h
    exact w_Cu_rowsOfEight hR hC N a1 a2 σ)
