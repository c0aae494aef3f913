-- DuelRoundModel.takes(I)Z (0, None) kind OM
def M_takes_J46 (s2 : Mem) (v1 : Int32) (v3 : Int32) : Option (Int32 × Mem) :=
  bnd (sI s2 8 0 ((gI s2 8 0) + v3)) fun s4 =>
  gd (isb v1) (some (v1, s4))
def M_takes_J31 (v1 : Int32) (s2 : Mem) : Option (Int32 × Mem) :=
  if v1 = (0 : Int32) then
  (M_takes_J46 s2 v1 (0 : Int32))
  else
  (M_takes_J46 s2 v1 (1 : Int32))
def M_takes_J30 (s5 : Mem) : Option (Int32 × Mem) :=
  M_takes_J31 (0 : Int32) s5
def f_M_takes (N : Nat) (a1 : Int32) (σ : Mem) : Option (Int32 × Mem) :=
  if (gI σ 10 0) = (0 : Int32) then
  (M_takes_J30 σ)
  else
  (ob2 (f_M_next N σ) fun r7 s6 =>
  if r7 = a1 then
  (if (gI s6 7 0) ≤ (gI s6 8 0) then
  (M_takes_J30 s6)
  else
  (M_takes_J31 (1 : Int32) s6))
  else
  (M_takes_J30 s6))
set_option maxRecDepth 100000 in
set_option maxHeartbeats 4000000 in
theorem w_M_takes {κ : Ctx} (hR : kR κ = { frames := 1, cells := 0, slots := 0, locals := 20 }) (hC : ok κ wM cX10_takes 3 RX10 (some .boolean)) (N : Nat) (a1 : Int32) (σ : Mem) : wF κ wM 3 (qOM κ wM) σ 0 [some (.ref (ad κ 0)), some (.int a1), none] [] (f_M_takes N a1 σ) := by
  unfold f_M_takes
  refine r_aload_n (pc := 0) hC rfl dX10_takes_0 ?_
  refine gM_0_10 (pc := 1) hC k_1047 dX10_takes_1 ?_
  have hJ31_4 : ∀ (v1 : Int32) (s2 : Mem), wF κ wM 3 (qOM κ wM) s2 31 [some (.ref (ad κ 0)), none, none] [.int v1] (M_takes_J31 v1 s2) := by
    intro v1 s2
    unfold M_takes_J31
    refine r_istore_n (pc := 31) hC rfl rfl dX10_takes_31 ?_
    refine r_aload_n (pc := 32) hC rfl dX10_takes_32 ?_
    refine r_dup (pc := 33) hC rfl dX10_takes_33 ?_
    refine gM_0_8 (pc := 34) hC k_1045 dX10_takes_34 ?_
    refine r_iload_n (pc := 37) hC rfl dX10_takes_37 ?_
    have hJ46_4 : ∀ (v3 : Int32), wF κ wM 3 (qOM κ wM) s2 46 [none, none, some (.int v1)] [.int v3, .int (gI s2 8 0), .ref (ad κ 0)] (M_takes_J46 s2 v1 v3) := by
      intro v3
      unfold M_takes_J46
      refine r_iadd (pc := 46) hC dX10_takes_46 ?_
      refine pM_0_8 (pc := 47) hC k_1045 dX10_takes_47 ?_
      refine r_letm (fun s4 => ?_)
      refine r_iload_n (pc := 50) hC rfl dX10_takes_50 ?_
      exact r_retOMb hC dX10_takes_51
    refine r_if_eq (pc := 38) (tgt := 45) hC dX10_takes_38 (by decide) ?_ ?_
    · refine r_iconst (pc := 45) hC (v := (0 : Int32)) (by decide) dX10_takes_45 ?_
      exact r_wk [false, false, true] (hJ46_4 (0 : Int32))
    · refine r_iconst (pc := 41) hC (v := (1 : Int32)) (by decide) dX10_takes_41 ?_
      refine r_goto (pc := 42) (tgt := 46) hC dX10_takes_42 (by decide) ?_
      exact r_wk [false, false, true] (hJ46_4 (1 : Int32))
  have hJ30_5 : ∀ (s5 : Mem), wF κ wM 3 (qOM κ wM) s5 30 [some (.ref (ad κ 0)), none, none] [] (M_takes_J30 s5) := by
    intro s5
    unfold M_takes_J30
    refine r_iconst (pc := 30) hC (v := (0 : Int32)) (by decide) dX10_takes_30 ?_
    exact hJ31_4 (0 : Int32) s5
  refine r_if_eq (pc := 4) (tgt := 30) hC dX10_takes_4 (by decide) ?_ ?_
  · exact r_wk [true, false, false] (hJ30_5 σ)
  · refine r_aload_n (pc := 7) hC rfl dX10_takes_7 ?_
    refine r_cOM (pc := 8) (rest := []) (fun r7 s6 hf => runV [] hC (c_M_next (kl κ) (kW κ) hC.2.2.2.2.2.2.2.2.1 N σ r7 s6 hf) o_X10_next k_1180 (q0 := 0) (ci := 10) rfl rfl (rm_ok hR rfl) rfl (Nat.le_of_ble_eq_true rfl) dX10_takes_8) (fun r7 s6 => ?_)
    refine r_iload_n (pc := 11) hC rfl dX10_takes_11 ?_
    refine r_icmp_ne (pc := 12) (tgt := 30) hC dX10_takes_12 (by decide) ?_ ?_
    · exact r_wk [true, false, false] (hJ30_5 s6)
    · refine r_aload_n (pc := 15) hC rfl dX10_takes_15 ?_
      refine gM_0_8 (pc := 16) hC k_1045 dX10_takes_16 ?_
      refine r_aload_n (pc := 19) hC rfl dX10_takes_19 ?_
      refine gM_0_7 (pc := 20) hC k_1044 dX10_takes_20 ?_
      refine r_icmp_ge (pc := 23) (tgt := 30) hC dX10_takes_23 (by decide) ?_ ?_
      · exact r_wk [true, false, false] (hJ30_5 s6)
      · refine r_iconst (pc := 26) hC (v := (1 : Int32)) (by decide) dX10_takes_26 ?_
        refine r_goto (pc := 27) (tgt := 31) hC dX10_takes_27 (by decide) ?_
        exact r_wk [true, false, false] (hJ31_4 (1 : Int32) s6)
set_option maxRecDepth 100000 in
set_option maxHeartbeats 4000000 in
theorem c_M_takes (l : Launch) (w : Wenv) (hw : okw w wM) (N : Nat) (a1 : Int32) (σ : Mem) (r : Int32) (τ : Mem) (hf : f_M_takes N a1 σ = some (r, τ)) : Ctr l w wM yX10_takes cX10_takes 3 (some .boolean) 1 20 [.ref (w.2.2.1 0), .int a1] σ (cQi w wM r τ) := mk_ctr (Q := fun κ => qOM κ wM) (lv := [some (.ref (w.2.2.1 0)), some (.int a1), none]) (by decide) rfl hw (Nat.le_of_ble_eq_true rfl) rfl hf (fun κ h => by subst h; rfl) (fun κ hl h hR hC => by
    subst h
    exact w_M_takes hR hC N a1 σ)
-- DuelRoundModel.isEnd()Z (0,) kind OM
def f_M_isEnd (N : Nat) (σ : Mem) : Option (Int32 × Mem) :=
  ob2 (f_M_next N σ) fun r2 s1 =>
  if r2 = (0 : Int32) then
  (if (gI s1 8 0) < (gI s1 7 0) then
  (some ((0 : Int32), s1))
  else
  (some ((1 : Int32), s1)))
  else
  (some ((0 : Int32), s1))
set_option maxRecDepth 100000 in
set_option maxHeartbeats 4000000 in
theorem w_M_isEnd {κ : Ctx} (hR : kR κ = { frames := 1, cells := 0, slots := 0, locals := 20 }) (hC : ok κ wM cX10_isEnd 1 RX10 (some .boolean)) (N : Nat) (σ : Mem) : wF κ wM 1 (qOM κ wM) σ 0 [some (.ref (ad κ 0))] [] (f_M_isEnd N  σ) := by
  unfold f_M_isEnd
  refine r_aload_n (pc := 0) hC rfl dX10_isEnd_0 ?_
  refine r_cOM (pc := 1) (rest := []) (fun r2 s1 hf => runV [] hC (c_M_next (kl κ) (kW κ) hC.2.2.2.2.2.2.2.2.1 N σ r2 s1 hf) o_X10_next k_1180 (q0 := 0) (ci := 10) rfl rfl (rm_ok hR rfl) rfl (Nat.le_of_ble_eq_true rfl) dX10_isEnd_1) (fun r2 s1 => ?_)
  refine r_if_ne (pc := 4) (tgt := 22) hC dX10_isEnd_4 (by decide) ?_ ?_
  · refine r_iconst (pc := 22) hC (v := (0 : Int32)) (by decide) dX10_isEnd_22 ?_
    exact r_retOM hC rfl dX10_isEnd_23
  · refine r_aload_n (pc := 7) hC rfl dX10_isEnd_7 ?_
    refine gM_0_8 (pc := 8) hC k_1045 dX10_isEnd_8 ?_
    refine r_aload_n (pc := 11) hC rfl dX10_isEnd_11 ?_
    refine gM_0_7 (pc := 12) hC k_1044 dX10_isEnd_12 ?_
    refine r_icmp_lt (pc := 15) (tgt := 22) hC dX10_isEnd_15 (by decide) ?_ ?_
    · refine r_iconst (pc := 22) hC (v := (0 : Int32)) (by decide) dX10_isEnd_22 ?_
      exact r_retOM hC rfl dX10_isEnd_23
    · refine r_iconst (pc := 18) hC (v := (1 : Int32)) (by decide) dX10_isEnd_18 ?_
      refine r_goto (pc := 19) (tgt := 23) hC dX10_isEnd_19 (by decide) ?_
      exact r_retOM hC rfl dX10_isEnd_23
set_option maxRecDepth 100000 in
set_option maxHeartbeats 4000000 in
theorem c_M_isEnd (l : Launch) (w : Wenv) (hw : okw w wM) (N : Nat) (σ : Mem) (r : Int32) (τ : Mem) (hf : f_M_isEnd N  σ = some (r, τ)) : Ctr l w wM yX10_isEnd cX10_isEnd 1 (some .boolean) 1 20 [.ref (w.2.2.1 0)] σ (cQi w wM r τ) := mk_ctr (Q := fun κ => qOM κ wM) (lv := [some (.ref (w.2.2.1 0))]) (by decide) rfl hw (Nat.le_of_ble_eq_true rfl) rfl hf (fun κ h => by subst h; rfl) (fun κ hl h hR hC => by
    subst h
    exact w_M_isEnd hR hC N  σ)
-- DuelRoundModel.lineEnd(I)I (0, None) kind O
def f_M_lineEnd (a1 : Int32) (σ : Mem) : Option Int32 :=
  if (gI σ 32 0) ≤ (a1 + (1 : Int32)) then
  (some (gI σ 31 0))
  else
  (gd (inb (a1 + (1 : Int32)) 152) (some (gI σ 29 (a1 + (1 : Int32)).toNatClampNeg)))
set_option maxRecDepth 100000 in
set_option maxHeartbeats 4000000 in
theorem w_M_lineEnd {κ : Ctx} (hR : kR κ = { frames := 0, cells := 0, slots := 0, locals := 0 }) (hC : ok κ wM cX10_lineEnd 2 RX10 (some .int)) (a1 : Int32) (σ : Mem) : wF κ wM 2 (qO κ wM σ) σ 0 [some (.ref (ad κ 0)), some (.int a1)] [] (f_M_lineEnd a1 σ) := by
  unfold f_M_lineEnd
  refine r_iload_n (pc := 0) hC rfl dX10_lineEnd_0 ?_
  refine r_iconst (pc := 1) hC (v := (1 : Int32)) (by decide) dX10_lineEnd_1 ?_
  refine r_iadd (pc := 2) hC dX10_lineEnd_2 ?_
  refine r_aload_n (pc := 3) hC rfl dX10_lineEnd_3 ?_
  refine gM_0_32 (pc := 4) hC k_1069 dX10_lineEnd_4 ?_
  refine r_icmp_ge (pc := 7) (tgt := 21) hC dX10_lineEnd_7 (by decide) ?_ ?_
  · refine r_aload_n (pc := 21) hC rfl dX10_lineEnd_21 ?_
    refine gM_0_31 (pc := 22) hC k_1068 dX10_lineEnd_22 ?_
    exact r_retO hC rfl dX10_lineEnd_25
  · refine r_aload_n (pc := 10) hC rfl dX10_lineEnd_10 ?_
    refine gM_0_29 (pc := 11) hC k_1066 dX10_lineEnd_11 ?_
    refine r_iload_n (pc := 14) hC rfl dX10_lineEnd_14 ?_
    refine r_iconst (pc := 15) hC (v := (1 : Int32)) (by decide) dX10_lineEnd_15 ?_
    refine r_iadd (pc := 16) hC dX10_lineEnd_16 ?_
    refine aM_23 (pc := 17) hC dX10_lineEnd_17 ?_
    refine r_goto (pc := 18) (tgt := 25) hC dX10_lineEnd_18 (by decide) ?_
    exact r_retO hC rfl dX10_lineEnd_25
set_option maxRecDepth 100000 in
set_option maxHeartbeats 4000000 in
theorem c_M_lineEnd (l : Launch) (w : Wenv) (hw : okw w wM) (a1 : Int32) (σ : Mem) (r : Int32) (hf : f_M_lineEnd a1 σ = some r) : Ctr l w wM yX10_lineEnd cX10_lineEnd 2 (some .int) 0 0 [.ref (w.2.2.1 0), .int a1] σ (cQi w wM r σ) := mk_ctr (Q := fun κ => qO κ wM σ) (lv := [some (.ref (w.2.2.1 0)), some (.int a1)]) (by decide) rfl hw (Nat.le_of_ble_eq_true rfl) rfl hf (fun κ h => by subst h; rfl) (fun κ hl h hR hC => by
    subst h
    exact w_M_lineEnd hR hC a1 σ)
-- DuelRoundModel.lettersOf(I)I (0, None) kind O
def M_lettersOf_B9 (σ : Mem) (a1 : Int32) (self4 : Int32 → Int32 → Option Int32) (i2 : Int32) (i3 : Int32) : Option Int32 :=
  ob (f_M_lineEnd a1 σ) fun r5 =>
  if r5 ≤ i3 then
  (some i2)
  else
  (gd (inb i3 300) (if (100 : Int32) ≤ (gI σ 28 i3.toNatClampNeg) then
  (bnd (i2 ||| (0 : Int32)) fun x6 =>
  self4 x6 (i3 + (1 : Int32)))
  else
  (gd (inb i3 300) (bnd (i2 ||| ((1 : Int32) <<< ((gI σ 28 i3.toNatClampNeg) &&& 31))) fun x7 =>
  self4 x7 (i3 + (1 : Int32))))))
def f_M_lettersOf (N : Nat) (a1 : Int32) (σ : Mem) : Option Int32 :=
  gd (inb a1 152) (bnd (gI σ 29 a1.toNatClampNeg) fun x1 =>
  it2 (M_lettersOf_B9 σ a1) N (0 : Int32) x1)
set_option maxRecDepth 100000 in
set_option maxHeartbeats 4000000 in
theorem w_M_lettersOf {κ : Ctx} (hR : kR κ = { frames := 1, cells := 0, slots := 0, locals := 21 }) (hC : ok κ wM cX10_lettersOf 4 RX10 (some .int)) (N : Nat) (a1 : Int32) (σ : Mem) : wF κ wM 4 (qO κ wM σ) σ 0 [some (.ref (ad κ 0)), some (.int a1), none, none] [] (f_M_lettersOf N a1 σ) := by
  unfold f_M_lettersOf
  refine r_iconst (pc := 0) hC (v := (0 : Int32)) (by decide) dX10_lettersOf_0 ?_
  refine r_istore_n (pc := 1) hC rfl rfl dX10_lettersOf_1 ?_
  refine r_aload_n (pc := 2) hC rfl dX10_lettersOf_2 ?_
  refine gM_0_29 (pc := 3) hC k_1066 dX10_lettersOf_3 ?_
  refine r_iload_n (pc := 6) hC rfl dX10_lettersOf_6 ?_
  refine aM_23 (pc := 7) hC dX10_lettersOf_7 ?_
  refine r_let (fun x1 => ?_)
  refine r_istore_n (pc := 8) hC rfl rfl dX10_lettersOf_8 ?_
  refine w_it2 (fun i2 i3 => σ) (fun i2 i3 => [some (.ref (ad κ 0)), some (.int a1), some (.int i2), some (.int i3)]) (fun self4 ih9_4 i2 i3 => ?_) N (0 : Int32) x1
  unfold M_lettersOf_B9
  refine r_iload_n (pc := 9) hC rfl dX10_lettersOf_9 ?_
  refine r_aload_n (pc := 10) hC rfl dX10_lettersOf_10 ?_
  refine r_iload_n (pc := 11) hC rfl dX10_lettersOf_11 ?_
  refine r_cO (pc := 12) (rest := [.int i3]) (fun r5 hf => runV [.int a1] hC (c_M_lineEnd (kl κ) (kW κ) hC.2.2.2.2.2.2.2.2.1 a1 σ r5 hf) o_X10_lineEnd k_1498 (q0 := 0) (ci := 10) rfl rfl (rm_ok hR rfl) rfl (Nat.le_of_ble_eq_true rfl) dX10_lettersOf_12) (fun r5 => ?_)
  refine r_icmp_ge (pc := 15) (tgt := 50) hC dX10_lettersOf_15 (by decide) ?_ ?_
  · refine r_iload_n (pc := 50) hC rfl dX10_lettersOf_50 ?_
    exact r_retO hC rfl dX10_lettersOf_51
  · refine r_iload_n (pc := 18) hC rfl dX10_lettersOf_18 ?_
    refine r_aload_n (pc := 19) hC rfl dX10_lettersOf_19 ?_
    refine gM_0_28 (pc := 20) hC k_1065 dX10_lettersOf_20 ?_
    refine r_iload_n (pc := 23) hC rfl dX10_lettersOf_23 ?_
    refine aM_22 (pc := 24) hC dX10_lettersOf_24 ?_
    refine r_bipush (pc := 25) hC (v := (100 : Int32)) (by decide) dX10_lettersOf_25 ?_
    refine r_icmp_ge (pc := 27) (tgt := 41) hC dX10_lettersOf_27 (by decide) ?_ ?_
    · refine r_iconst (pc := 41) hC (v := (0 : Int32)) (by decide) dX10_lettersOf_41 ?_
      refine r_ior (pc := 42) hC dX10_lettersOf_42 ?_
      refine r_let (fun x6 => ?_)
      refine r_istore_n (pc := 43) hC rfl rfl dX10_lettersOf_43 ?_
      refine r_iinc (pc := 44) hC (v := (1 : Int32)) rfl (by decide) rfl rfl dX10_lettersOf_44 ?_
      refine r_goto (pc := 47) (tgt := 9) hC dX10_lettersOf_47 (by decide) ?_
      exact ih9_4 x6 (i3 + (1 : Int32))
    · refine r_iconst (pc := 30) hC (v := (1 : Int32)) (by decide) dX10_lettersOf_30 ?_
      refine r_aload_n (pc := 31) hC rfl dX10_lettersOf_31 ?_
      refine gM_0_28 (pc := 32) hC k_1065 dX10_lettersOf_32 ?_
      refine r_iload_n (pc := 35) hC rfl dX10_lettersOf_35 ?_
      refine aM_22 (pc := 36) hC dX10_lettersOf_36 ?_
      refine r_ishl (pc := 37) hC dX10_lettersOf_37 ?_
      refine r_goto (pc := 38) (tgt := 42) hC dX10_lettersOf_38 (by decide) ?_
      refine r_ior (pc := 42) hC dX10_lettersOf_42 ?_
      refine r_let (fun x7 => ?_)
      refine r_istore_n (pc := 43) hC rfl rfl dX10_lettersOf_43 ?_
      refine r_iinc (pc := 44) hC (v := (1 : Int32)) rfl (by decide) rfl rfl dX10_lettersOf_44 ?_
      refine r_goto (pc := 47) (tgt := 9) hC dX10_lettersOf_47 (by decide) ?_
      exact ih9_4 x7 (i3 + (1 : Int32))
set_option maxRecDepth 100000 in
set_option maxHeartbeats 4000000 in
theorem c_M_lettersOf (l : Launch) (w : Wenv) (hw : okw w wM) (N : Nat) (a1 : Int32) (σ : Mem) (r : Int32) (hf : f_M_lettersOf N a1 σ = some r) : Ctr l w wM yX10_lettersOf cX10_lettersOf 4 (some .int) 1 21 [.ref (w.2.2.1 0), .int a1] σ (cQi w wM r σ) := mk_ctr (Q := fun κ => qO κ wM σ) (lv := [some (.ref (w.2.2.1 0)), some (.int a1), none, none]) (by decide) rfl hw (Nat.le_of_ble_eq_true rfl) rfl hf (fun κ h => by subst h; rfl) (fun κ hl h hR hC => by
    subst h
    exact w_M_lettersOf hR hC N a1 σ)
-- DuelRoundModel.hasTwice(I)Z (0, None) kind O
def M_hasTwice_K43 (N : Nat) (σ : Mem) (a1 : Int32) (y2 : Int32) : Option Int32 :=
  ob (f_M_lettersOf N a1 σ) fun r3 =>
  ob (f_M_sizeOf N r3) fun r4 =>
  if y2 ≤ r4 then
  (some (0 : Int32))
  else
  (some (1 : Int32))
def M_hasTwice_B9 (N : Nat) (σ : Mem) (a1 : Int32) (self7 : Int32 → Int32 → Option Int32) (i5 : Int32) (i6 : Int32) : Option Int32 :=
  ob (f_M_lineEnd a1 σ) fun r8 =>
  if r8 ≤ i6 then
  (M_hasTwice_K43 N σ a1 i5)
  else
  (gd (inb i6 300) (if (100 : Int32) ≤ (gI σ 28 i6.toNatClampNeg) then
  (bnd (i5 + (0 : Int32)) fun x9 =>
  self7 x9 (i6 + (1 : Int32)))
  else
  (bnd (i5 + (1 : Int32)) fun x10 =>
  self7 x10 (i6 + (1 : Int32)))))
def f_M_hasTwice (N : Nat) (a1 : Int32) (σ : Mem) : Option Int32 :=
  gd (inb a1 152) (bnd (gI σ 29 a1.toNatClampNeg) fun x1 =>
  it2 (M_hasTwice_B9 N σ a1) N (0 : Int32) x1)
set_option maxRecDepth 100000 in
set_option maxHeartbeats 4000000 in
theorem w_M_hasTwice {κ : Ctx} (hR : kR κ = { frames := 2, cells := 0, slots := 0, locals := 44 }) (hC : ok κ wM cX10_hasTwice 4 RX10 (some .boolean)) (N : Nat) (a1 : Int32) (σ : Mem) : wF κ wM 4 (qO κ wM σ) σ 0 [some (.ref (ad κ 0)), some (.int a1), none, none] [] (f_M_hasTwice N a1 σ) := by
  unfold f_M_hasTwice
  refine r_iconst (pc := 0) hC (v := (0 : Int32)) (by decide) dX10_hasTwice_0 ?_
  refine r_istore_n (pc := 1) hC rfl rfl dX10_hasTwice_1 ?_
  refine r_aload_n (pc := 2) hC rfl dX10_hasTwice_2 ?_
  refine gM_0_29 (pc := 3) hC k_1066 dX10_hasTwice_3 ?_
  refine r_iload_n (pc := 6) hC rfl dX10_hasTwice_6 ?_
  refine aM_23 (pc := 7) hC dX10_hasTwice_7 ?_
  refine r_let (fun x1 => ?_)
  refine r_istore_n (pc := 8) hC rfl rfl dX10_hasTwice_8 ?_
  have hK43_4 : ∀ (y2 : Int32), wF κ wM 4 (qO κ wM σ) σ 43 [some (.ref (ad κ 0)), some (.int a1), some (.int y2), none] [] (M_hasTwice_K43 N σ a1 y2) := by
    intro y2
    unfold M_hasTwice_K43
    refine r_iload_n (pc := 43) hC rfl dX10_hasTwice_43 ?_
    refine r_aload_n (pc := 44) hC rfl dX10_hasTwice_44 ?_
    refine r_iload_n (pc := 45) hC rfl dX10_hasTwice_45 ?_
    refine r_cO (pc := 46) (rest := [.int y2]) (fun r3 hf => runV [.int a1] hC (c_M_lettersOf (kl κ) (kW κ) hC.2.2.2.2.2.2.2.2.1 N a1 σ r3 hf) o_X10_lettersOf k_1494 (q0 := 0) (ci := 10) rfl rfl (rm_ok hR rfl) rfl (Nat.le_of_ble_eq_true rfl) dX10_hasTwice_46) (fun r3 => ?_)
    refine r_cO (pc := 49) (rest := [.int y2]) (fun r4 hf => runS [.int r3] hC (c_M_sizeOf (kl κ) (kW κ) hC.2.2.2.2.2.2.2.2.1 N r3 σ r4 hf) o_X10_sizeOf k_1298 (rm_ok hR rfl) rfl (Nat.le_of_ble_eq_true rfl) dX10_hasTwice_49) (fun r4 => ?_)
    refine r_icmp_le (pc := 52) (tgt := 59) hC dX10_hasTwice_52 (by decide) ?_ ?_
    · refine r_iconst (pc := 59) hC (v := (0 : Int32)) (by decide) dX10_hasTwice_59 ?_
      exact r_retO hC rfl dX10_hasTwice_60
    · refine r_iconst (pc := 55) hC (v := (1 : Int32)) (by decide) dX10_hasTwice_55 ?_
      refine r_goto (pc := 56) (tgt := 60) hC dX10_hasTwice_56 (by decide) ?_
      exact r_retO hC rfl dX10_hasTwice_60
  refine w_it2 (fun i5 i6 => σ) (fun i5 i6 => [some (.ref (ad κ 0)), some (.int a1), some (.int i5), some (.int i6)]) (fun self7 ih9_7 i5 i6 => ?_) N (0 : Int32) x1
  unfold M_hasTwice_B9
  refine r_iload_n (pc := 9) hC rfl dX10_hasTwice_9 ?_
  refine r_aload_n (pc := 10) hC rfl dX10_hasTwice_10 ?_
  refine r_iload_n (pc := 11) hC rfl dX10_hasTwice_11 ?_
  refine r_cO (pc := 12) (rest := [.int i6]) (fun r8 hf => runV [.int a1] hC (c_M_lineEnd (kl κ) (kW κ) hC.2.2.2.2.2.2.2.2.1 a1 σ r8 hf) o_X10_lineEnd k_1498 (q0 := 0) (ci := 10) rfl rfl (rm_ok hR rfl) rfl (Nat.le_of_ble_eq_true rfl) dX10_hasTwice_12) (fun r8 => ?_)
  refine r_icmp_ge (pc := 15) (tgt := 43) hC dX10_hasTwice_15 (by decide) ?_ ?_
  · exact r_wk [true, true, true, false] (hK43_4 i5)
  · refine r_iload_n (pc := 18) hC rfl dX10_hasTwice_18 ?_
    refine r_aload_n (pc := 19) hC rfl dX10_hasTwice_19 ?_
    refine gM_0_28 (pc := 20) hC k_1065 dX10_hasTwice_20 ?_
    refine r_iload_n (pc := 23) hC rfl dX10_hasTwice_23 ?_
    refine aM_22 (pc := 24) hC dX10_hasTwice_24 ?_
    refine r_bipush (pc := 25) hC (v := (100 : Int32)) (by decide) dX10_hasTwice_25 ?_
    refine r_icmp_ge (pc := 27) (tgt := 34) hC dX10_hasTwice_27 (by decide) ?_ ?_
    · refine r_iconst (pc := 34) hC (v := (0 : Int32)) (by decide) dX10_hasTwice_34 ?_
      refine r_iadd (pc := 35) hC dX10_hasTwice_35 ?_
      refine r_let (fun x9 => ?_)
      refine r_istore_n (pc := 36) hC rfl rfl dX10_hasTwice_36 ?_
      refine r_iinc (pc := 37) hC (v := (1 : Int32)) rfl (by decide) rfl rfl dX10_hasTwice_37 ?_
      refine r_goto (pc := 40) (tgt := 9) hC dX10_hasTwice_40 (by decide) ?_
      exact ih9_7 x9 (i6 + (1 : Int32))
    · refine r_iconst (pc := 30) hC (v := (1 : Int32)) (by decide) dX10_hasTwice_30 ?_
      refine r_goto (pc := 31) (tgt := 35) hC dX10_hasTwice_31 (by decide) ?_
      refine r_iadd (pc := 35) hC dX10_hasTwice_35 ?_
      refine r_let (fun x10 => ?_)
      refine r_istore_n (pc := 36) hC rfl rfl dX10_hasTwice_36 ?_
      refine r_iinc (pc := 37) hC (v := (1 : Int32)) rfl (by decide) rfl rfl dX10_hasTwice_37 ?_
      refine r_goto (pc := 40) (tgt := 9) hC dX10_hasTwice_40 (by decide) ?_
      exact ih9_7 x10 (i6 + (1 : Int32))
set_option maxRecDepth 100000 in
set_option maxHeartbeats 4000000 in
theorem c_M_hasTwice (l : Launch) (w : Wenv) (hw : okw w wM) (N : Nat) (a1 : Int32) (σ : Mem) (r : Int32) (hf : f_M_hasTwice N a1 σ = some r) : Ctr l w wM yX10_hasTwice cX10_hasTwice 4 (some .boolean) 2 44 [.ref (w.2.2.1 0), .int a1] σ (cQi w wM r σ) := mk_ctr (Q := fun κ => qO κ wM σ) (lv := [some (.ref (w.2.2.1 0)), some (.int a1), none, none]) (by decide) rfl hw (Nat.le_of_ble_eq_true rfl) rfl hf (fun κ h => by subst h; rfl) (fun κ hl h hR hC => by
    subst h
    exact w_M_hasTwice hR hC N a1 σ)
-- DuelRoundModel.isOtherWay(I)Z (0, None) kind O
def M_isOtherWay_B146 (σ : Mem) (r2 : Int32) (i4 : Int32) (self5 : Int32 → Int32 → Option Int32) (self9 : Int32 → Int32 → Option Int32) (i7 : Int32) (i8 : Int32) : Option Int32 :=
  if r2 ≤ i8 then
  (self5 i7 (i4 + (1 : Int32)))
  else
  (if i7 = (0 : Int32) then
  (gd (inb i4 300) (ob (f_M_beats (gI σ 28 i4.toNatClampNeg) σ) fun r10 =>
  gd (inb i8 300) (if (t_M_has r10 (gI σ 28 i8.toNatClampNeg)) = (0 : Int32) then
  (self9 (1 : Int32) (i8 + (1 : Int32)))
  else
  (self9 (0 : Int32) (i8 + (1 : Int32))))))
  else
  (self9 (1 : Int32) (i8 + (1 : Int32))))
def M_isOtherWay_B123 (N : Nat) (σ : Mem) (a1 : Int32) (r2 : Int32) (self5 : Int32 → Int32 → Option Int32) (i3 : Int32) (i4 : Int32) : Option Int32 :=
  if r2 ≤ i4 then
  (gd (isb i3) (some i3))
  else
  (gd (inb a1 152) (if (gI σ 30 a1.toNatClampNeg) = (107 : Int32) then
  (bnd (i4 + (1 : Int32)) fun x6 =>
  it2 (M_isOtherWay_B146 σ r2 i4 self5) N i3 x6)
  else
  (gd (isb i3) (some i3))))
def f_M_isOtherWay (N : Nat) (a1 : Int32) (σ : Mem) : Option Int32 :=
  gd (inb a1 152) (bnd (gI σ 29 a1.toNatClampNeg) fun x1 =>
  ob (f_M_lineEnd a1 σ) fun r2 =>
  gd (inb a1 152) (if (gI σ 30 a1.toNatClampNeg) = (117 : Int32) then
  (if (r2 - x1) = (2 : Int32) then
  (gd (inb x1 300) (ob (f_M_beats (gI σ 28 x1.toNatClampNeg) σ) fun r13 =>
  gd (inb (x1 + (1 : Int32)) 300) (if (t_M_has r13 (gI σ 28 (x1 + (1 : Int32)).toNatClampNeg)) = (0 : Int32) then
  (some (1 : Int32))
  else
  (some (0 : Int32)))))
  else
  (gd (inb x1 300) (ob (f_M_beats (gI σ 28 x1.toNatClampNeg) σ) fun r11 =>
  gd (inb (x1 + (2 : Int32)) 300) (if (t_M_has r11 (gI σ 28 (x1 + (2 : Int32)).toNatClampNeg)) = (0 : Int32) then
  (some (1 : Int32))
  else
  (gd (inb (x1 + (2 : Int32)) 300) (ob (f_M_beats (gI σ 28 (x1 + (2 : Int32)).toNatClampNeg) σ) fun r12 =>
  gd (inb (x1 + (1 : Int32)) 300) (if (t_M_has r12 (gI σ 28 (x1 + (1 : Int32)).toNatClampNeg)) = (0 : Int32) then
  (some (1 : Int32))
  else
  (some (0 : Int32)))))))))
  else
  (it2 (M_isOtherWay_B123 N σ a1 r2) N (0 : Int32) x1)))
set_option maxRecDepth 100000 in
set_option maxHeartbeats 4000000 in
theorem w_M_isOtherWay {κ : Ctx} (hR : kR κ = { frames := 1, cells := 0, slots := 0, locals := 21 }) (hC : ok κ wM cX10_isOtherWay 7 RX10 (some .boolean)) (N : Nat) (a1 : Int32) (σ : Mem) : wF κ wM 7 (qO κ wM σ) σ 0 [some (.ref (ad κ 0)), some (.int a1), none, none, none, none, none] [] (f_M_isOtherWay N a1 σ) := by
  unfold f_M_isOtherWay
  refine r_aload_n (pc := 0) hC rfl dX10_isOtherWay_0 ?_
  refine gM_0_29 (pc := 1) hC k_1066 dX10_isOtherWay_1 ?_
  refine r_iload_n (pc := 4) hC rfl dX10_isOtherWay_4 ?_
  refine aM_23 (pc := 5) hC dX10_isOtherWay_5 ?_
  refine r_let (fun x1 => ?_)
  refine r_istore_n (pc := 6) hC rfl rfl dX10_isOtherWay_6 ?_
  refine r_aload_n (pc := 7) hC rfl dX10_isOtherWay_7 ?_
  refine r_iload_n (pc := 8) hC rfl dX10_isOtherWay_8 ?_
  refine r_cO (pc := 9) (rest := []) (fun r2 hf => runV [.int a1] hC (c_M_lineEnd (kl κ) (kW κ) hC.2.2.2.2.2.2.2.2.1 a1 σ r2 hf) o_X10_lineEnd k_1498 (q0 := 0) (ci := 10) rfl rfl (rm_ok hR rfl) rfl (Nat.le_of_ble_eq_true rfl) dX10_isOtherWay_9) (fun r2 => ?_)
  refine r_istore_n (pc := 12) hC rfl rfl dX10_isOtherWay_12 ?_
  refine r_iconst (pc := 13) hC (v := (0 : Int32)) (by decide) dX10_isOtherWay_13 ?_
  refine r_istore (pc := 14) hC rfl rfl dX10_isOtherWay_14 ?_
  refine r_aload_n (pc := 16) hC rfl dX10_isOtherWay_16 ?_
  refine gM_0_30 (pc := 17) hC k_1067 dX10_isOtherWay_17 ?_
  refine r_iload_n (pc := 20) hC rfl dX10_isOtherWay_20 ?_
  refine aM_24 (pc := 21) hC dX10_isOtherWay_21 ?_
  refine r_bipush (pc := 22) hC (v := (117 : Int32)) (by decide) dX10_isOtherWay_22 ?_
  refine r_icmp_ne (pc := 24) (tgt := 120) hC dX10_isOtherWay_24 (by decide) ?_ ?_
  · refine r_iload_n (pc := 120) hC rfl dX10_isOtherWay_120 ?_
    refine r_istore (pc := 121) hC rfl rfl dX10_isOtherWay_121 ?_
    refine r_wk [true, true, false, true, true, true, false] (w_it2 (fun i3 i4 => σ) (fun i3 i4 => [some (.ref (ad κ 0)), some (.int a1), none, some (.int r2), some (.int i3), some (.int i4), none]) (fun self5 ih123_5 i3 i4 => ?_) N (0 : Int32) x1)
    unfold M_isOtherWay_B123
    refine r_iload (pc := 123) hC rfl dX10_isOtherWay_123 ?_
    refine r_iload_n (pc := 125) hC rfl dX10_isOtherWay_125 ?_
    refine r_icmp_ge (pc := 126) (tgt := 200) hC dX10_isOtherWay_126 (by decide) ?_ ?_
    · refine r_iload (pc := 200) hC rfl dX10_isOtherWay_200 ?_
      exact r_retOb hC dX10_isOtherWay_202
    · refine r_aload_n (pc := 129) hC rfl dX10_isOtherWay_129 ?_
      refine gM_0_30 (pc := 130) hC k_1067 dX10_isOtherWay_130 ?_
      refine r_iload_n (pc := 133) hC rfl dX10_isOtherWay_133 ?_
      refine aM_24 (pc := 134) hC dX10_isOtherWay_134 ?_
      refine r_bipush (pc := 135) hC (v := (107 : Int32)) (by decide) dX10_isOtherWay_135 ?_
      refine r_icmp_ne (pc := 137) (tgt := 200) hC dX10_isOtherWay_137 (by decide) ?_ ?_
      · refine r_iload (pc := 200) hC rfl dX10_isOtherWay_200 ?_
        exact r_retOb hC dX10_isOtherWay_202
      · refine r_iload (pc := 140) hC rfl dX10_isOtherWay_140 ?_
        refine r_iconst (pc := 142) hC (v := (1 : Int32)) (by decide) dX10_isOtherWay_142 ?_
        refine r_iadd (pc := 143) hC dX10_isOtherWay_143 ?_
        refine r_let (fun x6 => ?_)
        refine r_istore (pc := 144) hC rfl rfl dX10_isOtherWay_144 ?_
        refine w_it2 (fun i7 i8 => σ) (fun i7 i8 => [some (.ref (ad κ 0)), some (.int a1), none, some (.int r2), some (.int i7), some (.int i4), some (.int i8)]) (fun self9 ih146_9 i7 i8 => ?_) N i3 x6
        unfold M_isOtherWay_B146
        refine r_iload (pc := 146) hC rfl dX10_isOtherWay_146 ?_
        refine r_iload_n (pc := 148) hC rfl dX10_isOtherWay_148 ?_
        refine r_icmp_ge (pc := 149) (tgt := 194) hC dX10_isOtherWay_149 (by decide) ?_ ?_
        · refine r_iinc (pc := 194) hC (v := (1 : Int32)) rfl (by decide) rfl rfl dX10_isOtherWay_194 ?_
          refine r_goto (pc := 197) (tgt := 123) hC dX10_isOtherWay_197 (by decide) ?_
          exact r_wk [true, true, false, true, true, true, false] (ih123_5 i7 (i4 + (1 : Int32)))
        · refine r_iload (pc := 152) hC rfl dX10_isOtherWay_152 ?_
          refine r_if_ne (pc := 154) (tgt := 181) hC dX10_isOtherWay_154 (by decide) ?_ ?_
          · refine r_iconst (pc := 181) hC (v := (1 : Int32)) (by decide) dX10_isOtherWay_181 ?_
            refine r_goto (pc := 182) (tgt := 186) hC dX10_isOtherWay_182 (by decide) ?_
            refine r_istore (pc := 186) hC rfl rfl dX10_isOtherWay_186 ?_
            refine r_iinc (pc := 188) hC (v := (1 : Int32)) rfl (by decide) rfl rfl dX10_isOtherWay_188 ?_
            refine r_goto (pc := 191) (tgt := 146) hC dX10_isOtherWay_191 (by decide) ?_
            exact ih146_9 (1 : Int32) (i8 + (1 : Int32))
          · refine r_aload_n (pc := 157) hC rfl dX10_isOtherWay_157 ?_
            refine r_aload_n (pc := 158) hC rfl dX10_isOtherWay_158 ?_
            refine gM_0_28 (pc := 159) hC k_1065 dX10_isOtherWay_159 ?_
            refine r_iload (pc := 162) hC rfl dX10_isOtherWay_162 ?_
            refine aM_22 (pc := 164) hC dX10_isOtherWay_164 ?_
            refine r_cO (pc := 165) (rest := []) (fun r10 hf => runV [.int (gI σ 28 i4.toNatClampNeg)] hC (c_M_beats (kl κ) (kW κ) hC.2.2.2.2.2.2.2.2.1 (gI σ 28 i4.toNatClampNeg) σ r10 hf) o_X10_beats k_1224 (q0 := 0) (ci := 10) rfl rfl (rm_ok hR rfl) rfl (Nat.le_of_ble_eq_true rfl) dX10_isOtherWay_165) (fun r10 => ?_)
            refine r_aload_n (pc := 168) hC rfl dX10_isOtherWay_168 ?_
            refine gM_0_28 (pc := 169) hC k_1065 dX10_isOtherWay_169 ?_
            refine r_iload (pc := 172) hC rfl dX10_isOtherWay_172 ?_
            refine aM_22 (pc := 174) hC dX10_isOtherWay_174 ?_
            refine r_cT (pc := 175) (rest := []) (runS [.int r10, .int (gI σ 28 i8.toNatClampNeg)] hC (c_M_has (kl κ) (kW κ) hC.2.2.2.2.2.2.2.2.1 r10 (gI σ 28 i8.toNatClampNeg) σ) o_X10_has k_1194 (rm_ok hR rfl) rfl (Nat.le_of_ble_eq_true rfl) dX10_isOtherWay_175) ?_
            refine r_if_ne (pc := 178) (tgt := 185) hC dX10_isOtherWay_178 (by decide) ?_ ?_
            · refine r_iconst (pc := 185) hC (v := (0 : Int32)) (by decide) dX10_isOtherWay_185 ?_
              refine r_istore (pc := 186) hC rfl rfl dX10_isOtherWay_186 ?_
              refine r_iinc (pc := 188) hC (v := (1 : Int32)) rfl (by decide) rfl rfl dX10_isOtherWay_188 ?_
              refine r_goto (pc := 191) (tgt := 146) hC dX10_isOtherWay_191 (by decide) ?_
              exact ih146_9 (0 : Int32) (i8 + (1 : Int32))
            · refine r_iconst (pc := 181) hC (v := (1 : Int32)) (by decide) dX10_isOtherWay_181 ?_
              refine r_goto (pc := 182) (tgt := 186) hC dX10_isOtherWay_182 (by decide) ?_
              refine r_istore (pc := 186) hC rfl rfl dX10_isOtherWay_186 ?_
              refine r_iinc (pc := 188) hC (v := (1 : Int32)) rfl (by decide) rfl rfl dX10_isOtherWay_188 ?_
              refine r_goto (pc := 191) (tgt := 146) hC dX10_isOtherWay_191 (by decide) ?_
              exact ih146_9 (1 : Int32) (i8 + (1 : Int32))
  · refine r_iload_n (pc := 27) hC rfl dX10_isOtherWay_27 ?_
    refine r_iload_n (pc := 28) hC rfl dX10_isOtherWay_28 ?_
    refine r_isub (pc := 29) hC dX10_isOtherWay_29 ?_
    refine r_iconst (pc := 30) hC (v := (2 : Int32)) (by decide) dX10_isOtherWay_30 ?_
    refine r_icmp_ne (pc := 31) (tgt := 64) hC dX10_isOtherWay_31 (by decide) ?_ ?_
    · refine r_aload_n (pc := 64) hC rfl dX10_isOtherWay_64 ?_
      refine r_aload_n (pc := 65) hC rfl dX10_isOtherWay_65 ?_
      refine gM_0_28 (pc := 66) hC k_1065 dX10_isOtherWay_66 ?_
      refine r_iload_n (pc := 69) hC rfl dX10_isOtherWay_69 ?_
      refine aM_22 (pc := 70) hC dX10_isOtherWay_70 ?_
      refine r_cO (pc := 71) (rest := []) (fun r11 hf => runV [.int (gI σ 28 x1.toNatClampNeg)] hC (c_M_beats (kl κ) (kW κ) hC.2.2.2.2.2.2.2.2.1 (gI σ 28 x1.toNatClampNeg) σ r11 hf) o_X10_beats k_1224 (q0 := 0) (ci := 10) rfl rfl (rm_ok hR rfl) rfl (Nat.le_of_ble_eq_true rfl) dX10_isOtherWay_71) (fun r11 => ?_)
      refine r_aload_n (pc := 74) hC rfl dX10_isOtherWay_74 ?_
      refine gM_0_28 (pc := 75) hC k_1065 dX10_isOtherWay_75 ?_
      refine r_iload_n (pc := 78) hC rfl dX10_isOtherWay_78 ?_
      refine r_iconst (pc := 79) hC (v := (2 : Int32)) (by decide) dX10_isOtherWay_79 ?_
      refine r_iadd (pc := 80) hC dX10_isOtherWay_80 ?_
      refine aM_22 (pc := 81) hC dX10_isOtherWay_81 ?_
      refine r_cT (pc := 82) (rest := []) (runS [.int r11, .int (gI σ 28 (x1 + (2 : Int32)).toNatClampNeg)] hC (c_M_has (kl κ) (kW κ) hC.2.2.2.2.2.2.2.2.1 r11 (gI σ 28 (x1 + (2 : Int32)).toNatClampNeg) σ) o_X10_has k_1194 (rm_ok hR rfl) rfl (Nat.le_of_ble_eq_true rfl) dX10_isOtherWay_82) ?_
      refine r_if_eq (pc := 85) (tgt := 114) hC dX10_isOtherWay_85 (by decide) ?_ ?_
      · refine r_iconst (pc := 114) hC (v := (1 : Int32)) (by decide) dX10_isOtherWay_114 ?_
        refine r_goto (pc := 115) (tgt := 119) hC dX10_isOtherWay_115 (by decide) ?_
        exact r_retO hC rfl dX10_isOtherWay_119
      · refine r_aload_n (pc := 88) hC rfl dX10_isOtherWay_88 ?_
        refine r_aload_n (pc := 89) hC rfl dX10_isOtherWay_89 ?_
        refine gM_0_28 (pc := 90) hC k_1065 dX10_isOtherWay_90 ?_
        refine r_iload_n (pc := 93) hC rfl dX10_isOtherWay_93 ?_
        refine r_iconst (pc := 94) hC (v := (2 : Int32)) (by decide) dX10_isOtherWay_94 ?_
        refine r_iadd (pc := 95) hC dX10_isOtherWay_95 ?_
        refine aM_22 (pc := 96) hC dX10_isOtherWay_96 ?_
        refine r_cO (pc := 97) (rest := []) (fun r12 hf => runV [.int (gI σ 28 (x1 + (2 : Int32)).toNatClampNeg)] hC (c_M_beats (kl κ) (kW κ) hC.2.2.2.2.2.2.2.2.1 (gI σ 28 (x1 + (2 : Int32)).toNatClampNeg) σ r12 hf) o_X10_beats k_1224 (q0 := 0) (ci := 10) rfl rfl (rm_ok hR rfl) rfl (Nat.le_of_ble_eq_true rfl) dX10_isOtherWay_97) (fun r12 => ?_)
        refine r_aload_n (pc := 100) hC rfl dX10_isOtherWay_100 ?_
        refine gM_0_28 (pc := 101) hC k_1065 dX10_isOtherWay_101 ?_
        refine r_iload_n (pc := 104) hC rfl dX10_isOtherWay_104 ?_
        refine r_iconst (pc := 105) hC (v := (1 : Int32)) (by decide) dX10_isOtherWay_105 ?_
        refine r_iadd (pc := 106) hC dX10_isOtherWay_106 ?_
        refine aM_22 (pc := 107) hC dX10_isOtherWay_107 ?_
        refine r_cT (pc := 108) (rest := []) (runS [.int r12, .int (gI σ 28 (x1 + (1 : Int32)).toNatClampNeg)] hC (c_M_has (kl κ) (kW κ) hC.2.2.2.2.2.2.2.2.1 r12 (gI σ 28 (x1 + (1 : Int32)).toNatClampNeg) σ) o_X10_has k_1194 (rm_ok hR rfl) rfl (Nat.le_of_ble_eq_true rfl) dX10_isOtherWay_108) ?_
        refine r_if_ne (pc := 111) (tgt := 118) hC dX10_isOtherWay_111 (by decide) ?_ ?_
        · refine r_iconst (pc := 118) hC (v := (0 : Int32)) (by decide) dX10_isOtherWay_118 ?_
          exact r_retO hC rfl dX10_isOtherWay_119
        · refine r_iconst (pc := 114) hC (v := (1 : Int32)) (by decide) dX10_isOtherWay_114 ?_
          refine r_goto (pc := 115) (tgt := 119) hC dX10_isOtherWay_115 (by decide) ?_
          exact r_retO hC rfl dX10_isOtherWay_119
    · refine r_aload_n (pc := 34) hC rfl dX10_isOtherWay_34 ?_
      refine r_aload_n (pc := 35) hC rfl dX10_isOtherWay_35 ?_
      refine gM_0_28 (pc := 36) hC k_1065 dX10_isOtherWay_36 ?_
      refine r_iload_n (pc := 39) hC rfl dX10_isOtherWay_39 ?_
      refine aM_22 (pc := 40) hC dX10_isOtherWay_40 ?_
      refine r_cO (pc := 41) (rest := []) (fun r13 hf => runV [.int (gI σ 28 x1.toNatClampNeg)] hC (c_M_beats (kl κ) (kW κ) hC.2.2.2.2.2.2.2.2.1 (gI σ 28 x1.toNatClampNeg) σ r13 hf) o_X10_beats k_1224 (q0 := 0) (ci := 10) rfl rfl (rm_ok hR rfl) rfl (Nat.le_of_ble_eq_true rfl) dX10_isOtherWay_41) (fun r13 => ?_)
      refine r_aload_n (pc := 44) hC rfl dX10_isOtherWay_44 ?_
      refine gM_0_28 (pc := 45) hC k_1065 dX10_isOtherWay_45 ?_
      refine r_iload_n (pc := 48) hC rfl dX10_isOtherWay_48 ?_
      refine r_iconst (pc := 49) hC (v := (1 : Int32)) (by decide) dX10_isOtherWay_49 ?_
      refine r_iadd (pc := 50) hC dX10_isOtherWay_50 ?_
      refine aM_22 (pc := 51) hC dX10_isOtherWay_51 ?_
      refine r_cT (pc := 52) (rest := []) (runS [.int r13, .int (gI σ 28 (x1 + (1 : Int32)).toNatClampNeg)] hC (c_M_has (kl κ) (kW κ) hC.2.2.2.2.2.2.2.2.1 r13 (gI σ 28 (x1 + (1 : Int32)).toNatClampNeg) σ) o_X10_has k_1194 (rm_ok hR rfl) rfl (Nat.le_of_ble_eq_true rfl) dX10_isOtherWay_52) ?_
      refine r_if_ne (pc := 55) (tgt := 62) hC dX10_isOtherWay_55 (by decide) ?_ ?_
      · refine r_iconst (pc := 62) hC (v := (0 : Int32)) (by decide) dX10_isOtherWay_62 ?_
        exact r_retO hC rfl dX10_isOtherWay_63
      · refine r_iconst (pc := 58) hC (v := (1 : Int32)) (by decide) dX10_isOtherWay_58 ?_
        refine r_goto (pc := 59) (tgt := 63) hC dX10_isOtherWay_59 (by decide) ?_
        exact r_retO hC rfl dX10_isOtherWay_63
set_option maxRecDepth 100000 in
set_option maxHeartbeats 4000000 in
theorem c_M_isOtherWay (l : Launch) (w : Wenv) (hw : okw w wM) (N : Nat) (a1 : Int32) (σ : Mem) (r : Int32) (hf : f_M_isOtherWay N a1 σ = some r) : Ctr l w wM yX10_isOtherWay cX10_isOtherWay 7 (some .boolean) 1 21 [.ref (w.2.2.1 0), .int a1] σ (cQi w wM r σ) := mk_ctr (Q := fun κ => qO κ wM σ) (lv := [some (.ref (w.2.2.1 0)), some (.int a1), none, none, none, none, none]) (by decide) rfl hw (Nat.le_of_ble_eq_true rfl) rfl hf (fun κ h => by subst h; rfl) (fun κ hl h hR hC => by
    subst h
    exact w_M_isOtherWay hR hC N a1 σ)
-- DuelRoundModel.isTopped(I)Z (0, None) kind O
def M_isTopped_B4 (N : Nat) (σ : Mem) (a1 : Int32) (self3 : Int32 → Int32 → Option Int32) (i1 : Int32) (i2 : Int32) : Option Int32 :=
  if (t_M_many σ) ≤ i2 then
  (gd (isb i1) (some i1))
  else
  (if i1 = (0 : Int32) then
  (ob (f_M_lettersOf N a1 σ) fun r4 =>
  ob (f_M_beats i2 σ) fun r5 =>
  if (t_M_isWithin r4 r5) = (0 : Int32) then
  (self3 (0 : Int32) (i2 + (1 : Int32)))
  else
  (self3 (1 : Int32) (i2 + (1 : Int32))))
  else
  (self3 (1 : Int32) (i2 + (1 : Int32))))
def f_M_isTopped (N : Nat) (a1 : Int32) (σ : Mem) : Option Int32 :=
  it2 (M_isTopped_B4 N σ a1) N (0 : Int32) (0 : Int32)
set_option maxRecDepth 100000 in
set_option maxHeartbeats 4000000 in
theorem w_M_isTopped {κ : Ctx} (hR : kR κ = { frames := 2, cells := 0, slots := 0, locals := 44 }) (hC : ok κ wM cX10_isTopped 4 RX10 (some .boolean)) (N : Nat) (a1 : Int32) (σ : Mem) : wF κ wM 4 (qO κ wM σ) σ 0 [some (.ref (ad κ 0)), some (.int a1), none, none] [] (f_M_isTopped N a1 σ) := by
  unfold f_M_isTopped
  refine r_iconst (pc := 0) hC (v := (0 : Int32)) (by decide) dX10_isTopped_0 ?_
  refine r_istore_n (pc := 1) hC rfl rfl dX10_isTopped_1 ?_
  refine r_iconst (pc := 2) hC (v := (0 : Int32)) (by decide) dX10_isTopped_2 ?_
  refine r_istore_n (pc := 3) hC rfl rfl dX10_isTopped_3 ?_
  refine w_it2 (fun i1 i2 => σ) (fun i1 i2 => [some (.ref (ad κ 0)), some (.int a1), some (.int i1), some (.int i2)]) (fun self3 ih4_3 i1 i2 => ?_) N (0 : Int32) (0 : Int32)
  unfold M_isTopped_B4
  refine r_iload_n (pc := 4) hC rfl dX10_isTopped_4 ?_
  refine r_aload_n (pc := 5) hC rfl dX10_isTopped_5 ?_
  refine r_cT (pc := 6) (rest := [.int i2]) (runV [] hC (c_M_many (kl κ) (kW κ) hC.2.2.2.2.2.2.2.2.1 σ) o_X10_many k_1274 (q0 := 0) (ci := 10) rfl rfl (rm_ok hR rfl) rfl (Nat.le_of_ble_eq_true rfl) dX10_isTopped_6) ?_
  refine r_icmp_ge (pc := 9) (tgt := 44) hC dX10_isTopped_9 (by decide) ?_ ?_
  · refine r_iload_n (pc := 44) hC rfl dX10_isTopped_44 ?_
    exact r_retOb hC dX10_isTopped_45
  · refine r_iload_n (pc := 12) hC rfl dX10_isTopped_12 ?_
    refine r_if_ne (pc := 13) (tgt := 32) hC dX10_isTopped_13 (by decide) ?_ ?_
    · refine r_iconst (pc := 32) hC (v := (1 : Int32)) (by decide) dX10_isTopped_32 ?_
      refine r_goto (pc := 33) (tgt := 37) hC dX10_isTopped_33 (by decide) ?_
      refine r_istore_n (pc := 37) hC rfl rfl dX10_isTopped_37 ?_
      refine r_iinc (pc := 38) hC (v := (1 : Int32)) rfl (by decide) rfl rfl dX10_isTopped_38 ?_
      refine r_goto (pc := 41) (tgt := 4) hC dX10_isTopped_41 (by decide) ?_
      exact ih4_3 (1 : Int32) (i2 + (1 : Int32))
    · refine r_aload_n (pc := 16) hC rfl dX10_isTopped_16 ?_
      refine r_iload_n (pc := 17) hC rfl dX10_isTopped_17 ?_
      refine r_cO (pc := 18) (rest := []) (fun r4 hf => runV [.int a1] hC (c_M_lettersOf (kl κ) (kW κ) hC.2.2.2.2.2.2.2.2.1 N a1 σ r4 hf) o_X10_lettersOf k_1494 (q0 := 0) (ci := 10) rfl rfl (rm_ok hR rfl) rfl (Nat.le_of_ble_eq_true rfl) dX10_isTopped_18) (fun r4 => ?_)
      refine r_aload_n (pc := 21) hC rfl dX10_isTopped_21 ?_
      refine r_iload_n (pc := 22) hC rfl dX10_isTopped_22 ?_
      refine r_cO (pc := 23) (rest := [.int r4]) (fun r5 hf => runV [.int i2] hC (c_M_beats (kl κ) (kW κ) hC.2.2.2.2.2.2.2.2.1 i2 σ r5 hf) o_X10_beats k_1224 (q0 := 0) (ci := 10) rfl rfl (rm_ok hR rfl) rfl (Nat.le_of_ble_eq_true rfl) dX10_isTopped_23) (fun r5 => ?_)
      refine r_cT (pc := 26) (rest := []) (runS [.int r4, .int r5] hC (c_M_isWithin (kl κ) (kW κ) hC.2.2.2.2.2.2.2.2.1 r4 r5 σ) o_X10_isWithin k_1236 (rm_ok hR rfl) rfl (Nat.le_of_ble_eq_true rfl) dX10_isTopped_26) ?_
      refine r_if_eq (pc := 29) (tgt := 36) hC dX10_isTopped_29 (by decide) ?_ ?_
      · refine r_iconst (pc := 36) hC (v := (0 : Int32)) (by decide) dX10_isTopped_36 ?_
        refine r_istore_n (pc := 37) hC rfl rfl dX10_isTopped_37 ?_
        refine r_iinc (pc := 38) hC (v := (1 : Int32)) rfl (by decide) rfl rfl dX10_isTopped_38 ?_
        refine r_goto (pc := 41) (tgt := 4) hC dX10_isTopped_41 (by decide) ?_
        exact ih4_3 (0 : Int32) (i2 + (1 : Int32))
      · refine r_iconst (pc := 32) hC (v := (1 : Int32)) (by decide) dX10_isTopped_32 ?_
        refine r_goto (pc := 33) (tgt := 37) hC dX10_isTopped_33 (by decide) ?_
        refine r_istore_n (pc := 37) hC rfl rfl dX10_isTopped_37 ?_
        refine r_iinc (pc := 38) hC (v := (1 : Int32)) rfl (by decide) rfl rfl dX10_isTopped_38 ?_
        refine r_goto (pc := 41) (tgt := 4) hC dX10_isTopped_41 (by decide) ?_
        exact ih4_3 (1 : Int32) (i2 + (1 : Int32))
set_option maxRecDepth 100000 in
set_option maxHeartbeats 4000000 in
theorem c_M_isTopped (l : Launch) (w : Wenv) (hw : okw w wM) (N : Nat) (a1 : Int32) (σ : Mem) (r : Int32) (hf : f_M_isTopped N a1 σ = some r) : Ctr l w wM yX10_isTopped cX10_isTopped 4 (some .boolean) 2 44 [.ref (w.2.2.1 0), .int a1] σ (cQi w wM r σ) := mk_ctr (Q := fun κ => qO κ wM σ) (lv := [some (.ref (w.2.2.1 0)), some (.int a1), none, none]) (by decide) rfl hw (Nat.le_of_ble_eq_true rfl) rfl hf (fun κ h => by subst h; rfl) (fun κ hl h hR hC => by
    subst h
    exact w_M_isTopped hR hC N a1 σ)
-- DuelRoundModel.sumOf(I)I (0, None) kind O
def M_sumOf_B9 (σ : Mem) (a1 : Int32) (self4 : Int32 → Int32 → Option Int32) (i2 : Int32) (i3 : Int32) : Option Int32 :=
  ob (f_M_lineEnd a1 σ) fun r5 =>
  if r5 ≤ i3 then
  (some i2)
  else
  (gd (inb i3 300) (if (gI σ 28 i3.toNatClampNeg) < (100 : Int32) then
  (bnd (i2 + (0 : Int32)) fun x6 =>
  self4 x6 (i3 + (1 : Int32)))
  else
  (gd (inb i3 300) (bnd (i2 + ((gI σ 28 i3.toNatClampNeg) - (100 : Int32))) fun x7 =>
  self4 x7 (i3 + (1 : Int32))))))
def f_M_sumOf (N : Nat) (a1 : Int32) (σ : Mem) : Option Int32 :=
  gd (inb a1 152) (bnd (gI σ 29 a1.toNatClampNeg) fun x1 =>
  it2 (M_sumOf_B9 σ a1) N (0 : Int32) x1)
set_option maxRecDepth 100000 in
set_option maxHeartbeats 4000000 in
theorem w_M_sumOf {κ : Ctx} (hR : kR κ = { frames := 1, cells := 0, slots := 0, locals := 21 }) (hC : ok κ wM cX10_sumOf 4 RX10 (some .int)) (N : Nat) (a1 : Int32) (σ : Mem) : wF κ wM 4 (qO κ wM σ) σ 0 [some (.ref (ad κ 0)), some (.int a1), none, none] [] (f_M_sumOf N a1 σ) := by
  unfold f_M_sumOf
  refine r_iconst (pc := 0) hC (v := (0 : Int32)) (by decide) dX10_sumOf_0 ?_
  refine r_istore_n (pc := 1) hC rfl rfl dX10_sumOf_1 ?_
  refine r_aload_n (pc := 2) hC rfl dX10_sumOf_2 ?_
  refine gM_0_29 (pc := 3) hC k_1066 dX10_sumOf_3 ?_
  refine r_iload_n (pc := 6) hC rfl dX10_sumOf_6 ?_
  refine aM_23 (pc := 7) hC dX10_sumOf_7 ?_
  refine r_let (fun x1 => ?_)
  refine r_istore_n (pc := 8) hC rfl rfl dX10_sumOf_8 ?_
  refine w_it2 (fun i2 i3 => σ) (fun i2 i3 => [some (.ref (ad κ 0)), some (.int a1), some (.int i2), some (.int i3)]) (fun self4 ih9_4 i2 i3 => ?_) N (0 : Int32) x1
  unfold M_sumOf_B9
  refine r_iload_n (pc := 9) hC rfl dX10_sumOf_9 ?_
  refine r_aload_n (pc := 10) hC rfl dX10_sumOf_10 ?_
  refine r_iload_n (pc := 11) hC rfl dX10_sumOf_11 ?_
  refine r_cO (pc := 12) (rest := [.int i3]) (fun r5 hf => runV [.int a1] hC (c_M_lineEnd (kl κ) (kW κ) hC.2.2.2.2.2.2.2.2.1 a1 σ r5 hf) o_X10_lineEnd k_1498 (q0 := 0) (ci := 10) rfl rfl (rm_ok hR rfl) rfl (Nat.le_of_ble_eq_true rfl) dX10_sumOf_12) (fun r5 => ?_)
  refine r_icmp_ge (pc := 15) (tgt := 51) hC dX10_sumOf_15 (by decide) ?_ ?_
  · refine r_iload_n (pc := 51) hC rfl dX10_sumOf_51 ?_
    exact r_retO hC rfl dX10_sumOf_52
  · refine r_iload_n (pc := 18) hC rfl dX10_sumOf_18 ?_
    refine r_aload_n (pc := 19) hC rfl dX10_sumOf_19 ?_
    refine gM_0_28 (pc := 20) hC k_1065 dX10_sumOf_20 ?_
    refine r_iload_n (pc := 23) hC rfl dX10_sumOf_23 ?_
    refine aM_22 (pc := 24) hC dX10_sumOf_24 ?_
    refine r_bipush (pc := 25) hC (v := (100 : Int32)) (by decide) dX10_sumOf_25 ?_
    refine r_icmp_lt (pc := 27) (tgt := 42) hC dX10_sumOf_27 (by decide) ?_ ?_
    · refine r_iconst (pc := 42) hC (v := (0 : Int32)) (by decide) dX10_sumOf_42 ?_
      refine r_iadd (pc := 43) hC dX10_sumOf_43 ?_
      refine r_let (fun x6 => ?_)
      refine r_istore_n (pc := 44) hC rfl rfl dX10_sumOf_44 ?_
      refine r_iinc (pc := 45) hC (v := (1 : Int32)) rfl (by decide) rfl rfl dX10_sumOf_45 ?_
      refine r_goto (pc := 48) (tgt := 9) hC dX10_sumOf_48 (by decide) ?_
      exact ih9_4 x6 (i3 + (1 : Int32))
    · refine r_aload_n (pc := 30) hC rfl dX10_sumOf_30 ?_
      refine gM_0_28 (pc := 31) hC k_1065 dX10_sumOf_31 ?_
      refine r_iload_n (pc := 34) hC rfl dX10_sumOf_34 ?_
      refine aM_22 (pc := 35) hC dX10_sumOf_35 ?_
      refine r_bipush (pc := 36) hC (v := (100 : Int32)) (by decide) dX10_sumOf_36 ?_
      refine r_isub (pc := 38) hC dX10_sumOf_38 ?_
      refine r_goto (pc := 39) (tgt := 43) hC dX10_sumOf_39 (by decide) ?_
      refine r_iadd (pc := 43) hC dX10_sumOf_43 ?_
      refine r_let (fun x7 => ?_)
      refine r_istore_n (pc := 44) hC rfl rfl dX10_sumOf_44 ?_
      refine r_iinc (pc := 45) hC (v := (1 : Int32)) rfl (by decide) rfl rfl dX10_sumOf_45 ?_
      refine r_goto (pc := 48) (tgt := 9) hC dX10_sumOf_48 (by decide) ?_
      exact ih9_4 x7 (i3 + (1 : Int32))
set_option maxRecDepth 100000 in
set_option maxHeartbeats 4000000 in
theorem c_M_sumOf (l : Launch) (w : Wenv) (hw : okw w wM) (N : Nat) (a1 : Int32) (σ : Mem) (r : Int32) (hf : f_M_sumOf N a1 σ = some r) : Ctr l w wM yX10_sumOf cX10_sumOf 4 (some .int) 1 21 [.ref (w.2.2.1 0), .int a1] σ (cQi w wM r σ) := mk_ctr (Q := fun κ => qO κ wM σ) (lv := [some (.ref (w.2.2.1 0)), some (.int a1), none, none]) (by decide) rfl hw (Nat.le_of_ble_eq_true rfl) rfl hf (fun κ h => by subst h; rfl) (fun κ hl h hR hC => by
    subst h
    exact w_M_sumOf hR hC N a1 σ)
-- DuelRoundModel.isOtherWeights(I)Z (0, None) kind OM
def M_isOtherWeights_K146 (s1 : Mem) (r2 : Int32) (y6 : Int32) (y7 : Int32) : Option (Int32 × Mem) :=
  if y6 = (0 : Int32) then
  (if (t_M_isWithin r2 y7) = (0 : Int32) then
  (some ((1 : Int32), s1))
  else
  (some ((0 : Int32), s1)))
  else
  (some ((1 : Int32), s1))
def M_isOtherWeights_B73 (s1 : Mem) (a1 : Int32) (r2 : Int32) (y3 : Int32) (r4 : Int32) (self11 : Int32 → Int32 → Int32 → Option (Int32 × Mem)) (i8 : Int32) (i9 : Int32) (i10 : Int32) : Option (Int32 × Mem) :=
  ob (f_M_lineEnd a1 s1) fun r12 =>
  if r12 ≤ i10 then
  (M_isOtherWeights_K146 s1 r2 i8 i9)
  else
  (gd (inb i10 300) (bnd (gI s1 28 i10.toNatClampNeg) fun x13 =>
  bnd (i9 ||| ((1 : Int32) <<< (x13 &&& 31))) fun x14 =>
  if i8 = (0 : Int32) then
  (gd (inb (i10 + (1 : Int32)) 300) (gd (inb x13 8) (if (((gI s1 28 (i10 + (1 : Int32)).toNatClampNeg) - (100 : Int32)) * y3) = ((gI s1 21 x13.toNatClampNeg) * r4) then
  (self11 (0 : Int32) x14 (i10 + (2 : Int32)))
  else
  (self11 (1 : Int32) x14 (i10 + (2 : Int32))))))
  else
  (self11 (1 : Int32) x14 (i10 + (2 : Int32)))))
def M_isOtherWeights_K52 (N : Nat) (s1 : Mem) (a1 : Int32) (r2 : Int32) (y3 : Int32) : Option (Int32 × Mem) :=
  ob (f_M_sumOf N a1 s1) fun r4 =>
  gd (inb a1 152) (bnd (gI s1 29 a1.toNatClampNeg) fun x5 =>
  it3 (M_isOtherWeights_B73 s1 a1 r2 y3 r4) N (0 : Int32) (0 : Int32) x5)
def M_isOtherWeights_B14 (N : Nat) (s1 : Mem) (a1 : Int32) (r2 : Int32) (self17 : Int32 → Int32 → Option (Int32 × Mem)) (i15 : Int32) (i16 : Int32) : Option (Int32 × Mem) :=
  if (t_M_many s1) ≤ i16 then
  (M_isOtherWeights_K52 N s1 a1 r2 i15)
  else
  (if (t_M_has r2 i16) = (0 : Int32) then
  (bnd (i15 + (0 : Int32)) fun x18 =>
  self17 x18 (i16 + (1 : Int32)))
  else
  (gd (inb i16 8) (bnd (i15 + (gI s1 21 i16.toNatClampNeg)) fun x19 =>
  self17 x19 (i16 + (1 : Int32)))))
def f_M_isOtherWeights (N : Nat) (a1 : Int32) (σ : Mem) : Option (Int32 × Mem) :=
  ob2 (f_M_balanced N (t_M_all σ) σ) fun r2 s1 =>
  it2 (M_isOtherWeights_B14 N s1 a1 r2) N (0 : Int32) (0 : Int32)
set_option maxRecDepth 100000 in
set_option maxHeartbeats 4000000 in
theorem w_M_isOtherWeights {κ : Ctx} (hR : kR κ = { frames := 5, cells := 0, slots := 0, locals := 111 }) (hC : ok κ wM cX10_isOtherWeights 9 RX10 (some .boolean)) (N : Nat) (a1 : Int32) (σ : Mem) : wF κ wM 9 (qOM κ wM) σ 0 [some (.ref (ad κ 0)), some (.int a1), none, none, none, none, none, none, none] [] (f_M_isOtherWeights N a1 σ) := by
  unfold f_M_isOtherWeights
  refine r_aload_n (pc := 0) hC rfl dX10_isOtherWeights_0 ?_
  refine r_aload_n (pc := 1) hC rfl dX10_isOtherWeights_1 ?_
  refine r_cT (pc := 2) (rest := [.ref (ad κ 0)]) (runV [] hC (c_M_all (kl κ) (kW κ) hC.2.2.2.2.2.2.2.2.1 σ) o_X10_all k_1228 (q0 := 0) (ci := 10) rfl rfl (rm_ok hR rfl) rfl (Nat.le_of_ble_eq_true rfl) dX10_isOtherWeights_2) ?_
  refine r_cOM (pc := 5) (rest := []) (fun r2 s1 hf => runV [.int (t_M_all σ)] hC (c_M_balanced (kl κ) (kW κ) hC.2.2.2.2.2.2.2.2.1 N (t_M_all σ) σ r2 s1 hf) o_X10_balanced k_1345 (q0 := 0) (ci := 10) rfl rfl (rm_ok hR rfl) rfl (Nat.le_of_ble_eq_true rfl) dX10_isOtherWeights_5) (fun r2 s1 => ?_)
  refine r_istore_n (pc := 8) hC rfl rfl dX10_isOtherWeights_8 ?_
  refine r_iconst (pc := 9) hC (v := (0 : Int32)) (by decide) dX10_isOtherWeights_9 ?_
  refine r_istore_n (pc := 10) hC rfl rfl dX10_isOtherWeights_10 ?_
  refine r_iconst (pc := 11) hC (v := (0 : Int32)) (by decide) dX10_isOtherWeights_11 ?_
  refine r_istore (pc := 12) hC rfl rfl dX10_isOtherWeights_12 ?_
  have hK52_14 : ∀ (y3 : Int32), wF κ wM 9 (qOM κ wM) s1 52 [some (.ref (ad κ 0)), some (.int a1), some (.int r2), some (.int y3), none, none, none, none, none] [] (M_isOtherWeights_K52 N s1 a1 r2 y3) := by
    intro y3
    unfold M_isOtherWeights_K52
    refine r_aload_n (pc := 52) hC rfl dX10_isOtherWeights_52 ?_
    refine r_iload_n (pc := 53) hC rfl dX10_isOtherWeights_53 ?_
    refine r_cO (pc := 54) (rest := []) (fun r4 hf => runV [.int a1] hC (c_M_sumOf (kl κ) (kW κ) hC.2.2.2.2.2.2.2.2.1 N a1 s1 r4 hf) o_X10_sumOf k_1514 (q0 := 0) (ci := 10) rfl rfl (rm_ok hR rfl) rfl (Nat.le_of_ble_eq_true rfl) dX10_isOtherWeights_54) (fun r4 => ?_)
    refine r_istore (pc := 57) hC rfl rfl dX10_isOtherWeights_57 ?_
    refine r_iconst (pc := 59) hC (v := (0 : Int32)) (by decide) dX10_isOtherWeights_59 ?_
    refine r_istore (pc := 60) hC rfl rfl dX10_isOtherWeights_60 ?_
    refine r_iconst (pc := 62) hC (v := (0 : Int32)) (by decide) dX10_isOtherWeights_62 ?_
    refine r_istore (pc := 63) hC rfl rfl dX10_isOtherWeights_63 ?_
    refine r_aload_n (pc := 65) hC rfl dX10_isOtherWeights_65 ?_
    refine gM_0_29 (pc := 66) hC k_1066 dX10_isOtherWeights_66 ?_
    refine r_iload_n (pc := 69) hC rfl dX10_isOtherWeights_69 ?_
    refine aM_23 (pc := 70) hC dX10_isOtherWeights_70 ?_
    refine r_let (fun x5 => ?_)
    refine r_istore (pc := 71) hC rfl rfl dX10_isOtherWeights_71 ?_
    have hK146_7 : ∀ (y6 : Int32) (y7 : Int32), wF κ wM 9 (qOM κ wM) s1 146 [none, none, some (.int r2), none, none, some (.int y6), some (.int y7), none, none] [] (M_isOtherWeights_K146 s1 r2 y6 y7) := by
      intro y6 y7
      unfold M_isOtherWeights_K146
      refine r_iload (pc := 146) hC rfl dX10_isOtherWeights_146 ?_
      refine r_if_ne (pc := 148) (tgt := 160) hC dX10_isOtherWeights_148 (by decide) ?_ ?_
      · refine r_iconst (pc := 160) hC (v := (1 : Int32)) (by decide) dX10_isOtherWeights_160 ?_
        refine r_goto (pc := 161) (tgt := 165) hC dX10_isOtherWeights_161 (by decide) ?_
        exact r_retOM hC rfl dX10_isOtherWeights_165
      · refine r_iload_n (pc := 151) hC rfl dX10_isOtherWeights_151 ?_
        refine r_iload (pc := 152) hC rfl dX10_isOtherWeights_152 ?_
        refine r_cT (pc := 154) (rest := []) (runS [.int r2, .int y7] hC (c_M_isWithin (kl κ) (kW κ) hC.2.2.2.2.2.2.2.2.1 r2 y7 s1) o_X10_isWithin k_1236 (rm_ok hR rfl) rfl (Nat.le_of_ble_eq_true rfl) dX10_isOtherWeights_154) ?_
        refine r_if_ne (pc := 157) (tgt := 164) hC dX10_isOtherWeights_157 (by decide) ?_ ?_
        · refine r_iconst (pc := 164) hC (v := (0 : Int32)) (by decide) dX10_isOtherWeights_164 ?_
          exact r_retOM hC rfl dX10_isOtherWeights_165
        · refine r_iconst (pc := 160) hC (v := (1 : Int32)) (by decide) dX10_isOtherWeights_160 ?_
          refine r_goto (pc := 161) (tgt := 165) hC dX10_isOtherWeights_161 (by decide) ?_
          exact r_retOM hC rfl dX10_isOtherWeights_165
    refine w_it3 (fun i8 i9 i10 => s1) (fun i8 i9 i10 => [some (.ref (ad κ 0)), some (.int a1), some (.int r2), some (.int y3), some (.int r4), some (.int i8), some (.int i9), some (.int i10), none]) (fun self11 ih73_11 i8 i9 i10 => ?_) N (0 : Int32) (0 : Int32) x5
    unfold M_isOtherWeights_B73
    refine r_iload (pc := 73) hC rfl dX10_isOtherWeights_73 ?_
    refine r_aload_n (pc := 75) hC rfl dX10_isOtherWeights_75 ?_
    refine r_iload_n (pc := 76) hC rfl dX10_isOtherWeights_76 ?_
    refine r_cO (pc := 77) (rest := [.int i10]) (fun r12 hf => runV [.int a1] hC (c_M_lineEnd (kl κ) (kW κ) hC.2.2.2.2.2.2.2.2.1 a1 s1 r12 hf) o_X10_lineEnd k_1498 (q0 := 0) (ci := 10) rfl rfl (rm_ok hR rfl) rfl (Nat.le_of_ble_eq_true rfl) dX10_isOtherWeights_77) (fun r12 => ?_)
    refine r_icmp_ge (pc := 80) (tgt := 146) hC dX10_isOtherWeights_80 (by decide) ?_ ?_
    · exact r_wk [false, false, true, false, false, true, true, false, false] (hK146_7 i8 i9)
    · refine r_aload_n (pc := 83) hC rfl dX10_isOtherWeights_83 ?_
      refine gM_0_28 (pc := 84) hC k_1065 dX10_isOtherWeights_84 ?_
      refine r_iload (pc := 87) hC rfl dX10_isOtherWeights_87 ?_
      refine aM_22 (pc := 89) hC dX10_isOtherWeights_89 ?_
      refine r_let (fun x13 => ?_)
      refine r_istore (pc := 90) hC rfl rfl dX10_isOtherWeights_90 ?_
      refine r_iload (pc := 92) hC rfl dX10_isOtherWeights_92 ?_
      refine r_iconst (pc := 94) hC (v := (1 : Int32)) (by decide) dX10_isOtherWeights_94 ?_
      refine r_iload (pc := 95) hC rfl dX10_isOtherWeights_95 ?_
      refine r_ishl (pc := 97) hC dX10_isOtherWeights_97 ?_
      refine r_ior (pc := 98) hC dX10_isOtherWeights_98 ?_
      refine r_let (fun x14 => ?_)
      refine r_istore (pc := 99) hC rfl rfl dX10_isOtherWeights_99 ?_
      refine r_iload (pc := 101) hC rfl dX10_isOtherWeights_101 ?_
      refine r_if_ne (pc := 103) (tgt := 133) hC dX10_isOtherWeights_103 (by decide) ?_ ?_
      · refine r_iconst (pc := 133) hC (v := (1 : Int32)) (by decide) dX10_isOtherWeights_133 ?_
        refine r_goto (pc := 134) (tgt := 138) hC dX10_isOtherWeights_134 (by decide) ?_
        refine r_istore (pc := 138) hC rfl rfl dX10_isOtherWeights_138 ?_
        refine r_iinc (pc := 140) hC (v := (2 : Int32)) rfl (by decide) rfl rfl dX10_isOtherWeights_140 ?_
        refine r_goto (pc := 143) (tgt := 73) hC dX10_isOtherWeights_143 (by decide) ?_
        exact r_wk [true, true, true, true, true, true, true, true, false] (ih73_11 (1 : Int32) x14 (i10 + (2 : Int32)))
      · refine r_aload_n (pc := 106) hC rfl dX10_isOtherWeights_106 ?_
        refine gM_0_28 (pc := 107) hC k_1065 dX10_isOtherWeights_107 ?_
        refine r_iload (pc := 110) hC rfl dX10_isOtherWeights_110 ?_
        refine r_iconst (pc := 112) hC (v := (1 : Int32)) (by decide) dX10_isOtherWeights_112 ?_
        refine r_iadd (pc := 113) hC dX10_isOtherWeights_113 ?_
        refine aM_22 (pc := 114) hC dX10_isOtherWeights_114 ?_
        refine r_bipush (pc := 115) hC (v := (100 : Int32)) (by decide) dX10_isOtherWeights_115 ?_
        refine r_isub (pc := 117) hC dX10_isOtherWeights_117 ?_
        refine r_iload_n (pc := 118) hC rfl dX10_isOtherWeights_118 ?_
        refine r_imul (pc := 119) hC dX10_isOtherWeights_119 ?_
        refine r_aload_n (pc := 120) hC rfl dX10_isOtherWeights_120 ?_
        refine gM_0_21 (pc := 121) hC k_1058 dX10_isOtherWeights_121 ?_
        refine r_iload (pc := 124) hC rfl dX10_isOtherWeights_124 ?_
        refine aM_15 (pc := 126) hC dX10_isOtherWeights_126 ?_
        refine r_iload (pc := 127) hC rfl dX10_isOtherWeights_127 ?_
        refine r_imul (pc := 129) hC dX10_isOtherWeights_129 ?_
        refine r_icmp_eq (pc := 130) (tgt := 137) hC dX10_isOtherWeights_130 (by decide) ?_ ?_
        · refine r_iconst (pc := 137) hC (v := (0 : Int32)) (by decide) dX10_isOtherWeights_137 ?_
          refine r_istore (pc := 138) hC rfl rfl dX10_isOtherWeights_138 ?_
          refine r_iinc (pc := 140) hC (v := (2 : Int32)) rfl (by decide) rfl rfl dX10_isOtherWeights_140 ?_
          refine r_goto (pc := 143) (tgt := 73) hC dX10_isOtherWeights_143 (by decide) ?_
          exact r_wk [true, true, true, true, true, true, true, true, false] (ih73_11 (0 : Int32) x14 (i10 + (2 : Int32)))
        · refine r_iconst (pc := 133) hC (v := (1 : Int32)) (by decide) dX10_isOtherWeights_133 ?_
          refine r_goto (pc := 134) (tgt := 138) hC dX10_isOtherWeights_134 (by decide) ?_
          refine r_istore (pc := 138) hC rfl rfl dX10_isOtherWeights_138 ?_
          refine r_iinc (pc := 140) hC (v := (2 : Int32)) rfl (by decide) rfl rfl dX10_isOtherWeights_140 ?_
          refine r_goto (pc := 143) (tgt := 73) hC dX10_isOtherWeights_143 (by decide) ?_
          exact r_wk [true, true, true, true, true, true, true, true, false] (ih73_11 (1 : Int32) x14 (i10 + (2 : Int32)))
  refine w_it2 (fun i15 i16 => s1) (fun i15 i16 => [some (.ref (ad κ 0)), some (.int a1), some (.int r2), some (.int i15), some (.int i16), none, none, none, none]) (fun self17 ih14_17 i15 i16 => ?_) N (0 : Int32) (0 : Int32)
  unfold M_isOtherWeights_B14
  refine r_iload (pc := 14) hC rfl dX10_isOtherWeights_14 ?_
  refine r_aload_n (pc := 16) hC rfl dX10_isOtherWeights_16 ?_
  refine r_cT (pc := 17) (rest := [.int i16]) (runV [] hC (c_M_many (kl κ) (kW κ) hC.2.2.2.2.2.2.2.2.1 s1) o_X10_many k_1274 (q0 := 0) (ci := 10) rfl rfl (rm_ok hR rfl) rfl (Nat.le_of_ble_eq_true rfl) dX10_isOtherWeights_17) ?_
  refine r_icmp_ge (pc := 20) (tgt := 52) hC dX10_isOtherWeights_20 (by decide) ?_ ?_
  · exact r_wk [true, true, true, true, false, false, false, false, false] (hK52_14 i15)
  · refine r_iload_n (pc := 23) hC rfl dX10_isOtherWeights_23 ?_
    refine r_iload_n (pc := 24) hC rfl dX10_isOtherWeights_24 ?_
    refine r_iload (pc := 25) hC rfl dX10_isOtherWeights_25 ?_
    refine r_cT (pc := 27) (rest := [.int i15]) (runS [.int r2, .int i16] hC (c_M_has (kl κ) (kW κ) hC.2.2.2.2.2.2.2.2.1 r2 i16 s1) o_X10_has k_1194 (rm_ok hR rfl) rfl (Nat.le_of_ble_eq_true rfl) dX10_isOtherWeights_27) ?_
    refine r_if_eq (pc := 30) (tgt := 43) hC dX10_isOtherWeights_30 (by decide) ?_ ?_
    · refine r_iconst (pc := 43) hC (v := (0 : Int32)) (by decide) dX10_isOtherWeights_43 ?_
      refine r_iadd (pc := 44) hC dX10_isOtherWeights_44 ?_
      refine r_let (fun x18 => ?_)
      refine r_istore_n (pc := 45) hC rfl rfl dX10_isOtherWeights_45 ?_
      refine r_iinc (pc := 46) hC (v := (1 : Int32)) rfl (by decide) rfl rfl dX10_isOtherWeights_46 ?_
      refine r_goto (pc := 49) (tgt := 14) hC dX10_isOtherWeights_49 (by decide) ?_
      exact ih14_17 x18 (i16 + (1 : Int32))
    · refine r_aload_n (pc := 33) hC rfl dX10_isOtherWeights_33 ?_
      refine gM_0_21 (pc := 34) hC k_1058 dX10_isOtherWeights_34 ?_
      refine r_iload (pc := 37) hC rfl dX10_isOtherWeights_37 ?_
      refine aM_15 (pc := 39) hC dX10_isOtherWeights_39 ?_
      refine r_goto (pc := 40) (tgt := 44) hC dX10_isOtherWeights_40 (by decide) ?_
      refine r_iadd (pc := 44) hC dX10_isOtherWeights_44 ?_
      refine r_let (fun x19 => ?_)
      refine r_istore_n (pc := 45) hC rfl rfl dX10_isOtherWeights_45 ?_
      refine r_iinc (pc := 46) hC (v := (1 : Int32)) rfl (by decide) rfl rfl dX10_isOtherWeights_46 ?_
      refine r_goto (pc := 49) (tgt := 14) hC dX10_isOtherWeights_49 (by decide) ?_
      exact ih14_17 x19 (i16 + (1 : Int32))
set_option maxRecDepth 100000 in
set_option maxHeartbeats 4000000 in
theorem c_M_isOtherWeights (l : Launch) (w : Wenv) (hw : okw w wM) (N : Nat) (a1 : Int32) (σ : Mem) (r : Int32) (τ : Mem) (hf : f_M_isOtherWeights N a1 σ = some (r, τ)) : Ctr l w wM yX10_isOtherWeights cX10_isOtherWeights 9 (some .boolean) 5 111 [.ref (w.2.2.1 0), .int a1] σ (cQi w wM r τ) := mk_ctr (Q := fun κ => qOM κ wM) (lv := [some (.ref (w.2.2.1 0)), some (.int a1), none, none, none, none, none, none, none]) (by decide) rfl hw (Nat.le_of_ble_eq_true rfl) rfl hf (fun κ h => by subst h; rfl) (fun κ hl h hR hC => by
    subst h
    exact w_M_isOtherWeights hR hC N a1 σ)
-- DuelRoundModel.isOtherOrder(I)Z (0, None) kind OM
def M_isOtherOrder_K84 (N : Nat) (σ : Mem) (x1 : Int32) (y2 : Int32) : Option (Int32 × Mem) :=
  ob (f_M_layOrders N σ) fun s3 =>
  gd (inb (x1 - (1 : Int32)) 300) (if y2 = ((gI s3 28 (x1 - (1 : Int32)).toNatClampNeg) - (100 : Int32)) then
  (gd (inb (t_M_all s3) 256) (if y2 = (gI s3 18 (t_M_all s3).toNatClampNeg) then
  (some ((0 : Int32), s3))
  else
  (some ((1 : Int32), s3))))
  else
  (some ((1 : Int32), s3)))
def M_isOtherOrder_B30 (σ : Mem) (a1 : Int32) (i5 : Int32) (self6 : Int32 → Int32 → Option (Int32 × Mem)) (self11 : Int32 → Int32 → Option (Int32 × Mem)) (i9 : Int32) (i10 : Int32) : Option (Int32 × Mem) :=
  ob (f_M_lineEnd a1 σ) fun r12 =>
  if r12 ≤ i10 then
  (self6 i9 (i5 + (1 : Int32)))
  else
  (gd (inb i10 300) (ob (f_M_beats (gI σ 28 i10.toNatClampNeg) σ) fun r13 =>
  gd (inb i5 300) (if (t_M_has r13 (gI σ 28 i5.toNatClampNeg)) = (0 : Int32) then
  (bnd (i9 + (0 : Int32)) fun x14 =>
  self11 x14 (i10 + (1 : Int32)))
  else
  (bnd (i9 + (1 : Int32)) fun x15 =>
  self11 x15 (i10 + (1 : Int32))))))
def M_isOtherOrder_B14 (N : Nat) (σ : Mem) (a1 : Int32) (x1 : Int32) (self6 : Int32 → Int32 → Option (Int32 × Mem)) (i4 : Int32) (i5 : Int32) : Option (Int32 × Mem) :=
  ob (f_M_lineEnd a1 σ) fun r7 =>
  if r7 ≤ i5 then
  (M_isOtherOrder_K84 N σ x1 i4)
  else
  (bnd (i5 + (1 : Int32)) fun x8 =>
  it2 (M_isOtherOrder_B30 σ a1 i5 self6) N i4 x8)
def f_M_isOtherOrder (N : Nat) (a1 : Int32) (σ : Mem) : Option (Int32 × Mem) :=
  gd (inb a1 152) (bnd ((gI σ 29 a1.toNatClampNeg) + (1 : Int32)) fun x1 =>
  it2 (M_isOtherOrder_B14 N σ a1 x1) N (0 : Int32) x1)
set_option maxRecDepth 100000 in
set_option maxHeartbeats 4000000 in
theorem w_M_isOtherOrder {κ : Ctx} (hR : kR κ = { frames := 4, cells := 0, slots := 0, locals := 85 }) (hC : ok κ wM cX10_isOtherOrder 6 RX10 (some .boolean)) (N : Nat) (a1 : Int32) (σ : Mem) : wF κ wM 6 (qOM κ wM) σ 0 [some (.ref (ad κ 0)), some (.int a1), none, none, none, none] [] (f_M_isOtherOrder N a1 σ) := by
  unfold f_M_isOtherOrder
  refine r_aload_n (pc := 0) hC rfl dX10_isOtherOrder_0 ?_
  refine gM_0_29 (pc := 1) hC k_1066 dX10_isOtherOrder_1 ?_
  refine r_iload_n (pc := 4) hC rfl dX10_isOtherOrder_4 ?_
  refine aM_23 (pc := 5) hC dX10_isOtherOrder_5 ?_
  refine r_iconst (pc := 6) hC (v := (1 : Int32)) (by decide) dX10_isOtherOrder_6 ?_
  refine r_iadd (pc := 7) hC dX10_isOtherOrder_7 ?_
  refine r_let (fun x1 => ?_)
  refine r_istore_n (pc := 8) hC rfl rfl dX10_isOtherOrder_8 ?_
  refine r_iconst (pc := 9) hC (v := (0 : Int32)) (by decide) dX10_isOtherOrder_9 ?_
  refine r_istore_n (pc := 10) hC rfl rfl dX10_isOtherOrder_10 ?_
  refine r_iload_n (pc := 11) hC rfl dX10_isOtherOrder_11 ?_
  refine r_istore (pc := 12) hC rfl rfl dX10_isOtherOrder_12 ?_
  have hK84_3 : ∀ (y2 : Int32), wF κ wM 6 (qOM κ wM) σ 84 [some (.ref (ad κ 0)), none, some (.int x1), some (.int y2), none, none] [] (M_isOtherOrder_K84 N σ x1 y2) := by
    intro y2
    unfold M_isOtherOrder_K84
    refine r_aload_n (pc := 84) hC rfl dX10_isOtherOrder_84 ?_
    refine r_cM (pc := 85) (rest := []) (fun s3 hf => runV [] hC (c_M_layOrders (kl κ) (kW κ) hC.2.2.2.2.2.2.2.2.1 N σ s3 hf) o_X10_layOrders k_1329 (q0 := 0) (ci := 10) rfl rfl (rm_ok hR rfl) rfl (Nat.le_of_ble_eq_true rfl) dX10_isOtherOrder_85) (fun s3 => ?_)
    refine r_iload_n (pc := 88) hC rfl dX10_isOtherOrder_88 ?_
    refine r_aload_n (pc := 89) hC rfl dX10_isOtherOrder_89 ?_
    refine gM_0_28 (pc := 90) hC k_1065 dX10_isOtherOrder_90 ?_
    refine r_iload_n (pc := 93) hC rfl dX10_isOtherOrder_93 ?_
    refine r_iconst (pc := 94) hC (v := (1 : Int32)) (by decide) dX10_isOtherOrder_94 ?_
    refine r_isub (pc := 95) hC dX10_isOtherOrder_95 ?_
    refine aM_22 (pc := 96) hC dX10_isOtherOrder_96 ?_
    refine r_bipush (pc := 97) hC (v := (100 : Int32)) (by decide) dX10_isOtherOrder_97 ?_
    refine r_isub (pc := 99) hC dX10_isOtherOrder_99 ?_
    refine r_icmp_ne (pc := 100) (tgt := 116) hC dX10_isOtherOrder_100 (by decide) ?_ ?_
    · refine r_iconst (pc := 116) hC (v := (1 : Int32)) (by decide) dX10_isOtherOrder_116 ?_
      refine r_goto (pc := 117) (tgt := 121) hC dX10_isOtherOrder_117 (by decide) ?_
      exact r_retOM hC rfl dX10_isOtherOrder_121
    · refine r_iload_n (pc := 103) hC rfl dX10_isOtherOrder_103 ?_
      refine r_aload_n (pc := 104) hC rfl dX10_isOtherOrder_104 ?_
      refine gM_0_18 (pc := 105) hC k_1055 dX10_isOtherOrder_105 ?_
      refine r_aload_n (pc := 108) hC rfl dX10_isOtherOrder_108 ?_
      refine r_cT (pc := 109) (rest := [.ref (ad κ 12), .int y2]) (runV [] hC (c_M_all (kl κ) (kW κ) hC.2.2.2.2.2.2.2.2.1 s3) o_X10_all k_1228 (q0 := 0) (ci := 10) rfl rfl (rm_ok hR rfl) rfl (Nat.le_of_ble_eq_true rfl) dX10_isOtherOrder_109) ?_
      refine aM_12 (pc := 112) hC dX10_isOtherOrder_112 ?_
      refine r_icmp_eq (pc := 113) (tgt := 120) hC dX10_isOtherOrder_113 (by decide) ?_ ?_
      · refine r_iconst (pc := 120) hC (v := (0 : Int32)) (by decide) dX10_isOtherOrder_120 ?_
        exact r_retOM hC rfl dX10_isOtherOrder_121
      · refine r_iconst (pc := 116) hC (v := (1 : Int32)) (by decide) dX10_isOtherOrder_116 ?_
        refine r_goto (pc := 117) (tgt := 121) hC dX10_isOtherOrder_117 (by decide) ?_
        exact r_retOM hC rfl dX10_isOtherOrder_121
  refine w_it2 (fun i4 i5 => σ) (fun i4 i5 => [some (.ref (ad κ 0)), some (.int a1), some (.int x1), some (.int i4), some (.int i5), none]) (fun self6 ih14_6 i4 i5 => ?_) N (0 : Int32) x1
  unfold M_isOtherOrder_B14
  refine r_iload (pc := 14) hC rfl dX10_isOtherOrder_14 ?_
  refine r_aload_n (pc := 16) hC rfl dX10_isOtherOrder_16 ?_
  refine r_iload_n (pc := 17) hC rfl dX10_isOtherOrder_17 ?_
  refine r_cO (pc := 18) (rest := [.int i5]) (fun r7 hf => runV [.int a1] hC (c_M_lineEnd (kl κ) (kW κ) hC.2.2.2.2.2.2.2.2.1 a1 σ r7 hf) o_X10_lineEnd k_1498 (q0 := 0) (ci := 10) rfl rfl (rm_ok hR rfl) rfl (Nat.le_of_ble_eq_true rfl) dX10_isOtherOrder_18) (fun r7 => ?_)
  refine r_icmp_ge (pc := 21) (tgt := 84) hC dX10_isOtherOrder_21 (by decide) ?_ ?_
  · exact r_wk [true, false, true, true, false, false] (hK84_3 i4)
  · refine r_iload (pc := 24) hC rfl dX10_isOtherOrder_24 ?_
    refine r_iconst (pc := 26) hC (v := (1 : Int32)) (by decide) dX10_isOtherOrder_26 ?_
    refine r_iadd (pc := 27) hC dX10_isOtherOrder_27 ?_
    refine r_let (fun x8 => ?_)
    refine r_istore (pc := 28) hC rfl rfl dX10_isOtherOrder_28 ?_
    refine w_it2 (fun i9 i10 => σ) (fun i9 i10 => [some (.ref (ad κ 0)), some (.int a1), some (.int x1), some (.int i9), some (.int i5), some (.int i10)]) (fun self11 ih30_11 i9 i10 => ?_) N i4 x8
    unfold M_isOtherOrder_B30
    refine r_iload (pc := 30) hC rfl dX10_isOtherOrder_30 ?_
    refine r_aload_n (pc := 32) hC rfl dX10_isOtherOrder_32 ?_
    refine r_iload_n (pc := 33) hC rfl dX10_isOtherOrder_33 ?_
    refine r_cO (pc := 34) (rest := [.int i10]) (fun r12 hf => runV [.int a1] hC (c_M_lineEnd (kl κ) (kW κ) hC.2.2.2.2.2.2.2.2.1 a1 σ r12 hf) o_X10_lineEnd k_1498 (q0 := 0) (ci := 10) rfl rfl (rm_ok hR rfl) rfl (Nat.le_of_ble_eq_true rfl) dX10_isOtherOrder_34) (fun r12 => ?_)
    refine r_icmp_ge (pc := 37) (tgt := 78) hC dX10_isOtherOrder_37 (by decide) ?_ ?_
    · refine r_iinc (pc := 78) hC (v := (1 : Int32)) rfl (by decide) rfl rfl dX10_isOtherOrder_78 ?_
      refine r_goto (pc := 81) (tgt := 14) hC dX10_isOtherOrder_81 (by decide) ?_
      exact r_wk [true, true, true, true, true, false] (ih14_6 i9 (i5 + (1 : Int32)))
    · refine r_iload_n (pc := 40) hC rfl dX10_isOtherOrder_40 ?_
      refine r_aload_n (pc := 41) hC rfl dX10_isOtherOrder_41 ?_
      refine r_aload_n (pc := 42) hC rfl dX10_isOtherOrder_42 ?_
      refine gM_0_28 (pc := 43) hC k_1065 dX10_isOtherOrder_43 ?_
      refine r_iload (pc := 46) hC rfl dX10_isOtherOrder_46 ?_
      refine aM_22 (pc := 48) hC dX10_isOtherOrder_48 ?_
      refine r_cO (pc := 49) (rest := [.int i9]) (fun r13 hf => runV [.int (gI σ 28 i10.toNatClampNeg)] hC (c_M_beats (kl κ) (kW κ) hC.2.2.2.2.2.2.2.2.1 (gI σ 28 i10.toNatClampNeg) σ r13 hf) o_X10_beats k_1224 (q0 := 0) (ci := 10) rfl rfl (rm_ok hR rfl) rfl (Nat.le_of_ble_eq_true rfl) dX10_isOtherOrder_49) (fun r13 => ?_)
      refine r_aload_n (pc := 52) hC rfl dX10_isOtherOrder_52 ?_
      refine gM_0_28 (pc := 53) hC k_1065 dX10_isOtherOrder_53 ?_
      refine r_iload (pc := 56) hC rfl dX10_isOtherOrder_56 ?_
      refine aM_22 (pc := 58) hC dX10_isOtherOrder_58 ?_
      refine r_cT (pc := 59) (rest := [.int i9]) (runS [.int r13, .int (gI σ 28 i5.toNatClampNeg)] hC (c_M_has (kl κ) (kW κ) hC.2.2.2.2.2.2.2.2.1 r13 (gI σ 28 i5.toNatClampNeg) σ) o_X10_has k_1194 (rm_ok hR rfl) rfl (Nat.le_of_ble_eq_true rfl) dX10_isOtherOrder_59) ?_
      refine r_if_eq (pc := 62) (tgt := 69) hC dX10_isOtherOrder_62 (by decide) ?_ ?_
      · refine r_iconst (pc := 69) hC (v := (0 : Int32)) (by decide) dX10_isOtherOrder_69 ?_
        refine r_iadd (pc := 70) hC dX10_isOtherOrder_70 ?_
        refine r_let (fun x14 => ?_)
        refine r_istore_n (pc := 71) hC rfl rfl dX10_isOtherOrder_71 ?_
        refine r_iinc (pc := 72) hC (v := (1 : Int32)) rfl (by decide) rfl rfl dX10_isOtherOrder_72 ?_
        refine r_goto (pc := 75) (tgt := 30) hC dX10_isOtherOrder_75 (by decide) ?_
        exact ih30_11 x14 (i10 + (1 : Int32))
      · refine r_iconst (pc := 65) hC (v := (1 : Int32)) (by decide) dX10_isOtherOrder_65 ?_
        refine r_goto (pc := 66) (tgt := 70) hC dX10_isOtherOrder_66 (by decide) ?_
        refine r_iadd (pc := 70) hC dX10_isOtherOrder_70 ?_
        refine r_let (fun x15 => ?_)
        refine r_istore_n (pc := 71) hC rfl rfl dX10_isOtherOrder_71 ?_
        refine r_iinc (pc := 72) hC (v := (1 : Int32)) rfl (by decide) rfl rfl dX10_isOtherOrder_72 ?_
        refine r_goto (pc := 75) (tgt := 30) hC dX10_isOtherOrder_75 (by decide) ?_
        exact ih30_11 x15 (i10 + (1 : Int32))
set_option maxRecDepth 100000 in
set_option maxHeartbeats 4000000 in
theorem c_M_isOtherOrder (l : Launch) (w : Wenv) (hw : okw w wM) (N : Nat) (a1 : Int32) (σ : Mem) (r : Int32) (τ : Mem) (hf : f_M_isOtherOrder N a1 σ = some (r, τ)) : Ctr l w wM yX10_isOtherOrder cX10_isOtherOrder 6 (some .boolean) 4 85 [.ref (w.2.2.1 0), .int a1] σ (cQi w wM r τ) := mk_ctr (Q := fun κ => qOM κ wM) (lv := [some (.ref (w.2.2.1 0)), some (.int a1), none, none, none, none]) (by decide) rfl hw (Nat.le_of_ble_eq_true rfl) rfl hf (fun κ h => by subst h; rfl) (fun κ hl h hR hC => by
    subst h
    exact w_M_isOtherOrder hR hC N a1 σ)
-- DuelRoundModel.isOther(I)Z (0, None) kind OM
def f_M_isOther (N : Nat) (a1 : Int32) (σ : Mem) : Option (Int32 × Mem) :=
  gd (inb a1 152) (swc (gI σ 30 a1.toNatClampNeg) [((99 : Int32), ob (f_M_lettersOf N a1 σ) fun r1 =>
  ob2 (f_M_isSo N r1 (0 : Int32) σ) fun r3 s2 =>
  if r3 = (0 : Int32) then
  (some ((1 : Int32), s2))
  else
  (some ((0 : Int32), s2))),
  ((114 : Int32), ob (f_M_lettersOf N a1 σ) fun r4 =>
  ob2 (f_M_isSo N r4 (1 : Int32) σ) fun r6 s5 =>
  if r6 = (0 : Int32) then
  (some ((1 : Int32), s5))
  else
  (some ((0 : Int32), s5))),
  ((115 : Int32), ob2 (f_M_isOtherOrder N a1 σ) fun r8 s7 =>
  gd (isb r8) (some (r8, s7))),
  ((119 : Int32), ob2 (f_M_isOtherWeights N a1 σ) fun r10 s9 =>
  gd (isb r10) (some (r10, s9)))]
  (some ((0 : Int32), σ)))
set_option maxRecDepth 100000 in
set_option maxHeartbeats 4000000 in
theorem w_M_isOther {κ : Ctx} (hR : kR κ = { frames := 6, cells := 0, slots := 0, locals := 139 }) (hC : ok κ wM cX10_isOther 2 RX10 (some .boolean)) (N : Nat) (a1 : Int32) (σ : Mem) : wF κ wM 2 (qOM κ wM) σ 0 [some (.ref (ad κ 0)), some (.int a1)] [] (f_M_isOther N a1 σ) := by
  unfold f_M_isOther
  refine r_aload_n (pc := 0) hC rfl dX10_isOther_0 ?_
  refine gM_0_30 (pc := 1) hC k_1067 dX10_isOther_1 ?_
  refine r_iload_n (pc := 4) hC rfl dX10_isOther_4 ?_
  refine aM_24 (pc := 5) hC dX10_isOther_5 ?_
  refine r_lookup (pc := 6) (tg := fun i => ([60, 79, 48, 54] : List Nat).getD i 0) (dt := 98) hC dX10_isOther_6 (by decide) (by decide) (fun i v a hi => ?_) (fun hno => ?_) ?_
  · have hl : i < 4 := (List.getElem?_eq_some_iff.mp hi).1
    rcases (show i = 0 ∨ i = 1 ∨ i = 2 ∨ i = 3 by omega) with rfl | rfl | rfl | rfl
    · cases hi
      refine ⟨by decide, ?_⟩
      refine r_aload_n (pc := 60) hC rfl dX10_isOther_60 ?_
      refine r_aload_n (pc := 61) hC rfl dX10_isOther_61 ?_
      refine r_iload_n (pc := 62) hC rfl dX10_isOther_62 ?_
      refine r_cO (pc := 63) (rest := [.ref (ad κ 0)]) (fun r1 hf => runV [.int a1] hC (c_M_lettersOf (kl κ) (kW κ) hC.2.2.2.2.2.2.2.2.1 N a1 σ r1 hf) o_X10_lettersOf k_1494 (q0 := 0) (ci := 10) rfl rfl (rm_ok hR rfl) rfl (Nat.le_of_ble_eq_true rfl) dX10_isOther_63) (fun r1 => ?_)
      refine r_iconst (pc := 66) hC (v := (0 : Int32)) (by decide) dX10_isOther_66 ?_
      refine r_cOM (pc := 67) (rest := []) (fun r3 s2 hf => runV [.int r1, .int (0 : Int32)] hC (c_M_isSo (kl κ) (kW κ) hC.2.2.2.2.2.2.2.2.1 N r1 (0 : Int32) σ r3 s2 hf) o_X10_isSo k_1434 (q0 := 0) (ci := 10) rfl rfl (rm_ok hR rfl) rfl (Nat.le_of_ble_eq_true rfl) dX10_isOther_67) (fun r3 s2 => ?_)
      refine r_if_ne (pc := 70) (tgt := 77) hC dX10_isOther_70 (by decide) ?_ ?_
      · refine r_iconst (pc := 77) hC (v := (0 : Int32)) (by decide) dX10_isOther_77 ?_
        exact r_retOM hC rfl dX10_isOther_78
      · refine r_iconst (pc := 73) hC (v := (1 : Int32)) (by decide) dX10_isOther_73 ?_
        refine r_goto (pc := 74) (tgt := 78) hC dX10_isOther_74 (by decide) ?_
        exact r_retOM hC rfl dX10_isOther_78
    · cases hi
      refine ⟨by decide, ?_⟩
      refine r_aload_n (pc := 79) hC rfl dX10_isOther_79 ?_
      refine r_aload_n (pc := 80) hC rfl dX10_isOther_80 ?_
      refine r_iload_n (pc := 81) hC rfl dX10_isOther_81 ?_
      refine r_cO (pc := 82) (rest := [.ref (ad κ 0)]) (fun r4 hf => runV [.int a1] hC (c_M_lettersOf (kl κ) (kW κ) hC.2.2.2.2.2.2.2.2.1 N a1 σ r4 hf) o_X10_lettersOf k_1494 (q0 := 0) (ci := 10) rfl rfl (rm_ok hR rfl) rfl (Nat.le_of_ble_eq_true rfl) dX10_isOther_82) (fun r4 => ?_)
      refine r_iconst (pc := 85) hC (v := (1 : Int32)) (by decide) dX10_isOther_85 ?_
      refine r_cOM (pc := 86) (rest := []) (fun r6 s5 hf => runV [.int r4, .int (1 : Int32)] hC (c_M_isSo (kl κ) (kW κ) hC.2.2.2.2.2.2.2.2.1 N r4 (1 : Int32) σ r6 s5 hf) o_X10_isSo k_1434 (q0 := 0) (ci := 10) rfl rfl (rm_ok hR rfl) rfl (Nat.le_of_ble_eq_true rfl) dX10_isOther_86) (fun r6 s5 => ?_)
      refine r_if_ne (pc := 89) (tgt := 96) hC dX10_isOther_89 (by decide) ?_ ?_
      · refine r_iconst (pc := 96) hC (v := (0 : Int32)) (by decide) dX10_isOther_96 ?_
        exact r_retOM hC rfl dX10_isOther_97
      · refine r_iconst (pc := 92) hC (v := (1 : Int32)) (by decide) dX10_isOther_92 ?_
        refine r_goto (pc := 93) (tgt := 97) hC dX10_isOther_93 (by decide) ?_
        exact r_retOM hC rfl dX10_isOther_97
    · cases hi
      refine ⟨by decide, ?_⟩
      refine r_aload_n (pc := 48) hC rfl dX10_isOther_48 ?_
      refine r_iload_n (pc := 49) hC rfl dX10_isOther_49 ?_
      refine r_cOM (pc := 50) (rest := []) (fun r8 s7 hf => runV [.int a1] hC (c_M_isOtherOrder (kl κ) (kW κ) hC.2.2.2.2.2.2.2.2.1 N a1 σ r8 s7 hf) o_X10_isOtherOrder k_1522 (q0 := 0) (ci := 10) rfl rfl (rm_ok hR rfl) rfl (Nat.le_of_ble_eq_true rfl) dX10_isOther_50) (fun r8 s7 => ?_)
      exact r_retOMb hC dX10_isOther_53
    · cases hi
      refine ⟨by decide, ?_⟩
      refine r_aload_n (pc := 54) hC rfl dX10_isOther_54 ?_
      refine r_iload_n (pc := 55) hC rfl dX10_isOther_55 ?_
      refine r_cOM (pc := 56) (rest := []) (fun r10 s9 hf => runV [.int a1] hC (c_M_isOtherWeights (kl κ) (kW κ) hC.2.2.2.2.2.2.2.2.1 N a1 σ r10 s9 hf) o_X10_isOtherWeights k_1526 (q0 := 0) (ci := 10) rfl rfl (rm_ok hR rfl) rfl (Nat.le_of_ble_eq_true rfl) dX10_isOther_56) (fun r10 s9 => ?_)
      exact r_retOMb hC dX10_isOther_59
  · refine lk_no ([(99, 54), (114, 73), (115, 42), (119, 48)] : List (Int × Int)) _ _ (fun q hq => ?_)
    simp only [List.mem_cons, List.not_mem_nil, or_false] at hq
    rcases hq with rfl | rfl | rfl | rfl
    · exact fun h => hno 0 _ _ rfl (lk_eq h (by decide))
    · exact fun h => hno 1 _ _ rfl (lk_eq h (by decide))
    · exact fun h => hno 2 _ _ rfl (lk_eq h (by decide))
    · exact fun h => hno 3 _ _ rfl (lk_eq h (by decide))
  · refine r_iconst (pc := 98) hC (v := (0 : Int32)) (by decide) dX10_isOther_98 ?_
    exact r_retOM hC rfl dX10_isOther_99
set_option maxRecDepth 100000 in
set_option maxHeartbeats 4000000 in
theorem c_M_isOther (l : Launch) (w : Wenv) (hw : okw w wM) (N : Nat) (a1 : Int32) (σ : Mem) (r : Int32) (τ : Mem) (hf : f_M_isOther N a1 σ = some (r, τ)) : Ctr l w wM yX10_isOther cX10_isOther 2 (some .boolean) 6 139 [.ref (w.2.2.1 0), .int a1] σ (cQi w wM r τ) := mk_ctr (Q := fun κ => qOM κ wM) (lv := [some (.ref (w.2.2.1 0)), some (.int a1)]) (by decide) rfl hw (Nat.le_of_ble_eq_true rfl) rfl hf (fun κ h => by subst h; rfl) (fun κ hl h hR hC => by
    subst h
    exact w_M_isOther hR hC N a1 σ)
-- DuelRoundModel.areAlike(II)Z (0, None, None) kind O
def M_areAlike_B51 (σ : Mem) (a1 : Int32) (a2 : Int32) (self4 : Int32 → Int32 → Option Int32) (i2 : Int32) (i3 : Int32) : Option Int32 :=
  ob (f_M_lineEnd a1 σ) fun r5 =>
  gd (inb a1 152) (if (r5 - (gI σ 29 a1.toNatClampNeg)) ≤ i3 then
  (gd (isb i2) (some i2))
  else
  (if i2 = (0 : Int32) then
  (gd (isb i2) (some i2))
  else
  (gd (inb a1 152) (gd (inb ((gI σ 29 a1.toNatClampNeg) + i3) 300) (gd (inb a2 152) (gd (inb ((gI σ 29 a2.toNatClampNeg) + i3) 300) (if (gI σ 28 ((gI σ 29 a1.toNatClampNeg) + i3).toNatClampNeg) = (gI σ 28 ((gI σ 29 a2.toNatClampNeg) + i3).toNatClampNeg) then
  (self4 (1 : Int32) (i3 + (1 : Int32)))
  else
  (self4 (0 : Int32) (i3 + (1 : Int32))))))))))
def M_areAlike_J47 (N : Nat) (σ : Mem) (a1 : Int32) (a2 : Int32) (v1 : Int32) : Option Int32 :=
  it2 (M_areAlike_B51 σ a1 a2) N v1 (0 : Int32)
def M_areAlike_J46 (N : Nat) (σ : Mem) (a1 : Int32) (a2 : Int32) : Option Int32 :=
  M_areAlike_J47 N σ a1 a2 (0 : Int32)
def f_M_areAlike (N : Nat) (a1 : Int32) (a2 : Int32) (σ : Mem) : Option Int32 :=
  gd (inb a1 152) (gd (inb a2 152) (if (gI σ 30 a1.toNatClampNeg) = (gI σ 30 a2.toNatClampNeg) then
  (ob (f_M_lineEnd a1 σ) fun r6 =>
  gd (inb a1 152) (ob (f_M_lineEnd a2 σ) fun r7 =>
  gd (inb a2 152) (if (r6 - (gI σ 29 a1.toNatClampNeg)) = (r7 - (gI σ 29 a2.toNatClampNeg)) then
  (M_areAlike_J47 N σ a1 a2 (1 : Int32))
  else
  (M_areAlike_J46 N σ a1 a2))))
  else
  (M_areAlike_J46 N σ a1 a2)))
set_option maxRecDepth 100000 in
set_option maxHeartbeats 4000000 in
theorem w_M_areAlike {κ : Ctx} (hR : kR κ = { frames := 1, cells := 0, slots := 0, locals := 21 }) (hC : ok κ wM cX10_areAlike 5 RX10 (some .boolean)) (N : Nat) (a1 : Int32) (a2 : Int32) (σ : Mem) : wF κ wM 5 (qO κ wM σ) σ 0 [some (.ref (ad κ 0)), some (.int a1), some (.int a2), none, none] [] (f_M_areAlike N a1 a2 σ) := by
  unfold f_M_areAlike
  refine r_aload_n (pc := 0) hC rfl dX10_areAlike_0 ?_
  refine gM_0_30 (pc := 1) hC k_1067 dX10_areAlike_1 ?_
  refine r_iload_n (pc := 4) hC rfl dX10_areAlike_4 ?_
  refine aM_24 (pc := 5) hC dX10_areAlike_5 ?_
  refine r_aload_n (pc := 6) hC rfl dX10_areAlike_6 ?_
  refine gM_0_30 (pc := 7) hC k_1067 dX10_areAlike_7 ?_
  refine r_iload_n (pc := 10) hC rfl dX10_areAlike_10 ?_
  refine aM_24 (pc := 11) hC dX10_areAlike_11 ?_
  have hJ47_5 : ∀ (v1 : Int32), wF κ wM 5 (qO κ wM σ) σ 47 [some (.ref (ad κ 0)), some (.int a1), some (.int a2), none, none] [.int v1] (M_areAlike_J47 N σ a1 a2 v1) := by
    intro v1
    unfold M_areAlike_J47
    refine r_istore_n (pc := 47) hC rfl rfl dX10_areAlike_47 ?_
    refine r_iconst (pc := 48) hC (v := (0 : Int32)) (by decide) dX10_areAlike_48 ?_
    refine r_istore (pc := 49) hC rfl rfl dX10_areAlike_49 ?_
    refine w_it2 (fun i2 i3 => σ) (fun i2 i3 => [some (.ref (ad κ 0)), some (.int a1), some (.int a2), some (.int i2), some (.int i3)]) (fun self4 ih51_4 i2 i3 => ?_) N v1 (0 : Int32)
    unfold M_areAlike_B51
    refine r_iload (pc := 51) hC rfl dX10_areAlike_51 ?_
    refine r_aload_n (pc := 53) hC rfl dX10_areAlike_53 ?_
    refine r_iload_n (pc := 54) hC rfl dX10_areAlike_54 ?_
    refine r_cO (pc := 55) (rest := [.int i3]) (fun r5 hf => runV [.int a1] hC (c_M_lineEnd (kl κ) (kW κ) hC.2.2.2.2.2.2.2.2.1 a1 σ r5 hf) o_X10_lineEnd k_1498 (q0 := 0) (ci := 10) rfl rfl (rm_ok hR rfl) rfl (Nat.le_of_ble_eq_true rfl) dX10_areAlike_55) (fun r5 => ?_)
    refine r_aload_n (pc := 58) hC rfl dX10_areAlike_58 ?_
    refine gM_0_29 (pc := 59) hC k_1066 dX10_areAlike_59 ?_
    refine r_iload_n (pc := 62) hC rfl dX10_areAlike_62 ?_
    refine aM_23 (pc := 63) hC dX10_areAlike_63 ?_
    refine r_isub (pc := 64) hC dX10_areAlike_64 ?_
    refine r_icmp_ge (pc := 65) (tgt := 115) hC dX10_areAlike_65 (by decide) ?_ ?_
    · refine r_iload_n (pc := 115) hC rfl dX10_areAlike_115 ?_
      exact r_retOb hC dX10_areAlike_116
    · refine r_iload_n (pc := 68) hC rfl dX10_areAlike_68 ?_
      refine r_if_eq (pc := 69) (tgt := 115) hC dX10_areAlike_69 (by decide) ?_ ?_
      · refine r_iload_n (pc := 115) hC rfl dX10_areAlike_115 ?_
        exact r_retOb hC dX10_areAlike_116
      · refine r_aload_n (pc := 72) hC rfl dX10_areAlike_72 ?_
        refine gM_0_28 (pc := 73) hC k_1065 dX10_areAlike_73 ?_
        refine r_aload_n (pc := 76) hC rfl dX10_areAlike_76 ?_
        refine gM_0_29 (pc := 77) hC k_1066 dX10_areAlike_77 ?_
        refine r_iload_n (pc := 80) hC rfl dX10_areAlike_80 ?_
        refine aM_23 (pc := 81) hC dX10_areAlike_81 ?_
        refine r_iload (pc := 82) hC rfl dX10_areAlike_82 ?_
        refine r_iadd (pc := 84) hC dX10_areAlike_84 ?_
        refine aM_22 (pc := 85) hC dX10_areAlike_85 ?_
        refine r_aload_n (pc := 86) hC rfl dX10_areAlike_86 ?_
        refine gM_0_28 (pc := 87) hC k_1065 dX10_areAlike_87 ?_
        refine r_aload_n (pc := 90) hC rfl dX10_areAlike_90 ?_
        refine gM_0_29 (pc := 91) hC k_1066 dX10_areAlike_91 ?_
        refine r_iload_n (pc := 94) hC rfl dX10_areAlike_94 ?_
        refine aM_23 (pc := 95) hC dX10_areAlike_95 ?_
        refine r_iload (pc := 96) hC rfl dX10_areAlike_96 ?_
        refine r_iadd (pc := 98) hC dX10_areAlike_98 ?_
        refine aM_22 (pc := 99) hC dX10_areAlike_99 ?_
        refine r_icmp_ne (pc := 100) (tgt := 107) hC dX10_areAlike_100 (by decide) ?_ ?_
        · refine r_iconst (pc := 107) hC (v := (0 : Int32)) (by decide) dX10_areAlike_107 ?_
          refine r_istore_n (pc := 108) hC rfl rfl dX10_areAlike_108 ?_
          refine r_iinc (pc := 109) hC (v := (1 : Int32)) rfl (by decide) rfl rfl dX10_areAlike_109 ?_
          refine r_goto (pc := 112) (tgt := 51) hC dX10_areAlike_112 (by decide) ?_
          exact ih51_4 (0 : Int32) (i3 + (1 : Int32))
        · refine r_iconst (pc := 103) hC (v := (1 : Int32)) (by decide) dX10_areAlike_103 ?_
          refine r_goto (pc := 104) (tgt := 108) hC dX10_areAlike_104 (by decide) ?_
          refine r_istore_n (pc := 108) hC rfl rfl dX10_areAlike_108 ?_
          refine r_iinc (pc := 109) hC (v := (1 : Int32)) rfl (by decide) rfl rfl dX10_areAlike_109 ?_
          refine r_goto (pc := 112) (tgt := 51) hC dX10_areAlike_112 (by decide) ?_
          exact ih51_4 (1 : Int32) (i3 + (1 : Int32))
  have hJ46_5 : wF κ wM 5 (qO κ wM σ) σ 46 [some (.ref (ad κ 0)), some (.int a1), some (.int a2), none, none] [] (M_areAlike_J46 N σ a1 a2) := by
    unfold M_areAlike_J46
    refine r_iconst (pc := 46) hC (v := (0 : Int32)) (by decide) dX10_areAlike_46 ?_
    exact hJ47_5 (0 : Int32)
  refine r_icmp_ne (pc := 12) (tgt := 46) hC dX10_areAlike_12 (by decide) ?_ ?_
  · exact hJ46_5
  · refine r_aload_n (pc := 15) hC rfl dX10_areAlike_15 ?_
    refine r_iload_n (pc := 16) hC rfl dX10_areAlike_16 ?_
    refine r_cO (pc := 17) (rest := []) (fun r6 hf => runV [.int a1] hC (c_M_lineEnd (kl κ) (kW κ) hC.2.2.2.2.2.2.2.2.1 a1 σ r6 hf) o_X10_lineEnd k_1498 (q0 := 0) (ci := 10) rfl rfl (rm_ok hR rfl) rfl (Nat.le_of_ble_eq_true rfl) dX10_areAlike_17) (fun r6 => ?_)
    refine r_aload_n (pc := 20) hC rfl dX10_areAlike_20 ?_
    refine gM_0_29 (pc := 21) hC k_1066 dX10_areAlike_21 ?_
    refine r_iload_n (pc := 24) hC rfl dX10_areAlike_24 ?_
    refine aM_23 (pc := 25) hC dX10_areAlike_25 ?_
    refine r_isub (pc := 26) hC dX10_areAlike_26 ?_
    refine r_aload_n (pc := 27) hC rfl dX10_areAlike_27 ?_
    refine r_iload_n (pc := 28) hC rfl dX10_areAlike_28 ?_
    refine r_cO (pc := 29) (rest := [.int (r6 - (gI σ 29 a1.toNatClampNeg))]) (fun r7 hf => runV [.int a2] hC (c_M_lineEnd (kl κ) (kW κ) hC.2.2.2.2.2.2.2.2.1 a2 σ r7 hf) o_X10_lineEnd k_1498 (q0 := 0) (ci := 10) rfl rfl (rm_ok hR rfl) rfl (Nat.le_of_ble_eq_true rfl) dX10_areAlike_29) (fun r7 => ?_)
    refine r_aload_n (pc := 32) hC rfl dX10_areAlike_32 ?_
    refine gM_0_29 (pc := 33) hC k_1066 dX10_areAlike_33 ?_
    refine r_iload_n (pc := 36) hC rfl dX10_areAlike_36 ?_
    refine aM_23 (pc := 37) hC dX10_areAlike_37 ?_
    refine r_isub (pc := 38) hC dX10_areAlike_38 ?_
    refine r_icmp_ne (pc := 39) (tgt := 46) hC dX10_areAlike_39 (by decide) ?_ ?_
    · exact hJ46_5
    · refine r_iconst (pc := 42) hC (v := (1 : Int32)) (by decide) dX10_areAlike_42 ?_
      refine r_goto (pc := 43) (tgt := 47) hC dX10_areAlike_43 (by decide) ?_
      exact hJ47_5 (1 : Int32)
set_option maxRecDepth 100000 in
set_option maxHeartbeats 4000000 in
theorem c_M_areAlike (l : Launch) (w : Wenv) (hw : okw w wM) (N : Nat) (a1 : Int32) (a2 : Int32) (σ : Mem) (r : Int32) (hf : f_M_areAlike N a1 a2 σ = some r) : Ctr l w wM yX10_areAlike cX10_areAlike 5 (some .boolean) 1 21 [.ref (w.2.2.1 0), .int a1, .int a2] σ (cQi w wM r σ) := mk_ctr (Q := fun κ => qO κ wM σ) (lv := [some (.ref (w.2.2.1 0)), some (.int a1), some (.int a2), none, none]) (by decide) rfl hw (Nat.le_of_ble_eq_true rfl) rfl hf (fun κ h => by subst h; rfl) (fun κ hl h hR hC => by
    subst h
    exact w_M_areAlike hR hC N a1 a2 σ)
-- DuelRoundModel.wasSaid(I)Z (0, None) kind O
def M_wasSaid_B4 (N : Nat) (σ : Mem) (a1 : Int32) (self3 : Int32 → Int32 → Option Int32) (i1 : Int32) (i2 : Int32) : Option Int32 :=
  if a1 ≤ i2 then
  (gd (isb i1) (some i1))
  else
  (if i1 = (0 : Int32) then
  (ob (f_M_areAlike N a1 i2 σ) fun r4 =>
  if r4 = (0 : Int32) then
  (self3 (0 : Int32) (i2 + (1 : Int32)))
  else
  (self3 (1 : Int32) (i2 + (1 : Int32))))
  else
  (self3 (1 : Int32) (i2 + (1 : Int32))))
def f_M_wasSaid (N : Nat) (a1 : Int32) (σ : Mem) : Option Int32 :=
  it2 (M_wasSaid_B4 N σ a1) N (0 : Int32) (0 : Int32)
set_option maxRecDepth 100000 in
set_option maxHeartbeats 4000000 in
theorem w_M_wasSaid {κ : Ctx} (hR : kR κ = { frames := 2, cells := 0, slots := 0, locals := 45 }) (hC : ok κ wM cX10_wasSaid 4 RX10 (some .boolean)) (N : Nat) (a1 : Int32) (σ : Mem) : wF κ wM 4 (qO κ wM σ) σ 0 [some (.ref (ad κ 0)), some (.int a1), none, none] [] (f_M_wasSaid N a1 σ) := by
  unfold f_M_wasSaid
  refine r_iconst (pc := 0) hC (v := (0 : Int32)) (by decide) dX10_wasSaid_0 ?_
  refine r_istore_n (pc := 1) hC rfl rfl dX10_wasSaid_1 ?_
  refine r_iconst (pc := 2) hC (v := (0 : Int32)) (by decide) dX10_wasSaid_2 ?_
  refine r_istore_n (pc := 3) hC rfl rfl dX10_wasSaid_3 ?_
  refine w_it2 (fun i1 i2 => σ) (fun i1 i2 => [some (.ref (ad κ 0)), some (.int a1), some (.int i1), some (.int i2)]) (fun self3 ih4_3 i1 i2 => ?_) N (0 : Int32) (0 : Int32)
  unfold M_wasSaid_B4
  refine r_iload_n (pc := 4) hC rfl dX10_wasSaid_4 ?_
  refine r_iload_n (pc := 5) hC rfl dX10_wasSaid_5 ?_
  refine r_icmp_ge (pc := 6) (tgt := 34) hC dX10_wasSaid_6 (by decide) ?_ ?_
  · refine r_iload_n (pc := 34) hC rfl dX10_wasSaid_34 ?_
    exact r_retOb hC dX10_wasSaid_35
  · refine r_iload_n (pc := 9) hC rfl dX10_wasSaid_9 ?_
    refine r_if_ne (pc := 10) (tgt := 22) hC dX10_wasSaid_10 (by decide) ?_ ?_
    · refine r_iconst (pc := 22) hC (v := (1 : Int32)) (by decide) dX10_wasSaid_22 ?_
      refine r_goto (pc := 23) (tgt := 27) hC dX10_wasSaid_23 (by decide) ?_
      refine r_istore_n (pc := 27) hC rfl rfl dX10_wasSaid_27 ?_
      refine r_iinc (pc := 28) hC (v := (1 : Int32)) rfl (by decide) rfl rfl dX10_wasSaid_28 ?_
      refine r_goto (pc := 31) (tgt := 4) hC dX10_wasSaid_31 (by decide) ?_
      exact ih4_3 (1 : Int32) (i2 + (1 : Int32))
    · refine r_aload_n (pc := 13) hC rfl dX10_wasSaid_13 ?_
      refine r_iload_n (pc := 14) hC rfl dX10_wasSaid_14 ?_
      refine r_iload_n (pc := 15) hC rfl dX10_wasSaid_15 ?_
      refine r_cO (pc := 16) (rest := []) (fun r4 hf => runV [.int a1, .int i2] hC (c_M_areAlike (kl κ) (kW κ) hC.2.2.2.2.2.2.2.2.1 N a1 i2 σ r4 hf) o_X10_areAlike k_1534 (q0 := 0) (ci := 10) rfl rfl (rm_ok hR rfl) rfl (Nat.le_of_ble_eq_true rfl) dX10_wasSaid_16) (fun r4 => ?_)
      refine r_if_eq (pc := 19) (tgt := 26) hC dX10_wasSaid_19 (by decide) ?_ ?_
      · refine r_iconst (pc := 26) hC (v := (0 : Int32)) (by decide) dX10_wasSaid_26 ?_
        refine r_istore_n (pc := 27) hC rfl rfl dX10_wasSaid_27 ?_
        refine r_iinc (pc := 28) hC (v := (1 : Int32)) rfl (by decide) rfl rfl dX10_wasSaid_28 ?_
        refine r_goto (pc := 31) (tgt := 4) hC dX10_wasSaid_31 (by decide) ?_
        exact ih4_3 (0 : Int32) (i2 + (1 : Int32))
      · refine r_iconst (pc := 22) hC (v := (1 : Int32)) (by decide) dX10_wasSaid_22 ?_
        refine r_goto (pc := 23) (tgt := 27) hC dX10_wasSaid_23 (by decide) ?_
        refine r_istore_n (pc := 27) hC rfl rfl dX10_wasSaid_27 ?_
        refine r_iinc (pc := 28) hC (v := (1 : Int32)) rfl (by decide) rfl rfl dX10_wasSaid_28 ?_
        refine r_goto (pc := 31) (tgt := 4) hC dX10_wasSaid_31 (by decide) ?_
        exact ih4_3 (1 : Int32) (i2 + (1 : Int32))
set_option maxRecDepth 100000 in
set_option maxHeartbeats 4000000 in
theorem c_M_wasSaid (l : Launch) (w : Wenv) (hw : okw w wM) (N : Nat) (a1 : Int32) (σ : Mem) (r : Int32) (hf : f_M_wasSaid N a1 σ = some r) : Ctr l w wM yX10_wasSaid cX10_wasSaid 4 (some .boolean) 2 45 [.ref (w.2.2.1 0), .int a1] σ (cQi w wM r σ) := mk_ctr (Q := fun κ => qO κ wM σ) (lv := [some (.ref (w.2.2.1 0)), some (.int a1), none, none]) (by decide) rfl hw (Nat.le_of_ble_eq_true rfl) rfl hf (fun κ h => by subst h; rfl) (fun κ hl h hR hC => by
    subst h
    exact w_M_wasSaid hR hC N a1 σ)
-- DuelRoundModel.whyWrong(I)I (0, None) kind OM
def M_whyWrong_J98 (N : Nat) (σ : Mem) (a1 : Int32) : Option (Int32 × Mem) :=
  ob2 (f_M_isOther N a1 σ) fun r6 s5 =>
  if r6 = (0 : Int32) then
  (ob (f_M_wasSaid N a1 s5) fun r7 =>
  if r7 = (0 : Int32) then
  (some ((0 : Int32), s5))
  else
  (some ((6 : Int32), s5)))
  else
  (some ((5 : Int32), s5))
def f_M_whyWrong (N : Nat) (a1 : Int32) (σ : Mem) : Option (Int32 × Mem) :=
  gd (inb a1 152) (bnd (gI σ 30 a1.toNatClampNeg) fun x1 =>
  ob (f_M_lettersOf N a1 σ) fun r2 =>
  if (t_M_isWithin r2 (t_M_all σ)) = (0 : Int32) then
  (some ((1 : Int32), σ))
  else
  (ob (f_M_hasTwice N a1 σ) fun r3 =>
  if r3 = (0 : Int32) then
  (ob (f_M_isOtherWay N a1 σ) fun r4 =>
  if r4 = (0 : Int32) then
  (if x1 = (107 : Int32) then
  (ob (f_M_isTopped N a1 σ) fun r10 =>
  if r10 = (0 : Int32) then
  (M_whyWrong_J98 N σ a1)
  else
  (some ((4 : Int32), σ)))
  else
  (if x1 = (115 : Int32) then
  (ob (f_M_lettersOf N a1 σ) fun r9 =>
  if r9 = (t_M_all σ) then
  (M_whyWrong_J98 N σ a1)
  else
  (some ((4 : Int32), σ)))
  else
  (if x1 = (119 : Int32) then
  (ob (f_M_sumOf N a1 σ) fun r8 =>
  if r8 = (0 : Int32) then
  (some ((4 : Int32), σ))
  else
  (M_whyWrong_J98 N σ a1))
  else
  (M_whyWrong_J98 N σ a1))))
  else
  (some ((3 : Int32), σ)))
  else
  (some ((2 : Int32), σ))))
set_option maxRecDepth 100000 in
set_option maxHeartbeats 4000000 in
theorem w_M_whyWrong {κ : Ctx} (hR : kR κ = { frames := 7, cells := 0, slots := 0, locals := 160 }) (hC : ok κ wM cX10_whyWrong 3 RX10 (some .int)) (N : Nat) (a1 : Int32) (σ : Mem) : wF κ wM 3 (qOM κ wM) σ 0 [some (.ref (ad κ 0)), some (.int a1), none] [] (f_M_whyWrong N a1 σ) := by
  unfold f_M_whyWrong
  refine r_aload_n (pc := 0) hC rfl dX10_whyWrong_0 ?_
  refine gM_0_30 (pc := 1) hC k_1067 dX10_whyWrong_1 ?_
  refine r_iload_n (pc := 4) hC rfl dX10_whyWrong_4 ?_
  refine aM_24 (pc := 5) hC dX10_whyWrong_5 ?_
  refine r_let (fun x1 => ?_)
  refine r_istore_n (pc := 6) hC rfl rfl dX10_whyWrong_6 ?_
  refine r_aload_n (pc := 7) hC rfl dX10_whyWrong_7 ?_
  refine r_iload_n (pc := 8) hC rfl dX10_whyWrong_8 ?_
  refine r_cO (pc := 9) (rest := []) (fun r2 hf => runV [.int a1] hC (c_M_lettersOf (kl κ) (kW κ) hC.2.2.2.2.2.2.2.2.1 N a1 σ r2 hf) o_X10_lettersOf k_1494 (q0 := 0) (ci := 10) rfl rfl (rm_ok hR rfl) rfl (Nat.le_of_ble_eq_true rfl) dX10_whyWrong_9) (fun r2 => ?_)
  refine r_aload_n (pc := 12) hC rfl dX10_whyWrong_12 ?_
  refine r_cT (pc := 13) (rest := [.int r2]) (runV [] hC (c_M_all (kl κ) (kW κ) hC.2.2.2.2.2.2.2.2.1 σ) o_X10_all k_1228 (q0 := 0) (ci := 10) rfl rfl (rm_ok hR rfl) rfl (Nat.le_of_ble_eq_true rfl) dX10_whyWrong_13) ?_
  refine r_cT (pc := 16) (rest := []) (runS [.int r2, .int (t_M_all σ)] hC (c_M_isWithin (kl κ) (kW κ) hC.2.2.2.2.2.2.2.2.1 r2 (t_M_all σ) σ) o_X10_isWithin k_1236 (rm_ok hR rfl) rfl (Nat.le_of_ble_eq_true rfl) dX10_whyWrong_16) ?_
  refine r_if_ne (pc := 19) (tgt := 24) hC dX10_whyWrong_19 (by decide) ?_ ?_
  · refine r_aload_n (pc := 24) hC rfl dX10_whyWrong_24 ?_
    refine r_iload_n (pc := 25) hC rfl dX10_whyWrong_25 ?_
    refine r_cO (pc := 26) (rest := []) (fun r3 hf => runV [.int a1] hC (c_M_hasTwice (kl κ) (kW κ) hC.2.2.2.2.2.2.2.2.1 N a1 σ r3 hf) o_X10_hasTwice k_1502 (q0 := 0) (ci := 10) rfl rfl (rm_ok hR rfl) rfl (Nat.le_of_ble_eq_true rfl) dX10_whyWrong_26) (fun r3 => ?_)
    refine r_if_eq (pc := 29) (tgt := 34) hC dX10_whyWrong_29 (by decide) ?_ ?_
    · refine r_aload_n (pc := 34) hC rfl dX10_whyWrong_34 ?_
      refine r_iload_n (pc := 35) hC rfl dX10_whyWrong_35 ?_
      refine r_cO (pc := 36) (rest := []) (fun r4 hf => runV [.int a1] hC (c_M_isOtherWay (kl κ) (kW κ) hC.2.2.2.2.2.2.2.2.1 N a1 σ r4 hf) o_X10_isOtherWay k_1506 (q0 := 0) (ci := 10) rfl rfl (rm_ok hR rfl) rfl (Nat.le_of_ble_eq_true rfl) dX10_whyWrong_36) (fun r4 => ?_)
      refine r_if_eq (pc := 39) (tgt := 44) hC dX10_whyWrong_39 (by decide) ?_ ?_
      · refine r_iload_n (pc := 44) hC rfl dX10_whyWrong_44 ?_
        refine r_bipush (pc := 45) hC (v := (107 : Int32)) (by decide) dX10_whyWrong_45 ?_
        have hJ98_7 : wF κ wM 3 (qOM κ wM) σ 98 [some (.ref (ad κ 0)), some (.int a1), none] [] (M_whyWrong_J98 N σ a1) := by
          unfold M_whyWrong_J98
          refine r_aload_n (pc := 98) hC rfl dX10_whyWrong_98 ?_
          refine r_iload_n (pc := 99) hC rfl dX10_whyWrong_99 ?_
          refine r_cOM (pc := 100) (rest := []) (fun r6 s5 hf => runV [.int a1] hC (c_M_isOther (kl κ) (kW κ) hC.2.2.2.2.2.2.2.2.1 N a1 σ r6 s5 hf) o_X10_isOther k_1518 (q0 := 0) (ci := 10) rfl rfl (rm_ok hR rfl) rfl (Nat.le_of_ble_eq_true rfl) dX10_whyWrong_100) (fun r6 s5 => ?_)
          refine r_if_eq (pc := 103) (tgt := 110) hC dX10_whyWrong_103 (by decide) ?_ ?_
          · refine r_aload_n (pc := 110) hC rfl dX10_whyWrong_110 ?_
            refine r_iload_n (pc := 111) hC rfl dX10_whyWrong_111 ?_
            refine r_cO (pc := 112) (rest := []) (fun r7 hf => runV [.int a1] hC (c_M_wasSaid (kl κ) (kW κ) hC.2.2.2.2.2.2.2.2.1 N a1 s5 r7 hf) o_X10_wasSaid k_1530 (q0 := 0) (ci := 10) rfl rfl (rm_ok hR rfl) rfl (Nat.le_of_ble_eq_true rfl) dX10_whyWrong_112) (fun r7 => ?_)
            refine r_if_eq (pc := 115) (tgt := 123) hC dX10_whyWrong_115 (by decide) ?_ ?_
            · refine r_iconst (pc := 123) hC (v := (0 : Int32)) (by decide) dX10_whyWrong_123 ?_
              exact r_retOM hC rfl dX10_whyWrong_124
            · refine r_bipush (pc := 118) hC (v := (6 : Int32)) (by decide) dX10_whyWrong_118 ?_
              refine r_goto (pc := 120) (tgt := 124) hC dX10_whyWrong_120 (by decide) ?_
              exact r_retOM hC rfl dX10_whyWrong_124
          · refine r_iconst (pc := 106) hC (v := (5 : Int32)) (by decide) dX10_whyWrong_106 ?_
            refine r_goto (pc := 107) (tgt := 124) hC dX10_whyWrong_107 (by decide) ?_
            exact r_retOM hC rfl dX10_whyWrong_124
        refine r_icmp_ne (pc := 47) (tgt := 61) hC dX10_whyWrong_47 (by decide) ?_ ?_
        · refine r_iload_n (pc := 61) hC rfl dX10_whyWrong_61 ?_
          refine r_bipush (pc := 62) hC (v := (115 : Int32)) (by decide) dX10_whyWrong_62 ?_
          refine r_icmp_ne (pc := 64) (tgt := 82) hC dX10_whyWrong_64 (by decide) ?_ ?_
          · refine r_iload_n (pc := 82) hC rfl dX10_whyWrong_82 ?_
            refine r_bipush (pc := 83) hC (v := (119 : Int32)) (by decide) dX10_whyWrong_83 ?_
            refine r_icmp_ne (pc := 85) (tgt := 98) hC dX10_whyWrong_85 (by decide) ?_ ?_
            · exact r_wk [true, true, false] (hJ98_7)
            · refine r_aload_n (pc := 88) hC rfl dX10_whyWrong_88 ?_
              refine r_iload_n (pc := 89) hC rfl dX10_whyWrong_89 ?_
              refine r_cO (pc := 90) (rest := []) (fun r8 hf => runV [.int a1] hC (c_M_sumOf (kl κ) (kW κ) hC.2.2.2.2.2.2.2.2.1 N a1 σ r8 hf) o_X10_sumOf k_1514 (q0 := 0) (ci := 10) rfl rfl (rm_ok hR rfl) rfl (Nat.le_of_ble_eq_true rfl) dX10_whyWrong_90) (fun r8 => ?_)
              refine r_if_ne (pc := 93) (tgt := 98) hC dX10_whyWrong_93 (by decide) ?_ ?_
              · exact r_wk [true, true, false] (hJ98_7)
              · refine r_iconst (pc := 96) hC (v := (4 : Int32)) (by decide) dX10_whyWrong_96 ?_
                exact r_retOM hC rfl dX10_whyWrong_97
          · refine r_aload_n (pc := 67) hC rfl dX10_whyWrong_67 ?_
            refine r_iload_n (pc := 68) hC rfl dX10_whyWrong_68 ?_
            refine r_cO (pc := 69) (rest := []) (fun r9 hf => runV [.int a1] hC (c_M_lettersOf (kl κ) (kW κ) hC.2.2.2.2.2.2.2.2.1 N a1 σ r9 hf) o_X10_lettersOf k_1494 (q0 := 0) (ci := 10) rfl rfl (rm_ok hR rfl) rfl (Nat.le_of_ble_eq_true rfl) dX10_whyWrong_69) (fun r9 => ?_)
            refine r_aload_n (pc := 72) hC rfl dX10_whyWrong_72 ?_
            refine r_cT (pc := 73) (rest := [.int r9]) (runV [] hC (c_M_all (kl κ) (kW κ) hC.2.2.2.2.2.2.2.2.1 σ) o_X10_all k_1228 (q0 := 0) (ci := 10) rfl rfl (rm_ok hR rfl) rfl (Nat.le_of_ble_eq_true rfl) dX10_whyWrong_73) ?_
            refine r_icmp_eq (pc := 76) (tgt := 98) hC dX10_whyWrong_76 (by decide) ?_ ?_
            · exact r_wk [true, true, false] (hJ98_7)
            · refine r_goto (pc := 79) (tgt := 96) hC dX10_whyWrong_79 (by decide) ?_
              refine r_iconst (pc := 96) hC (v := (4 : Int32)) (by decide) dX10_whyWrong_96 ?_
              exact r_retOM hC rfl dX10_whyWrong_97
        · refine r_aload_n (pc := 50) hC rfl dX10_whyWrong_50 ?_
          refine r_iload_n (pc := 51) hC rfl dX10_whyWrong_51 ?_
          refine r_cO (pc := 52) (rest := []) (fun r10 hf => runV [.int a1] hC (c_M_isTopped (kl κ) (kW κ) hC.2.2.2.2.2.2.2.2.1 N a1 σ r10 hf) o_X10_isTopped k_1510 (q0 := 0) (ci := 10) rfl rfl (rm_ok hR rfl) rfl (Nat.le_of_ble_eq_true rfl) dX10_whyWrong_52) (fun r10 => ?_)
          refine r_if_eq (pc := 55) (tgt := 98) hC dX10_whyWrong_55 (by decide) ?_ ?_
          · exact r_wk [true, true, false] (hJ98_7)
          · refine r_goto (pc := 58) (tgt := 96) hC dX10_whyWrong_58 (by decide) ?_
            refine r_iconst (pc := 96) hC (v := (4 : Int32)) (by decide) dX10_whyWrong_96 ?_
            exact r_retOM hC rfl dX10_whyWrong_97
      · refine r_iconst (pc := 42) hC (v := (3 : Int32)) (by decide) dX10_whyWrong_42 ?_
        exact r_retOM hC rfl dX10_whyWrong_43
    · refine r_iconst (pc := 32) hC (v := (2 : Int32)) (by decide) dX10_whyWrong_32 ?_
      exact r_retOM hC rfl dX10_whyWrong_33
  · refine r_iconst (pc := 22) hC (v := (1 : Int32)) (by decide) dX10_whyWrong_22 ?_
    exact r_retOM hC rfl dX10_whyWrong_23
set_option maxRecDepth 100000 in
set_option maxHeartbeats 4000000 in
theorem c_M_whyWrong (l : Launch) (w : Wenv) (hw : okw w wM) (N : Nat) (a1 : Int32) (σ : Mem) (r : Int32) (τ : Mem) (hf : f_M_whyWrong N a1 σ = some (r, τ)) : Ctr l w wM yX10_whyWrong cX10_whyWrong 3 (some .int) 7 160 [.ref (w.2.2.1 0), .int a1] σ (cQi w wM r τ) := mk_ctr (Q := fun κ => qOM κ wM) (lv := [some (.ref (w.2.2.1 0)), some (.int a1), none]) (by decide) rfl hw (Nat.le_of_ble_eq_true rfl) rfl hf (fun κ h => by subst h; rfl) (fun κ hl h hR hC => by
    subst h
    exact w_M_whyWrong hR hC N a1 σ)
-- DuelRoundModel.judge()I (0,) kind OM
def M_judge_K250 (s15 : Mem) : Option (Int32 × Mem) :=
  if (gI s15 33 0) = (-1 : Int32) then
  (some ((gI s15 32 0), s15))
  else
  (some ((gI s15 33 0), s15))
def M_judge_B133 (N : Nat) (self18 : Int32 → Mem → Option (Int32 × Mem)) (i16 : Int32) (s17 : Mem) : Option (Int32 × Mem) :=
  if (gI s17 32 0) ≤ i16 then
  (M_judge_K250 s17)
  else
  (if (gI s17 33 0) = (-1 : Int32) then
  (ob2 (f_M_whyWrong N i16 s17) fun r20 s19 =>
  bnd (sI s19 34 0 r20) fun s21 =>
  if (gI s21 34 0) = (0 : Int32) then
  (gd (inb i16 152) (if (gI s21 30 i16.toNatClampNeg) = (107 : Int32) then
  (gd (inb i16 152) (gd (inb (gI s21 29 i16.toNatClampNeg) 300) (bnd (sI s21 36 0 ((gI s21 36 0) ||| ((1 : Int32) <<< ((gI s21 28 (gI s21 29 i16.toNatClampNeg).toNatClampNeg) &&& 31)))) fun s23 =>
  self18 (i16 + (1 : Int32)) s23)))
  else
  (gd (inb i16 152) (if (gI s21 30 i16.toNatClampNeg) = (115 : Int32) then
  (gd (inb i16 152) (gd (inb ((gI s21 29 i16.toNatClampNeg) + (1 : Int32)) 300) (bnd (sI s21 36 0 ((gI s21 36 0) ||| ((1 : Int32) <<< ((gI s21 28 ((gI s21 29 i16.toNatClampNeg) + (1 : Int32)).toNatClampNeg) &&& 31)))) fun s22 =>
  self18 (i16 + (1 : Int32)) s22)))
  else
  (self18 (i16 + (1 : Int32)) s21)))))
  else
  (bnd (sI s21 33 0 i16) fun s24 =>
  self18 (i16 + (1 : Int32)) s24))
  else
  (M_judge_K250 s17))
def M_judge_J82 (N : Nat) (s8 : Mem) : Option (Int32 × Mem) :=
  bnd (sI s8 7 0 (0 : Int32)) fun s9 =>
  if (gI s9 10 0) = (0 : Int32) then
  (some (((-1000 : Int32) - (gI s9 9 0)), s9))
  else
  (bnd (sI s9 37 0 (1 : Int32)) fun s10 =>
  bnd (sI s10 33 0 (-1 : Int32)) fun s11 =>
  bnd (sI s11 34 0 (0 : Int32)) fun s12 =>
  bnd (sI s12 35 0 (gI s12 32 0)) fun s13 =>
  bnd (sI s13 36 0 (0 : Int32)) fun s14 =>
  it2 (M_judge_B133 N) N (0 : Int32) s14)
def M_judge_K60 (N : Nat) (s7 : Mem) : Option (Int32 × Mem) :=
  if (gI s7 10 0) = (0 : Int32) then
  (M_judge_J82 N s7)
  else
  (ob2 (f_M_isEnd N s7) fun r26 s25 =>
  if r26 = (0 : Int32) then
  (ob (f_M_wrong (gI s25 8 0) s25) fun s27 =>
  M_judge_J82 N s27)
  else
  (M_judge_J82 N s25))
def M_judge_B44 (N : Nat) (self29 : Mem → Option (Int32 × Mem)) (s28 : Mem) : Option (Int32 × Mem) :=
  ob2 (f_M_takes N (59 : Int32) s28) fun r31 s30 =>
  if r31 = (0 : Int32) then
  (M_judge_K60 N s30)
  else
  (ob (f_M_readLine N s30) fun s32 =>
  self29 s32)
def f_M_judge (N : Nat) (σ : Mem) : Option (Int32 × Mem) :=
  bnd (sI σ 0 0 (0 : Int32)) fun s1 =>
  if (t_M_isRound s1) = (0 : Int32) then
  (bnd (sI s1 7 0 (0 : Int32)) fun s33 =>
  some ((-2 : Int32), s33))
  else
  (bnd (sI s1 8 0 (0 : Int32)) fun s2 =>
  bnd (sI s2 10 0 (1 : Int32)) fun s3 =>
  bnd (sI s3 31 0 (0 : Int32)) fun s4 =>
  bnd (sI s4 32 0 (0 : Int32)) fun s5 =>
  ob (f_M_readLine N s5) fun s6 =>
  it1 (M_judge_B44 N) N s6)
set_option maxRecDepth 100000 in
set_option maxHeartbeats 4000000 in
theorem w_M_judge {κ : Ctx} (hR : kR κ = { frames := 8, cells := 0, slots := 0, locals := 182 }) (hC : ok κ wM cX10_judge 2 RX10 (some .int)) (N : Nat) (σ : Mem) : wF κ wM 2 (qOM κ wM) σ 0 [some (.ref (ad κ 0)), none] [] (f_M_judge N  σ) := by
  unfold f_M_judge
  refine r_aload_n (pc := 0) hC rfl dX10_judge_0 ?_
  refine r_iconst (pc := 1) hC (v := (0 : Int32)) (by decide) dX10_judge_1 ?_
  refine pM_0_0 (pc := 2) hC k_1037 dX10_judge_2 ?_
  refine r_letm (fun s1 => ?_)
  refine r_aload_n (pc := 5) hC rfl dX10_judge_5 ?_
  refine r_cT (pc := 6) (rest := []) (runV [] hC (c_M_isRound (kl κ) (kW κ) hC.2.2.2.2.2.2.2.2.1 s1) o_X10_isRound k_1254 (q0 := 0) (ci := 10) rfl rfl (rm_ok hR rfl) rfl (Nat.le_of_ble_eq_true rfl) dX10_judge_6) ?_
  refine r_if_ne (pc := 9) (tgt := 20) hC dX10_judge_9 (by decide) ?_ ?_
  · refine r_aload_n (pc := 20) hC rfl dX10_judge_20 ?_
    refine r_iconst (pc := 21) hC (v := (0 : Int32)) (by decide) dX10_judge_21 ?_
    refine pM_0_8 (pc := 22) hC k_1045 dX10_judge_22 ?_
    refine r_letm (fun s2 => ?_)
    refine r_aload_n (pc := 25) hC rfl dX10_judge_25 ?_
    refine r_iconst (pc := 26) hC (v := (1 : Int32)) (by decide) dX10_judge_26 ?_
    refine pM_0_10 (pc := 27) hC (by decide) k_1047 dX10_judge_27 ?_
    refine r_letm (fun s3 => ?_)
    refine r_aload_n (pc := 30) hC rfl dX10_judge_30 ?_
    refine r_iconst (pc := 31) hC (v := (0 : Int32)) (by decide) dX10_judge_31 ?_
    refine pM_0_31 (pc := 32) hC k_1068 dX10_judge_32 ?_
    refine r_letm (fun s4 => ?_)
    refine r_aload_n (pc := 35) hC rfl dX10_judge_35 ?_
    refine r_iconst (pc := 36) hC (v := (0 : Int32)) (by decide) dX10_judge_36 ?_
    refine pM_0_32 (pc := 37) hC k_1069 dX10_judge_37 ?_
    refine r_letm (fun s5 => ?_)
    refine r_aload_n (pc := 40) hC rfl dX10_judge_40 ?_
    refine r_cM (pc := 41) (rest := []) (fun s6 hf => runV [] hC (c_M_readLine (kl κ) (kW κ) hC.2.2.2.2.2.2.2.2.1 N s5 s6 hf) o_X10_readLine k_1470 (q0 := 0) (ci := 10) rfl rfl (rm_ok hR rfl) rfl (Nat.le_of_ble_eq_true rfl) dX10_judge_41) (fun s6 => ?_)
    have hK60_27 : ∀ (s7 : Mem), wF κ wM 2 (qOM κ wM) s7 60 [some (.ref (ad κ 0)), none] [] (M_judge_K60 N s7) := by
      intro s7
      unfold M_judge_K60
      refine r_aload_n (pc := 60) hC rfl dX10_judge_60 ?_
      refine gM_0_10 (pc := 61) hC k_1047 dX10_judge_61 ?_
      have hJ82_24 : ∀ (s8 : Mem), wF κ wM 2 (qOM κ wM) s8 82 [some (.ref (ad κ 0)), none] [] (M_judge_J82 N s8) := by
        intro s8
        unfold M_judge_J82
        refine r_aload_n (pc := 82) hC rfl dX10_judge_82 ?_
        refine r_iconst (pc := 83) hC (v := (0 : Int32)) (by decide) dX10_judge_83 ?_
        refine pM_0_7 (pc := 84) hC k_1044 dX10_judge_84 ?_
        refine r_letm (fun s9 => ?_)
        refine r_aload_n (pc := 87) hC rfl dX10_judge_87 ?_
        refine gM_0_10 (pc := 88) hC k_1047 dX10_judge_88 ?_
        refine r_if_ne (pc := 91) (tgt := 103) hC dX10_judge_91 (by decide) ?_ ?_
        · refine r_aload_n (pc := 103) hC rfl dX10_judge_103 ?_
          refine r_iconst (pc := 104) hC (v := (1 : Int32)) (by decide) dX10_judge_104 ?_
          refine pM_0_37 (pc := 105) hC (by decide) k_1074 dX10_judge_105 ?_
          refine r_letm (fun s10 => ?_)
          refine r_aload_n (pc := 108) hC rfl dX10_judge_108 ?_
          refine r_iconst (pc := 109) hC (v := (-1 : Int32)) (by decide) dX10_judge_109 ?_
          refine pM_0_33 (pc := 110) hC k_1070 dX10_judge_110 ?_
          refine r_letm (fun s11 => ?_)
          refine r_aload_n (pc := 113) hC rfl dX10_judge_113 ?_
          refine r_iconst (pc := 114) hC (v := (0 : Int32)) (by decide) dX10_judge_114 ?_
          refine pM_0_34 (pc := 115) hC k_1071 dX10_judge_115 ?_
          refine r_letm (fun s12 => ?_)
          refine r_aload_n (pc := 118) hC rfl dX10_judge_118 ?_
          refine r_aload_n (pc := 119) hC rfl dX10_judge_119 ?_
          refine gM_0_32 (pc := 120) hC k_1069 dX10_judge_120 ?_
          refine pM_0_35 (pc := 123) hC k_1072 dX10_judge_123 ?_
          refine r_letm (fun s13 => ?_)
          refine r_aload_n (pc := 126) hC rfl dX10_judge_126 ?_
          refine r_iconst (pc := 127) hC (v := (0 : Int32)) (by decide) dX10_judge_127 ?_
          refine pM_0_36 (pc := 128) hC k_1073 dX10_judge_128 ?_
          refine r_letm (fun s14 => ?_)
          refine r_iconst (pc := 131) hC (v := (0 : Int32)) (by decide) dX10_judge_131 ?_
          refine r_istore_n (pc := 132) hC rfl rfl dX10_judge_132 ?_
          have hK250_15 : ∀ (s15 : Mem), wF κ wM 2 (qOM κ wM) s15 250 [some (.ref (ad κ 0)), none] [] (M_judge_K250 s15) := by
            intro s15
            unfold M_judge_K250
            refine r_aload_n (pc := 250) hC rfl dX10_judge_250 ?_
            refine gM_0_33 (pc := 251) hC k_1070 dX10_judge_251 ?_
            refine r_iconst (pc := 254) hC (v := (-1 : Int32)) (by decide) dX10_judge_254 ?_
            refine r_icmp_ne (pc := 255) (tgt := 265) hC dX10_judge_255 (by decide) ?_ ?_
            · refine r_aload_n (pc := 265) hC rfl dX10_judge_265 ?_
              refine gM_0_33 (pc := 266) hC k_1070 dX10_judge_266 ?_
              exact r_retOM hC rfl dX10_judge_269
            · refine r_aload_n (pc := 258) hC rfl dX10_judge_258 ?_
              refine gM_0_32 (pc := 259) hC k_1069 dX10_judge_259 ?_
              refine r_goto (pc := 262) (tgt := 269) hC dX10_judge_262 (by decide) ?_
              exact r_retOM hC rfl dX10_judge_269
          refine w_it2 (fun i16 s17 => s17) (fun i16 s17 => [some (.ref (ad κ 0)), some (.int i16)]) (fun self18 ih133_18 i16 s17 => ?_) N (0 : Int32) s14
          unfold M_judge_B133
          refine r_iload_n (pc := 133) hC rfl dX10_judge_133 ?_
          refine r_aload_n (pc := 134) hC rfl dX10_judge_134 ?_
          refine gM_0_32 (pc := 135) hC k_1069 dX10_judge_135 ?_
          refine r_icmp_ge (pc := 138) (tgt := 250) hC dX10_judge_138 (by decide) ?_ ?_
          · exact r_wk [true, false] (hK250_15 s17)
          · refine r_aload_n (pc := 141) hC rfl dX10_judge_141 ?_
            refine gM_0_33 (pc := 142) hC k_1070 dX10_judge_142 ?_
            refine r_iconst (pc := 145) hC (v := (-1 : Int32)) (by decide) dX10_judge_145 ?_
            refine r_icmp_ne (pc := 146) (tgt := 250) hC dX10_judge_146 (by decide) ?_ ?_
            · exact r_wk [true, false] (hK250_15 s17)
            · refine r_aload_n (pc := 149) hC rfl dX10_judge_149 ?_
              refine r_aload_n (pc := 150) hC rfl dX10_judge_150 ?_
              refine r_iload_n (pc := 151) hC rfl dX10_judge_151 ?_
              refine r_cOM (pc := 152) (rest := [.ref (ad κ 0)]) (fun r20 s19 hf => runV [.int i16] hC (c_M_whyWrong (kl κ) (kW κ) hC.2.2.2.2.2.2.2.2.1 N i16 s17 r20 s19 hf) o_X10_whyWrong k_1490 (q0 := 0) (ci := 10) rfl rfl (rm_ok hR rfl) rfl (Nat.le_of_ble_eq_true rfl) dX10_judge_152) (fun r20 s19 => ?_)
              refine pM_0_34 (pc := 155) hC k_1071 dX10_judge_155 ?_
              refine r_letm (fun s21 => ?_)
              refine r_aload_n (pc := 158) hC rfl dX10_judge_158 ?_
              refine gM_0_34 (pc := 159) hC k_1071 dX10_judge_159 ?_
              refine r_if_eq (pc := 162) (tgt := 173) hC dX10_judge_162 (by decide) ?_ ?_
              · refine r_aload_n (pc := 173) hC rfl dX10_judge_173 ?_
                refine gM_0_30 (pc := 174) hC k_1067 dX10_judge_174 ?_
                refine r_iload_n (pc := 177) hC rfl dX10_judge_177 ?_
                refine aM_24 (pc := 178) hC dX10_judge_178 ?_
                refine r_bipush (pc := 179) hC (v := (107 : Int32)) (by decide) dX10_judge_179 ?_
                refine r_icmp_ne (pc := 181) (tgt := 209) hC dX10_judge_181 (by decide) ?_ ?_
                · refine r_aload_n (pc := 209) hC rfl dX10_judge_209 ?_
                  refine gM_0_30 (pc := 210) hC k_1067 dX10_judge_210 ?_
                  refine r_iload_n (pc := 213) hC rfl dX10_judge_213 ?_
                  refine aM_24 (pc := 214) hC dX10_judge_214 ?_
                  refine r_bipush (pc := 215) hC (v := (115 : Int32)) (by decide) dX10_judge_215 ?_
                  refine r_icmp_ne (pc := 217) (tgt := 244) hC dX10_judge_217 (by decide) ?_ ?_
                  · refine r_iinc (pc := 244) hC (v := (1 : Int32)) rfl (by decide) rfl rfl dX10_judge_244 ?_
                    refine r_goto (pc := 247) (tgt := 133) hC dX10_judge_247 (by decide) ?_
                    exact ih133_18 (i16 + (1 : Int32)) s21
                  · refine r_aload_n (pc := 220) hC rfl dX10_judge_220 ?_
                    refine r_dup (pc := 221) hC rfl dX10_judge_221 ?_
                    refine gM_0_36 (pc := 222) hC k_1073 dX10_judge_222 ?_
                    refine r_iconst (pc := 225) hC (v := (1 : Int32)) (by decide) dX10_judge_225 ?_
                    refine r_aload_n (pc := 226) hC rfl dX10_judge_226 ?_
                    refine gM_0_28 (pc := 227) hC k_1065 dX10_judge_227 ?_
                    refine r_aload_n (pc := 230) hC rfl dX10_judge_230 ?_
                    refine gM_0_29 (pc := 231) hC k_1066 dX10_judge_231 ?_
                    refine r_iload_n (pc := 234) hC rfl dX10_judge_234 ?_
                    refine aM_23 (pc := 235) hC dX10_judge_235 ?_
                    refine r_iconst (pc := 236) hC (v := (1 : Int32)) (by decide) dX10_judge_236 ?_
                    refine r_iadd (pc := 237) hC dX10_judge_237 ?_
                    refine aM_22 (pc := 238) hC dX10_judge_238 ?_
                    refine r_ishl (pc := 239) hC dX10_judge_239 ?_
                    refine r_ior (pc := 240) hC dX10_judge_240 ?_
                    refine pM_0_36 (pc := 241) hC k_1073 dX10_judge_241 ?_
                    refine r_letm (fun s22 => ?_)
                    refine r_iinc (pc := 244) hC (v := (1 : Int32)) rfl (by decide) rfl rfl dX10_judge_244 ?_
                    refine r_goto (pc := 247) (tgt := 133) hC dX10_judge_247 (by decide) ?_
                    exact ih133_18 (i16 + (1 : Int32)) s22
                · refine r_aload_n (pc := 184) hC rfl dX10_judge_184 ?_
                  refine r_dup (pc := 185) hC rfl dX10_judge_185 ?_
                  refine gM_0_36 (pc := 186) hC k_1073 dX10_judge_186 ?_
                  refine r_iconst (pc := 189) hC (v := (1 : Int32)) (by decide) dX10_judge_189 ?_
                  refine r_aload_n (pc := 190) hC rfl dX10_judge_190 ?_
                  refine gM_0_28 (pc := 191) hC k_1065 dX10_judge_191 ?_
                  refine r_aload_n (pc := 194) hC rfl dX10_judge_194 ?_
                  refine gM_0_29 (pc := 195) hC k_1066 dX10_judge_195 ?_
                  refine r_iload_n (pc := 198) hC rfl dX10_judge_198 ?_
                  refine aM_23 (pc := 199) hC dX10_judge_199 ?_
                  refine aM_22 (pc := 200) hC dX10_judge_200 ?_
                  refine r_ishl (pc := 201) hC dX10_judge_201 ?_
                  refine r_ior (pc := 202) hC dX10_judge_202 ?_
                  refine pM_0_36 (pc := 203) hC k_1073 dX10_judge_203 ?_
                  refine r_letm (fun s23 => ?_)
                  refine r_goto (pc := 206) (tgt := 244) hC dX10_judge_206 (by decide) ?_
                  refine r_iinc (pc := 244) hC (v := (1 : Int32)) rfl (by decide) rfl rfl dX10_judge_244 ?_
                  refine r_goto (pc := 247) (tgt := 133) hC dX10_judge_247 (by decide) ?_
                  exact ih133_18 (i16 + (1 : Int32)) s23
              · refine r_aload_n (pc := 165) hC rfl dX10_judge_165 ?_
                refine r_iload_n (pc := 166) hC rfl dX10_judge_166 ?_
                refine pM_0_33 (pc := 167) hC k_1070 dX10_judge_167 ?_
                refine r_letm (fun s24 => ?_)
                refine r_goto (pc := 170) (tgt := 244) hC dX10_judge_170 (by decide) ?_
                refine r_iinc (pc := 244) hC (v := (1 : Int32)) rfl (by decide) rfl rfl dX10_judge_244 ?_
                refine r_goto (pc := 247) (tgt := 133) hC dX10_judge_247 (by decide) ?_
                exact ih133_18 (i16 + (1 : Int32)) s24
        · refine r_sipush (pc := 94) hC (v := (-1000 : Int32)) (by decide) dX10_judge_94 ?_
          refine r_aload_n (pc := 97) hC rfl dX10_judge_97 ?_
          refine gM_0_9 (pc := 98) hC k_1046 dX10_judge_98 ?_
          refine r_isub (pc := 101) hC dX10_judge_101 ?_
          exact r_retOM hC rfl dX10_judge_102
      refine r_if_eq (pc := 64) (tgt := 82) hC dX10_judge_64 (by decide) ?_ ?_
      · exact hJ82_24 s7
      · refine r_aload_n (pc := 67) hC rfl dX10_judge_67 ?_
        refine r_cOM (pc := 68) (rest := []) (fun r26 s25 hf => runV [] hC (c_M_isEnd (kl κ) (kW κ) hC.2.2.2.2.2.2.2.2.1 N s7 r26 s25 hf) o_X10_isEnd k_1197 (q0 := 0) (ci := 10) rfl rfl (rm_ok hR rfl) rfl (Nat.le_of_ble_eq_true rfl) dX10_judge_68) (fun r26 s25 => ?_)
        refine r_if_ne (pc := 71) (tgt := 82) hC dX10_judge_71 (by decide) ?_ ?_
        · exact hJ82_24 s25
        · refine r_aload_n (pc := 74) hC rfl dX10_judge_74 ?_
          refine r_aload_n (pc := 75) hC rfl dX10_judge_75 ?_
          refine gM_0_8 (pc := 76) hC k_1045 dX10_judge_76 ?_
          refine r_cM (pc := 79) (rest := []) (fun s27 hf => runV [.int (gI s25 8 0)] hC (c_M_wrong (kl κ) (kW κ) hC.2.2.2.2.2.2.2.2.1 (gI s25 8 0) s25 s27 hf) o_X10_wrong k_1186 (q0 := 0) (ci := 10) rfl rfl (rm_ok hR rfl) rfl (Nat.le_of_ble_eq_true rfl) dX10_judge_79) (fun s27 => ?_)
          exact hJ82_24 s27
    refine w_it1 (fun s28 => s28) (fun s28 => [some (.ref (ad κ 0)), none]) (fun self29 ih44_29 s28 => ?_) N s6
    unfold M_judge_B44
    refine r_aload_n (pc := 44) hC rfl dX10_judge_44 ?_
    refine r_bipush (pc := 45) hC (v := (59 : Int32)) (by decide) dX10_judge_45 ?_
    refine r_cOM (pc := 47) (rest := []) (fun r31 s30 hf => runV [.int (59 : Int32)] hC (c_M_takes (kl κ) (kW κ) hC.2.2.2.2.2.2.2.2.1 N (59 : Int32) s28 r31 s30 hf) o_X10_takes k_1190 (q0 := 0) (ci := 10) rfl rfl (rm_ok hR rfl) rfl (Nat.le_of_ble_eq_true rfl) dX10_judge_47) (fun r31 s30 => ?_)
    refine r_if_eq (pc := 50) (tgt := 60) hC dX10_judge_50 (by decide) ?_ ?_
    · exact hK60_27 s30
    · refine r_aload_n (pc := 53) hC rfl dX10_judge_53 ?_
      refine r_cM (pc := 54) (rest := []) (fun s32 hf => runV [] hC (c_M_readLine (kl κ) (kW κ) hC.2.2.2.2.2.2.2.2.1 N s30 s32 hf) o_X10_readLine k_1470 (q0 := 0) (ci := 10) rfl rfl (rm_ok hR rfl) rfl (Nat.le_of_ble_eq_true rfl) dX10_judge_54) (fun s32 => ?_)
      refine r_goto (pc := 57) (tgt := 44) hC dX10_judge_57 (by decide) ?_
      exact ih44_29 s32
  · refine r_aload_n (pc := 12) hC rfl dX10_judge_12 ?_
    refine r_iconst (pc := 13) hC (v := (0 : Int32)) (by decide) dX10_judge_13 ?_
    refine pM_0_7 (pc := 14) hC k_1044 dX10_judge_14 ?_
    refine r_letm (fun s33 => ?_)
    refine r_bipush (pc := 17) hC (v := (-2 : Int32)) (by decide) dX10_judge_17 ?_
    exact r_retOM hC rfl dX10_judge_19
set_option maxRecDepth 100000 in
set_option maxHeartbeats 4000000 in
theorem c_M_judge (l : Launch) (w : Wenv) (hw : okw w wM) (N : Nat) (σ : Mem) (r : Int32) (τ : Mem) (hf : f_M_judge N  σ = some (r, τ)) : Ctr l w wM yX10_judge cX10_judge 2 (some .int) 8 182 [.ref (w.2.2.1 0)] σ (cQi w wM r τ) := mk_ctr (Q := fun κ => qOM κ wM) (lv := [some (.ref (w.2.2.1 0)), none]) (by decide) rfl hw (Nat.le_of_ble_eq_true rfl) rfl hf (fun κ h => by subst h; rfl) (fun κ hl h hR hC => by
    subst h
    exact w_M_judge hR hC N  σ)
-- DuelRoundModel.judged(I)I (0, None) kind OM
def f_M_judged (a1 : Int32) (σ : Mem) : Option (Int32 × Mem) :=
  bnd (sI σ 0 0 (0 : Int32)) fun s1 =>
  if (gI s1 37 0) = (0 : Int32) then
  (some ((-1 : Int32), s1))
  else
  (swc a1 [((0 : Int32), some ((gI s1 33 0), s1)),
  ((1 : Int32), some ((gI s1 34 0), s1)),
  ((2 : Int32), some ((gI s1 35 0), s1)),
  ((3 : Int32), some ((gI s1 36 0), s1))]
  (some ((-1 : Int32), s1)))
set_option maxRecDepth 100000 in
set_option maxHeartbeats 4000000 in
theorem w_M_judged {κ : Ctx} (hR : kR κ = { frames := 0, cells := 0, slots := 0, locals := 0 }) (hC : ok κ wM cX10_judged 2 RX10 (some .int)) (a1 : Int32) (σ : Mem) : wF κ wM 2 (qOM κ wM) σ 0 [some (.ref (ad κ 0)), some (.int a1)] [] (f_M_judged a1 σ) := by
  unfold f_M_judged
  refine r_aload_n (pc := 0) hC rfl dX10_judged_0 ?_
  refine r_iconst (pc := 1) hC (v := (0 : Int32)) (by decide) dX10_judged_1 ?_
  refine pM_0_0 (pc := 2) hC k_1037 dX10_judged_2 ?_
  refine r_letm (fun s1 => ?_)
  refine r_aload_n (pc := 5) hC rfl dX10_judged_5 ?_
  refine gM_0_37 (pc := 6) hC k_1074 dX10_judged_6 ?_
  refine r_if_ne (pc := 9) (tgt := 14) hC dX10_judged_9 (by decide) ?_ ?_
  · refine r_iload_n (pc := 14) hC rfl dX10_judged_14 ?_
    refine r_table (pc := 15) (tg := fun i => ([44, 49, 54, 59] : List Nat).getD i 0) (dt := 64) hC 4 dX10_judged_15 (by decide) (by decide) rfl (fun i hi => ?_) ?_
    · rcases (show i = 0 ∨ i = 1 ∨ i = 2 ∨ i = 3 by omega) with rfl | rfl | rfl | rfl
      · refine ⟨_, _, _, rfl, by decide, rfl, by decide, ?_⟩
        refine r_aload_n (pc := 44) hC rfl dX10_judged_44 ?_
        refine gM_0_33 (pc := 45) hC k_1070 dX10_judged_45 ?_
        exact r_retOM hC rfl dX10_judged_48
      · refine ⟨_, _, _, rfl, by decide, rfl, by decide, ?_⟩
        refine r_aload_n (pc := 49) hC rfl dX10_judged_49 ?_
        refine gM_0_34 (pc := 50) hC k_1071 dX10_judged_50 ?_
        exact r_retOM hC rfl dX10_judged_53
      · refine ⟨_, _, _, rfl, by decide, rfl, by decide, ?_⟩
        refine r_aload_n (pc := 54) hC rfl dX10_judged_54 ?_
        refine gM_0_35 (pc := 55) hC k_1072 dX10_judged_55 ?_
        exact r_retOM hC rfl dX10_judged_58
      · refine ⟨_, _, _, rfl, by decide, rfl, by decide, ?_⟩
        refine r_aload_n (pc := 59) hC rfl dX10_judged_59 ?_
        refine gM_0_36 (pc := 60) hC k_1073 dX10_judged_60 ?_
        exact r_retOM hC rfl dX10_judged_63
    · refine r_iconst (pc := 64) hC (v := (-1 : Int32)) (by decide) dX10_judged_64 ?_
      exact r_retOM hC rfl dX10_judged_65
  · refine r_iconst (pc := 12) hC (v := (-1 : Int32)) (by decide) dX10_judged_12 ?_
    exact r_retOM hC rfl dX10_judged_13
set_option maxRecDepth 100000 in
set_option maxHeartbeats 4000000 in
theorem c_M_judged (l : Launch) (w : Wenv) (hw : okw w wM) (a1 : Int32) (σ : Mem) (r : Int32) (τ : Mem) (hf : f_M_judged a1 σ = some (r, τ)) : Ctr l w wM yX10_judged cX10_judged 2 (some .int) 0 0 [.ref (w.2.2.1 0), .int a1] σ (cQi w wM r τ) := mk_ctr (Q := fun κ => qOM κ wM) (lv := [some (.ref (w.2.2.1 0)), some (.int a1)]) (by decide) rfl hw (Nat.le_of_ble_eq_true rfl) rfl hf (fun κ h => by subst h; rfl) (fun κ hl h hR hC => by
    subst h
    exact w_M_judged hR hC a1 σ)
-- DuelRoundModel.keep(I)Z (0, None) kind OM
def M_keep_B26 (a1 : Int32) (self4 : Int32 → Mem → Option (Int32 × Mem)) (i2 : Int32) (s3 : Mem) : Option (Int32 × Mem) :=
  if (9 : Int32) ≤ i2 then
  (gd (inb a1 2) (bnd (sI s3 5 a1.toNatClampNeg (vp_nar .boolean (1 : Int32))) fun s5 =>
  some ((1 : Int32), s5)))
  else
  (gd (inb i2 9) (gd (inb (((9 : Int32) * a1) + i2) 18) (bnd (sI s3 4 (((9 : Int32) * a1) + i2).toNatClampNeg (gI s3 1 i2.toNatClampNeg)) fun s6 =>
  self4 (i2 + (1 : Int32)) s6)))
def f_M_keep (N : Nat) (a1 : Int32) (σ : Mem) : Option (Int32 × Mem) :=
  bnd (sI σ 0 0 (0 : Int32)) fun s1 =>
  if (t_M_in (a1.toInt64) (0 : Int64) (1 : Int64)) = (0 : Int32) then
  (some ((0 : Int32), s1))
  else
  (if (t_M_isRound s1) = (0 : Int32) then
  (some ((0 : Int32), s1))
  else
  (it2 (M_keep_B26 a1) N (0 : Int32) s1))
set_option maxRecDepth 100000 in
set_option maxHeartbeats 4000000 in
theorem w_M_keep {κ : Ctx} (hR : kR κ = { frames := 1, cells := 0, slots := 0, locals := 25 }) (hC : ok κ wM cX10_keep 3 RX10 (some .boolean)) (N : Nat) (a1 : Int32) (σ : Mem) : wF κ wM 3 (qOM κ wM) σ 0 [some (.ref (ad κ 0)), some (.int a1), none] [] (f_M_keep N a1 σ) := by
  unfold f_M_keep
  refine r_aload_n (pc := 0) hC rfl dX10_keep_0 ?_
  refine r_iconst (pc := 1) hC (v := (0 : Int32)) (by decide) dX10_keep_1 ?_
  refine pM_0_0 (pc := 2) hC k_1037 dX10_keep_2 ?_
  refine r_letm (fun s1 => ?_)
  refine r_iload_n (pc := 5) hC rfl dX10_keep_5 ?_
  refine r_i2l (pc := 6) hC dX10_keep_6 ?_
  refine r_lconst (pc := 7) hC (v := (0 : Int64)) (by decide) dX10_keep_7 ?_
  refine r_lconst (pc := 8) hC (v := (1 : Int64)) (by decide) dX10_keep_8 ?_
  refine r_cT (pc := 9) (rest := []) (runS [.long (a1.toInt64), .long (0 : Int64), .long (1 : Int64)] hC (c_M_in (kl κ) (kW κ) hC.2.2.2.2.2.2.2.2.1 (a1.toInt64) (0 : Int64) (1 : Int64) s1) o_X10_in k_1161 (rm_ok hR rfl) rfl (Nat.le_of_ble_eq_true rfl) dX10_keep_9) ?_
  refine r_if_eq (pc := 12) (tgt := 22) hC dX10_keep_12 (by decide) ?_ ?_
  · refine r_iconst (pc := 22) hC (v := (0 : Int32)) (by decide) dX10_keep_22 ?_
    exact r_retOM hC rfl dX10_keep_23
  · refine r_aload_n (pc := 15) hC rfl dX10_keep_15 ?_
    refine r_cT (pc := 16) (rest := []) (runV [] hC (c_M_isRound (kl κ) (kW κ) hC.2.2.2.2.2.2.2.2.1 s1) o_X10_isRound k_1254 (q0 := 0) (ci := 10) rfl rfl (rm_ok hR rfl) rfl (Nat.le_of_ble_eq_true rfl) dX10_keep_16) ?_
    refine r_if_ne (pc := 19) (tgt := 24) hC dX10_keep_19 (by decide) ?_ ?_
    · refine r_iconst (pc := 24) hC (v := (0 : Int32)) (by decide) dX10_keep_24 ?_
      refine r_istore_n (pc := 25) hC rfl rfl dX10_keep_25 ?_
      refine w_it2 (fun i2 s3 => s3) (fun i2 s3 => [some (.ref (ad κ 0)), some (.int a1), some (.int i2)]) (fun self4 ih26_4 i2 s3 => ?_) N (0 : Int32) s1
      unfold M_keep_B26
      refine r_iload_n (pc := 26) hC rfl dX10_keep_26 ?_
      refine r_bipush (pc := 27) hC (v := (9 : Int32)) (by decide) dX10_keep_27 ?_
      refine r_icmp_ge (pc := 29) (tgt := 55) hC dX10_keep_29 (by decide) ?_ ?_
      · refine r_aload_n (pc := 55) hC rfl dX10_keep_55 ?_
        refine gM_0_5 (pc := 56) hC k_1042 dX10_keep_56 ?_
        refine r_iload_n (pc := 59) hC rfl dX10_keep_59 ?_
        refine r_iconst (pc := 60) hC (v := (1 : Int32)) (by decide) dX10_keep_60 ?_
        refine bM_4 (pc := 61) hC dX10_keep_61 ?_
        refine r_letm (fun s5 => ?_)
        refine r_iconst (pc := 62) hC (v := (1 : Int32)) (by decide) dX10_keep_62 ?_
        exact r_retOM hC rfl dX10_keep_63
      · refine r_aload_n (pc := 32) hC rfl dX10_keep_32 ?_
        refine gM_0_4 (pc := 33) hC k_1041 dX10_keep_33 ?_
        refine r_bipush (pc := 36) hC (v := (9 : Int32)) (by decide) dX10_keep_36 ?_
        refine r_iload_n (pc := 38) hC rfl dX10_keep_38 ?_
        refine r_imul (pc := 39) hC dX10_keep_39 ?_
        refine r_iload_n (pc := 40) hC rfl dX10_keep_40 ?_
        refine r_iadd (pc := 41) hC dX10_keep_41 ?_
        refine r_aload_n (pc := 42) hC rfl dX10_keep_42 ?_
        refine gM_0_1 (pc := 43) hC k_1038 dX10_keep_43 ?_
        refine r_iload_n (pc := 46) hC rfl dX10_keep_46 ?_
        refine aM_1 (pc := 47) hC dX10_keep_47 ?_
        refine bM_3 (pc := 48) hC dX10_keep_48 ?_
        refine r_letm (fun s6 => ?_)
        refine r_iinc (pc := 49) hC (v := (1 : Int32)) rfl (by decide) rfl rfl dX10_keep_49 ?_
        refine r_goto (pc := 52) (tgt := 26) hC dX10_keep_52 (by decide) ?_
        exact ih26_4 (i2 + (1 : Int32)) s6
    · refine r_iconst (pc := 22) hC (v := (0 : Int32)) (by decide) dX10_keep_22 ?_
      exact r_retOM hC rfl dX10_keep_23
set_option maxRecDepth 100000 in
set_option maxHeartbeats 4000000 in
theorem c_M_keep (l : Launch) (w : Wenv) (hw : okw w wM) (N : Nat) (a1 : Int32) (σ : Mem) (r : Int32) (τ : Mem) (hf : f_M_keep N a1 σ = some (r, τ)) : Ctr l w wM yX10_keep cX10_keep 3 (some .boolean) 1 25 [.ref (w.2.2.1 0), .int a1] σ (cQi w wM r τ) := mk_ctr (Q := fun κ => qOM κ wM) (lv := [some (.ref (w.2.2.1 0)), some (.int a1), none]) (by decide) rfl hw (Nat.le_of_ble_eq_true rfl) rfl hf (fun κ h => by subst h; rfl) (fun κ hl h hR hC => by
    subst h
    exact w_M_keep hR hC N a1 σ)
-- DuelRoundModel.keeps(II)I (0, None, None) kind OM
def f_M_keeps (N : Nat) (a1 : Int32) (a2 : Int32) (σ : Mem) : Option (Int32 × Mem) :=
  bnd (sI σ 0 0 (0 : Int32)) fun s1 =>
  if (t_M_isPlayer a1 s1) = (0 : Int32) then
  (some ((-1 : Int32), s1))
  else
  (if (t_M_isSome a2 s1) = (0 : Int32) then
  (some ((-1 : Int32), s1))
  else
  (ob (f_M_layKeeping N s1) fun s2 =>
  ob (f_M_over a1 s2) fun r3 =>
  gd (inb (r3 &&& a2) 256) (some ((gI s2 22 (r3 &&& a2).toNatClampNeg), s2))))
set_option maxRecDepth 100000 in
set_option maxHeartbeats 4000000 in
theorem w_M_keeps {κ : Ctx} (hR : kR κ = { frames := 4, cells := 0, slots := 0, locals := 91 }) (hC : ok κ wM cX10_keeps 3 RX10 (some .int)) (N : Nat) (a1 : Int32) (a2 : Int32) (σ : Mem) : wF κ wM 3 (qOM κ wM) σ 0 [some (.ref (ad κ 0)), some (.int a1), some (.int a2)] [] (f_M_keeps N a1 a2 σ) := by
  unfold f_M_keeps
  refine r_aload_n (pc := 0) hC rfl dX10_keeps_0 ?_
  refine r_iconst (pc := 1) hC (v := (0 : Int32)) (by decide) dX10_keeps_1 ?_
  refine pM_0_0 (pc := 2) hC k_1037 dX10_keeps_2 ?_
  refine r_letm (fun s1 => ?_)
  refine r_aload_n (pc := 5) hC rfl dX10_keeps_5 ?_
  refine r_iload_n (pc := 6) hC rfl dX10_keeps_6 ?_
  refine r_cT (pc := 7) (rest := []) (runV [.int a1] hC (c_M_isPlayer (kl κ) (kW κ) hC.2.2.2.2.2.2.2.2.1 a1 s1) o_X10_isPlayer k_1220 (q0 := 0) (ci := 10) rfl rfl (rm_ok hR rfl) rfl (Nat.le_of_ble_eq_true rfl) dX10_keeps_7) ?_
  refine r_if_eq (pc := 10) (tgt := 21) hC dX10_keeps_10 (by decide) ?_ ?_
  · refine r_iconst (pc := 21) hC (v := (-1 : Int32)) (by decide) dX10_keeps_21 ?_
    exact r_retOM hC rfl dX10_keeps_22
  · refine r_aload_n (pc := 13) hC rfl dX10_keeps_13 ?_
    refine r_iload_n (pc := 14) hC rfl dX10_keeps_14 ?_
    refine r_cT (pc := 15) (rest := []) (runV [.int a2] hC (c_M_isSome (kl κ) (kW κ) hC.2.2.2.2.2.2.2.2.1 a2 s1) o_X10_isSome k_1250 (q0 := 0) (ci := 10) rfl rfl (rm_ok hR rfl) rfl (Nat.le_of_ble_eq_true rfl) dX10_keeps_15) ?_
    refine r_if_ne (pc := 18) (tgt := 23) hC dX10_keeps_18 (by decide) ?_ ?_
    · refine r_aload_n (pc := 23) hC rfl dX10_keeps_23 ?_
      refine r_cM (pc := 24) (rest := []) (fun s2 hf => runV [] hC (c_M_layKeeping (kl κ) (kW κ) hC.2.2.2.2.2.2.2.2.1 N s1 s2 hf) o_X10_layKeeping k_1372 (q0 := 0) (ci := 10) rfl rfl (rm_ok hR rfl) rfl (Nat.le_of_ble_eq_true rfl) dX10_keeps_24) (fun s2 => ?_)
      refine r_aload_n (pc := 27) hC rfl dX10_keeps_27 ?_
      refine gM_0_22 (pc := 28) hC k_1059 dX10_keeps_28 ?_
      refine r_aload_n (pc := 31) hC rfl dX10_keeps_31 ?_
      refine r_iload_n (pc := 32) hC rfl dX10_keeps_32 ?_
      refine r_cO (pc := 33) (rest := [.ref (ad κ 16)]) (fun r3 hf => runV [.int a1] hC (c_M_over (kl κ) (kW κ) hC.2.2.2.2.2.2.2.2.1 a1 s2 r3 hf) o_X10_over k_1239 (q0 := 0) (ci := 10) rfl rfl (rm_ok hR rfl) rfl (Nat.le_of_ble_eq_true rfl) dX10_keeps_33) (fun r3 => ?_)
      refine r_iload_n (pc := 36) hC rfl dX10_keeps_36 ?_
      refine r_iand (pc := 37) hC dX10_keeps_37 ?_
      refine aM_16 (pc := 38) hC dX10_keeps_38 ?_
      exact r_retOM hC rfl dX10_keeps_39
    · refine r_iconst (pc := 21) hC (v := (-1 : Int32)) (by decide) dX10_keeps_21 ?_
      exact r_retOM hC rfl dX10_keeps_22
set_option maxRecDepth 100000 in
set_option maxHeartbeats 4000000 in
theorem c_M_keeps (l : Launch) (w : Wenv) (hw : okw w wM) (N : Nat) (a1 : Int32) (a2 : Int32) (σ : Mem) (r : Int32) (τ : Mem) (hf : f_M_keeps N a1 a2 σ = some (r, τ)) : Ctr l w wM yX10_keeps cX10_keeps 3 (some .int) 4 91 [.ref (w.2.2.1 0), .int a1, .int a2] σ (cQi w wM r τ) := mk_ctr (Q := fun κ => qOM κ wM) (lv := [some (.ref (w.2.2.1 0)), some (.int a1), some (.int a2)]) (by decide) rfl hw (Nat.le_of_ble_eq_true rfl) rfl hf (fun κ h => by subst h; rfl) (fun κ hl h hR hC => by
    subst h
    exact w_M_keeps hR hC N a1 a2 σ)
-- DuelRoundModel.praised(II)I (0, None, None) kind OM
def M_praised_B61 (N : Nat) (a1 : Int32) (self5 : Int32 → Int32 → Mem → Option (Int32 × Mem)) (i2 : Int32) (i3 : Int32) (s4 : Mem) : Option (Int32 × Mem) :=
  if (9 : Int32) ≤ i3 then
  (some (i2, s4))
  else
  (ob2 (f_M_setOf N i3 (t_M_all s4) s4) fun r7 s6 =>
  if (t_M_has r7 a1) = (0 : Int32) then
  (bnd (i2 + (0 : Int32)) fun x8 =>
  self5 x8 (i3 + (1 : Int32)) s6)
  else
  (bnd (i2 + (1 : Int32)) fun x9 =>
  self5 x9 (i3 + (1 : Int32)) s6))
def f_M_praised (N : Nat) (a1 : Int32) (a2 : Int32) (σ : Mem) : Option (Int32 × Mem) :=
  bnd (sI σ 0 0 (0 : Int32)) fun s1 =>
  if (t_M_isPlayer a1 s1) = (0 : Int32) then
  (some ((-1 : Int32), s1))
  else
  (if (t_M_in (a2.toInt64) (-1 : Int64) (8 : Int64)) = (0 : Int32) then
  (some ((-1 : Int32), s1))
  else
  (if a2 = (-1 : Int32) then
  (it3 (M_praised_B61 N a1) N (0 : Int32) (0 : Int32) s1)
  else
  (ob2 (f_M_setOf N a2 (t_M_all s1) s1) fun r11 s10 =>
  if (t_M_has r11 a1) = (0 : Int32) then
  (some ((0 : Int32), s10))
  else
  (some ((1 : Int32), s10)))))
set_option maxRecDepth 100000 in
set_option maxHeartbeats 4000000 in
theorem w_M_praised {κ : Ctx} (hR : kR κ = { frames := 6, cells := 0, slots := 0, locals := 133 }) (hC : ok κ wM cX10_praised 5 RX10 (some .int)) (N : Nat) (a1 : Int32) (a2 : Int32) (σ : Mem) : wF κ wM 5 (qOM κ wM) σ 0 [some (.ref (ad κ 0)), some (.int a1), some (.int a2), none, none] [] (f_M_praised N a1 a2 σ) := by
  unfold f_M_praised
  refine r_aload_n (pc := 0) hC rfl dX10_praised_0 ?_
  refine r_iconst (pc := 1) hC (v := (0 : Int32)) (by decide) dX10_praised_1 ?_
  refine pM_0_0 (pc := 2) hC k_1037 dX10_praised_2 ?_
  refine r_letm (fun s1 => ?_)
  refine r_aload_n (pc := 5) hC rfl dX10_praised_5 ?_
  refine r_iload_n (pc := 6) hC rfl dX10_praised_6 ?_
  refine r_cT (pc := 7) (rest := []) (runV [.int a1] hC (c_M_isPlayer (kl κ) (kW κ) hC.2.2.2.2.2.2.2.2.1 a1 s1) o_X10_isPlayer k_1220 (q0 := 0) (ci := 10) rfl rfl (rm_ok hR rfl) rfl (Nat.le_of_ble_eq_true rfl) dX10_praised_7) ?_
  refine r_if_eq (pc := 10) (tgt := 27) hC dX10_praised_10 (by decide) ?_ ?_
  · refine r_iconst (pc := 27) hC (v := (-1 : Int32)) (by decide) dX10_praised_27 ?_
    exact r_retOM hC rfl dX10_praised_28
  · refine r_iload_n (pc := 13) hC rfl dX10_praised_13 ?_
    refine r_i2l (pc := 14) hC dX10_praised_14 ?_
    refine r_ldc2 (pc := 15) hC (v := (-1 : Int64)) k_1399 dX10_praised_15 ?_
    refine r_ldc2 (pc := 18) hC (v := (8 : Int64)) k_1213 dX10_praised_18 ?_
    refine r_cT (pc := 21) (rest := []) (runS [.long (a2.toInt64), .long (-1 : Int64), .long (8 : Int64)] hC (c_M_in (kl κ) (kW κ) hC.2.2.2.2.2.2.2.2.1 (a2.toInt64) (-1 : Int64) (8 : Int64) s1) o_X10_in k_1161 (rm_ok hR rfl) rfl (Nat.le_of_ble_eq_true rfl) dX10_praised_21) ?_
    refine r_if_ne (pc := 24) (tgt := 29) hC dX10_praised_24 (by decide) ?_ ?_
    · refine r_iload_n (pc := 29) hC rfl dX10_praised_29 ?_
      refine r_iconst (pc := 30) hC (v := (-1 : Int32)) (by decide) dX10_praised_30 ?_
      refine r_icmp_eq (pc := 31) (tgt := 56) hC dX10_praised_31 (by decide) ?_ ?_
      · refine r_iconst (pc := 56) hC (v := (0 : Int32)) (by decide) dX10_praised_56 ?_
        refine r_istore_n (pc := 57) hC rfl rfl dX10_praised_57 ?_
        refine r_iconst (pc := 58) hC (v := (0 : Int32)) (by decide) dX10_praised_58 ?_
        refine r_istore (pc := 59) hC rfl rfl dX10_praised_59 ?_
        refine r_wk [true, true, false, true, true] (w_it3 (fun i2 i3 s4 => s4) (fun i2 i3 s4 => [some (.ref (ad κ 0)), some (.int a1), none, some (.int i2), some (.int i3)]) (fun self5 ih61_5 i2 i3 s4 => ?_) N (0 : Int32) (0 : Int32) s1)
        unfold M_praised_B61
        refine r_iload (pc := 61) hC rfl dX10_praised_61 ?_
        refine r_bipush (pc := 63) hC (v := (9 : Int32)) (by decide) dX10_praised_63 ?_
        refine r_icmp_ge (pc := 65) (tgt := 99) hC dX10_praised_65 (by decide) ?_ ?_
        · refine r_iload_n (pc := 99) hC rfl dX10_praised_99 ?_
          exact r_retOM hC rfl dX10_praised_100
        · refine r_iload_n (pc := 68) hC rfl dX10_praised_68 ?_
          refine r_aload_n (pc := 69) hC rfl dX10_praised_69 ?_
          refine r_iload (pc := 70) hC rfl dX10_praised_70 ?_
          refine r_aload_n (pc := 72) hC rfl dX10_praised_72 ?_
          refine r_cT (pc := 73) (rest := [.int i3, .ref (ad κ 0), .int i2]) (runV [] hC (c_M_all (kl κ) (kW κ) hC.2.2.2.2.2.2.2.2.1 s4) o_X10_all k_1228 (q0 := 0) (ci := 10) rfl rfl (rm_ok hR rfl) rfl (Nat.le_of_ble_eq_true rfl) dX10_praised_73) ?_
          refine r_cOM (pc := 76) (rest := [.int i2]) (fun r7 s6 hf => runV [.int i3, .int (t_M_all s4)] hC (c_M_setOf (kl κ) (kW κ) hC.2.2.2.2.2.2.2.2.1 N i3 (t_M_all s4) s4 r7 s6 hf) o_X10_setOf k_1290 (q0 := 0) (ci := 10) rfl rfl (rm_ok hR rfl) rfl (Nat.le_of_ble_eq_true rfl) dX10_praised_76) (fun r7 s6 => ?_)
          refine r_iload_n (pc := 79) hC rfl dX10_praised_79 ?_
          refine r_cT (pc := 80) (rest := [.int i2]) (runS [.int r7, .int a1] hC (c_M_has (kl κ) (kW κ) hC.2.2.2.2.2.2.2.2.1 r7 a1 s6) o_X10_has k_1194 (rm_ok hR rfl) rfl (Nat.le_of_ble_eq_true rfl) dX10_praised_80) ?_
          refine r_if_eq (pc := 83) (tgt := 90) hC dX10_praised_83 (by decide) ?_ ?_
          · refine r_iconst (pc := 90) hC (v := (0 : Int32)) (by decide) dX10_praised_90 ?_
            refine r_iadd (pc := 91) hC dX10_praised_91 ?_
            refine r_let (fun x8 => ?_)
            refine r_istore_n (pc := 92) hC rfl rfl dX10_praised_92 ?_
            refine r_iinc (pc := 93) hC (v := (1 : Int32)) rfl (by decide) rfl rfl dX10_praised_93 ?_
            refine r_goto (pc := 96) (tgt := 61) hC dX10_praised_96 (by decide) ?_
            exact ih61_5 x8 (i3 + (1 : Int32)) s6
          · refine r_iconst (pc := 86) hC (v := (1 : Int32)) (by decide) dX10_praised_86 ?_
            refine r_goto (pc := 87) (tgt := 91) hC dX10_praised_87 (by decide) ?_
            refine r_iadd (pc := 91) hC dX10_praised_91 ?_
            refine r_let (fun x9 => ?_)
            refine r_istore_n (pc := 92) hC rfl rfl dX10_praised_92 ?_
            refine r_iinc (pc := 93) hC (v := (1 : Int32)) rfl (by decide) rfl rfl dX10_praised_93 ?_
            refine r_goto (pc := 96) (tgt := 61) hC dX10_praised_96 (by decide) ?_
            exact ih61_5 x9 (i3 + (1 : Int32)) s6
      · refine r_aload_n (pc := 34) hC rfl dX10_praised_34 ?_
        refine r_iload_n (pc := 35) hC rfl dX10_praised_35 ?_
        refine r_aload_n (pc := 36) hC rfl dX10_praised_36 ?_
        refine r_cT (pc := 37) (rest := [.int a2, .ref (ad κ 0)]) (runV [] hC (c_M_all (kl κ) (kW κ) hC.2.2.2.2.2.2.2.2.1 s1) o_X10_all k_1228 (q0 := 0) (ci := 10) rfl rfl (rm_ok hR rfl) rfl (Nat.le_of_ble_eq_true rfl) dX10_praised_37) ?_
        refine r_cOM (pc := 40) (rest := []) (fun r11 s10 hf => runV [.int a2, .int (t_M_all s1)] hC (c_M_setOf (kl κ) (kW κ) hC.2.2.2.2.2.2.2.2.1 N a2 (t_M_all s1) s1 r11 s10 hf) o_X10_setOf k_1290 (q0 := 0) (ci := 10) rfl rfl (rm_ok hR rfl) rfl (Nat.le_of_ble_eq_true rfl) dX10_praised_40) (fun r11 s10 => ?_)
        refine r_iload_n (pc := 43) hC rfl dX10_praised_43 ?_
        refine r_cT (pc := 44) (rest := []) (runS [.int r11, .int a1] hC (c_M_has (kl κ) (kW κ) hC.2.2.2.2.2.2.2.2.1 r11 a1 s10) o_X10_has k_1194 (rm_ok hR rfl) rfl (Nat.le_of_ble_eq_true rfl) dX10_praised_44) ?_
        refine r_if_eq (pc := 47) (tgt := 54) hC dX10_praised_47 (by decide) ?_ ?_
        · refine r_iconst (pc := 54) hC (v := (0 : Int32)) (by decide) dX10_praised_54 ?_
          exact r_retOM hC rfl dX10_praised_55
        · refine r_iconst (pc := 50) hC (v := (1 : Int32)) (by decide) dX10_praised_50 ?_
          refine r_goto (pc := 51) (tgt := 55) hC dX10_praised_51 (by decide) ?_
          exact r_retOM hC rfl dX10_praised_55
    · refine r_iconst (pc := 27) hC (v := (-1 : Int32)) (by decide) dX10_praised_27 ?_
      exact r_retOM hC rfl dX10_praised_28
set_option maxRecDepth 100000 in
set_option maxHeartbeats 4000000 in
theorem c_M_praised (l : Launch) (w : Wenv) (hw : okw w wM) (N : Nat) (a1 : Int32) (a2 : Int32) (σ : Mem) (r : Int32) (τ : Mem) (hf : f_M_praised N a1 a2 σ = some (r, τ)) : Ctr l w wM yX10_praised cX10_praised 5 (some .int) 6 133 [.ref (w.2.2.1 0), .int a1, .int a2] σ (cQi w wM r τ) := mk_ctr (Q := fun κ => qOM κ wM) (lv := [some (.ref (w.2.2.1 0)), some (.int a1), some (.int a2), none, none]) (by decide) rfl hw (Nat.le_of_ble_eq_true rfl) rfl hf (fun κ h => by subst h; rfl) (fun κ hl h hR hC => by
    subst h
    exact w_M_praised hR hC N a1 a2 σ)
-- DuelRoundModel.readPair()V (0,) kind M
def M_readPair_J82 (r2 : Int32) (v7 : Int32) (s9 : Mem) : Option Mem :=
  if (gI s9 10 0) = (0 : Int32) then
  (some s9)
  else
  (gd (inb r2 8) (gd (inb r2 8) (bnd (sI s9 11 r2.toNatClampNeg ((gI s9 11 r2.toNatClampNeg) ||| ((1 : Int32) <<< (v7 &&& 31)))) fun s10 =>
  gd (inb v7 8) (gd (inb v7 8) (bnd (sI s10 11 v7.toNatClampNeg ((gI s10 11 v7.toNatClampNeg) ||| ((1 : Int32) <<< (r2 &&& 31)))) fun s11 =>
  gd (inb r2 8) (gd (inb r2 8) (bnd (sI s11 12 r2.toNatClampNeg ((gI s11 12 r2.toNatClampNeg) ||| ((1 : Int32) <<< (v7 &&& 31)))) fun s12 =>
  some s12)))))))
def M_readPair_J77 (s8 : Mem) (r2 : Int32) (x6 : Int32) (v7 : Int32) : Option Mem :=
  ob (f_M_wrong x6 s8) fun s13 =>
  M_readPair_J82 r2 v7 s13
def M_readPair_J51 (r2 : Int32) (r5 : Int32) (x6 : Int32) (v7 : Int32) (s8 : Mem) : Option Mem :=
  if r5 = (0 : Int32) then
  (M_readPair_J77 s8 r2 x6 v7)
  else
  (if v7 = r2 then
  (M_readPair_J77 s8 r2 x6 v7)
  else
  (gd (inb r2 8) (if (t_M_has (gI s8 11 r2.toNatClampNeg) v7) = (0 : Int32) then
  (M_readPair_J82 r2 v7 s8)
  else
  (M_readPair_J77 s8 r2 x6 v7))))
def M_readPair_J29 (N : Nat) (r2 : Int32) (s3 : Mem) : Option Mem :=
  ob2 (f_M_isLetterNext N s3) fun r5 s4 =>
  bnd (gI s4 8 0) fun x6 =>
  if r5 = (0 : Int32) then
  (M_readPair_J51 r2 r5 x6 (0 : Int32) s4)
  else
  (ob2 (f_M_letter N s4) fun r15 s14 =>
  M_readPair_J51 r2 r5 x6 r15 s14)
def f_M_readPair (N : Nat) (σ : Mem) : Option Mem :=
  ob2 (f_M_letter N σ) fun r2 s1 =>
  if (gI s1 10 0) = (0 : Int32) then
  (M_readPair_J29 N r2 s1)
  else
  (ob2 (f_M_takes N (62 : Int32) s1) fun r17 s16 =>
  if r17 = (0 : Int32) then
  (ob (f_M_wrong (gI s16 8 0) s16) fun s18 =>
  M_readPair_J29 N r2 s18)
  else
  (M_readPair_J29 N r2 s16))
set_option maxRecDepth 100000 in
set_option maxHeartbeats 4000000 in
theorem w_M_readPair {κ : Ctx} (hR : kR κ = { frames := 3, cells := 0, slots := 0, locals := 65 }) (hC : ok κ wM cX10_readPair 5 RX10 none) (N : Nat) (σ : Mem) : wF κ wM 5 (qM κ wM) σ 0 [some (.ref (ad κ 0)), none, none, none, none] [] (f_M_readPair N  σ) := by
  unfold f_M_readPair
  refine r_aload_n (pc := 0) hC rfl dX10_readPair_0 ?_
  refine r_cOM (pc := 1) (rest := []) (fun r2 s1 hf => runV [] hC (c_M_letter (kl κ) (kW κ) hC.2.2.2.2.2.2.2.2.1 N σ r2 s1 hf) o_X10_letter k_1172 (q0 := 0) (ci := 10) rfl rfl (rm_ok hR rfl) rfl (Nat.le_of_ble_eq_true rfl) dX10_readPair_1) (fun r2 s1 => ?_)
  refine r_istore_n (pc := 4) hC rfl rfl dX10_readPair_4 ?_
  refine r_aload_n (pc := 5) hC rfl dX10_readPair_5 ?_
  refine gM_0_10 (pc := 6) hC k_1047 dX10_readPair_6 ?_
  have hJ29_15 : ∀ (s3 : Mem), wF κ wM 5 (qM κ wM) s3 29 [some (.ref (ad κ 0)), some (.int r2), none, none, none] [] (M_readPair_J29 N r2 s3) := by
    intro s3
    unfold M_readPair_J29
    refine r_aload_n (pc := 29) hC rfl dX10_readPair_29 ?_
    refine r_cOM (pc := 30) (rest := []) (fun r5 s4 hf => runV [] hC (c_M_isLetterNext (kl κ) (kW κ) hC.2.2.2.2.2.2.2.2.1 N s3 r5 s4 hf) o_X10_isLetterNext k_1176 (q0 := 0) (ci := 10) rfl rfl (rm_ok hR rfl) rfl (Nat.le_of_ble_eq_true rfl) dX10_readPair_30) (fun r5 s4 => ?_)
    refine r_istore_n (pc := 33) hC rfl rfl dX10_readPair_33 ?_
    refine r_aload_n (pc := 34) hC rfl dX10_readPair_34 ?_
    refine gM_0_8 (pc := 35) hC k_1045 dX10_readPair_35 ?_
    refine r_let (fun x6 => ?_)
    refine r_istore_n (pc := 38) hC rfl rfl dX10_readPair_38 ?_
    refine r_iload_n (pc := 39) hC rfl dX10_readPair_39 ?_
    have hJ51_13 : ∀ (v7 : Int32) (s8 : Mem), wF κ wM 5 (qM κ wM) s8 51 [some (.ref (ad κ 0)), some (.int r2), some (.int r5), some (.int x6), none] [.int v7] (M_readPair_J51 r2 r5 x6 v7 s8) := by
      intro v7 s8
      unfold M_readPair_J51
      refine r_istore (pc := 51) hC rfl rfl dX10_readPair_51 ?_
      refine r_iload_n (pc := 53) hC rfl dX10_readPair_53 ?_
      have hJ82_12 : ∀ (s9 : Mem), wF κ wM 5 (qM κ wM) s9 82 [some (.ref (ad κ 0)), some (.int r2), none, none, some (.int v7)] [] (M_readPair_J82 r2 v7 s9) := by
        intro s9
        unfold M_readPair_J82
        refine r_aload_n (pc := 82) hC rfl dX10_readPair_82 ?_
        refine gM_0_10 (pc := 83) hC k_1047 dX10_readPair_83 ?_
        refine r_if_eq (pc := 86) (tgt := 128) hC dX10_readPair_86 (by decide) ?_ ?_
        · exact r_retM hC dX10_readPair_128
        · refine r_aload_n (pc := 89) hC rfl dX10_readPair_89 ?_
          refine gM_0_11 (pc := 90) hC k_1048 dX10_readPair_90 ?_
          refine r_iload_n (pc := 93) hC rfl dX10_readPair_93 ?_
          refine r_dup2 (pc := 94) hC rfl rfl dX10_readPair_94 ?_
          refine aM_6 (pc := 95) hC dX10_readPair_95 ?_
          refine r_iconst (pc := 96) hC (v := (1 : Int32)) (by decide) dX10_readPair_96 ?_
          refine r_iload (pc := 97) hC rfl dX10_readPair_97 ?_
          refine r_ishl (pc := 99) hC dX10_readPair_99 ?_
          refine r_ior (pc := 100) hC dX10_readPair_100 ?_
          refine bM_6 (pc := 101) hC dX10_readPair_101 ?_
          refine r_letm (fun s10 => ?_)
          refine r_aload_n (pc := 102) hC rfl dX10_readPair_102 ?_
          refine gM_0_11 (pc := 103) hC k_1048 dX10_readPair_103 ?_
          refine r_iload (pc := 106) hC rfl dX10_readPair_106 ?_
          refine r_dup2 (pc := 108) hC rfl rfl dX10_readPair_108 ?_
          refine aM_6 (pc := 109) hC dX10_readPair_109 ?_
          refine r_iconst (pc := 110) hC (v := (1 : Int32)) (by decide) dX10_readPair_110 ?_
          refine r_iload_n (pc := 111) hC rfl dX10_readPair_111 ?_
          refine r_ishl (pc := 112) hC dX10_readPair_112 ?_
          refine r_ior (pc := 113) hC dX10_readPair_113 ?_
          refine bM_6 (pc := 114) hC dX10_readPair_114 ?_
          refine r_letm (fun s11 => ?_)
          refine r_aload_n (pc := 115) hC rfl dX10_readPair_115 ?_
          refine gM_0_12 (pc := 116) hC k_1049 dX10_readPair_116 ?_
          refine r_iload_n (pc := 119) hC rfl dX10_readPair_119 ?_
          refine r_dup2 (pc := 120) hC rfl rfl dX10_readPair_120 ?_
          refine aM_7 (pc := 121) hC dX10_readPair_121 ?_
          refine r_iconst (pc := 122) hC (v := (1 : Int32)) (by decide) dX10_readPair_122 ?_
          refine r_iload (pc := 123) hC rfl dX10_readPair_123 ?_
          refine r_ishl (pc := 125) hC dX10_readPair_125 ?_
          refine r_ior (pc := 126) hC dX10_readPair_126 ?_
          refine bM_7 (pc := 127) hC dX10_readPair_127 ?_
          refine r_letm (fun s12 => ?_)
          exact r_retM hC dX10_readPair_128
      have hJ77_13 : wF κ wM 5 (qM κ wM) s8 77 [some (.ref (ad κ 0)), some (.int r2), none, some (.int x6), some (.int v7)] [] (M_readPair_J77 s8 r2 x6 v7) := by
        unfold M_readPair_J77
        refine r_aload_n (pc := 77) hC rfl dX10_readPair_77 ?_
        refine r_iload_n (pc := 78) hC rfl dX10_readPair_78 ?_
        refine r_cM (pc := 79) (rest := []) (fun s13 hf => runV [.int x6] hC (c_M_wrong (kl κ) (kW κ) hC.2.2.2.2.2.2.2.2.1 x6 s8 s13 hf) o_X10_wrong k_1186 (q0 := 0) (ci := 10) rfl rfl (rm_ok hR rfl) rfl (Nat.le_of_ble_eq_true rfl) dX10_readPair_79) (fun s13 => ?_)
        exact r_wk [true, true, false, false, true] (hJ82_12 s13)
      refine r_if_eq (pc := 54) (tgt := 77) hC dX10_readPair_54 (by decide) ?_ ?_
      · exact r_wk [true, true, false, true, true] (hJ77_13)
      · refine r_iload (pc := 57) hC rfl dX10_readPair_57 ?_
        refine r_iload_n (pc := 59) hC rfl dX10_readPair_59 ?_
        refine r_icmp_eq (pc := 60) (tgt := 77) hC dX10_readPair_60 (by decide) ?_ ?_
        · exact r_wk [true, true, false, true, true] (hJ77_13)
        · refine r_aload_n (pc := 63) hC rfl dX10_readPair_63 ?_
          refine gM_0_11 (pc := 64) hC k_1048 dX10_readPair_64 ?_
          refine r_iload_n (pc := 67) hC rfl dX10_readPair_67 ?_
          refine aM_6 (pc := 68) hC dX10_readPair_68 ?_
          refine r_iload (pc := 69) hC rfl dX10_readPair_69 ?_
          refine r_cT (pc := 71) (rest := []) (runS [.int (gI s8 11 r2.toNatClampNeg), .int v7] hC (c_M_has (kl κ) (kW κ) hC.2.2.2.2.2.2.2.2.1 (gI s8 11 r2.toNatClampNeg) v7 s8) o_X10_has k_1194 (rm_ok hR rfl) rfl (Nat.le_of_ble_eq_true rfl) dX10_readPair_71) ?_
          refine r_if_eq (pc := 74) (tgt := 82) hC dX10_readPair_74 (by decide) ?_ ?_
          · exact r_wk [true, true, false, false, true] (hJ82_12 s8)
          · exact r_wk [true, true, false, true, true] (hJ77_13)
    refine r_if_eq (pc := 40) (tgt := 50) hC dX10_readPair_40 (by decide) ?_ ?_
    · refine r_iconst (pc := 50) hC (v := (0 : Int32)) (by decide) dX10_readPair_50 ?_
      exact hJ51_13 (0 : Int32) s4
    · refine r_aload_n (pc := 43) hC rfl dX10_readPair_43 ?_
      refine r_cOM (pc := 44) (rest := []) (fun r15 s14 hf => runV [] hC (c_M_letter (kl κ) (kW κ) hC.2.2.2.2.2.2.2.2.1 N s4 r15 s14 hf) o_X10_letter k_1172 (q0 := 0) (ci := 10) rfl rfl (rm_ok hR rfl) rfl (Nat.le_of_ble_eq_true rfl) dX10_readPair_44) (fun r15 s14 => ?_)
      refine r_goto (pc := 47) (tgt := 51) hC dX10_readPair_47 (by decide) ?_
      exact hJ51_13 r15 s14
  refine r_if_eq (pc := 9) (tgt := 29) hC dX10_readPair_9 (by decide) ?_ ?_
  · exact hJ29_15 s1
  · refine r_aload_n (pc := 12) hC rfl dX10_readPair_12 ?_
    refine r_bipush (pc := 13) hC (v := (62 : Int32)) (by decide) dX10_readPair_13 ?_
    refine r_cOM (pc := 15) (rest := []) (fun r17 s16 hf => runV [.int (62 : Int32)] hC (c_M_takes (kl κ) (kW κ) hC.2.2.2.2.2.2.2.2.1 N (62 : Int32) s1 r17 s16 hf) o_X10_takes k_1190 (q0 := 0) (ci := 10) rfl rfl (rm_ok hR rfl) rfl (Nat.le_of_ble_eq_true rfl) dX10_readPair_15) (fun r17 s16 => ?_)
    refine r_if_ne (pc := 18) (tgt := 29) hC dX10_readPair_18 (by decide) ?_ ?_
    · exact hJ29_15 s16
    · refine r_aload_n (pc := 21) hC rfl dX10_readPair_21 ?_
      refine r_aload_n (pc := 22) hC rfl dX10_readPair_22 ?_
      refine gM_0_8 (pc := 23) hC k_1045 dX10_readPair_23 ?_
      refine r_cM (pc := 26) (rest := []) (fun s18 hf => runV [.int (gI s16 8 0)] hC (c_M_wrong (kl κ) (kW κ) hC.2.2.2.2.2.2.2.2.1 (gI s16 8 0) s16 s18 hf) o_X10_wrong k_1186 (q0 := 0) (ci := 10) rfl rfl (rm_ok hR rfl) rfl (Nat.le_of_ble_eq_true rfl) dX10_readPair_26) (fun s18 => ?_)
      exact hJ29_15 s18
set_option maxRecDepth 100000 in
set_option maxHeartbeats 4000000 in
theorem c_M_readPair (l : Launch) (w : Wenv) (hw : okw w wM) (N : Nat) (σ : Mem) (τ : Mem) (hf : f_M_readPair N  σ = some τ) : Ctr l w wM yX10_readPair cX10_readPair 5 none 3 65 [.ref (w.2.2.1 0)] σ (cQv w wM τ) := mk_ctr (Q := fun κ => qM κ wM) (lv := [some (.ref (w.2.2.1 0)), none, none, none, none]) (by decide) rfl hw (Nat.le_of_ble_eq_true rfl) rfl hf (fun κ h => by subst h; rfl) (fun κ hl h hR hC => by
    subst h
    exact w_M_readPair hR hC N  σ)
-- DuelRoundModel.isWholeRound(I)Z (0, None) kind O
def M_isWholeRound_B4 (σ : Mem) (a1 : Int32) (self3 : Int32 → Int32 → Option Int32) (i1 : Int32) (i2 : Int32) : Option Int32 :=
  if a1 ≤ i2 then
  (gd (isb i1) (some i1))
  else
  (if i1 = (0 : Int32) then
  (self3 (0 : Int32) (i2 + (1 : Int32)))
  else
  (gd (inb i2 8) (if ((gI σ 11 i2.toNatClampNeg) ||| ((1 : Int32) <<< (i2 &&& 31))) = (((1 : Int32) <<< (a1 &&& 31)) - (1 : Int32)) then
  (self3 (1 : Int32) (i2 + (1 : Int32)))
  else
  (self3 (0 : Int32) (i2 + (1 : Int32))))))
def f_M_isWholeRound (N : Nat) (a1 : Int32) (σ : Mem) : Option Int32 :=
  it2 (M_isWholeRound_B4 σ a1) N (1 : Int32) (0 : Int32)
set_option maxRecDepth 100000 in
set_option maxHeartbeats 4000000 in
theorem w_M_isWholeRound {κ : Ctx} (hR : kR κ = { frames := 0, cells := 0, slots := 0, locals := 0 }) (hC : ok κ wM cX10_isWholeRound 4 RX10 (some .boolean)) (N : Nat) (a1 : Int32) (σ : Mem) : wF κ wM 4 (qO κ wM σ) σ 0 [some (.ref (ad κ 0)), some (.int a1), none, none] [] (f_M_isWholeRound N a1 σ) := by
  unfold f_M_isWholeRound
  refine r_iconst (pc := 0) hC (v := (1 : Int32)) (by decide) dX10_isWholeRound_0 ?_
  refine r_istore_n (pc := 1) hC rfl rfl dX10_isWholeRound_1 ?_
  refine r_iconst (pc := 2) hC (v := (0 : Int32)) (by decide) dX10_isWholeRound_2 ?_
  refine r_istore_n (pc := 3) hC rfl rfl dX10_isWholeRound_3 ?_
  refine w_it2 (fun i1 i2 => σ) (fun i1 i2 => [some (.ref (ad κ 0)), some (.int a1), some (.int i1), some (.int i2)]) (fun self3 ih4_3 i1 i2 => ?_) N (1 : Int32) (0 : Int32)
  unfold M_isWholeRound_B4
  refine r_iload_n (pc := 4) hC rfl dX10_isWholeRound_4 ?_
  refine r_iload_n (pc := 5) hC rfl dX10_isWholeRound_5 ?_
  refine r_icmp_ge (pc := 6) (tgt := 43) hC dX10_isWholeRound_6 (by decide) ?_ ?_
  · refine r_iload_n (pc := 43) hC rfl dX10_isWholeRound_43 ?_
    exact r_retOb hC dX10_isWholeRound_44
  · refine r_iload_n (pc := 9) hC rfl dX10_isWholeRound_9 ?_
    refine r_if_eq (pc := 10) (tgt := 35) hC dX10_isWholeRound_10 (by decide) ?_ ?_
    · refine r_iconst (pc := 35) hC (v := (0 : Int32)) (by decide) dX10_isWholeRound_35 ?_
      refine r_istore_n (pc := 36) hC rfl rfl dX10_isWholeRound_36 ?_
      refine r_iinc (pc := 37) hC (v := (1 : Int32)) rfl (by decide) rfl rfl dX10_isWholeRound_37 ?_
      refine r_goto (pc := 40) (tgt := 4) hC dX10_isWholeRound_40 (by decide) ?_
      exact ih4_3 (0 : Int32) (i2 + (1 : Int32))
    · refine r_aload_n (pc := 13) hC rfl dX10_isWholeRound_13 ?_
      refine gM_0_11 (pc := 14) hC k_1048 dX10_isWholeRound_14 ?_
      refine r_iload_n (pc := 17) hC rfl dX10_isWholeRound_17 ?_
      refine aM_6 (pc := 18) hC dX10_isWholeRound_18 ?_
      refine r_iconst (pc := 19) hC (v := (1 : Int32)) (by decide) dX10_isWholeRound_19 ?_
      refine r_iload_n (pc := 20) hC rfl dX10_isWholeRound_20 ?_
      refine r_ishl (pc := 21) hC dX10_isWholeRound_21 ?_
      refine r_ior (pc := 22) hC dX10_isWholeRound_22 ?_
      refine r_iconst (pc := 23) hC (v := (1 : Int32)) (by decide) dX10_isWholeRound_23 ?_
      refine r_iload_n (pc := 24) hC rfl dX10_isWholeRound_24 ?_
      refine r_ishl (pc := 25) hC dX10_isWholeRound_25 ?_
      refine r_iconst (pc := 26) hC (v := (1 : Int32)) (by decide) dX10_isWholeRound_26 ?_
      refine r_isub (pc := 27) hC dX10_isWholeRound_27 ?_
      refine r_icmp_ne (pc := 28) (tgt := 35) hC dX10_isWholeRound_28 (by decide) ?_ ?_
      · refine r_iconst (pc := 35) hC (v := (0 : Int32)) (by decide) dX10_isWholeRound_35 ?_
        refine r_istore_n (pc := 36) hC rfl rfl dX10_isWholeRound_36 ?_
        refine r_iinc (pc := 37) hC (v := (1 : Int32)) rfl (by decide) rfl rfl dX10_isWholeRound_37 ?_
        refine r_goto (pc := 40) (tgt := 4) hC dX10_isWholeRound_40 (by decide) ?_
        exact ih4_3 (0 : Int32) (i2 + (1 : Int32))
      · refine r_iconst (pc := 31) hC (v := (1 : Int32)) (by decide) dX10_isWholeRound_31 ?_
        refine r_goto (pc := 32) (tgt := 36) hC dX10_isWholeRound_32 (by decide) ?_
        refine r_istore_n (pc := 36) hC rfl rfl dX10_isWholeRound_36 ?_
        refine r_iinc (pc := 37) hC (v := (1 : Int32)) rfl (by decide) rfl rfl dX10_isWholeRound_37 ?_
        refine r_goto (pc := 40) (tgt := 4) hC dX10_isWholeRound_40 (by decide) ?_
        exact ih4_3 (1 : Int32) (i2 + (1 : Int32))
set_option maxRecDepth 100000 in
set_option maxHeartbeats 4000000 in
theorem c_M_isWholeRound (l : Launch) (w : Wenv) (hw : okw w wM) (N : Nat) (a1 : Int32) (σ : Mem) (r : Int32) (hf : f_M_isWholeRound N a1 σ = some r) : Ctr l w wM yX10_isWholeRound cX10_isWholeRound 4 (some .boolean) 0 0 [.ref (w.2.2.1 0), .int a1] σ (cQi w wM r σ) := mk_ctr (Q := fun κ => qO κ wM σ) (lv := [some (.ref (w.2.2.1 0)), some (.int a1), none, none]) (by decide) rfl hw (Nat.le_of_ble_eq_true rfl) rfl hf (fun κ h => by subst h; rfl) (fun κ hl h hR hC => by
    subst h
    exact w_M_isWholeRound hR hC N a1 σ)
-- DuelRoundModel.round()I (0,) kind OM
def M_round_B154 (y7 : Int32) (self13 : Int32 → Mem → Option (Int32 × Mem)) (i11 : Int32) (s12 : Mem) : Option (Int32 × Mem) :=
  if (8 : Int32) ≤ i11 then
  (some (y7, s12))
  else
  (gd (inb i11 8) (gd (inb ((1 : Int32) + i11) 9) (bnd (sI s12 1 ((1 : Int32) + i11).toNatClampNeg (gI s12 12 i11.toNatClampNeg)) fun s14 =>
  self13 (i11 + (1 : Int32)) s14)))
def M_round_J126 (N : Nat) (y7 : Int32) (s8 : Mem) : Option (Int32 × Mem) :=
  bnd (sI s8 7 0 (0 : Int32)) fun s9 =>
  if (gI s9 10 0) = (0 : Int32) then
  (some (((-1000 : Int32) - (gI s9 9 0)), s9))
  else
  (ob (f_M_begin N y7 s9) fun s10 =>
  it2 (M_round_B154 y7) N (0 : Int32) s10)
def M_round_J118 (N : Nat) (s15 : Mem) (y7 : Int32) : Option (Int32 × Mem) :=
  ob (f_M_wrong (gI s15 8 0) s15) fun s17 =>
  M_round_J126 N y7 s17
def M_round_K96 (N : Nat) (s6 : Mem) (y7 : Int32) : Option (Int32 × Mem) :=
  if (gI s6 10 0) = (0 : Int32) then
  (M_round_J126 N y7 s6)
  else
  (ob2 (f_M_isEnd N s6) fun r16 s15 =>
  if r16 = (0 : Int32) then
  (M_round_J118 N s15 y7)
  else
  (ob (f_M_isWholeRound N y7 s15) fun r18 =>
  if r18 = (0 : Int32) then
  (M_round_J118 N s15 y7)
  else
  (M_round_J126 N y7 s15)))
def M_round_B67 (N : Nat) (s6 : Mem) (self21 : Int32 → Int32 → Option (Int32 × Mem)) (i19 : Int32) (i20 : Int32) : Option (Int32 × Mem) :=
  if (8 : Int32) ≤ i20 then
  (M_round_K96 N s6 i19)
  else
  (gd (inb i20 8) (if (gI s6 11 i20.toNatClampNeg) = (0 : Int32) then
  (self21 i19 (i20 + (1 : Int32)))
  else
  (bnd (i20 + (1 : Int32)) fun x22 =>
  self21 x22 (i20 + (1 : Int32)))))
def M_round_K63 (N : Nat) (s6 : Mem) : Option (Int32 × Mem) :=
  it2 (M_round_B67 N s6) N (0 : Int32) (0 : Int32)
def M_round_B47 (N : Nat) (self24 : Mem → Option (Int32 × Mem)) (s23 : Mem) : Option (Int32 × Mem) :=
  ob2 (f_M_takes N (59 : Int32) s23) fun r26 s25 =>
  if r26 = (0 : Int32) then
  (M_round_K63 N s25)
  else
  (ob (f_M_readPair N s25) fun s27 =>
  self24 s27)
def M_round_K43 (N : Nat) (s4 : Mem) : Option (Int32 × Mem) :=
  ob (f_M_readPair N s4) fun s5 =>
  it1 (M_round_B47 N) N s5
def M_round_B17 (N : Nat) (self30 : Int32 → Mem → Option (Int32 × Mem)) (i28 : Int32) (s29 : Mem) : Option (Int32 × Mem) :=
  if (8 : Int32) ≤ i28 then
  (M_round_K43 N s29)
  else
  (gd (inb i28 8) (bnd (sI s29 11 i28.toNatClampNeg (0 : Int32)) fun s31 =>
  gd (inb i28 8) (bnd (sI s31 12 i28.toNatClampNeg (0 : Int32)) fun s32 =>
  self30 (i28 + (1 : Int32)) s32)))
def f_M_round (N : Nat) (σ : Mem) : Option (Int32 × Mem) :=
  bnd (sI σ 0 0 (0 : Int32)) fun s1 =>
  bnd (sI s1 8 0 (0 : Int32)) fun s2 =>
  bnd (sI s2 10 0 (1 : Int32)) fun s3 =>
  it2 (M_round_B17 N) N (0 : Int32) s3
set_option maxRecDepth 100000 in
set_option maxHeartbeats 4000000 in
theorem w_M_round {κ : Ctx} (hR : kR κ = { frames := 4, cells := 0, slots := 0, locals := 89 }) (hC : ok κ wM cX10_round 3 RX10 (some .int)) (N : Nat) (σ : Mem) : wF κ wM 3 (qOM κ wM) σ 0 [some (.ref (ad κ 0)), none, none] [] (f_M_round N  σ) := by
  unfold f_M_round
  refine r_aload_n (pc := 0) hC rfl dX10_round_0 ?_
  refine r_iconst (pc := 1) hC (v := (0 : Int32)) (by decide) dX10_round_1 ?_
  refine pM_0_0 (pc := 2) hC k_1037 dX10_round_2 ?_
  refine r_letm (fun s1 => ?_)
  refine r_aload_n (pc := 5) hC rfl dX10_round_5 ?_
  refine r_iconst (pc := 6) hC (v := (0 : Int32)) (by decide) dX10_round_6 ?_
  refine pM_0_8 (pc := 7) hC k_1045 dX10_round_7 ?_
  refine r_letm (fun s2 => ?_)
  refine r_aload_n (pc := 10) hC rfl dX10_round_10 ?_
  refine r_iconst (pc := 11) hC (v := (1 : Int32)) (by decide) dX10_round_11 ?_
  refine pM_0_10 (pc := 12) hC (by decide) k_1047 dX10_round_12 ?_
  refine r_letm (fun s3 => ?_)
  refine r_iconst (pc := 15) hC (v := (0 : Int32)) (by decide) dX10_round_15 ?_
  refine r_istore_n (pc := 16) hC rfl rfl dX10_round_16 ?_
  have hK43_27 : ∀ (s4 : Mem), wF κ wM 3 (qOM κ wM) s4 43 [some (.ref (ad κ 0)), none, none] [] (M_round_K43 N s4) := by
    intro s4
    unfold M_round_K43
    refine r_aload_n (pc := 43) hC rfl dX10_round_43 ?_
    refine r_cM (pc := 44) (rest := []) (fun s5 hf => runV [] hC (c_M_readPair (kl κ) (kW κ) hC.2.2.2.2.2.2.2.2.1 N s4 s5 hf) o_X10_readPair k_1168 (q0 := 0) (ci := 10) rfl rfl (rm_ok hR rfl) rfl (Nat.le_of_ble_eq_true rfl) dX10_round_44) (fun s5 => ?_)
    have hK63_22 : ∀ (s6 : Mem), wF κ wM 3 (qOM κ wM) s6 63 [some (.ref (ad κ 0)), none, none] [] (M_round_K63 N s6) := by
      intro s6
      unfold M_round_K63
      refine r_iconst (pc := 63) hC (v := (0 : Int32)) (by decide) dX10_round_63 ?_
      refine r_istore_n (pc := 64) hC rfl rfl dX10_round_64 ?_
      refine r_iconst (pc := 65) hC (v := (0 : Int32)) (by decide) dX10_round_65 ?_
      refine r_istore_n (pc := 66) hC rfl rfl dX10_round_66 ?_
      have hK96_18 : ∀ (y7 : Int32), wF κ wM 3 (qOM κ wM) s6 96 [some (.ref (ad κ 0)), some (.int y7), none] [] (M_round_K96 N s6 y7) := by
        intro y7
        unfold M_round_K96
        refine r_aload_n (pc := 96) hC rfl dX10_round_96 ?_
        refine gM_0_10 (pc := 97) hC k_1047 dX10_round_97 ?_
        have hJ126_14 : ∀ (s8 : Mem), wF κ wM 3 (qOM κ wM) s8 126 [some (.ref (ad κ 0)), some (.int y7), none] [] (M_round_J126 N y7 s8) := by
          intro s8
          unfold M_round_J126
          refine r_aload_n (pc := 126) hC rfl dX10_round_126 ?_
          refine r_iconst (pc := 127) hC (v := (0 : Int32)) (by decide) dX10_round_127 ?_
          refine pM_0_7 (pc := 128) hC k_1044 dX10_round_128 ?_
          refine r_letm (fun s9 => ?_)
          refine r_aload_n (pc := 131) hC rfl dX10_round_131 ?_
          refine gM_0_10 (pc := 132) hC k_1047 dX10_round_132 ?_
          refine r_if_ne (pc := 135) (tgt := 147) hC dX10_round_135 (by decide) ?_ ?_
          · refine r_aload_n (pc := 147) hC rfl dX10_round_147 ?_
            refine r_iload_n (pc := 148) hC rfl dX10_round_148 ?_
            refine r_cM (pc := 149) (rest := []) (fun s10 hf => runV [.int y7] hC (c_M_begin (kl κ) (kW κ) hC.2.2.2.2.2.2.2.2.1 N y7 s9 s10 hf) o_X10_begin k_1205 (q0 := 0) (ci := 10) rfl rfl (rm_ok hR rfl) rfl (Nat.le_of_ble_eq_true rfl) dX10_round_149) (fun s10 => ?_)
            refine r_iconst (pc := 152) hC (v := (0 : Int32)) (by decide) dX10_round_152 ?_
            refine r_istore_n (pc := 153) hC rfl rfl dX10_round_153 ?_
            refine w_it2 (fun i11 s12 => s12) (fun i11 s12 => [some (.ref (ad κ 0)), some (.int y7), some (.int i11)]) (fun self13 ih154_13 i11 s12 => ?_) N (0 : Int32) s10
            unfold M_round_B154
            refine r_iload_n (pc := 154) hC rfl dX10_round_154 ?_
            refine r_bipush (pc := 155) hC (v := (8 : Int32)) (by decide) dX10_round_155 ?_
            refine r_icmp_ge (pc := 157) (tgt := 180) hC dX10_round_157 (by decide) ?_ ?_
            · refine r_iload_n (pc := 180) hC rfl dX10_round_180 ?_
              exact r_retOM hC rfl dX10_round_181
            · refine r_aload_n (pc := 160) hC rfl dX10_round_160 ?_
              refine gM_0_1 (pc := 161) hC k_1038 dX10_round_161 ?_
              refine r_iconst (pc := 164) hC (v := (1 : Int32)) (by decide) dX10_round_164 ?_
              refine r_iload_n (pc := 165) hC rfl dX10_round_165 ?_
              refine r_iadd (pc := 166) hC dX10_round_166 ?_
              refine r_aload_n (pc := 167) hC rfl dX10_round_167 ?_
              refine gM_0_12 (pc := 168) hC k_1049 dX10_round_168 ?_
              refine r_iload_n (pc := 171) hC rfl dX10_round_171 ?_
              refine aM_7 (pc := 172) hC dX10_round_172 ?_
              refine bM_1 (pc := 173) hC dX10_round_173 ?_
              refine r_letm (fun s14 => ?_)
              refine r_iinc (pc := 174) hC (v := (1 : Int32)) rfl (by decide) rfl rfl dX10_round_174 ?_
              refine r_goto (pc := 177) (tgt := 154) hC dX10_round_177 (by decide) ?_
              exact ih154_13 (i11 + (1 : Int32)) s14
          · refine r_sipush (pc := 138) hC (v := (-1000 : Int32)) (by decide) dX10_round_138 ?_
            refine r_aload_n (pc := 141) hC rfl dX10_round_141 ?_
            refine gM_0_9 (pc := 142) hC k_1046 dX10_round_142 ?_
            refine r_isub (pc := 145) hC dX10_round_145 ?_
            exact r_retOM hC rfl dX10_round_146
        refine r_if_eq (pc := 100) (tgt := 126) hC dX10_round_100 (by decide) ?_ ?_
        · exact hJ126_14 s6
        · refine r_aload_n (pc := 103) hC rfl dX10_round_103 ?_
          refine r_cOM (pc := 104) (rest := []) (fun r16 s15 hf => runV [] hC (c_M_isEnd (kl κ) (kW κ) hC.2.2.2.2.2.2.2.2.1 N s6 r16 s15 hf) o_X10_isEnd k_1197 (q0 := 0) (ci := 10) rfl rfl (rm_ok hR rfl) rfl (Nat.le_of_ble_eq_true rfl) dX10_round_104) (fun r16 s15 => ?_)
          have hJ118_17 : wF κ wM 3 (qOM κ wM) s15 118 [some (.ref (ad κ 0)), some (.int y7), none] [] (M_round_J118 N s15 y7) := by
            unfold M_round_J118
            refine r_aload_n (pc := 118) hC rfl dX10_round_118 ?_
            refine r_aload_n (pc := 119) hC rfl dX10_round_119 ?_
            refine gM_0_8 (pc := 120) hC k_1045 dX10_round_120 ?_
            refine r_cM (pc := 123) (rest := []) (fun s17 hf => runV [.int (gI s15 8 0)] hC (c_M_wrong (kl κ) (kW κ) hC.2.2.2.2.2.2.2.2.1 (gI s15 8 0) s15 s17 hf) o_X10_wrong k_1186 (q0 := 0) (ci := 10) rfl rfl (rm_ok hR rfl) rfl (Nat.le_of_ble_eq_true rfl) dX10_round_123) (fun s17 => ?_)
            exact hJ126_14 s17
          refine r_if_eq (pc := 107) (tgt := 118) hC dX10_round_107 (by decide) ?_ ?_
          · exact hJ118_17
          · refine r_aload_n (pc := 110) hC rfl dX10_round_110 ?_
            refine r_iload_n (pc := 111) hC rfl dX10_round_111 ?_
            refine r_cO (pc := 112) (rest := []) (fun r18 hf => runV [.int y7] hC (c_M_isWholeRound (kl κ) (kW κ) hC.2.2.2.2.2.2.2.2.1 N y7 s15 r18 hf) o_X10_isWholeRound k_1201 (q0 := 0) (ci := 10) rfl rfl (rm_ok hR rfl) rfl (Nat.le_of_ble_eq_true rfl) dX10_round_112) (fun r18 => ?_)
            refine r_if_ne (pc := 115) (tgt := 126) hC dX10_round_115 (by decide) ?_ ?_
            · exact hJ126_14 s15
            · exact hJ118_17
      refine w_it2 (fun i19 i20 => s6) (fun i19 i20 => [some (.ref (ad κ 0)), some (.int i19), some (.int i20)]) (fun self21 ih67_21 i19 i20 => ?_) N (0 : Int32) (0 : Int32)
      unfold M_round_B67
      refine r_iload_n (pc := 67) hC rfl dX10_round_67 ?_
      refine r_bipush (pc := 68) hC (v := (8 : Int32)) (by decide) dX10_round_68 ?_
      refine r_icmp_ge (pc := 70) (tgt := 96) hC dX10_round_70 (by decide) ?_ ?_
      · exact r_wk [true, true, false] (hK96_18 i19)
      · refine r_aload_n (pc := 73) hC rfl dX10_round_73 ?_
        refine gM_0_11 (pc := 74) hC k_1048 dX10_round_74 ?_
        refine r_iload_n (pc := 77) hC rfl dX10_round_77 ?_
        refine aM_6 (pc := 78) hC dX10_round_78 ?_
        refine r_if_eq (pc := 79) (tgt := 88) hC dX10_round_79 (by decide) ?_ ?_
        · refine r_iload_n (pc := 88) hC rfl dX10_round_88 ?_
          refine r_istore_n (pc := 89) hC rfl rfl dX10_round_89 ?_
          refine r_iinc (pc := 90) hC (v := (1 : Int32)) rfl (by decide) rfl rfl dX10_round_90 ?_
          refine r_goto (pc := 93) (tgt := 67) hC dX10_round_93 (by decide) ?_
          exact ih67_21 i19 (i20 + (1 : Int32))
        · refine r_iload_n (pc := 82) hC rfl dX10_round_82 ?_
          refine r_iconst (pc := 83) hC (v := (1 : Int32)) (by decide) dX10_round_83 ?_
          refine r_iadd (pc := 84) hC dX10_round_84 ?_
          refine r_goto (pc := 85) (tgt := 89) hC dX10_round_85 (by decide) ?_
          refine r_let (fun x22 => ?_)
          refine r_istore_n (pc := 89) hC rfl rfl dX10_round_89 ?_
          refine r_iinc (pc := 90) hC (v := (1 : Int32)) rfl (by decide) rfl rfl dX10_round_90 ?_
          refine r_goto (pc := 93) (tgt := 67) hC dX10_round_93 (by decide) ?_
          exact ih67_21 x22 (i20 + (1 : Int32))
    refine w_it1 (fun s23 => s23) (fun s23 => [some (.ref (ad κ 0)), none, none]) (fun self24 ih47_24 s23 => ?_) N s5
    unfold M_round_B47
    refine r_aload_n (pc := 47) hC rfl dX10_round_47 ?_
    refine r_bipush (pc := 48) hC (v := (59 : Int32)) (by decide) dX10_round_48 ?_
    refine r_cOM (pc := 50) (rest := []) (fun r26 s25 hf => runV [.int (59 : Int32)] hC (c_M_takes (kl κ) (kW κ) hC.2.2.2.2.2.2.2.2.1 N (59 : Int32) s23 r26 s25 hf) o_X10_takes k_1190 (q0 := 0) (ci := 10) rfl rfl (rm_ok hR rfl) rfl (Nat.le_of_ble_eq_true rfl) dX10_round_50) (fun r26 s25 => ?_)
    refine r_if_eq (pc := 53) (tgt := 63) hC dX10_round_53 (by decide) ?_ ?_
    · exact hK63_22 s25
    · refine r_aload_n (pc := 56) hC rfl dX10_round_56 ?_
      refine r_cM (pc := 57) (rest := []) (fun s27 hf => runV [] hC (c_M_readPair (kl κ) (kW κ) hC.2.2.2.2.2.2.2.2.1 N s25 s27 hf) o_X10_readPair k_1168 (q0 := 0) (ci := 10) rfl rfl (rm_ok hR rfl) rfl (Nat.le_of_ble_eq_true rfl) dX10_round_57) (fun s27 => ?_)
      refine r_goto (pc := 60) (tgt := 47) hC dX10_round_60 (by decide) ?_
      exact ih47_24 s27
  refine w_it2 (fun i28 s29 => s29) (fun i28 s29 => [some (.ref (ad κ 0)), some (.int i28), none]) (fun self30 ih17_30 i28 s29 => ?_) N (0 : Int32) s3
  unfold M_round_B17
  refine r_iload_n (pc := 17) hC rfl dX10_round_17 ?_
  refine r_bipush (pc := 18) hC (v := (8 : Int32)) (by decide) dX10_round_18 ?_
  refine r_icmp_ge (pc := 20) (tgt := 43) hC dX10_round_20 (by decide) ?_ ?_
  · exact r_wk [true, false, false] (hK43_27 s29)
  · refine r_aload_n (pc := 23) hC rfl dX10_round_23 ?_
    refine gM_0_11 (pc := 24) hC k_1048 dX10_round_24 ?_
    refine r_iload_n (pc := 27) hC rfl dX10_round_27 ?_
    refine r_iconst (pc := 28) hC (v := (0 : Int32)) (by decide) dX10_round_28 ?_
    refine bM_6 (pc := 29) hC dX10_round_29 ?_
    refine r_letm (fun s31 => ?_)
    refine r_aload_n (pc := 30) hC rfl dX10_round_30 ?_
    refine gM_0_12 (pc := 31) hC k_1049 dX10_round_31 ?_
    refine r_iload_n (pc := 34) hC rfl dX10_round_34 ?_
    refine r_iconst (pc := 35) hC (v := (0 : Int32)) (by decide) dX10_round_35 ?_
    refine bM_7 (pc := 36) hC dX10_round_36 ?_
    refine r_letm (fun s32 => ?_)
    refine r_iinc (pc := 37) hC (v := (1 : Int32)) rfl (by decide) rfl rfl dX10_round_37 ?_
    refine r_goto (pc := 40) (tgt := 17) hC dX10_round_40 (by decide) ?_
    exact ih17_30 (i28 + (1 : Int32)) s32
set_option maxRecDepth 100000 in
set_option maxHeartbeats 4000000 in
theorem c_M_round (l : Launch) (w : Wenv) (hw : okw w wM) (N : Nat) (σ : Mem) (r : Int32) (τ : Mem) (hf : f_M_round N  σ = some (r, τ)) : Ctr l w wM yX10_round cX10_round 3 (some .int) 4 89 [.ref (w.2.2.1 0)] σ (cQi w wM r τ) := mk_ctr (Q := fun κ => qOM κ wM) (lv := [some (.ref (w.2.2.1 0)), none, none]) (by decide) rfl hw (Nat.le_of_ble_eq_true rfl) rfl hf (fun κ h => by subst h; rfl) (fun κ hl h hR hC => by
    subst h
    exact w_M_round hR hC N  σ)
-- DuelRoundModel.areNames([II)Z (0, 1, None) kind O
def M_areNamesR_B20 (σ : Mem) (a1 : Int32) (x1 : Int32) (i2 : Int32) (self3 : Int32 → Option Int32) (self6 : Int32 → Option Int32) (i5 : Int32) : Option Int32 :=
  if x1 ≤ i5 then
  (self3 (i2 + (1 : Int32)))
  else
  (ob (f_M_beats i2 σ) fun r7 =>
  gd (inb i2 8) (gd (inb (a1 + (gI σ 26 i2.toNatClampNeg)) 9) (gd (inb i5 8) (if (t_M_has r7 i5) = (t_M_has (gI σ 1 (a1 + (gI σ 26 i2.toNatClampNeg)).toNatClampNeg) (gI σ 26 i5.toNatClampNeg)) then
  (self6 (i5 + (1 : Int32)))
  else
  (some (0 : Int32))))))
def M_areNamesR_B8 (N : Nat) (σ : Mem) (a1 : Int32) (x1 : Int32) (self3 : Int32 → Option Int32) (i2 : Int32) : Option Int32 :=
  if x1 ≤ i2 then
  (some (1 : Int32))
  else
  (bnd (i2 + (1 : Int32)) fun x4 =>
  it1 (M_areNamesR_B20 σ a1 x1 i2 self3) N x4)
def f_M_areNamesR (N : Nat) (a1 : Int32) (σ : Mem) : Option Int32 :=
  bnd (t_M_many σ) fun x1 =>
  it1 (M_areNamesR_B8 N σ a1 x1) N (0 : Int32)
set_option maxRecDepth 100000 in
set_option maxHeartbeats 4000000 in
theorem w_M_areNamesR {κ : Ctx} (hR : kR κ = { frames := 1, cells := 0, slots := 0, locals := 21 }) (hC : ok κ wM cX10_areNames 6 RX10 (some .boolean)) (N : Nat) (a1 : Int32) (σ : Mem) : wF κ wM 6 (qO κ wM σ) σ 0 [some (.ref (ad κ 0)), some (.ref (ad κ 1)), some (.int a1), none, none, none] [] (f_M_areNamesR N a1 σ) := by
  unfold f_M_areNamesR
  refine r_aload_n (pc := 0) hC rfl dX10_areNames_0 ?_
  refine r_cT (pc := 1) (rest := []) (runV [] hC (c_M_many (kl κ) (kW κ) hC.2.2.2.2.2.2.2.2.1 σ) o_X10_many k_1274 (q0 := 0) (ci := 10) rfl rfl (rm_ok hR rfl) rfl (Nat.le_of_ble_eq_true rfl) dX10_areNames_1) ?_
  refine r_let (fun x1 => ?_)
  refine r_istore_n (pc := 4) hC rfl rfl dX10_areNames_4 ?_
  refine r_iconst (pc := 5) hC (v := (0 : Int32)) (by decide) dX10_areNames_5 ?_
  refine r_istore (pc := 6) hC rfl rfl dX10_areNames_6 ?_
  refine w_it1 (fun i2 => σ) (fun i2 => [some (.ref (ad κ 0)), some (.ref (ad κ 1)), some (.int a1), some (.int x1), some (.int i2), none]) (fun self3 ih8_3 i2 => ?_) N (0 : Int32)
  unfold M_areNamesR_B8
  refine r_iload (pc := 8) hC rfl dX10_areNames_8 ?_
  refine r_iload_n (pc := 10) hC rfl dX10_areNames_10 ?_
  refine r_icmp_ge (pc := 11) (tgt := 75) hC dX10_areNames_11 (by decide) ?_ ?_
  · refine r_iconst (pc := 75) hC (v := (1 : Int32)) (by decide) dX10_areNames_75 ?_
    exact r_retO hC rfl dX10_areNames_76
  · refine r_iload (pc := 14) hC rfl dX10_areNames_14 ?_
    refine r_iconst (pc := 16) hC (v := (1 : Int32)) (by decide) dX10_areNames_16 ?_
    refine r_iadd (pc := 17) hC dX10_areNames_17 ?_
    refine r_let (fun x4 => ?_)
    refine r_istore (pc := 18) hC rfl rfl dX10_areNames_18 ?_
    refine w_it1 (fun i5 => σ) (fun i5 => [some (.ref (ad κ 0)), some (.ref (ad κ 1)), some (.int a1), some (.int x1), some (.int i2), some (.int i5)]) (fun self6 ih20_6 i5 => ?_) N x4
    unfold M_areNamesR_B20
    refine r_iload (pc := 20) hC rfl dX10_areNames_20 ?_
    refine r_iload_n (pc := 22) hC rfl dX10_areNames_22 ?_
    refine r_icmp_ge (pc := 23) (tgt := 69) hC dX10_areNames_23 (by decide) ?_ ?_
    · refine r_iinc (pc := 69) hC (v := (1 : Int32)) rfl (by decide) rfl rfl dX10_areNames_69 ?_
      refine r_goto (pc := 72) (tgt := 8) hC dX10_areNames_72 (by decide) ?_
      exact r_wk [true, true, true, true, true, false] (ih8_3 (i2 + (1 : Int32)))
    · refine r_aload_n (pc := 26) hC rfl dX10_areNames_26 ?_
      refine r_iload (pc := 27) hC rfl dX10_areNames_27 ?_
      refine r_cO (pc := 29) (rest := []) (fun r7 hf => runV [.int i2] hC (c_M_beats (kl κ) (kW κ) hC.2.2.2.2.2.2.2.2.1 i2 σ r7 hf) o_X10_beats k_1224 (q0 := 0) (ci := 10) rfl rfl (rm_ok hR rfl) rfl (Nat.le_of_ble_eq_true rfl) dX10_areNames_29) (fun r7 => ?_)
      refine r_iload (pc := 32) hC rfl dX10_areNames_32 ?_
      refine r_cT (pc := 34) (rest := []) (runS [.int r7, .int i5] hC (c_M_has (kl κ) (kW κ) hC.2.2.2.2.2.2.2.2.1 r7 i5 σ) o_X10_has k_1194 (rm_ok hR rfl) rfl (Nat.le_of_ble_eq_true rfl) dX10_areNames_34) ?_
      refine r_aload_n (pc := 37) hC rfl dX10_areNames_37 ?_
      refine r_iload_n (pc := 38) hC rfl dX10_areNames_38 ?_
      refine r_aload_n (pc := 39) hC rfl dX10_areNames_39 ?_
      refine gM_0_26 (pc := 40) hC k_1063 dX10_areNames_40 ?_
      refine r_iload (pc := 43) hC rfl dX10_areNames_43 ?_
      refine aM_20 (pc := 45) hC dX10_areNames_45 ?_
      refine r_iadd (pc := 46) hC dX10_areNames_46 ?_
      refine aM_1 (pc := 47) hC dX10_areNames_47 ?_
      refine r_aload_n (pc := 48) hC rfl dX10_areNames_48 ?_
      refine gM_0_26 (pc := 49) hC k_1063 dX10_areNames_49 ?_
      refine r_iload (pc := 52) hC rfl dX10_areNames_52 ?_
      refine aM_20 (pc := 54) hC dX10_areNames_54 ?_
      refine r_cT (pc := 55) (rest := [.int (t_M_has r7 i5)]) (runS [.int (gI σ 1 (a1 + (gI σ 26 i2.toNatClampNeg)).toNatClampNeg), .int (gI σ 26 i5.toNatClampNeg)] hC (c_M_has (kl κ) (kW κ) hC.2.2.2.2.2.2.2.2.1 (gI σ 1 (a1 + (gI σ 26 i2.toNatClampNeg)).toNatClampNeg) (gI σ 26 i5.toNatClampNeg) σ) o_X10_has k_1194 (rm_ok hR rfl) rfl (Nat.le_of_ble_eq_true rfl) dX10_areNames_55) ?_
      refine r_icmp_eq (pc := 58) (tgt := 63) hC dX10_areNames_58 (by decide) ?_ ?_
      · refine r_iinc (pc := 63) hC (v := (1 : Int32)) rfl (by decide) rfl rfl dX10_areNames_63 ?_
        refine r_goto (pc := 66) (tgt := 20) hC dX10_areNames_66 (by decide) ?_
        exact ih20_6 (i5 + (1 : Int32))
      · refine r_iconst (pc := 61) hC (v := (0 : Int32)) (by decide) dX10_areNames_61 ?_
        exact r_retO hC rfl dX10_areNames_62
set_option maxRecDepth 100000 in
set_option maxHeartbeats 4000000 in
theorem c_M_areNamesR (l : Launch) (w : Wenv) (hw : okw w wM) (N : Nat) (a1 : Int32) (σ : Mem) (r : Int32) (hf : f_M_areNamesR N a1 σ = some r) : Ctr l w wM yX10_areNames cX10_areNames 6 (some .boolean) 1 21 [.ref (w.2.2.1 0), .ref (w.2.2.1 1), .int a1] σ (cQi w wM r σ) := mk_ctr (Q := fun κ => qO κ wM σ) (lv := [some (.ref (w.2.2.1 0)), some (.ref (w.2.2.1 1)), some (.int a1), none, none, none]) (by decide) rfl hw (Nat.le_of_ble_eq_true rfl) rfl hf (fun κ h => by subst h; rfl) (fun κ hl h hR hC => by
    subst h
    exact w_M_areNamesR hR hC N a1 σ)
-- DuelRoundModel.selves()I (0,) kind OM
def M_selves_J44 (N : Nat) (s5 : Mem) (i3 : Int32) (self6 : Int32 → Int32 → Mem → Option (Int32 × Mem)) (v8 : Int32) : Option (Int32 × Mem) :=
  bnd (i3 + v8) fun x9 =>
  ob2 (f_M_nextOrder N s5) fun r11 s10 =>
  self6 x9 r11 s10
def M_selves_B22 (N : Nat) (self6 : Int32 → Int32 → Mem → Option (Int32 × Mem)) (i3 : Int32) (i4 : Int32) (s5 : Mem) : Option (Int32 × Mem) :=
  if i4 = (0 : Int32) then
  (some (i3, s5))
  else
  (ob (f_M_areNamesR N (1 : Int32) s5) fun r7 =>
  if r7 = (0 : Int32) then
  (M_selves_J44 N s5 i3 self6 (0 : Int32))
  else
  (M_selves_J44 N s5 i3 self6 (1 : Int32)))
def f_M_selves (N : Nat) (σ : Mem) : Option (Int32 × Mem) :=
  bnd (sI σ 0 0 (0 : Int32)) fun s1 =>
  if (t_M_isRound s1) = (0 : Int32) then
  (some ((-1 : Int32), s1))
  else
  (ob (f_M_firstOrder N s1) fun s2 =>
  it3 (M_selves_B22 N) N (0 : Int32) (1 : Int32) s2)
set_option maxRecDepth 100000 in
set_option maxHeartbeats 4000000 in
theorem w_M_selves {κ : Ctx} (hR : kR κ = { frames := 2, cells := 0, slots := 0, locals := 48 }) (hC : ok κ wM cX10_selves 3 RX10 (some .int)) (N : Nat) (σ : Mem) : wF κ wM 3 (qOM κ wM) σ 0 [some (.ref (ad κ 0)), none, none] [] (f_M_selves N  σ) := by
  unfold f_M_selves
  refine r_aload_n (pc := 0) hC rfl dX10_selves_0 ?_
  refine r_iconst (pc := 1) hC (v := (0 : Int32)) (by decide) dX10_selves_1 ?_
  refine pM_0_0 (pc := 2) hC k_1037 dX10_selves_2 ?_
  refine r_letm (fun s1 => ?_)
  refine r_aload_n (pc := 5) hC rfl dX10_selves_5 ?_
  refine r_cT (pc := 6) (rest := []) (runV [] hC (c_M_isRound (kl κ) (kW κ) hC.2.2.2.2.2.2.2.2.1 s1) o_X10_isRound k_1254 (q0 := 0) (ci := 10) rfl rfl (rm_ok hR rfl) rfl (Nat.le_of_ble_eq_true rfl) dX10_selves_6) ?_
  refine r_if_ne (pc := 9) (tgt := 14) hC dX10_selves_9 (by decide) ?_ ?_
  · refine r_aload_n (pc := 14) hC rfl dX10_selves_14 ?_
    refine r_cM (pc := 15) (rest := []) (fun s2 hf => runV [] hC (c_M_firstOrder (kl κ) (kW κ) hC.2.2.2.2.2.2.2.2.1 N s1 s2 hf) o_X10_firstOrder k_1446 (q0 := 0) (ci := 10) rfl rfl (rm_ok hR rfl) rfl (Nat.le_of_ble_eq_true rfl) dX10_selves_15) (fun s2 => ?_)
    refine r_iconst (pc := 18) hC (v := (0 : Int32)) (by decide) dX10_selves_18 ?_
    refine r_istore_n (pc := 19) hC rfl rfl dX10_selves_19 ?_
    refine r_iconst (pc := 20) hC (v := (1 : Int32)) (by decide) dX10_selves_20 ?_
    refine r_istore_n (pc := 21) hC rfl rfl dX10_selves_21 ?_
    refine w_it3 (fun i3 i4 s5 => s5) (fun i3 i4 s5 => [some (.ref (ad κ 0)), some (.int i3), some (.int i4)]) (fun self6 ih22_6 i3 i4 s5 => ?_) N (0 : Int32) (1 : Int32) s2
    unfold M_selves_B22
    refine r_iload_n (pc := 22) hC rfl dX10_selves_22 ?_
    refine r_if_eq (pc := 23) (tgt := 54) hC dX10_selves_23 (by decide) ?_ ?_
    · refine r_iload_n (pc := 54) hC rfl dX10_selves_54 ?_
      exact r_retOM hC rfl dX10_selves_55
    · refine r_iload_n (pc := 26) hC rfl dX10_selves_26 ?_
      refine r_aload_n (pc := 27) hC rfl dX10_selves_27 ?_
      refine r_aload_n (pc := 28) hC rfl dX10_selves_28 ?_
      refine gM_0_1 (pc := 29) hC k_1038 dX10_selves_29 ?_
      refine r_iconst (pc := 32) hC (v := (1 : Int32)) (by decide) dX10_selves_32 ?_
      refine r_cO (pc := 33) (rest := [.int i3]) (fun r7 hf => runV [.ref (ad κ 1), .int (1 : Int32)] hC (c_M_areNamesR (kl κ) (kW κ) hC.2.2.2.2.2.2.2.2.1 N (1 : Int32) s5 r7 hf) o_X10_areNames k_1558 (q0 := 0) (ci := 10) rfl rfl (rm_ok hR rfl) rfl (Nat.le_of_ble_eq_true rfl) dX10_selves_33) (fun r7 => ?_)
      have hJ44_11 : ∀ (v8 : Int32), wF κ wM 3 (qOM κ wM) s5 44 [some (.ref (ad κ 0)), none, none] [.int v8, .int i3] (M_selves_J44 N s5 i3 self6 v8) := by
        intro v8
        unfold M_selves_J44
        refine r_iadd (pc := 44) hC dX10_selves_44 ?_
        refine r_let (fun x9 => ?_)
        refine r_istore_n (pc := 45) hC rfl rfl dX10_selves_45 ?_
        refine r_aload_n (pc := 46) hC rfl dX10_selves_46 ?_
        refine r_cOM (pc := 47) (rest := []) (fun r11 s10 hf => runV [] hC (c_M_nextOrder (kl κ) (kW κ) hC.2.2.2.2.2.2.2.2.1 N s5 r11 s10 hf) o_X10_nextOrder k_1454 (q0 := 0) (ci := 10) rfl rfl (rm_ok hR rfl) rfl (Nat.le_of_ble_eq_true rfl) dX10_selves_47) (fun r11 s10 => ?_)
        refine r_istore_n (pc := 50) hC rfl rfl dX10_selves_50 ?_
        refine r_goto (pc := 51) (tgt := 22) hC dX10_selves_51 (by decide) ?_
        exact ih22_6 x9 r11 s10
      refine r_if_eq (pc := 36) (tgt := 43) hC dX10_selves_36 (by decide) ?_ ?_
      · refine r_iconst (pc := 43) hC (v := (0 : Int32)) (by decide) dX10_selves_43 ?_
        exact r_wk [true, false, false] (hJ44_11 (0 : Int32))
      · refine r_iconst (pc := 39) hC (v := (1 : Int32)) (by decide) dX10_selves_39 ?_
        refine r_goto (pc := 40) (tgt := 44) hC dX10_selves_40 (by decide) ?_
        exact r_wk [true, false, false] (hJ44_11 (1 : Int32))
  · refine r_iconst (pc := 12) hC (v := (-1 : Int32)) (by decide) dX10_selves_12 ?_
    exact r_retOM hC rfl dX10_selves_13
set_option maxRecDepth 100000 in
set_option maxHeartbeats 4000000 in
theorem c_M_selves (l : Launch) (w : Wenv) (hw : okw w wM) (N : Nat) (σ : Mem) (r : Int32) (τ : Mem) (hf : f_M_selves N  σ = some (r, τ)) : Ctr l w wM yX10_selves cX10_selves 3 (some .int) 2 48 [.ref (w.2.2.1 0)] σ (cQi w wM r τ) := mk_ctr (Q := fun κ => qOM κ wM) (lv := [some (.ref (w.2.2.1 0)), none, none]) (by decide) rfl hw (Nat.le_of_ble_eq_true rfl) rfl hf (fun κ h => by subst h; rfl) (fun κ hl h hR hC => by
    subst h
    exact w_M_selves hR hC N  σ)
-- DuelRoundModel.set(II)I (0, None, None) kind OM
def f_M_set (N : Nat) (a1 : Int32) (a2 : Int32) (σ : Mem) : Option (Int32 × Mem) :=
  bnd (sI σ 0 0 (0 : Int32)) fun s1 =>
  if (t_M_in (a1.toInt64) (0 : Int64) (9 : Int64)) = (0 : Int32) then
  (some ((-1 : Int32), s1))
  else
  (if (t_M_isSome a2 s1) = (0 : Int32) then
  (some ((-1 : Int32), s1))
  else
  (ob2 (f_M_setOf N a1 a2 s1) fun r3 s2 =>
  some (r3, s2)))
set_option maxRecDepth 100000 in
set_option maxHeartbeats 4000000 in
theorem w_M_set {κ : Ctx} (hR : kR κ = { frames := 6, cells := 0, slots := 0, locals := 133 }) (hC : ok κ wM cX10_set 3 RX10 (some .int)) (N : Nat) (a1 : Int32) (a2 : Int32) (σ : Mem) : wF κ wM 3 (qOM κ wM) σ 0 [some (.ref (ad κ 0)), some (.int a1), some (.int a2)] [] (f_M_set N a1 a2 σ) := by
  unfold f_M_set
  refine r_aload_n (pc := 0) hC rfl dX10_set_0 ?_
  refine r_iconst (pc := 1) hC (v := (0 : Int32)) (by decide) dX10_set_1 ?_
  refine pM_0_0 (pc := 2) hC k_1037 dX10_set_2 ?_
  refine r_letm (fun s1 => ?_)
  refine r_iload_n (pc := 5) hC rfl dX10_set_5 ?_
  refine r_i2l (pc := 6) hC dX10_set_6 ?_
  refine r_lconst (pc := 7) hC (v := (0 : Int64)) (by decide) dX10_set_7 ?_
  refine r_ldc2 (pc := 8) hC (v := (9 : Int64)) k_1289 dX10_set_8 ?_
  refine r_cT (pc := 11) (rest := []) (runS [.long (a1.toInt64), .long (0 : Int64), .long (9 : Int64)] hC (c_M_in (kl κ) (kW κ) hC.2.2.2.2.2.2.2.2.1 (a1.toInt64) (0 : Int64) (9 : Int64) s1) o_X10_in k_1161 (rm_ok hR rfl) rfl (Nat.le_of_ble_eq_true rfl) dX10_set_11) ?_
  refine r_if_eq (pc := 14) (tgt := 34) hC dX10_set_14 (by decide) ?_ ?_
  · refine r_iconst (pc := 34) hC (v := (-1 : Int32)) (by decide) dX10_set_34 ?_
    exact r_retOM hC rfl dX10_set_35
  · refine r_aload_n (pc := 17) hC rfl dX10_set_17 ?_
    refine r_iload_n (pc := 18) hC rfl dX10_set_18 ?_
    refine r_cT (pc := 19) (rest := []) (runV [.int a2] hC (c_M_isSome (kl κ) (kW κ) hC.2.2.2.2.2.2.2.2.1 a2 s1) o_X10_isSome k_1250 (q0 := 0) (ci := 10) rfl rfl (rm_ok hR rfl) rfl (Nat.le_of_ble_eq_true rfl) dX10_set_19) ?_
    refine r_if_eq (pc := 22) (tgt := 34) hC dX10_set_22 (by decide) ?_ ?_
    · refine r_iconst (pc := 34) hC (v := (-1 : Int32)) (by decide) dX10_set_34 ?_
      exact r_retOM hC rfl dX10_set_35
    · refine r_aload_n (pc := 25) hC rfl dX10_set_25 ?_
      refine r_iload_n (pc := 26) hC rfl dX10_set_26 ?_
      refine r_iload_n (pc := 27) hC rfl dX10_set_27 ?_
      refine r_cOM (pc := 28) (rest := []) (fun r3 s2 hf => runV [.int a1, .int a2] hC (c_M_setOf (kl κ) (kW κ) hC.2.2.2.2.2.2.2.2.1 N a1 a2 s1 r3 s2 hf) o_X10_setOf k_1290 (q0 := 0) (ci := 10) rfl rfl (rm_ok hR rfl) rfl (Nat.le_of_ble_eq_true rfl) dX10_set_28) (fun r3 s2 => ?_)
      refine r_goto (pc := 31) (tgt := 35) hC dX10_set_31 (by decide) ?_
      exact r_retOM hC rfl dX10_set_35
set_option maxRecDepth 100000 in
set_option maxHeartbeats 4000000 in
theorem c_M_set (l : Launch) (w : Wenv) (hw : okw w wM) (N : Nat) (a1 : Int32) (a2 : Int32) (σ : Mem) (r : Int32) (τ : Mem) (hf : f_M_set N a1 a2 σ = some (r, τ)) : Ctr l w wM yX10_set cX10_set 3 (some .int) 6 133 [.ref (w.2.2.1 0), .int a1, .int a2] σ (cQi w wM r τ) := mk_ctr (Q := fun κ => qOM κ wM) (lv := [some (.ref (w.2.2.1 0)), some (.int a1), some (.int a2)]) (by decide) rfl hw (Nat.le_of_ble_eq_true rfl) rfl hf (fun κ h => by subst h; rfl) (fun κ hl h hR hC => by
    subst h
    exact w_M_set hR hC N a1 a2 σ)
-- DuelRoundModel.sign(I)I (0, None) kind OM
def M_sign_B22 (a1 : Int32) (self4 : Int32 → Mem → Option (Int32 × Mem)) (i2 : Int32) (s3 : Mem) : Option (Int32 × Mem) :=
  if i2 < (0 : Int32) then
  (some ((gI s3 7 0), s3))
  else
  (gd (inb (gI s3 7 0) 300) (bnd (sI s3 6 (gI s3 7 0).toNatClampNeg (vp_nar .byte (((a1.toUInt32 >>> (i2.toUInt32 &&& Int32.toUInt32 31)).toInt32).toInt8.toInt32))) fun s5 =>
  bnd (sI s5 7 0 ((gI s5 7 0) + (1 : Int32))) fun s6 =>
  self4 (i2 + (-8 : Int32)) s6))
def f_M_sign (N : Nat) (a1 : Int32) (σ : Mem) : Option (Int32 × Mem) :=
  bnd (sI σ 0 0 (0 : Int32)) fun s1 =>
  if ((gI s1 7 0) + (4 : Int32)) ≤ (300 : Int32) then
  (it2 (M_sign_B22 a1) N (24 : Int32) s1)
  else
  (some ((-1 : Int32), s1))
set_option maxRecDepth 100000 in
set_option maxHeartbeats 4000000 in
theorem w_M_sign {κ : Ctx} (hR : kR κ = { frames := 0, cells := 0, slots := 0, locals := 0 }) (hC : ok κ wM cX10_sign 3 RX10 (some .int)) (N : Nat) (a1 : Int32) (σ : Mem) : wF κ wM 3 (qOM κ wM) σ 0 [some (.ref (ad κ 0)), some (.int a1), none] [] (f_M_sign N a1 σ) := by
  unfold f_M_sign
  refine r_aload_n (pc := 0) hC rfl dX10_sign_0 ?_
  refine r_iconst (pc := 1) hC (v := (0 : Int32)) (by decide) dX10_sign_1 ?_
  refine pM_0_0 (pc := 2) hC k_1037 dX10_sign_2 ?_
  refine r_letm (fun s1 => ?_)
  refine r_aload_n (pc := 5) hC rfl dX10_sign_5 ?_
  refine gM_0_7 (pc := 6) hC k_1044 dX10_sign_6 ?_
  refine r_iconst (pc := 9) hC (v := (4 : Int32)) (by decide) dX10_sign_9 ?_
  refine r_iadd (pc := 10) hC dX10_sign_10 ?_
  refine r_sipush (pc := 11) hC (v := (300 : Int32)) (by decide) dX10_sign_11 ?_
  refine r_icmp_le (pc := 14) (tgt := 19) hC dX10_sign_14 (by decide) ?_ ?_
  · refine r_bipush (pc := 19) hC (v := (24 : Int32)) (by decide) dX10_sign_19 ?_
    refine r_istore_n (pc := 21) hC rfl rfl dX10_sign_21 ?_
    refine w_it2 (fun i2 s3 => s3) (fun i2 s3 => [some (.ref (ad κ 0)), some (.int a1), some (.int i2)]) (fun self4 ih22_4 i2 s3 => ?_) N (24 : Int32) s1
    unfold M_sign_B22
    refine r_iload_n (pc := 22) hC rfl dX10_sign_22 ?_
    refine r_if_lt (pc := 23) (tgt := 55) hC dX10_sign_23 (by decide) ?_ ?_
    · refine r_aload_n (pc := 55) hC rfl dX10_sign_55 ?_
      refine gM_0_7 (pc := 56) hC k_1044 dX10_sign_56 ?_
      exact r_retOM hC rfl dX10_sign_59
    · refine r_aload_n (pc := 26) hC rfl dX10_sign_26 ?_
      refine gM_0_6 (pc := 27) hC k_1043 dX10_sign_27 ?_
      refine r_aload_n (pc := 30) hC rfl dX10_sign_30 ?_
      refine gM_0_7 (pc := 31) hC k_1044 dX10_sign_31 ?_
      refine r_iload_n (pc := 34) hC rfl dX10_sign_34 ?_
      refine r_iload_n (pc := 35) hC rfl dX10_sign_35 ?_
      refine r_iushr (pc := 36) hC dX10_sign_36 ?_
      refine r_i2b (pc := 37) hC dX10_sign_37 ?_
      refine bM_5 (pc := 38) hC dX10_sign_38 ?_
      refine r_letm (fun s5 => ?_)
      refine r_aload_n (pc := 39) hC rfl dX10_sign_39 ?_
      refine r_dup (pc := 40) hC rfl dX10_sign_40 ?_
      refine gM_0_7 (pc := 41) hC k_1044 dX10_sign_41 ?_
      refine r_iconst (pc := 44) hC (v := (1 : Int32)) (by decide) dX10_sign_44 ?_
      refine r_iadd (pc := 45) hC dX10_sign_45 ?_
      refine pM_0_7 (pc := 46) hC k_1044 dX10_sign_46 ?_
      refine r_letm (fun s6 => ?_)
      refine r_iinc (pc := 49) hC (v := (-8 : Int32)) rfl (by decide) rfl rfl dX10_sign_49 ?_
      refine r_goto (pc := 52) (tgt := 22) hC dX10_sign_52 (by decide) ?_
      exact ih22_4 (i2 + (-8 : Int32)) s6
  · refine r_iconst (pc := 17) hC (v := (-1 : Int32)) (by decide) dX10_sign_17 ?_
    exact r_retOM hC rfl dX10_sign_18
set_option maxRecDepth 100000 in
set_option maxHeartbeats 4000000 in
theorem c_M_sign (l : Launch) (w : Wenv) (hw : okw w wM) (N : Nat) (a1 : Int32) (σ : Mem) (r : Int32) (τ : Mem) (hf : f_M_sign N a1 σ = some (r, τ)) : Ctr l w wM yX10_sign cX10_sign 3 (some .int) 0 0 [.ref (w.2.2.1 0), .int a1] σ (cQi w wM r τ) := mk_ctr (Q := fun κ => qOM κ wM) (lv := [some (.ref (w.2.2.1 0)), some (.int a1), none]) (by decide) rfl hw (Nat.le_of_ble_eq_true rfl) rfl hf (fun κ h => by subst h; rfl) (fun κ hl h hR hC => by
    subst h
    exact w_M_sign hR hC N a1 σ)
-- DuelRoundModel.turn(II)I (0, None, None) kind OM
def f_M_turn (N : Nat) (a1 : Int32) (a2 : Int32) (σ : Mem) : Option (Int32 × Mem) :=
  bnd (sI σ 0 0 (0 : Int32)) fun s1 =>
  if a1 = a2 then
  (some ((-1 : Int32), s1))
  else
  (if (t_M_isPlayer a1 s1) = (0 : Int32) then
  (some ((-2 : Int32), s1))
  else
  (if (t_M_isPlayer a2 s1) = (0 : Int32) then
  (some ((-2 : Int32), s1))
  else
  (ob (f_M_remember N s1) fun s2 =>
  ob (f_M_turnNow a1 a2 s2) fun s3 =>
  ob (f_M_beats a1 s3) fun r4 =>
  if (t_M_has r4 a2) = (0 : Int32) then
  (some (a2, s3))
  else
  (some (a1, s3)))))
set_option maxRecDepth 100000 in
set_option maxHeartbeats 4000000 in
theorem w_M_turn {κ : Ctx} (hR : kR κ = { frames := 2, cells := 0, slots := 0, locals := 46 }) (hC : ok κ wM cX10_turn 3 RX10 (some .int)) (N : Nat) (a1 : Int32) (a2 : Int32) (σ : Mem) : wF κ wM 3 (qOM κ wM) σ 0 [some (.ref (ad κ 0)), some (.int a1), some (.int a2)] [] (f_M_turn N a1 a2 σ) := by
  unfold f_M_turn
  refine r_aload_n (pc := 0) hC rfl dX10_turn_0 ?_
  refine r_iconst (pc := 1) hC (v := (0 : Int32)) (by decide) dX10_turn_1 ?_
  refine pM_0_0 (pc := 2) hC k_1037 dX10_turn_2 ?_
  refine r_letm (fun s1 => ?_)
  refine r_iload_n (pc := 5) hC rfl dX10_turn_5 ?_
  refine r_iload_n (pc := 6) hC rfl dX10_turn_6 ?_
  refine r_icmp_ne (pc := 7) (tgt := 12) hC dX10_turn_7 (by decide) ?_ ?_
  · refine r_aload_n (pc := 12) hC rfl dX10_turn_12 ?_
    refine r_iload_n (pc := 13) hC rfl dX10_turn_13 ?_
    refine r_cT (pc := 14) (rest := []) (runV [.int a1] hC (c_M_isPlayer (kl κ) (kW κ) hC.2.2.2.2.2.2.2.2.1 a1 s1) o_X10_isPlayer k_1220 (q0 := 0) (ci := 10) rfl rfl (rm_ok hR rfl) rfl (Nat.le_of_ble_eq_true rfl) dX10_turn_14) ?_
    refine r_if_eq (pc := 17) (tgt := 28) hC dX10_turn_17 (by decide) ?_ ?_
    · refine r_bipush (pc := 28) hC (v := (-2 : Int32)) (by decide) dX10_turn_28 ?_
      exact r_retOM hC rfl dX10_turn_30
    · refine r_aload_n (pc := 20) hC rfl dX10_turn_20 ?_
      refine r_iload_n (pc := 21) hC rfl dX10_turn_21 ?_
      refine r_cT (pc := 22) (rest := []) (runV [.int a2] hC (c_M_isPlayer (kl κ) (kW κ) hC.2.2.2.2.2.2.2.2.1 a2 s1) o_X10_isPlayer k_1220 (q0 := 0) (ci := 10) rfl rfl (rm_ok hR rfl) rfl (Nat.le_of_ble_eq_true rfl) dX10_turn_22) ?_
      refine r_if_ne (pc := 25) (tgt := 31) hC dX10_turn_25 (by decide) ?_ ?_
      · refine r_aload_n (pc := 31) hC rfl dX10_turn_31 ?_
        refine r_cM (pc := 32) (rest := []) (fun s2 hf => runV [] hC (c_M_remember (kl κ) (kW κ) hC.2.2.2.2.2.2.2.2.1 N s1 s2 hf) o_X10_remember k_1262 (q0 := 0) (ci := 10) rfl rfl (rm_ok hR rfl) rfl (Nat.le_of_ble_eq_true rfl) dX10_turn_32) (fun s2 => ?_)
        refine r_aload_n (pc := 35) hC rfl dX10_turn_35 ?_
        refine r_iload_n (pc := 36) hC rfl dX10_turn_36 ?_
        refine r_iload_n (pc := 37) hC rfl dX10_turn_37 ?_
        refine r_cM (pc := 38) (rest := []) (fun s3 hf => runV [.int a1, .int a2] hC (c_M_turnNow (kl κ) (kW κ) hC.2.2.2.2.2.2.2.2.1 a1 a2 s2 s3 hf) o_X10_turnNow k_1266 (q0 := 0) (ci := 10) rfl rfl (rm_ok hR rfl) rfl (Nat.le_of_ble_eq_true rfl) dX10_turn_38) (fun s3 => ?_)
        refine r_aload_n (pc := 41) hC rfl dX10_turn_41 ?_
        refine r_iload_n (pc := 42) hC rfl dX10_turn_42 ?_
        refine r_cO (pc := 43) (rest := []) (fun r4 hf => runV [.int a1] hC (c_M_beats (kl κ) (kW κ) hC.2.2.2.2.2.2.2.2.1 a1 s3 r4 hf) o_X10_beats k_1224 (q0 := 0) (ci := 10) rfl rfl (rm_ok hR rfl) rfl (Nat.le_of_ble_eq_true rfl) dX10_turn_43) (fun r4 => ?_)
        refine r_iload_n (pc := 46) hC rfl dX10_turn_46 ?_
        refine r_cT (pc := 47) (rest := []) (runS [.int r4, .int a2] hC (c_M_has (kl κ) (kW κ) hC.2.2.2.2.2.2.2.2.1 r4 a2 s3) o_X10_has k_1194 (rm_ok hR rfl) rfl (Nat.le_of_ble_eq_true rfl) dX10_turn_47) ?_
        refine r_if_eq (pc := 50) (tgt := 57) hC dX10_turn_50 (by decide) ?_ ?_
        · refine r_iload_n (pc := 57) hC rfl dX10_turn_57 ?_
          exact r_retOM hC rfl dX10_turn_58
        · refine r_iload_n (pc := 53) hC rfl dX10_turn_53 ?_
          refine r_goto (pc := 54) (tgt := 58) hC dX10_turn_54 (by decide) ?_
          exact r_retOM hC rfl dX10_turn_58
      · refine r_bipush (pc := 28) hC (v := (-2 : Int32)) (by decide) dX10_turn_28 ?_
        exact r_retOM hC rfl dX10_turn_30
  · refine r_iconst (pc := 10) hC (v := (-1 : Int32)) (by decide) dX10_turn_10 ?_
    exact r_retOM hC rfl dX10_turn_11
set_option maxRecDepth 100000 in
set_option maxHeartbeats 4000000 in
theorem c_M_turn (l : Launch) (w : Wenv) (hw : okw w wM) (N : Nat) (a1 : Int32) (a2 : Int32) (σ : Mem) (r : Int32) (τ : Mem) (hf : f_M_turn N a1 a2 σ = some (r, τ)) : Ctr l w wM yX10_turn cX10_turn 3 (some .int) 2 46 [.ref (w.2.2.1 0), .int a1, .int a2] σ (cQi w wM r τ) := mk_ctr (Q := fun κ => qOM κ wM) (lv := [some (.ref (w.2.2.1 0)), some (.int a1), some (.int a2)]) (by decide) rfl hw (Nat.le_of_ble_eq_true rfl) rfl hf (fun κ h => by subst h; rfl) (fun κ hl h hR hC => by
    subst h
    exact w_M_turn hR hC N a1 a2 σ)
