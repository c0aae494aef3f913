-- DuelRound$Past.remember(J)V (4, None) kind M
def Pa_remember_J34 (a1 : Int64) (s1 : Mem) : Option Mem :=
  gd (inb (gI s1 5 0) 10) (bnd (sJ s1 15 (gI s1 5 0).toNatClampNeg a1) fun s2 =>
  bnd (sI s2 5 0 ((gI s2 5 0) + (1 : Int32))) fun s3 =>
  some s3)
def f_Pa_remember (a1 : Int64) (σ : Mem) : Option Mem :=
  if (gI σ 5 0) = (10 : Int32) then
  (bnd (cJ σ 15 1 0 9) fun s4 =>
  bnd (sI s4 5 0 ((gI s4 5 0) - (1 : Int32))) fun s5 =>
  Pa_remember_J34 a1 s5)
  else
  (Pa_remember_J34 a1 σ)
set_option maxRecDepth 100000 in
set_option maxHeartbeats 4000000 in
theorem w_Pa_remember {κ : Ctx} (hR : kR κ = { frames := 1, cells := 0, slots := 0, locals := 60 }) (hC : ok κ wC cX4_remember 3 RX4 none) (a1 : Int64) (σ : Mem) : wF κ wC 3 (qM κ wC) σ 0 [some (.ref (ad κ 4)), some (.long a1), none] [] (f_Pa_remember a1 σ) := by
  unfold f_Pa_remember
  refine r_aload_n (pc := 0) hC rfl dX4_remember_0 ?_
  refine gC_4_2 (pc := 1) hC k_161 dX4_remember_1 ?_
  refine r_bipush (pc := 4) hC (v := (10 : Int32)) (by decide) dX4_remember_4 ?_
  have hJ34_3 : ∀ (s1 : Mem), wF κ wC 3 (qM κ wC) s1 34 [some (.ref (ad κ 4)), some (.long a1), none] [] (Pa_remember_J34 a1 s1) := by
    intro s1
    unfold Pa_remember_J34
    refine r_aload_n (pc := 34) hC rfl dX4_remember_34 ?_
    refine gC_4_0 (pc := 35) hC k_158 dX4_remember_35 ?_
    refine r_aload_n (pc := 38) hC rfl dX4_remember_38 ?_
    refine gC_4_2 (pc := 39) hC k_161 dX4_remember_39 ?_
    refine r_lload_n (pc := 42) hC rfl dX4_remember_42 ?_
    refine bC_15 (pc := 43) hC dX4_remember_43 ?_
    refine r_letm (fun s2 => ?_)
    refine r_aload_n (pc := 44) hC rfl dX4_remember_44 ?_
    refine r_dup (pc := 45) hC rfl dX4_remember_45 ?_
    refine gC_4_2 (pc := 46) hC k_161 dX4_remember_46 ?_
    refine r_iconst (pc := 49) hC (v := (1 : Int32)) (by decide) dX4_remember_49 ?_
    refine r_iadd (pc := 50) hC dX4_remember_50 ?_
    refine pC_4_2 (pc := 51) hC k_161 dX4_remember_51 ?_
    refine r_letm (fun s3 => ?_)
    exact r_retM hC dX4_remember_54
  refine r_icmp_ne (pc := 6) (tgt := 34) hC dX4_remember_6 (by decide) ?_ ?_
  · exact hJ34_3 σ
  · refine r_aload_n (pc := 9) hC rfl dX4_remember_9 ?_
    refine gC_4_0 (pc := 10) hC k_158 dX4_remember_10 ?_
    refine r_iconst (pc := 13) hC (v := (1 : Int32)) (by decide) dX4_remember_13 ?_
    refine r_aload_n (pc := 14) hC rfl dX4_remember_14 ?_
    refine gC_4_0 (pc := 15) hC k_158 dX4_remember_15 ?_
    refine r_iconst (pc := 18) hC (v := (0 : Int32)) (by decide) dX4_remember_18 ?_
    refine r_bipush (pc := 19) hC (v := (9 : Int32)) (by decide) dX4_remember_19 ?_
    refine cpC_15 (pc := 21) hC hR rfl k_467 dX4_remember_21 ?_
    refine r_letm (fun s4 => ?_)
    refine r_aload_n (pc := 24) hC rfl dX4_remember_24 ?_
    refine r_dup (pc := 25) hC rfl dX4_remember_25 ?_
    refine gC_4_2 (pc := 26) hC k_161 dX4_remember_26 ?_
    refine r_iconst (pc := 29) hC (v := (1 : Int32)) (by decide) dX4_remember_29 ?_
    refine r_isub (pc := 30) hC dX4_remember_30 ?_
    refine pC_4_2 (pc := 31) hC k_161 dX4_remember_31 ?_
    refine r_letm (fun s5 => ?_)
    exact hJ34_3 s5
set_option maxRecDepth 100000 in
set_option maxHeartbeats 4000000 in
theorem c_Pa_remember (l : Launch) (w : Wenv) (hw : okw w wC) (a1 : Int64) (σ : Mem) (τ : Mem) (hf : f_Pa_remember a1 σ = some τ) : Ctr l w wC yX4_remember cX4_remember 3 none 1 60 [.ref (w.2.2.1 4), .long a1] σ (cQv w wC τ) := mk_ctr (Q := fun κ => qM κ wC) (lv := [some (.ref (w.2.2.1 4)), some (.long a1), none]) (by decide) rfl hw (Nat.le_of_ble_eq_true rfl) rfl hf (fun κ h => by subst h; rfl) (fun κ hl h hR hC => by
    subst h
    exact w_Pa_remember hR hC a1 σ)
-- DuelRound$Past.takeLatest()J (4,) kind LM
def f_Pa_takeLatest (σ : Mem) : Option (Int64 × Mem) :=
  bnd (sI σ 5 0 ((gI σ 5 0) - (1 : Int32))) fun s1 =>
  gd (inb (gI s1 5 0) 10) (some ((gJ s1 15 (gI s1 5 0).toNatClampNeg), s1))
set_option maxRecDepth 100000 in
set_option maxHeartbeats 4000000 in
theorem w_Pa_takeLatest {κ : Ctx} (hR : kR κ = { frames := 0, cells := 0, slots := 0, locals := 0 }) (hC : ok κ wC cX4_takeLatest 1 RX4 (some .long)) (σ : Mem) : wF κ wC 1 (qLM κ wC) σ 0 [some (.ref (ad κ 4))] [] (f_Pa_takeLatest  σ) := by
  unfold f_Pa_takeLatest
  refine r_aload_n (pc := 0) hC rfl dX4_takeLatest_0 ?_
  refine r_dup (pc := 1) hC rfl dX4_takeLatest_1 ?_
  refine gC_4_2 (pc := 2) hC k_161 dX4_takeLatest_2 ?_
  refine r_iconst (pc := 5) hC (v := (1 : Int32)) (by decide) dX4_takeLatest_5 ?_
  refine r_isub (pc := 6) hC dX4_takeLatest_6 ?_
  refine pC_4_2 (pc := 7) hC k_161 dX4_takeLatest_7 ?_
  refine r_letm (fun s1 => ?_)
  refine r_aload_n (pc := 10) hC rfl dX4_takeLatest_10 ?_
  refine gC_4_0 (pc := 11) hC k_158 dX4_takeLatest_11 ?_
  refine r_aload_n (pc := 14) hC rfl dX4_takeLatest_14 ?_
  refine gC_4_2 (pc := 15) hC k_161 dX4_takeLatest_15 ?_
  refine aC_15 (pc := 18) hC dX4_takeLatest_18 ?_
  exact r_retLM hC dX4_takeLatest_19
set_option maxRecDepth 100000 in
set_option maxHeartbeats 4000000 in
theorem c_Pa_takeLatest (l : Launch) (w : Wenv) (hw : okw w wC) (σ : Mem) (r : Int64) (τ : Mem) (hf : f_Pa_takeLatest  σ = some (r, τ)) : Ctr l w wC yX4_takeLatest cX4_takeLatest 1 (some .long) 0 0 [.ref (w.2.2.1 4)] σ (cQl w wC r τ) := mk_ctr (Q := fun κ => qLM κ wC) (lv := [some (.ref (w.2.2.1 4))]) (by decide) rfl hw (Nat.le_of_ble_eq_true rfl) rfl hf (fun κ h => by subst h; rfl) (fun κ hl h hR hC => by
    subst h
    exact w_Pa_takeLatest hR hC  σ)
-- DuelRound$Past.isKept(I)Z (4, None) kind O
def f_Pa_isKept (a1 : Int32) (σ : Mem) : Option Int32 :=
  if a1 < (0 : Int32) then
  (some (0 : Int32))
  else
  (if (2 : Int32) ≤ a1 then
  (some (0 : Int32))
  else
  (gd (inb a1 2) (if (lg_cmp (gJ σ 16 a1.toNatClampNeg) (0 : Int64)) = (0 : Int32) then
  (some (0 : Int32))
  else
  (some (1 : Int32)))))
set_option maxRecDepth 100000 in
set_option maxHeartbeats 4000000 in
theorem w_Pa_isKept {κ : Ctx} (hR : kR κ = { frames := 0, cells := 0, slots := 0, locals := 0 }) (hC : ok κ wC cX4_isKept 2 RX4 (some .boolean)) (a1 : Int32) (σ : Mem) : wF κ wC 2 (qO κ wC σ) σ 0 [some (.ref (ad κ 4)), some (.int a1)] [] (f_Pa_isKept a1 σ) := by
  unfold f_Pa_isKept
  refine r_iload_n (pc := 0) hC rfl dX4_isKept_0 ?_
  refine r_if_lt (pc := 1) (tgt := 24) hC dX4_isKept_1 (by decide) ?_ ?_
  · refine r_iconst (pc := 24) hC (v := (0 : Int32)) (by decide) dX4_isKept_24 ?_
    exact r_retO hC rfl dX4_isKept_25
  · refine r_iload_n (pc := 4) hC rfl dX4_isKept_4 ?_
    refine r_iconst (pc := 5) hC (v := (2 : Int32)) (by decide) dX4_isKept_5 ?_
    refine r_icmp_ge (pc := 6) (tgt := 24) hC dX4_isKept_6 (by decide) ?_ ?_
    · refine r_iconst (pc := 24) hC (v := (0 : Int32)) (by decide) dX4_isKept_24 ?_
      exact r_retO hC rfl dX4_isKept_25
    · refine r_aload_n (pc := 9) hC rfl dX4_isKept_9 ?_
      refine gC_4_1 (pc := 10) hC k_159 dX4_isKept_10 ?_
      refine r_iload_n (pc := 13) hC rfl dX4_isKept_13 ?_
      refine aC_16 (pc := 14) hC dX4_isKept_14 ?_
      refine r_lconst (pc := 15) hC (v := (0 : Int64)) (by decide) dX4_isKept_15 ?_
      refine r_lcmp (pc := 16) hC dX4_isKept_16 ?_
      refine r_if_eq (pc := 17) (tgt := 24) hC dX4_isKept_17 (by decide) ?_ ?_
      · refine r_iconst (pc := 24) hC (v := (0 : Int32)) (by decide) dX4_isKept_24 ?_
        exact r_retO hC rfl dX4_isKept_25
      · refine r_iconst (pc := 20) hC (v := (1 : Int32)) (by decide) dX4_isKept_20 ?_
        refine r_goto (pc := 21) (tgt := 25) hC dX4_isKept_21 (by decide) ?_
        exact r_retO hC rfl dX4_isKept_25
set_option maxRecDepth 100000 in
set_option maxHeartbeats 4000000 in
theorem c_Pa_isKept (l : Launch) (w : Wenv) (hw : okw w wC) (a1 : Int32) (σ : Mem) (r : Int32) (hf : f_Pa_isKept a1 σ = some r) : Ctr l w wC yX4_isKept cX4_isKept 2 (some .boolean) 0 0 [.ref (w.2.2.1 4), .int a1] σ (cQi w wC r σ) := mk_ctr (Q := fun κ => qO κ wC σ) (lv := [some (.ref (w.2.2.1 4)), some (.int a1)]) (by decide) rfl hw (Nat.le_of_ble_eq_true rfl) rfl hf (fun κ h => by subst h; rfl) (fun κ hl h hR hC => by
    subst h
    exact w_Pa_isKept hR hC a1 σ)
-- DuelRound$Past.forgetAll()V (4,) kind M
def Pa_forgetAll_B7 (self4 : Int32 → Mem → Option Mem) (i2 : Int32) (s3 : Mem) : Option Mem :=
  if (2 : Int32) ≤ i2 then
  (some s3)
  else
  (gd (inb i2 2) (bnd (sJ s3 16 i2.toNatClampNeg (0 : Int64)) fun s5 =>
  self4 (i2 + (1 : Int32)) s5))
def f_Pa_forgetAll (N : Nat) (σ : Mem) : Option Mem :=
  bnd (sI σ 5 0 (0 : Int32)) fun s1 =>
  it2 (Pa_forgetAll_B7) N (0 : Int32) s1
set_option maxRecDepth 100000 in
set_option maxHeartbeats 4000000 in
theorem w_Pa_forgetAll {κ : Ctx} (hR : kR κ = { frames := 0, cells := 0, slots := 0, locals := 0 }) (hC : ok κ wC cX4_forgetAll 2 RX4 none) (N : Nat) (σ : Mem) : wF κ wC 2 (qM κ wC) σ 0 [some (.ref (ad κ 4)), none] [] (f_Pa_forgetAll N  σ) := by
  unfold f_Pa_forgetAll
  refine r_aload_n (pc := 0) hC rfl dX4_forgetAll_0 ?_
  refine r_iconst (pc := 1) hC (v := (0 : Int32)) (by decide) dX4_forgetAll_1 ?_
  refine pC_4_2 (pc := 2) hC k_161 dX4_forgetAll_2 ?_
  refine r_letm (fun s1 => ?_)
  refine r_iconst (pc := 5) hC (v := (0 : Int32)) (by decide) dX4_forgetAll_5 ?_
  refine r_istore_n (pc := 6) hC rfl rfl dX4_forgetAll_6 ?_
  refine w_it2 (fun i2 s3 => s3) (fun i2 s3 => [some (.ref (ad κ 4)), some (.int i2)]) (fun self4 ih7_4 i2 s3 => ?_) N (0 : Int32) s1
  unfold Pa_forgetAll_B7
  refine r_iload_n (pc := 7) hC rfl dX4_forgetAll_7 ?_
  refine r_iconst (pc := 8) hC (v := (2 : Int32)) (by decide) dX4_forgetAll_8 ?_
  refine r_icmp_ge (pc := 9) (tgt := 25) hC dX4_forgetAll_9 (by decide) ?_ ?_
  · exact r_retM hC dX4_forgetAll_25
  · refine r_aload_n (pc := 12) hC rfl dX4_forgetAll_12 ?_
    refine gC_4_1 (pc := 13) hC k_159 dX4_forgetAll_13 ?_
    refine r_iload_n (pc := 16) hC rfl dX4_forgetAll_16 ?_
    refine r_lconst (pc := 17) hC (v := (0 : Int64)) (by decide) dX4_forgetAll_17 ?_
    refine bC_16 (pc := 18) hC dX4_forgetAll_18 ?_
    refine r_letm (fun s5 => ?_)
    refine r_iinc (pc := 19) hC (v := (1 : Int32)) rfl (by decide) rfl rfl dX4_forgetAll_19 ?_
    refine r_goto (pc := 22) (tgt := 7) hC dX4_forgetAll_22 (by decide) ?_
    exact ih7_4 (i2 + (1 : Int32)) s5
set_option maxRecDepth 100000 in
set_option maxHeartbeats 4000000 in
theorem c_Pa_forgetAll (l : Launch) (w : Wenv) (hw : okw w wC) (N : Nat) (σ : Mem) (τ : Mem) (hf : f_Pa_forgetAll N  σ = some τ) : Ctr l w wC yX4_forgetAll cX4_forgetAll 2 none 0 0 [.ref (w.2.2.1 4)] σ (cQv w wC τ) := mk_ctr (Q := fun κ => qM κ wC) (lv := [some (.ref (w.2.2.1 4)), none]) (by decide) rfl hw (Nat.le_of_ble_eq_true rfl) rfl hf (fun κ h => by subst h; rfl) (fun κ hl h hR hC => by
    subst h
    exact w_Pa_forgetAll hR hC N  σ)
