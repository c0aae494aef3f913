-- DuelRound$Proofs.firstOf(I)I (9, None) kind O
def f_Pr_firstOf (a1 : Int32) (σ : Mem) : Option Int32 :=
  gd (inb a1 102) (bnd (gI σ 25 a1.toNatClampNeg) fun x1 =>
  gd (inb x1 300) (swc (gI σ 24 x1.toNatClampNeg) [((107 : Int32), gd (inb (x1 + (1 : Int32)) 300) (some ((1 : Int32) <<< ((gI σ 24 (x1 + (1 : Int32)).toNatClampNeg) &&& 31)))),
  ((115 : Int32), gd (inb (x1 + (2 : Int32)) 300) (some ((1 : Int32) <<< ((gI σ 24 (x1 + (2 : Int32)).toNatClampNeg) &&& 31))))]
  (some (0 : Int32))))
set_option maxRecDepth 100000 in
set_option maxHeartbeats 4000000 in
theorem w_Pr_firstOf {κ : Ctx} (hR : kR κ = { frames := 0, cells := 0, slots := 0, locals := 0 }) (hC : ok κ wC cX5_firstOf 3 RX5 (some .int)) (a1 : Int32) (σ : Mem) : wF κ wC 3 (qO κ wC σ) σ 0 [some (.ref (ad κ 9)), some (.int a1), none] [] (f_Pr_firstOf a1 σ) := by
  unfold f_Pr_firstOf
  refine r_aload_n (pc := 0) hC rfl dX5_firstOf_0 ?_
  refine gC_9_6 (pc := 1) hC k_256 dX5_firstOf_1 ?_
  refine r_iload_n (pc := 4) hC rfl dX5_firstOf_4 ?_
  refine aC_25 (pc := 5) hC dX5_firstOf_5 ?_
  refine r_let (fun x1 => ?_)
  refine r_istore_n (pc := 6) hC rfl rfl dX5_firstOf_6 ?_
  refine r_aload_n (pc := 7) hC rfl dX5_firstOf_7 ?_
  refine gC_9_5 (pc := 8) hC k_255 dX5_firstOf_8 ?_
  refine r_iload_n (pc := 11) hC rfl dX5_firstOf_11 ?_
  refine aC_24 (pc := 12) hC dX5_firstOf_12 ?_
  refine r_lookup (pc := 13) (tg := fun i => ([40, 51] : List Nat).getD i 0) (dt := 62) hC dX5_firstOf_13 (by decide) (by decide) (fun i v a hi => ?_) (fun hno => ?_) ?_
  · have hl : i < 2 := (List.getElem?_eq_some_iff.mp hi).1
    rcases (show i = 0 ∨ i = 1 by omega) with rfl | rfl
    · cases hi
      refine ⟨by decide, ?_⟩
      refine r_iconst (pc := 40) hC (v := (1 : Int32)) (by decide) dX5_firstOf_40 ?_
      refine r_aload_n (pc := 41) hC rfl dX5_firstOf_41 ?_
      refine gC_9_5 (pc := 42) hC k_255 dX5_firstOf_42 ?_
      refine r_iload_n (pc := 45) hC rfl dX5_firstOf_45 ?_
      refine r_iconst (pc := 46) hC (v := (1 : Int32)) (by decide) dX5_firstOf_46 ?_
      refine r_iadd (pc := 47) hC dX5_firstOf_47 ?_
      refine aC_24 (pc := 48) hC dX5_firstOf_48 ?_
      refine r_ishl (pc := 49) hC dX5_firstOf_49 ?_
      exact r_retO hC rfl dX5_firstOf_50
    · cases hi
      refine ⟨by decide, ?_⟩
      refine r_iconst (pc := 51) hC (v := (1 : Int32)) (by decide) dX5_firstOf_51 ?_
      refine r_aload_n (pc := 52) hC rfl dX5_firstOf_52 ?_
      refine gC_9_5 (pc := 53) hC k_255 dX5_firstOf_53 ?_
      refine r_iload_n (pc := 56) hC rfl dX5_firstOf_56 ?_
      refine r_iconst (pc := 57) hC (v := (2 : Int32)) (by decide) dX5_firstOf_57 ?_
      refine r_iadd (pc := 58) hC dX5_firstOf_58 ?_
      refine aC_24 (pc := 59) hC dX5_firstOf_59 ?_
      refine r_ishl (pc := 60) hC dX5_firstOf_60 ?_
      exact r_retO hC rfl dX5_firstOf_61
  · refine lk_no ([(107, 27), (115, 38)] : List (Int × Int)) _ _ (fun q hq => ?_)
    simp only [List.mem_cons, List.not_mem_nil, or_false] at hq
    rcases hq with rfl | rfl
    · exact fun h => hno 0 _ _ rfl (lk_eq h (by decide))
    · exact fun h => hno 1 _ _ rfl (lk_eq h (by decide))
  · refine r_iconst (pc := 62) hC (v := (0 : Int32)) (by decide) dX5_firstOf_62 ?_
    exact r_retO hC rfl dX5_firstOf_63
set_option maxRecDepth 100000 in
set_option maxHeartbeats 4000000 in
theorem c_Pr_firstOf (l : Launch) (w : Wenv) (hw : okw w wC) (a1 : Int32) (σ : Mem) (r : Int32) (hf : f_Pr_firstOf a1 σ = some r) : Ctr l w wC yX5_firstOf cX5_firstOf 3 (some .int) 0 0 [.ref (w.2.2.1 9), .int a1] σ (cQi w wC r σ) := mk_ctr (Q := fun κ => qO κ wC σ) (lv := [some (.ref (w.2.2.1 9)), some (.int a1), none]) (by decide) rfl hw (Nat.le_of_ble_eq_true rfl) rfl hf (fun κ h => by subst h; rfl) (fun κ hl h hR hC => by
    subst h
    exact w_Pr_firstOf hR hC a1 σ)
-- DuelRound$Proofs.judgeLines()I (9,) kind OM
def Pr_judgeLines_K50 (y6 : Int32) (s7 : Mem) : Option (Int32 × Mem) :=
  bnd (sI s7 9 0 y6) fun s8 =>
  some (y6, s8)
def Pr_judgeLines_B30 (N : Nat) (self11 : Int32 → Mem → Option (Int32 × Mem)) (i9 : Int32) (s10 : Mem) : Option (Int32 × Mem) :=
  if (gI s10 7 0) ≤ i9 then
  (some ((gI s10 7 0), s10))
  else
  (ob (f_Pr_judgeLine N i9 s10) fun s12 =>
  if (gI s12 10 0) = (0 : Int32) then
  (ob (f_Pr_firstOf i9 s12) fun r13 =>
  bnd (sI s12 29 0 ((gI s12 29 0) ||| r13)) fun s14 =>
  self11 (i9 + (1 : Int32)) s14)
  else
  (Pr_judgeLines_K50 i9 s12))
def f_Pr_judgeLines (N : Nat) (σ : Mem) : Option (Int32 × Mem) :=
  bnd (sI σ 8 0 (1 : Int32)) fun s1 =>
  bnd (sI s1 9 0 (-1 : Int32)) fun s2 =>
  bnd (sI s2 10 0 (0 : Int32)) fun s3 =>
  bnd (sI s3 28 0 (gI s3 7 0)) fun s4 =>
  bnd (sI s4 29 0 (0 : Int32)) fun s5 =>
  it2 (Pr_judgeLines_B30 N) N (0 : Int32) s5
set_option maxRecDepth 100000 in
set_option maxHeartbeats 4000000 in
theorem w_Pr_judgeLines {κ : Ctx} (hR : kR κ = { frames := 16, cells := 0, slots := 0, locals := 393 }) (hC : ok κ wC cX5_judgeLines 2 RX5 (some .int)) (N : Nat) (σ : Mem) : wF κ wC 2 (qOM κ wC) σ 0 [some (.ref (ad κ 9)), none] [] (f_Pr_judgeLines N  σ) := by
  unfold f_Pr_judgeLines
  refine r_aload_n (pc := 0) hC rfl dX5_judgeLines_0 ?_
  refine r_iconst (pc := 1) hC (v := (1 : Int32)) (by decide) dX5_judgeLines_1 ?_
  refine pC_9_10 (pc := 2) hC (by decide) k_260 dX5_judgeLines_2 ?_
  refine r_letm (fun s1 => ?_)
  refine r_aload_n (pc := 5) hC rfl dX5_judgeLines_5 ?_
  refine r_iconst (pc := 6) hC (v := (-1 : Int32)) (by decide) dX5_judgeLines_6 ?_
  refine pC_9_11 (pc := 7) hC k_262 dX5_judgeLines_7 ?_
  refine r_letm (fun s2 => ?_)
  refine r_aload_n (pc := 10) hC rfl dX5_judgeLines_10 ?_
  refine r_iconst (pc := 11) hC (v := (0 : Int32)) (by decide) dX5_judgeLines_11 ?_
  refine pC_9_12 (pc := 12) hC k_264 dX5_judgeLines_12 ?_
  refine r_letm (fun s3 => ?_)
  refine r_aload_n (pc := 15) hC rfl dX5_judgeLines_15 ?_
  refine r_aload_n (pc := 16) hC rfl dX5_judgeLines_16 ?_
  refine gC_9_9 (pc := 17) hC k_259 dX5_judgeLines_17 ?_
  refine pC_9_13 (pc := 20) hC k_266 dX5_judgeLines_20 ?_
  refine r_letm (fun s4 => ?_)
  refine r_aload_n (pc := 23) hC rfl dX5_judgeLines_23 ?_
  refine r_iconst (pc := 24) hC (v := (0 : Int32)) (by decide) dX5_judgeLines_24 ?_
  refine pC_9_14 (pc := 25) hC k_268 dX5_judgeLines_25 ?_
  refine r_letm (fun s5 => ?_)
  refine r_iconst (pc := 28) hC (v := (0 : Int32)) (by decide) dX5_judgeLines_28 ?_
  refine r_istore_n (pc := 29) hC rfl rfl dX5_judgeLines_29 ?_
  have hK50_8 : ∀ (y6 : Int32) (s7 : Mem), wF κ wC 2 (qOM κ wC) s7 50 [some (.ref (ad κ 9)), some (.int y6)] [] (Pr_judgeLines_K50 y6 s7) := by
    intro y6 s7
    unfold Pr_judgeLines_K50
    refine r_aload_n (pc := 50) hC rfl dX5_judgeLines_50 ?_
    refine r_iload_n (pc := 51) hC rfl dX5_judgeLines_51 ?_
    refine pC_9_11 (pc := 52) hC k_262 dX5_judgeLines_52 ?_
    refine r_letm (fun s8 => ?_)
    refine r_iload_n (pc := 55) hC rfl dX5_judgeLines_55 ?_
    exact r_retOM hC rfl dX5_judgeLines_56
  refine w_it2 (fun i9 s10 => s10) (fun i9 s10 => [some (.ref (ad κ 9)), some (.int i9)]) (fun self11 ih30_11 i9 s10 => ?_) N (0 : Int32) s5
  unfold Pr_judgeLines_B30
  refine r_iload_n (pc := 30) hC rfl dX5_judgeLines_30 ?_
  refine r_aload_n (pc := 31) hC rfl dX5_judgeLines_31 ?_
  refine gC_9_9 (pc := 32) hC k_259 dX5_judgeLines_32 ?_
  refine r_icmp_ge (pc := 35) (tgt := 77) hC dX5_judgeLines_35 (by decide) ?_ ?_
  · refine r_aload_n (pc := 77) hC rfl dX5_judgeLines_77 ?_
    refine gC_9_9 (pc := 78) hC k_259 dX5_judgeLines_78 ?_
    exact r_retOM hC rfl dX5_judgeLines_81
  · refine r_aload_n (pc := 38) hC rfl dX5_judgeLines_38 ?_
    refine r_iload_n (pc := 39) hC rfl dX5_judgeLines_39 ?_
    refine r_cM (pc := 40) (rest := []) (fun s12 hf => runV [.int i9] hC (c_Pr_judgeLine (kl κ) (kW κ) hC.2.2.2.2.2.2.2.2.1 N i9 s10 s12 hf) o_X5_judgeLine k_818 (q0 := 9) (ci := 5) rfl rfl (rm_ok hR rfl) rfl (Nat.le_of_ble_eq_true rfl) dX5_judgeLines_40) (fun s12 => ?_)
    refine r_aload_n (pc := 43) hC rfl dX5_judgeLines_43 ?_
    refine gC_9_12 (pc := 44) hC k_264 dX5_judgeLines_44 ?_
    refine r_if_eq (pc := 47) (tgt := 57) hC dX5_judgeLines_47 (by decide) ?_ ?_
    · refine r_aload_n (pc := 57) hC rfl dX5_judgeLines_57 ?_
      refine r_dup (pc := 58) hC rfl dX5_judgeLines_58 ?_
      refine gC_9_14 (pc := 59) hC k_268 dX5_judgeLines_59 ?_
      refine r_aload_n (pc := 62) hC rfl dX5_judgeLines_62 ?_
      refine r_iload_n (pc := 63) hC rfl dX5_judgeLines_63 ?_
      refine r_cO (pc := 64) (rest := [.int (gI s12 29 0), .ref (ad κ 9)]) (fun r13 hf => runV [.int i9] hC (c_Pr_firstOf (kl κ) (kW κ) hC.2.2.2.2.2.2.2.2.1 i9 s12 r13 hf) o_X5_firstOf k_870 (q0 := 9) (ci := 5) rfl rfl (rm_ok hR rfl) rfl (Nat.le_of_ble_eq_true rfl) dX5_judgeLines_64) (fun r13 => ?_)
      refine r_ior (pc := 67) hC dX5_judgeLines_67 ?_
      refine pC_9_14 (pc := 68) hC k_268 dX5_judgeLines_68 ?_
      refine r_letm (fun s14 => ?_)
      refine r_iinc (pc := 71) hC (v := (1 : Int32)) rfl (by decide) rfl rfl dX5_judgeLines_71 ?_
      refine r_goto (pc := 74) (tgt := 30) hC dX5_judgeLines_74 (by decide) ?_
      exact ih30_11 (i9 + (1 : Int32)) s14
    · exact hK50_8 i9 s12
set_option maxRecDepth 100000 in
set_option maxHeartbeats 4000000 in
theorem c_Pr_judgeLines (l : Launch) (w : Wenv) (hw : okw w wC) (N : Nat) (σ : Mem) (r : Int32) (τ : Mem) (hf : f_Pr_judgeLines N  σ = some (r, τ)) : Ctr l w wC yX5_judgeLines cX5_judgeLines 2 (some .int) 16 393 [.ref (w.2.2.1 9)] σ (cQi w wC r τ) := mk_ctr (Q := fun κ => qOM κ wC) (lv := [some (.ref (w.2.2.1 9)), none]) (by decide) rfl hw (Nat.le_of_ble_eq_true rfl) rfl hf (fun κ h => by subst h; rfl) (fun κ hl h hR hC => by
    subst h
    exact w_Pr_judgeLines hR hC N  σ)
-- DuelRound.judge()I (0,) kind OM
def f_D_judge (N : Nat) (σ : Mem) : Option (Int32 × Mem) :=
  if (gI σ 3 0) = (0 : Int32) then
  (ob2 (f_Sg_cutTo (0 : Int32) σ) fun r8 s7 =>
  some ((-2 : Int32), s7))
  else
  (ob2 (f_Pr_readLines N σ) fun r2 s1 =>
  ob2 (f_Sg_cutTo (0 : Int32) s1) fun r4 s3 =>
  if r2 = (-1 : Int32) then
  (ob2 (f_Pr_judgeLines N s3) fun r6 s5 =>
  some (r6, s5))
  else
  (some (((-1000 : Int32) - r2), s3)))
set_option maxRecDepth 100000 in
set_option maxHeartbeats 4000000 in
theorem w_D_judge {κ : Ctx} (hR : kR κ = { frames := 17, cells := 0, slots := 0, locals := 414 }) (hC : ok κ wC cX9_judge 2 RX9 (some .int)) (N : Nat) (σ : Mem) : wF κ wC 2 (qOM κ wC) σ 0 [some (.ref (ad κ 0)), none] [] (f_D_judge N  σ) := by
  unfold f_D_judge
  refine r_aload_n (pc := 0) hC rfl dX9_judge_0 ?_
  refine gC_0_1 (pc := 1) hC k_312 dX9_judge_1 ?_
  refine gC_2_1 (pc := 4) hC k_144 dX9_judge_4 ?_
  refine r_if_ne (pc := 7) (tgt := 22) hC dX9_judge_7 (by decide) ?_ ?_
  · refine r_aload_n (pc := 22) hC rfl dX9_judge_22 ?_
    refine gC_0_8 (pc := 23) hC k_319 dX9_judge_23 ?_
    refine r_cOM (pc := 26) (rest := []) (fun r2 s1 hf => runV [] hC (c_Pr_readLines (kl κ) (kW κ) hC.2.2.2.2.2.2.2.2.1 N σ r2 s1 hf) o_X5_readLines k_776 (q0 := 9) (ci := 5) rfl rfl (rm_ok hR rfl) rfl (Nat.le_of_ble_eq_true rfl) dX9_judge_26) (fun r2 s1 => ?_)
    refine r_istore_n (pc := 29) hC rfl rfl dX9_judge_29 ?_
    refine r_aload_n (pc := 30) hC rfl dX9_judge_30 ?_
    refine gC_0_0 (pc := 31) hC k_311 dX9_judge_31 ?_
    refine r_iconst (pc := 34) hC (v := (0 : Int32)) (by decide) dX9_judge_34 ?_
    refine r_cOM (pc := 35) (rest := []) (fun r4 s3 hf => runV [.int (0 : Int32)] hC (c_Sg_cutTo (kl κ) (kW κ) hC.2.2.2.2.2.2.2.2.1 (0 : Int32) s1 r4 s3 hf) o_X7_cutTo k_357 (q0 := 1) (ci := 7) rfl rfl (rm_ok hR rfl) rfl (Nat.le_of_ble_eq_true rfl) dX9_judge_35) (fun r4 s3 => ?_)
    refine r_pop (pc := 38) hC rfl dX9_judge_38 ?_
    refine r_iload_n (pc := 39) hC rfl dX9_judge_39 ?_
    refine r_iconst (pc := 40) hC (v := (-1 : Int32)) (by decide) dX9_judge_40 ?_
    refine r_icmp_eq (pc := 41) (tgt := 50) hC dX9_judge_41 (by decide) ?_ ?_
    · refine r_aload_n (pc := 50) hC rfl dX9_judge_50 ?_
      refine gC_0_8 (pc := 51) hC k_319 dX9_judge_51 ?_
      refine r_cOM (pc := 54) (rest := []) (fun r6 s5 hf => runV [] hC (c_Pr_judgeLines (kl κ) (kW κ) hC.2.2.2.2.2.2.2.2.1 N s3 r6 s5 hf) o_X5_judgeLines k_814 (q0 := 9) (ci := 5) rfl rfl (rm_ok hR rfl) rfl (Nat.le_of_ble_eq_true rfl) dX9_judge_54) (fun r6 s5 => ?_)
      exact r_retOM hC rfl dX9_judge_57
    · refine r_sipush (pc := 44) hC (v := (-1000 : Int32)) (by decide) dX9_judge_44 ?_
      refine r_iload_n (pc := 47) hC rfl dX9_judge_47 ?_
      refine r_isub (pc := 48) hC dX9_judge_48 ?_
      exact r_retOM hC rfl dX9_judge_49
  · refine r_aload_n (pc := 10) hC rfl dX9_judge_10 ?_
    refine gC_0_0 (pc := 11) hC k_311 dX9_judge_11 ?_
    refine r_iconst (pc := 14) hC (v := (0 : Int32)) (by decide) dX9_judge_14 ?_
    refine r_cOM (pc := 15) (rest := []) (fun r8 s7 hf => runV [.int (0 : Int32)] hC (c_Sg_cutTo (kl κ) (kW κ) hC.2.2.2.2.2.2.2.2.1 (0 : Int32) σ r8 s7 hf) o_X7_cutTo k_357 (q0 := 1) (ci := 7) rfl rfl (rm_ok hR rfl) rfl (Nat.le_of_ble_eq_true rfl) dX9_judge_15) (fun r8 s7 => ?_)
    refine r_pop (pc := 18) hC rfl dX9_judge_18 ?_
    refine r_bipush (pc := 19) hC (v := (-2 : Int32)) (by decide) dX9_judge_19 ?_
    exact r_retOM hC rfl dX9_judge_21
set_option maxRecDepth 100000 in
set_option maxHeartbeats 4000000 in
theorem c_D_judge (l : Launch) (w : Wenv) (hw : okw w wC) (N : Nat) (σ : Mem) (r : Int32) (τ : Mem) (hf : f_D_judge N  σ = some (r, τ)) : Ctr l w wC yX9_judge cX9_judge 2 (some .int) 17 414 [.ref (w.2.2.1 0)] σ (cQi w wC r τ) := mk_ctr (Q := fun κ => qOM κ wC) (lv := [some (.ref (w.2.2.1 0)), none]) (by decide) rfl hw (Nat.le_of_ble_eq_true rfl) rfl hf (fun κ h => by subst h; rfl) (fun κ hl h hR hC => by
    subst h
    exact w_D_judge hR hC N  σ)
-- DuelRound.judged(I)I (0, None) kind T
def t_D_judged (a1 : Int32) (σ : Mem) : Int32 :=
  (if (gI σ 8 0) = (0 : Int32) then (-1 : Int32) else (if a1 = (0 : Int32) then (gI σ 9 0) else (if a1 = (1 : Int32) then (gI σ 10 0) else (if a1 = (2 : Int32) then (gI σ 28 0) else (if a1 = (3 : Int32) then (gI σ 29 0) else (-1 : Int32))))))
def f_D_judged (a1 : Int32) (σ : Mem) : Option Int32 :=
  if (gI σ 8 0) = (0 : Int32) then
  (some (-1 : Int32))
  else
  (swc a1 [((0 : Int32), some (gI σ 9 0)),
  ((1 : Int32), some (gI σ 10 0)),
  ((2 : Int32), some (gI σ 28 0)),
  ((3 : Int32), some (gI σ 29 0))]
  (some (-1 : Int32)))
theorem e_D_judged (a1 : Int32) (σ : Mem) : f_D_judged a1 σ = some (t_D_judged a1 σ) := by
  unfold f_D_judged t_D_judged
  simp only [swc]
  (repeat' split) <;> rfl
set_option maxRecDepth 100000 in
set_option maxHeartbeats 4000000 in
theorem w_D_judged {κ : Ctx} (hR : kR κ = { frames := 0, cells := 0, slots := 0, locals := 0 }) (hC : ok κ wC cX9_judged 2 RX9 (some .int)) (a1 : Int32) (σ : Mem) : wF κ wC 2 (qO κ wC σ) σ 0 [some (.ref (ad κ 0)), some (.int a1)] [] (f_D_judged a1 σ) := by
  unfold f_D_judged
  refine r_aload_n (pc := 0) hC rfl dX9_judged_0 ?_
  refine gC_0_8 (pc := 1) hC k_319 dX9_judged_1 ?_
  refine gC_9_10 (pc := 4) hC k_261 dX9_judged_4 ?_
  refine r_if_ne (pc := 7) (tgt := 12) hC dX9_judged_7 (by decide) ?_ ?_
  · refine r_iload_n (pc := 12) hC rfl dX9_judged_12 ?_
    refine r_table (pc := 13) (tg := fun i => ([44, 52, 60, 68] : List Nat).getD i 0) (dt := 76) hC 4 dX9_judged_13 (by decide) (by decide) rfl (fun i hi => ?_) ?_
    · rcases (show i = 0 ∨ i = 1 ∨ i = 2 ∨ i = 3 by omega) with rfl | rfl | rfl | rfl
      · refine ⟨_, _, _, rfl, by decide, rfl, by decide, ?_⟩
        refine r_aload_n (pc := 44) hC rfl dX9_judged_44 ?_
        refine gC_0_8 (pc := 45) hC k_319 dX9_judged_45 ?_
        refine gC_9_11 (pc := 48) hC k_263 dX9_judged_48 ?_
        exact r_retO hC rfl dX9_judged_51
      · refine ⟨_, _, _, rfl, by decide, rfl, by decide, ?_⟩
        refine r_aload_n (pc := 52) hC rfl dX9_judged_52 ?_
        refine gC_0_8 (pc := 53) hC k_319 dX9_judged_53 ?_
        refine gC_9_12 (pc := 56) hC k_265 dX9_judged_56 ?_
        exact r_retO hC rfl dX9_judged_59
      · refine ⟨_, _, _, rfl, by decide, rfl, by decide, ?_⟩
        refine r_aload_n (pc := 60) hC rfl dX9_judged_60 ?_
        refine gC_0_8 (pc := 61) hC k_319 dX9_judged_61 ?_
        refine gC_9_13 (pc := 64) hC k_267 dX9_judged_64 ?_
        exact r_retO hC rfl dX9_judged_67
      · refine ⟨_, _, _, rfl, by decide, rfl, by decide, ?_⟩
        refine r_aload_n (pc := 68) hC rfl dX9_judged_68 ?_
        refine gC_0_8 (pc := 69) hC k_319 dX9_judged_69 ?_
        refine gC_9_14 (pc := 72) hC k_269 dX9_judged_72 ?_
        exact r_retO hC rfl dX9_judged_75
    · refine r_iconst (pc := 76) hC (v := (-1 : Int32)) (by decide) dX9_judged_76 ?_
      exact r_retO hC rfl dX9_judged_77
  · refine r_iconst (pc := 10) hC (v := (-1 : Int32)) (by decide) dX9_judged_10 ?_
    exact r_retO hC rfl dX9_judged_11
set_option maxRecDepth 100000 in
set_option maxHeartbeats 4000000 in
theorem c_D_judged (l : Launch) (w : Wenv) (hw : okw w wC) (a1 : Int32) (σ : Mem) : Ctr l w wC yX9_judged cX9_judged 2 (some .int) 0 0 [.ref (w.2.2.1 0), .int a1] σ (cQi w wC (t_D_judged a1 σ) σ) := mk_ctr (Q := fun κ => qO κ wC σ) (lv := [some (.ref (w.2.2.1 0)), some (.int a1)]) (by decide) rfl hw (Nat.le_of_ble_eq_true rfl) rfl (e_D_judged a1 σ) (fun κ h => by subst h; rfl) (fun κ hl h hR hC => by
    subst h
    exact w_D_judged hR hC a1 σ)
-- DuelRound.keep(I)Z (0, None) kind OM
def f_D_keep (N : Nat) (a1 : Int32) (σ : Mem) : Option (Int32 × Mem) :=
  if (gI σ 3 0) = (0 : Int32) then
  (some ((0 : Int32), σ))
  else
  (if a1 < (0 : Int32) then
  (some ((0 : Int32), σ))
  else
  (if a1 < (2 : Int32) then
  (ob (f_Du_packedN N σ) fun r1 =>
  gd (inb a1 2) (bnd (sJ σ 16 a1.toNatClampNeg r1) fun s2 =>
  some ((1 : Int32), s2)))
  else
  (some ((0 : Int32), σ))))
set_option maxRecDepth 100000 in
set_option maxHeartbeats 4000000 in
theorem w_D_keep {κ : Ctx} (hR : kR κ = { frames := 2, cells := 0, slots := 0, locals := 45 }) (hC : ok κ wC cX9_keep 2 RX9 (some .boolean)) (N : Nat) (a1 : Int32) (σ : Mem) : wF κ wC 2 (qOM κ wC) σ 0 [some (.ref (ad κ 0)), some (.int a1)] [] (f_D_keep N a1 σ) := by
  unfold f_D_keep
  refine r_aload_n (pc := 0) hC rfl dX9_keep_0 ?_
  refine gC_0_1 (pc := 1) hC k_312 dX9_keep_1 ?_
  refine gC_2_1 (pc := 4) hC k_144 dX9_keep_4 ?_
  refine r_if_eq (pc := 7) (tgt := 19) hC dX9_keep_7 (by decide) ?_ ?_
  · refine r_iconst (pc := 19) hC (v := (0 : Int32)) (by decide) dX9_keep_19 ?_
    exact r_retOM hC rfl dX9_keep_20
  · refine r_iload_n (pc := 10) hC rfl dX9_keep_10 ?_
    refine r_if_lt (pc := 11) (tgt := 19) hC dX9_keep_11 (by decide) ?_ ?_
    · refine r_iconst (pc := 19) hC (v := (0 : Int32)) (by decide) dX9_keep_19 ?_
      exact r_retOM hC rfl dX9_keep_20
    · refine r_iload_n (pc := 14) hC rfl dX9_keep_14 ?_
      refine r_iconst (pc := 15) hC (v := (2 : Int32)) (by decide) dX9_keep_15 ?_
      refine r_icmp_lt (pc := 16) (tgt := 21) hC dX9_keep_16 (by decide) ?_ ?_
      · refine r_aload_n (pc := 21) hC rfl dX9_keep_21 ?_
        refine gC_0_3 (pc := 22) hC k_314 dX9_keep_22 ?_
        refine gC_4_1 (pc := 25) hC k_160 dX9_keep_25 ?_
        refine r_iload_n (pc := 28) hC rfl dX9_keep_28 ?_
        refine r_aload_n (pc := 29) hC rfl dX9_keep_29 ?_
        refine gC_0_1 (pc := 30) hC k_312 dX9_keep_30 ?_
        refine r_cL (pc := 33) (rest := [.int a1, .ref (ad κ 16)]) (fun r1 hf => runV [] hC (c_Du_packedN (kl κ) (kW κ) hC.2.2.2.2.2.2.2.2.1 N σ r1 hf) o_X1_packed k_419 (q0 := 2) (ci := 1) rfl rfl (rm_ok hR rfl) rfl (Nat.le_of_ble_eq_true rfl) dX9_keep_33) (fun r1 => ?_)
        refine bC_16 (pc := 36) hC dX9_keep_36 ?_
        refine r_letm (fun s2 => ?_)
        refine r_iconst (pc := 37) hC (v := (1 : Int32)) (by decide) dX9_keep_37 ?_
        exact r_retOM hC rfl dX9_keep_38
      · refine r_iconst (pc := 19) hC (v := (0 : Int32)) (by decide) dX9_keep_19 ?_
        exact r_retOM hC rfl dX9_keep_20
set_option maxRecDepth 100000 in
set_option maxHeartbeats 4000000 in
theorem c_D_keep (l : Launch) (w : Wenv) (hw : okw w wC) (N : Nat) (a1 : Int32) (σ : Mem) (r : Int32) (τ : Mem) (hf : f_D_keep N a1 σ = some (r, τ)) : Ctr l w wC yX9_keep cX9_keep 2 (some .boolean) 2 45 [.ref (w.2.2.1 0), .int a1] σ (cQi w wC r τ) := mk_ctr (Q := fun κ => qOM κ wC) (lv := [some (.ref (w.2.2.1 0)), some (.int a1)]) (by decide) rfl hw (Nat.le_of_ble_eq_true rfl) rfl hf (fun κ h => by subst h; rfl) (fun κ hl h hR hC => by
    subst h
    exact w_D_keep hR hC N a1 σ)
-- DuelRound.keeps(II)I (0, None, None) kind OM
def f_D_keeps (N : Nat) (a1 : Int32) (a2 : Int32) (σ : Mem) : Option (Int32 × Mem) :=
  if (t_Du_isPlayerN a1 σ) = (0 : Int32) then
  (some ((-1 : Int32), σ))
  else
  (if (t_Du_arePlayersN a2 σ) = (0 : Int32) then
  (some ((-1 : Int32), σ))
  else
  (ob (f_Du_beatersOfN a1 a2 σ) fun r1 =>
  ob2 (f_Se_ofKind N (8 : Int32) r1 σ) fun r3 s2 =>
  some (r3, s2)))
set_option maxRecDepth 100000 in
set_option maxHeartbeats 4000000 in
theorem w_D_keeps {κ : Ctx} (hR : kR κ = { frames := 15, cells := 0, slots := 0, locals := 364 }) (hC : ok κ wC cX9_keeps 3 RX9 (some .int)) (N : Nat) (a1 : Int32) (a2 : Int32) (σ : Mem) : wF κ wC 3 (qOM κ wC) σ 0 [some (.ref (ad κ 0)), some (.int a1), some (.int a2)] [] (f_D_keeps N a1 a2 σ) := by
  unfold f_D_keeps
  refine r_aload_n (pc := 0) hC rfl dX9_keeps_0 ?_
  refine gC_0_1 (pc := 1) hC k_312 dX9_keeps_1 ?_
  refine r_iload_n (pc := 4) hC rfl dX9_keeps_4 ?_
  refine r_cT (pc := 5) (rest := []) (runV [.int a1] hC (c_Du_isPlayerN (kl κ) (kW κ) hC.2.2.2.2.2.2.2.2.1 a1 σ) o_X1_isPlayer k_447 (q0 := 2) (ci := 1) rfl rfl (rm_ok hR rfl) rfl (Nat.le_of_ble_eq_true rfl) dX9_keeps_5) ?_
  refine r_if_eq (pc := 8) (tgt := 22) hC dX9_keeps_8 (by decide) ?_ ?_
  · refine r_iconst (pc := 22) hC (v := (-1 : Int32)) (by decide) dX9_keeps_22 ?_
    exact r_retOM hC rfl dX9_keeps_23
  · refine r_aload_n (pc := 11) hC rfl dX9_keeps_11 ?_
    refine gC_0_1 (pc := 12) hC k_312 dX9_keeps_12 ?_
    refine r_iload_n (pc := 15) hC rfl dX9_keeps_15 ?_
    refine r_cT (pc := 16) (rest := []) (runV [.int a2] hC (c_Du_arePlayersN (kl κ) (kW κ) hC.2.2.2.2.2.2.2.2.1 a2 σ) o_X1_arePlayers k_451 (q0 := 2) (ci := 1) rfl rfl (rm_ok hR rfl) rfl (Nat.le_of_ble_eq_true rfl) dX9_keeps_16) ?_
    refine r_if_ne (pc := 19) (tgt := 24) hC dX9_keeps_19 (by decide) ?_ ?_
    · refine r_aload_n (pc := 24) hC rfl dX9_keeps_24 ?_
      refine gC_0_7 (pc := 25) hC k_318 dX9_keeps_25 ?_
      refine r_bipush (pc := 28) hC (v := (8 : Int32)) (by decide) dX9_keeps_28 ?_
      refine r_aload_n (pc := 30) hC rfl dX9_keeps_30 ?_
      refine gC_0_1 (pc := 31) hC k_312 dX9_keeps_31 ?_
      refine r_iload_n (pc := 34) hC rfl dX9_keeps_34 ?_
      refine r_iload_n (pc := 35) hC rfl dX9_keeps_35 ?_
      refine r_cO (pc := 36) (rest := [.int (8 : Int32), .ref (ad κ 8)]) (fun r1 hf => runV [.int a1, .int a2] hC (c_Du_beatersOfN (kl κ) (kW κ) hC.2.2.2.2.2.2.2.2.1 a1 a2 σ r1 hf) o_X1_beatersOf k_717 (q0 := 2) (ci := 1) rfl rfl (rm_ok hR rfl) rfl (Nat.le_of_ble_eq_true rfl) dX9_keeps_36) (fun r1 => ?_)
      refine r_cOM (pc := 39) (rest := []) (fun r3 s2 hf => runV [.int (8 : Int32), .int r1] hC (c_Se_ofKind (kl κ) (kW κ) hC.2.2.2.2.2.2.2.2.1 N (8 : Int32) r1 σ r3 s2 hf) o_X6_ofKind k_501 (q0 := 8) (ci := 6) rfl rfl (rm_ok hR rfl) rfl (Nat.le_of_ble_eq_true rfl) dX9_keeps_39) (fun r3 s2 => ?_)
      exact r_retOM hC rfl dX9_keeps_42
    · refine r_iconst (pc := 22) hC (v := (-1 : Int32)) (by decide) dX9_keeps_22 ?_
      exact r_retOM hC rfl dX9_keeps_23
set_option maxRecDepth 100000 in
set_option maxHeartbeats 4000000 in
theorem c_D_keeps (l : Launch) (w : Wenv) (hw : okw w wC) (N : Nat) (a1 : Int32) (a2 : Int32) (σ : Mem) (r : Int32) (τ : Mem) (hf : f_D_keeps N a1 a2 σ = some (r, τ)) : Ctr l w wC yX9_keeps cX9_keeps 3 (some .int) 15 364 [.ref (w.2.2.1 0), .int a1, .int a2] σ (cQi w wC r τ) := mk_ctr (Q := fun κ => qOM κ wC) (lv := [some (.ref (w.2.2.1 0)), some (.int a1), some (.int a2)]) (by decide) rfl hw (Nat.le_of_ble_eq_true rfl) rfl hf (fun κ h => by subst h; rfl) (fun κ hl h hR hC => by
    subst h
    exact w_D_keeps hR hC N a1 a2 σ)
-- DuelRound.praised(II)I (0, None, None) kind OM
def D_praised_B54 (N : Nat) (a1 : Int32) (self4 : Int32 → Int32 → Mem → Option (Int32 × Mem)) (i1 : Int32) (i2 : Int32) (s3 : Mem) : Option (Int32 × Mem) :=
  if (9 : Int32) ≤ i2 then
  (some (i1, s3))
  else
  (ob2 (f_Se_ofKind N i2 (t_Du_everybodyN s3) s3) fun r6 s5 =>
  bnd (i1 + (t_D_bitOf r6 a1)) fun x7 =>
  self4 x7 (i2 + (1 : Int32)) s5)
def f_D_praised (N : Nat) (a1 : Int32) (a2 : Int32) (σ : Mem) : Option (Int32 × Mem) :=
  if (t_Du_isPlayerN a1 σ) = (0 : Int32) then
  (some ((-1 : Int32), σ))
  else
  (if a2 < (-1 : Int32) then
  (some ((-1 : Int32), σ))
  else
  (if a2 < (9 : Int32) then
  (if a2 = (-1 : Int32) then
  (it3 (D_praised_B54 N a1) N (0 : Int32) (0 : Int32) σ)
  else
  (ob2 (f_Se_ofKind N a2 (t_Du_everybodyN σ) σ) fun r9 s8 =>
  some ((t_D_bitOf r9 a1), s8)))
  else
  (some ((-1 : Int32), σ))))
set_option maxRecDepth 100000 in
set_option maxHeartbeats 4000000 in
theorem w_D_praised {κ : Ctx} (hR : kR κ = { frames := 15, cells := 0, slots := 0, locals := 364 }) (hC : ok κ wC cX9_praised 5 RX9 (some .int)) (N : Nat) (a1 : Int32) (a2 : Int32) (σ : Mem) : wF κ wC 5 (qOM κ wC) σ 0 [some (.ref (ad κ 0)), some (.int a1), some (.int a2), none, none] [] (f_D_praised N a1 a2 σ) := by
  unfold f_D_praised
  refine r_aload_n (pc := 0) hC rfl dX9_praised_0 ?_
  refine gC_0_1 (pc := 1) hC k_312 dX9_praised_1 ?_
  refine r_iload_n (pc := 4) hC rfl dX9_praised_4 ?_
  refine r_cT (pc := 5) (rest := []) (runV [.int a1] hC (c_Du_isPlayerN (kl κ) (kW κ) hC.2.2.2.2.2.2.2.2.1 a1 σ) o_X1_isPlayer k_447 (q0 := 2) (ci := 1) rfl rfl (rm_ok hR rfl) rfl (Nat.le_of_ble_eq_true rfl) dX9_praised_5) ?_
  refine r_if_eq (pc := 8) (tgt := 22) hC dX9_praised_8 (by decide) ?_ ?_
  · refine r_iconst (pc := 22) hC (v := (-1 : Int32)) (by decide) dX9_praised_22 ?_
    exact r_retOM hC rfl dX9_praised_23
  · refine r_iload_n (pc := 11) hC rfl dX9_praised_11 ?_
    refine r_iconst (pc := 12) hC (v := (-1 : Int32)) (by decide) dX9_praised_12 ?_
    refine r_icmp_lt (pc := 13) (tgt := 22) hC dX9_praised_13 (by decide) ?_ ?_
    · refine r_iconst (pc := 22) hC (v := (-1 : Int32)) (by decide) dX9_praised_22 ?_
      exact r_retOM hC rfl dX9_praised_23
    · refine r_iload_n (pc := 16) hC rfl dX9_praised_16 ?_
      refine r_bipush (pc := 17) hC (v := (9 : Int32)) (by decide) dX9_praised_17 ?_
      refine r_icmp_lt (pc := 19) (tgt := 24) hC dX9_praised_19 (by decide) ?_ ?_
      · refine r_iload_n (pc := 24) hC rfl dX9_praised_24 ?_
        refine r_iconst (pc := 25) hC (v := (-1 : Int32)) (by decide) dX9_praised_25 ?_
        refine r_icmp_eq (pc := 26) (tgt := 49) hC dX9_praised_26 (by decide) ?_ ?_
        · refine r_iconst (pc := 49) hC (v := (0 : Int32)) (by decide) dX9_praised_49 ?_
          refine r_istore_n (pc := 50) hC rfl rfl dX9_praised_50 ?_
          refine r_iconst (pc := 51) hC (v := (0 : Int32)) (by decide) dX9_praised_51 ?_
          refine r_istore (pc := 52) hC rfl rfl dX9_praised_52 ?_
          refine r_wk [true, true, false, true, true] (w_it3 (fun i1 i2 s3 => s3) (fun i1 i2 s3 => [some (.ref (ad κ 0)), some (.int a1), none, some (.int i1), some (.int i2)]) (fun self4 ih54_4 i1 i2 s3 => ?_) N (0 : Int32) (0 : Int32) σ)
          unfold D_praised_B54
          refine r_iload (pc := 54) hC rfl dX9_praised_54 ?_
          refine r_bipush (pc := 56) hC (v := (9 : Int32)) (by decide) dX9_praised_56 ?_
          refine r_icmp_ge (pc := 58) (tgt := 90) hC dX9_praised_58 (by decide) ?_ ?_
          · refine r_iload_n (pc := 90) hC rfl dX9_praised_90 ?_
            exact r_retOM hC rfl dX9_praised_91
          · refine r_iload_n (pc := 61) hC rfl dX9_praised_61 ?_
            refine r_aload_n (pc := 62) hC rfl dX9_praised_62 ?_
            refine gC_0_7 (pc := 63) hC k_318 dX9_praised_63 ?_
            refine r_iload (pc := 66) hC rfl dX9_praised_66 ?_
            refine r_aload_n (pc := 68) hC rfl dX9_praised_68 ?_
            refine gC_0_1 (pc := 69) hC k_312 dX9_praised_69 ?_
            refine r_cT (pc := 72) (rest := [.int i2, .ref (ad κ 8), .int i1]) (runV [] hC (c_Du_everybodyN (kl κ) (kW κ) hC.2.2.2.2.2.2.2.2.1 s3) o_X1_everybody k_659 (q0 := 2) (ci := 1) rfl rfl (rm_ok hR rfl) rfl (Nat.le_of_ble_eq_true rfl) dX9_praised_72) ?_
            refine r_cOM (pc := 75) (rest := [.int i1]) (fun r6 s5 hf => runV [.int i2, .int (t_Du_everybodyN s3)] hC (c_Se_ofKind (kl κ) (kW κ) hC.2.2.2.2.2.2.2.2.1 N i2 (t_Du_everybodyN s3) s3 r6 s5 hf) o_X6_ofKind k_501 (q0 := 8) (ci := 6) rfl rfl (rm_ok hR rfl) rfl (Nat.le_of_ble_eq_true rfl) dX9_praised_75) (fun r6 s5 => ?_)
            refine r_iload_n (pc := 78) hC rfl dX9_praised_78 ?_
            refine r_cT (pc := 79) (rest := [.int i1]) (runS [.int r6, .int a1] hC (c_D_bitOf (kl κ) (kW κ) hC.2.2.2.2.2.2.2.2.1 r6 a1 s5) o_X9_bitOf k_597 (rm_ok hR rfl) rfl (Nat.le_of_ble_eq_true rfl) dX9_praised_79) ?_
            refine r_iadd (pc := 82) hC dX9_praised_82 ?_
            refine r_let (fun x7 => ?_)
            refine r_istore_n (pc := 83) hC rfl rfl dX9_praised_83 ?_
            refine r_iinc (pc := 84) hC (v := (1 : Int32)) rfl (by decide) rfl rfl dX9_praised_84 ?_
            refine r_goto (pc := 87) (tgt := 54) hC dX9_praised_87 (by decide) ?_
            exact ih54_4 x7 (i2 + (1 : Int32)) s5
        · refine r_aload_n (pc := 29) hC rfl dX9_praised_29 ?_
          refine gC_0_7 (pc := 30) hC k_318 dX9_praised_30 ?_
          refine r_iload_n (pc := 33) hC rfl dX9_praised_33 ?_
          refine r_aload_n (pc := 34) hC rfl dX9_praised_34 ?_
          refine gC_0_1 (pc := 35) hC k_312 dX9_praised_35 ?_
          refine r_cT (pc := 38) (rest := [.int a2, .ref (ad κ 8)]) (runV [] hC (c_Du_everybodyN (kl κ) (kW κ) hC.2.2.2.2.2.2.2.2.1 σ) o_X1_everybody k_659 (q0 := 2) (ci := 1) rfl rfl (rm_ok hR rfl) rfl (Nat.le_of_ble_eq_true rfl) dX9_praised_38) ?_
          refine r_cOM (pc := 41) (rest := []) (fun r9 s8 hf => runV [.int a2, .int (t_Du_everybodyN σ)] hC (c_Se_ofKind (kl κ) (kW κ) hC.2.2.2.2.2.2.2.2.1 N a2 (t_Du_everybodyN σ) σ r9 s8 hf) o_X6_ofKind k_501 (q0 := 8) (ci := 6) rfl rfl (rm_ok hR rfl) rfl (Nat.le_of_ble_eq_true rfl) dX9_praised_41) (fun r9 s8 => ?_)
          refine r_iload_n (pc := 44) hC rfl dX9_praised_44 ?_
          refine r_cT (pc := 45) (rest := []) (runS [.int r9, .int a1] hC (c_D_bitOf (kl κ) (kW κ) hC.2.2.2.2.2.2.2.2.1 r9 a1 s8) o_X9_bitOf k_597 (rm_ok hR rfl) rfl (Nat.le_of_ble_eq_true rfl) dX9_praised_45) ?_
          exact r_retOM hC rfl dX9_praised_48
      · refine r_iconst (pc := 22) hC (v := (-1 : Int32)) (by decide) dX9_praised_22 ?_
        exact r_retOM hC rfl dX9_praised_23
set_option maxRecDepth 100000 in
set_option maxHeartbeats 4000000 in
theorem c_D_praised (l : Launch) (w : Wenv) (hw : okw w wC) (N : Nat) (a1 : Int32) (a2 : Int32) (σ : Mem) (r : Int32) (τ : Mem) (hf : f_D_praised N a1 a2 σ = some (r, τ)) : Ctr l w wC yX9_praised cX9_praised 5 (some .int) 15 364 [.ref (w.2.2.1 0), .int a1, .int a2] σ (cQi w wC r τ) := mk_ctr (Q := fun κ => qOM κ wC) (lv := [some (.ref (w.2.2.1 0)), some (.int a1), some (.int a2), none, none]) (by decide) rfl hw (Nat.le_of_ble_eq_true rfl) rfl hf (fun κ h => by subst h; rfl) (fun κ hl h hR hC => by
    subst h
    exact w_D_praised hR hC N a1 a2 σ)
-- DuelRound$Duels.isTold(II)Z (3, None, None) kind O
def f_Du_isToldS (a1 : Int32) (a2 : Int32) (σ : Mem) : Option Int32 :=
  ob (f_Du_isBeatingS a1 a2 σ) fun r1 =>
  if r1 = (0 : Int32) then
  (ob (f_Du_isBeatingS a2 a1 σ) fun r2 =>
  if r2 = (0 : Int32) then
  (some (0 : Int32))
  else
  (some (1 : Int32)))
  else
  (some (1 : Int32))
set_option maxRecDepth 100000 in
set_option maxHeartbeats 4000000 in
theorem w_Du_isToldS {κ : Ctx} (hR : kR κ = { frames := 1, cells := 0, slots := 0, locals := 22 }) (hC : ok κ wC cX1_isTold 3 RX1 (some .boolean)) (a1 : Int32) (a2 : Int32) (σ : Mem) : wF κ wC 3 (qO κ wC σ) σ 0 [some (.ref (ad κ 3)), some (.int a1), some (.int a2)] [] (f_Du_isToldS a1 a2 σ) := by
  unfold f_Du_isToldS
  refine r_aload_n (pc := 0) hC rfl dX1_isTold_0 ?_
  refine r_iload_n (pc := 1) hC rfl dX1_isTold_1 ?_
  refine r_iload_n (pc := 2) hC rfl dX1_isTold_2 ?_
  refine r_cO (pc := 3) (rest := []) (fun r1 hf => runV [.int a1, .int a2] hC (c_Du_isBeatingS (kl κ) (kW κ) hC.2.2.2.2.2.2.2.2.1 a1 a2 σ r1 hf) o_X1_isBeating k_390 (q0 := 3) (ci := 1) rfl rfl (rm_ok hR rfl) rfl (Nat.le_of_ble_eq_true rfl) dX1_isTold_3) (fun r1 => ?_)
  refine r_if_ne (pc := 6) (tgt := 18) hC dX1_isTold_6 (by decide) ?_ ?_
  · refine r_iconst (pc := 18) hC (v := (1 : Int32)) (by decide) dX1_isTold_18 ?_
    refine r_goto (pc := 19) (tgt := 23) hC dX1_isTold_19 (by decide) ?_
    exact r_retO hC rfl dX1_isTold_23
  · refine r_aload_n (pc := 9) hC rfl dX1_isTold_9 ?_
    refine r_iload_n (pc := 10) hC rfl dX1_isTold_10 ?_
    refine r_iload_n (pc := 11) hC rfl dX1_isTold_11 ?_
    refine r_cO (pc := 12) (rest := []) (fun r2 hf => runV [.int a2, .int a1] hC (c_Du_isBeatingS (kl κ) (kW κ) hC.2.2.2.2.2.2.2.2.1 a2 a1 σ r2 hf) o_X1_isBeating k_390 (q0 := 3) (ci := 1) rfl rfl (rm_ok hR rfl) rfl (Nat.le_of_ble_eq_true rfl) dX1_isTold_12) (fun r2 => ?_)
    refine r_if_eq (pc := 15) (tgt := 22) hC dX1_isTold_15 (by decide) ?_ ?_
    · refine r_iconst (pc := 22) hC (v := (0 : Int32)) (by decide) dX1_isTold_22 ?_
      exact r_retO hC rfl dX1_isTold_23
    · refine r_iconst (pc := 18) hC (v := (1 : Int32)) (by decide) dX1_isTold_18 ?_
      refine r_goto (pc := 19) (tgt := 23) hC dX1_isTold_19 (by decide) ?_
      exact r_retO hC rfl dX1_isTold_23
set_option maxRecDepth 100000 in
set_option maxHeartbeats 4000000 in
theorem c_Du_isToldS (l : Launch) (w : Wenv) (hw : okw w wC) (a1 : Int32) (a2 : Int32) (σ : Mem) (r : Int32) (hf : f_Du_isToldS a1 a2 σ = some r) : Ctr l w wC yX1_isTold cX1_isTold 3 (some .boolean) 1 22 [.ref (w.2.2.1 3), .int a1, .int a2] σ (cQi w wC r σ) := mk_ctr (Q := fun κ => qO κ wC σ) (lv := [some (.ref (w.2.2.1 3)), some (.int a1), some (.int a2)]) (by decide) rfl hw (Nat.le_of_ble_eq_true rfl) rfl hf (fun κ h => by subst h; rfl) (fun κ hl h hR hC => by
    subst h
    exact w_Du_isToldS hR hC a1 a2 σ)
-- DuelRound.readPair()Z (0,) kind OM
def f_D_readPair (N : Nat) (σ : Mem) : Option (Int32 × Mem) :=
  ob2 (f_Sg_nextLetter N σ) fun r2 s1 =>
  if r2 = (-1 : Int32) then
  (some ((0 : Int32), s1))
  else
  (bnd (sI s1 2 0 ((gI s1 2 0) + (1 : Int32))) fun s3 =>
  ob2 (f_Sg_next N s3) fun r5 s4 =>
  if r5 = (62 : Int32) then
  (bnd (sI s4 2 0 ((gI s4 2 0) + (1 : Int32))) fun s6 =>
  ob2 (f_Sg_nextLetter N s6) fun r8 s7 =>
  if r8 = (-1 : Int32) then
  (some ((0 : Int32), s7))
  else
  (if r8 = r2 then
  (some ((0 : Int32), s7))
  else
  (ob (f_Du_isToldS r2 r8 s7) fun r9 =>
  if r9 = (0 : Int32) then
  (bnd (sI s7 2 0 ((gI s7 2 0) + (1 : Int32))) fun s10 =>
  ob (f_Du_letBeatS r2 r8 s10) fun s11 =>
  bnd (sI s11 4 0 (if (gI s11 4 0) < ((if r2 < r8 then r8 else r2) + (1 : Int32)) then ((if r2 < r8 then r8 else r2) + (1 : Int32)) else (gI s11 4 0))) fun s12 =>
  some ((1 : Int32), s12))
  else
  (some ((0 : Int32), s7)))))
  else
  (some ((0 : Int32), s4)))
set_option maxRecDepth 100000 in
set_option maxHeartbeats 4000000 in
theorem w_D_readPair {κ : Ctx} (hR : kR κ = { frames := 2, cells := 0, slots := 0, locals := 44 }) (hC : ok κ wC cX9_readPair 3 RX9 (some .boolean)) (N : Nat) (σ : Mem) : wF κ wC 3 (qOM κ wC) σ 0 [some (.ref (ad κ 0)), none, none] [] (f_D_readPair N  σ) := by
  unfold f_D_readPair
  refine r_aload_n (pc := 0) hC rfl dX9_readPair_0 ?_
  refine gC_0_0 (pc := 1) hC k_311 dX9_readPair_1 ?_
  refine r_cOM (pc := 4) (rest := []) (fun r2 s1 hf => runV [] hC (c_Sg_nextLetter (kl κ) (kW κ) hC.2.2.2.2.2.2.2.2.1 N σ r2 s1 hf) o_X7_nextLetter k_377 (q0 := 1) (ci := 7) rfl rfl (rm_ok hR rfl) rfl (Nat.le_of_ble_eq_true rfl) dX9_readPair_4) (fun r2 s1 => ?_)
  refine r_istore_n (pc := 7) hC rfl rfl dX9_readPair_7 ?_
  refine r_iload_n (pc := 8) hC rfl dX9_readPair_8 ?_
  refine r_iconst (pc := 9) hC (v := (-1 : Int32)) (by decide) dX9_readPair_9 ?_
  refine r_icmp_ne (pc := 10) (tgt := 15) hC dX9_readPair_10 (by decide) ?_ ?_
  · refine r_aload_n (pc := 15) hC rfl dX9_readPair_15 ?_
    refine gC_0_0 (pc := 16) hC k_311 dX9_readPair_16 ?_
    refine r_dup (pc := 19) hC rfl dX9_readPair_19 ?_
    refine gC_1_2 (pc := 20) hC k_117 dX9_readPair_20 ?_
    refine r_iconst (pc := 23) hC (v := (1 : Int32)) (by decide) dX9_readPair_23 ?_
    refine r_iadd (pc := 24) hC dX9_readPair_24 ?_
    refine pC_1_2 (pc := 25) hC k_117 dX9_readPair_25 ?_
    refine r_letm (fun s3 => ?_)
    refine r_aload_n (pc := 28) hC rfl dX9_readPair_28 ?_
    refine gC_0_0 (pc := 29) hC k_311 dX9_readPair_29 ?_
    refine r_cOM (pc := 32) (rest := []) (fun r5 s4 hf => runV [] hC (c_Sg_next (kl κ) (kW κ) hC.2.2.2.2.2.2.2.2.1 N s3 r5 s4 hf) o_X7_next k_385 (q0 := 1) (ci := 7) rfl rfl (rm_ok hR rfl) rfl (Nat.le_of_ble_eq_true rfl) dX9_readPair_32) (fun r5 s4 => ?_)
    refine r_bipush (pc := 35) hC (v := (62 : Int32)) (by decide) dX9_readPair_35 ?_
    refine r_icmp_eq (pc := 37) (tgt := 42) hC dX9_readPair_37 (by decide) ?_ ?_
    · refine r_aload_n (pc := 42) hC rfl dX9_readPair_42 ?_
      refine gC_0_0 (pc := 43) hC k_311 dX9_readPair_43 ?_
      refine r_dup (pc := 46) hC rfl dX9_readPair_46 ?_
      refine gC_1_2 (pc := 47) hC k_117 dX9_readPair_47 ?_
      refine r_iconst (pc := 50) hC (v := (1 : Int32)) (by decide) dX9_readPair_50 ?_
      refine r_iadd (pc := 51) hC dX9_readPair_51 ?_
      refine pC_1_2 (pc := 52) hC k_117 dX9_readPair_52 ?_
      refine r_letm (fun s6 => ?_)
      refine r_aload_n (pc := 55) hC rfl dX9_readPair_55 ?_
      refine gC_0_0 (pc := 56) hC k_311 dX9_readPair_56 ?_
      refine r_cOM (pc := 59) (rest := []) (fun r8 s7 hf => runV [] hC (c_Sg_nextLetter (kl κ) (kW κ) hC.2.2.2.2.2.2.2.2.1 N s6 r8 s7 hf) o_X7_nextLetter k_377 (q0 := 1) (ci := 7) rfl rfl (rm_ok hR rfl) rfl (Nat.le_of_ble_eq_true rfl) dX9_readPair_59) (fun r8 s7 => ?_)
      refine r_istore_n (pc := 62) hC rfl rfl dX9_readPair_62 ?_
      refine r_iload_n (pc := 63) hC rfl dX9_readPair_63 ?_
      refine r_iconst (pc := 64) hC (v := (-1 : Int32)) (by decide) dX9_readPair_64 ?_
      refine r_icmp_eq (pc := 65) (tgt := 85) hC dX9_readPair_65 (by decide) ?_ ?_
      · refine r_iconst (pc := 85) hC (v := (0 : Int32)) (by decide) dX9_readPair_85 ?_
        exact r_retOM hC rfl dX9_readPair_86
      · refine r_iload_n (pc := 68) hC rfl dX9_readPair_68 ?_
        refine r_iload_n (pc := 69) hC rfl dX9_readPair_69 ?_
        refine r_icmp_eq (pc := 70) (tgt := 85) hC dX9_readPair_70 (by decide) ?_ ?_
        · refine r_iconst (pc := 85) hC (v := (0 : Int32)) (by decide) dX9_readPair_85 ?_
          exact r_retOM hC rfl dX9_readPair_86
        · refine r_aload_n (pc := 73) hC rfl dX9_readPair_73 ?_
          refine gC_0_2 (pc := 74) hC k_313 dX9_readPair_74 ?_
          refine r_iload_n (pc := 77) hC rfl dX9_readPair_77 ?_
          refine r_iload_n (pc := 78) hC rfl dX9_readPair_78 ?_
          refine r_cO (pc := 79) (rest := []) (fun r9 hf => runV [.int r2, .int r8] hC (c_Du_isToldS (kl κ) (kW κ) hC.2.2.2.2.2.2.2.2.1 r2 r8 s7 r9 hf) o_X1_isTold k_386 (q0 := 3) (ci := 1) rfl rfl (rm_ok hR rfl) rfl (Nat.le_of_ble_eq_true rfl) dX9_readPair_79) (fun r9 => ?_)
          refine r_if_eq (pc := 82) (tgt := 87) hC dX9_readPair_82 (by decide) ?_ ?_
          · refine r_aload_n (pc := 87) hC rfl dX9_readPair_87 ?_
            refine gC_0_0 (pc := 88) hC k_311 dX9_readPair_88 ?_
            refine r_dup (pc := 91) hC rfl dX9_readPair_91 ?_
            refine gC_1_2 (pc := 92) hC k_117 dX9_readPair_92 ?_
            refine r_iconst (pc := 95) hC (v := (1 : Int32)) (by decide) dX9_readPair_95 ?_
            refine r_iadd (pc := 96) hC dX9_readPair_96 ?_
            refine pC_1_2 (pc := 97) hC k_117 dX9_readPair_97 ?_
            refine r_letm (fun s10 => ?_)
            refine r_aload_n (pc := 100) hC rfl dX9_readPair_100 ?_
            refine gC_0_2 (pc := 101) hC k_313 dX9_readPair_101 ?_
            refine r_iload_n (pc := 104) hC rfl dX9_readPair_104 ?_
            refine r_iload_n (pc := 105) hC rfl dX9_readPair_105 ?_
            refine r_cM (pc := 106) (rest := []) (fun s11 hf => runV [.int r2, .int r8] hC (c_Du_letBeatS (kl κ) (kW κ) hC.2.2.2.2.2.2.2.2.1 r2 r8 s10 s11 hf) o_X1_letBeat k_394 (q0 := 3) (ci := 1) rfl rfl (rm_ok hR rfl) rfl (Nat.le_of_ble_eq_true rfl) dX9_readPair_106) (fun s11 => ?_)
            refine r_aload_n (pc := 109) hC rfl dX9_readPair_109 ?_
            refine gC_0_2 (pc := 110) hC k_313 dX9_readPair_110 ?_
            refine r_aload_n (pc := 113) hC rfl dX9_readPair_113 ?_
            refine gC_0_2 (pc := 114) hC k_313 dX9_readPair_114 ?_
            refine gC_3_1 (pc := 117) hC k_144 dX9_readPair_117 ?_
            refine r_iload_n (pc := 120) hC rfl dX9_readPair_120 ?_
            refine r_iload_n (pc := 121) hC rfl dX9_readPair_121 ?_
            refine r_mmax (pc := 122) (rest := [.int (gI s11 4 0), .ref (ad κ 3)]) hC hR rfl k_398 k_399 k_91 k_400 (Nat.le_of_ble_eq_true rfl) dX9_readPair_122 ?_
            refine r_iconst (pc := 125) hC (v := (1 : Int32)) (by decide) dX9_readPair_125 ?_
            refine r_iadd (pc := 126) hC dX9_readPair_126 ?_
            refine r_mmax (pc := 127) (rest := [.ref (ad κ 3)]) hC hR rfl k_398 k_399 k_91 k_400 (Nat.le_of_ble_eq_true rfl) dX9_readPair_127 ?_
            refine pC_3_1 (pc := 130) hC k_144 dX9_readPair_130 ?_
            refine r_letm (fun s12 => ?_)
            refine r_iconst (pc := 133) hC (v := (1 : Int32)) (by decide) dX9_readPair_133 ?_
            exact r_retOM hC rfl dX9_readPair_134
          · refine r_iconst (pc := 85) hC (v := (0 : Int32)) (by decide) dX9_readPair_85 ?_
            exact r_retOM hC rfl dX9_readPair_86
    · refine r_iconst (pc := 40) hC (v := (0 : Int32)) (by decide) dX9_readPair_40 ?_
      exact r_retOM hC rfl dX9_readPair_41
  · refine r_iconst (pc := 13) hC (v := (0 : Int32)) (by decide) dX9_readPair_13 ?_
    exact r_retOM hC rfl dX9_readPair_14
set_option maxRecDepth 100000 in
set_option maxHeartbeats 4000000 in
theorem c_D_readPair (l : Launch) (w : Wenv) (hw : okw w wC) (N : Nat) (σ : Mem) (r : Int32) (τ : Mem) (hf : f_D_readPair N  σ = some (r, τ)) : Ctr l w wC yX9_readPair cX9_readPair 3 (some .boolean) 2 44 [.ref (w.2.2.1 0)] σ (cQi w wC r τ) := mk_ctr (Q := fun κ => qOM κ wC) (lv := [some (.ref (w.2.2.1 0)), none, none]) (by decide) rfl hw (Nat.le_of_ble_eq_true rfl) rfl hf (fun κ h => by subst h; rfl) (fun κ hl h hR hC => by
    subst h
    exact w_D_readPair hR hC N  σ)
-- DuelRound$Duels.arrowsTold()I (3,) kind O
def Du_arrowsToldS_B4 (σ : Mem) (self3 : Int32 → Int32 → Option Int32) (i1 : Int32) (i2 : Int32) : Option Int32 :=
  if (8 : Int32) ≤ i2 then
  (some i1)
  else
  (gd (inb i2 8) (bnd (i1 + (t_J_bitCount (gI σ 14 i2.toNatClampNeg))) fun x4 =>
  self3 x4 (i2 + (1 : Int32))))
def f_Du_arrowsToldS (N : Nat) (σ : Mem) : Option Int32 :=
  it2 (Du_arrowsToldS_B4 σ) N (0 : Int32) (0 : Int32)
set_option maxRecDepth 100000 in
set_option maxHeartbeats 4000000 in
theorem w_Du_arrowsToldS {κ : Ctx} (hR : kR κ = { frames := 1, cells := 0, slots := 0, locals := 20 }) (hC : ok κ wC cX1_arrowsTold 3 RX1 (some .int)) (N : Nat) (σ : Mem) : wF κ wC 3 (qO κ wC σ) σ 0 [some (.ref (ad κ 3)), none, none] [] (f_Du_arrowsToldS N  σ) := by
  unfold f_Du_arrowsToldS
  refine r_iconst (pc := 0) hC (v := (0 : Int32)) (by decide) dX1_arrowsTold_0 ?_
  refine r_istore_n (pc := 1) hC rfl rfl dX1_arrowsTold_1 ?_
  refine r_iconst (pc := 2) hC (v := (0 : Int32)) (by decide) dX1_arrowsTold_2 ?_
  refine r_istore_n (pc := 3) hC rfl rfl dX1_arrowsTold_3 ?_
  refine w_it2 (fun i1 i2 => σ) (fun i1 i2 => [some (.ref (ad κ 3)), some (.int i1), some (.int i2)]) (fun self3 ih4_3 i1 i2 => ?_) N (0 : Int32) (0 : Int32)
  unfold Du_arrowsToldS_B4
  refine r_iload_n (pc := 4) hC rfl dX1_arrowsTold_4 ?_
  refine r_bipush (pc := 5) hC (v := (8 : Int32)) (by decide) dX1_arrowsTold_5 ?_
  refine r_icmp_ge (pc := 7) (tgt := 28) hC dX1_arrowsTold_7 (by decide) ?_ ?_
  · refine r_iload_n (pc := 28) hC rfl dX1_arrowsTold_28 ?_
    exact r_retO hC rfl dX1_arrowsTold_29
  · refine r_iload_n (pc := 10) hC rfl dX1_arrowsTold_10 ?_
    refine r_aload_n (pc := 11) hC rfl dX1_arrowsTold_11 ?_
    refine gC_3_0 (pc := 12) hC k_132 dX1_arrowsTold_12 ?_
    refine r_iload_n (pc := 15) hC rfl dX1_arrowsTold_15 ?_
    refine aC_14 (pc := 16) hC dX1_arrowsTold_16 ?_
    refine r_cT (pc := 17) (rest := [.int i1]) (runS [.int (gI σ 14 i2.toNatClampNeg)] hC (c_J_bitCount (kl κ) (kW κ) hC.2.2.2.2.2.2.2.2.1 (gI σ 14 i2.toNatClampNeg) σ) o_J6_bitCount_0f7a4 k_405 (rm_ok hR rfl) rfl (Nat.le_of_ble_eq_true rfl) dX1_arrowsTold_17) ?_
    refine r_iadd (pc := 20) hC dX1_arrowsTold_20 ?_
    refine r_let (fun x4 => ?_)
    refine r_istore_n (pc := 21) hC rfl rfl dX1_arrowsTold_21 ?_
    refine r_iinc (pc := 22) hC (v := (1 : Int32)) rfl (by decide) rfl rfl dX1_arrowsTold_22 ?_
    refine r_goto (pc := 25) (tgt := 4) hC dX1_arrowsTold_25 (by decide) ?_
    exact ih4_3 x4 (i2 + (1 : Int32))
set_option maxRecDepth 100000 in
set_option maxHeartbeats 4000000 in
theorem c_Du_arrowsToldS (l : Launch) (w : Wenv) (hw : okw w wC) (N : Nat) (σ : Mem) (r : Int32) (hf : f_Du_arrowsToldS N  σ = some r) : Ctr l w wC yX1_arrowsTold cX1_arrowsTold 3 (some .int) 1 20 [.ref (w.2.2.1 3)] σ (cQi w wC r σ) := mk_ctr (Q := fun κ => qO κ wC σ) (lv := [some (.ref (w.2.2.1 3)), none, none]) (by decide) rfl hw (Nat.le_of_ble_eq_true rfl) rfl hf (fun κ h => by subst h; rfl) (fun κ hl h hR hC => by
    subst h
    exact w_Du_arrowsToldS hR hC N  σ)
-- DuelRound$Duels.arrows()I (3,) kind T
def t_Du_arrowsS (σ : Mem) : Int32 :=
  (((gI σ 4 0) * ((gI σ 4 0) - (1 : Int32))) / (2 : Int32))
def f_Du_arrowsS (σ : Mem) : Option Int32 :=
  some (((gI σ 4 0) * ((gI σ 4 0) - (1 : Int32))) / (2 : Int32))
theorem e_Du_arrowsS (σ : Mem) : f_Du_arrowsS  σ = some (t_Du_arrowsS  σ) := by
  unfold f_Du_arrowsS t_Du_arrowsS
  try first | rfl | (repeat' split) <;> rfl
set_option maxRecDepth 100000 in
set_option maxHeartbeats 4000000 in
theorem w_Du_arrowsS {κ : Ctx} (hR : kR κ = { frames := 0, cells := 0, slots := 0, locals := 0 }) (hC : ok κ wC cX1_arrows 1 RX1 (some .int)) (σ : Mem) : wF κ wC 1 (qO κ wC σ) σ 0 [some (.ref (ad κ 3))] [] (f_Du_arrowsS  σ) := by
  unfold f_Du_arrowsS
  refine r_aload_n (pc := 0) hC rfl dX1_arrows_0 ?_
  refine gC_3_1 (pc := 1) hC k_139 dX1_arrows_1 ?_
  refine r_aload_n (pc := 4) hC rfl dX1_arrows_4 ?_
  refine gC_3_1 (pc := 5) hC k_139 dX1_arrows_5 ?_
  refine r_iconst (pc := 8) hC (v := (1 : Int32)) (by decide) dX1_arrows_8 ?_
  refine r_isub (pc := 9) hC dX1_arrows_9 ?_
  refine r_imul (pc := 10) hC dX1_arrows_10 ?_
  refine r_iconst (pc := 11) hC (v := (2 : Int32)) (by decide) dX1_arrows_11 ?_
  refine r_idiv (pc := 12) hC (by decide) dX1_arrows_12 ?_
  exact r_retO hC rfl dX1_arrows_13
set_option maxRecDepth 100000 in
set_option maxHeartbeats 4000000 in
theorem c_Du_arrowsS (l : Launch) (w : Wenv) (hw : okw w wC) (σ : Mem) : Ctr l w wC yX1_arrows cX1_arrows 1 (some .int) 0 0 [.ref (w.2.2.1 3)] σ (cQi w wC (t_Du_arrowsS  σ) σ) := mk_ctr (Q := fun κ => qO κ wC σ) (lv := [some (.ref (w.2.2.1 3))]) (by decide) rfl hw (Nat.le_of_ble_eq_true rfl) rfl (e_Du_arrowsS  σ) (fun κ h => by subst h; rfl) (fun κ hl h hR hC => by
    subst h
    exact w_Du_arrowsS hR hC  σ)
-- DuelRound.faultOfRound()I (0,) kind OM
def D_faultOfRound_K73 (N : Nat) (s3 : Mem) : Option (Int32 × Mem) :=
  ob2 (f_Sg_next N s3) fun r5 s4 =>
  if r5 = (-1 : Int32) then
  (ob (f_Du_arrowsToldS N s4) fun r6 =>
  if r6 = (t_Du_arrowsS s4) then
  (some ((-1 : Int32), s4))
  else
  (some ((gI s4 1 0), s4)))
  else
  (some ((gI s4 2 0), s4))
def D_faultOfRound_K51 (N : Nat) (s7 : Mem) : Option (Int32 × Mem) :=
  D_faultOfRound_K73 N s7
def D_faultOfRound_B17 (N : Nat) (self10 : Int32 → Mem → Option (Int32 × Mem)) (i8 : Int32) (s9 : Mem) : Option (Int32 × Mem) :=
  if (300 : Int32) < i8 then
  (D_faultOfRound_K73 N s9)
  else
  (ob2 (f_D_readPair N s9) fun r12 s11 =>
  if r12 = (0 : Int32) then
  (some ((gI s11 2 0), s11))
  else
  (ob2 (f_Sg_next N s11) fun r14 s13 =>
  if r14 = (59 : Int32) then
  (bnd (sI s13 2 0 ((gI s13 2 0) + (1 : Int32))) fun s15 =>
  self10 (i8 + (1 : Int32)) s15)
  else
  (D_faultOfRound_K51 N s13)))
def f_D_faultOfRound (N : Nat) (σ : Mem) : Option (Int32 × Mem) :=
  ob (f_Du_clearS N σ) fun s1 =>
  bnd (sI s1 2 0 (0 : Int32)) fun s2 =>
  it2 (D_faultOfRound_B17 N) N (0 : Int32) s2
set_option maxRecDepth 100000 in
set_option maxHeartbeats 4000000 in
theorem w_D_faultOfRound {κ : Ctx} (hR : kR κ = { frames := 3, cells := 0, slots := 0, locals := 66 }) (hC : ok κ wC cX9_faultOfRound 2 RX9 (some .int)) (N : Nat) (σ : Mem) : wF κ wC 2 (qOM κ wC) σ 0 [some (.ref (ad κ 0)), none] [] (f_D_faultOfRound N  σ) := by
  unfold f_D_faultOfRound
  refine r_aload_n (pc := 0) hC rfl dX9_faultOfRound_0 ?_
  refine gC_0_2 (pc := 1) hC k_313 dX9_faultOfRound_1 ?_
  refine r_cM (pc := 4) (rest := []) (fun s1 hf => runV [] hC (c_Du_clearS (kl κ) (kW κ) hC.2.2.2.2.2.2.2.2.1 N σ s1 hf) o_X1_clear k_369 (q0 := 3) (ci := 1) rfl rfl (rm_ok hR rfl) rfl (Nat.le_of_ble_eq_true rfl) dX9_faultOfRound_4) (fun s1 => ?_)
  refine r_aload_n (pc := 7) hC rfl dX9_faultOfRound_7 ?_
  refine gC_0_0 (pc := 8) hC k_311 dX9_faultOfRound_8 ?_
  refine r_iconst (pc := 11) hC (v := (0 : Int32)) (by decide) dX9_faultOfRound_11 ?_
  refine pC_1_2 (pc := 12) hC k_117 dX9_faultOfRound_12 ?_
  refine r_letm (fun s2 => ?_)
  refine r_iconst (pc := 15) hC (v := (0 : Int32)) (by decide) dX9_faultOfRound_15 ?_
  refine r_istore_n (pc := 16) hC rfl rfl dX9_faultOfRound_16 ?_
  have hK73_6 : ∀ (s3 : Mem), wF κ wC 2 (qOM κ wC) s3 73 [some (.ref (ad κ 0)), none] [] (D_faultOfRound_K73 N s3) := by
    intro s3
    unfold D_faultOfRound_K73
    refine r_aload_n (pc := 73) hC rfl dX9_faultOfRound_73 ?_
    refine gC_0_0 (pc := 74) hC k_311 dX9_faultOfRound_74 ?_
    refine r_cOM (pc := 77) (rest := []) (fun r5 s4 hf => runV [] hC (c_Sg_next (kl κ) (kW κ) hC.2.2.2.2.2.2.2.2.1 N s3 r5 s4 hf) o_X7_next k_385 (q0 := 1) (ci := 7) rfl rfl (rm_ok hR rfl) rfl (Nat.le_of_ble_eq_true rfl) dX9_faultOfRound_77) (fun r5 s4 => ?_)
    refine r_iconst (pc := 80) hC (v := (-1 : Int32)) (by decide) dX9_faultOfRound_80 ?_
    refine r_icmp_eq (pc := 81) (tgt := 92) hC dX9_faultOfRound_81 (by decide) ?_ ?_
    · refine r_aload_n (pc := 92) hC rfl dX9_faultOfRound_92 ?_
      refine gC_0_2 (pc := 93) hC k_313 dX9_faultOfRound_93 ?_
      refine r_cO (pc := 96) (rest := []) (fun r6 hf => runV [] hC (c_Du_arrowsToldS (kl κ) (kW κ) hC.2.2.2.2.2.2.2.2.1 N s4 r6 hf) o_X1_arrowsTold k_401 (q0 := 3) (ci := 1) rfl rfl (rm_ok hR rfl) rfl (Nat.le_of_ble_eq_true rfl) dX9_faultOfRound_96) (fun r6 => ?_)
      refine r_aload_n (pc := 99) hC rfl dX9_faultOfRound_99 ?_
      refine gC_0_2 (pc := 100) hC k_313 dX9_faultOfRound_100 ?_
      refine r_cT (pc := 103) (rest := [.int r6]) (runV [] hC (c_Du_arrowsS (kl κ) (kW κ) hC.2.2.2.2.2.2.2.2.1 s4) o_X1_arrows k_411 (q0 := 3) (ci := 1) rfl rfl (rm_ok hR rfl) rfl (Nat.le_of_ble_eq_true rfl) dX9_faultOfRound_103) ?_
      refine r_icmp_ne (pc := 106) (tgt := 113) hC dX9_faultOfRound_106 (by decide) ?_ ?_
      · refine r_aload_n (pc := 113) hC rfl dX9_faultOfRound_113 ?_
        refine gC_0_0 (pc := 114) hC k_311 dX9_faultOfRound_114 ?_
        refine gC_1_1 (pc := 117) hC k_114 dX9_faultOfRound_117 ?_
        exact r_retOM hC rfl dX9_faultOfRound_120
      · refine r_iconst (pc := 109) hC (v := (-1 : Int32)) (by decide) dX9_faultOfRound_109 ?_
        refine r_goto (pc := 110) (tgt := 120) hC dX9_faultOfRound_110 (by decide) ?_
        exact r_retOM hC rfl dX9_faultOfRound_120
    · refine r_aload_n (pc := 84) hC rfl dX9_faultOfRound_84 ?_
      refine gC_0_0 (pc := 85) hC k_311 dX9_faultOfRound_85 ?_
      refine gC_1_2 (pc := 88) hC k_117 dX9_faultOfRound_88 ?_
      exact r_retOM hC rfl dX9_faultOfRound_91
  have hK51_7 : ∀ (s7 : Mem), wF κ wC 2 (qOM κ wC) s7 51 [some (.ref (ad κ 0)), none] [] (D_faultOfRound_K51 N s7) := by
    intro s7
    unfold D_faultOfRound_K51
    refine r_goto (pc := 51) (tgt := 73) hC dX9_faultOfRound_51 (by decide) ?_
    exact hK73_6 s7
  refine w_it2 (fun i8 s9 => s9) (fun i8 s9 => [some (.ref (ad κ 0)), some (.int i8)]) (fun self10 ih17_10 i8 s9 => ?_) N (0 : Int32) s2
  unfold D_faultOfRound_B17
  refine r_iload_n (pc := 17) hC rfl dX9_faultOfRound_17 ?_
  refine r_sipush (pc := 18) hC (v := (300 : Int32)) (by decide) dX9_faultOfRound_18 ?_
  refine r_icmp_gt (pc := 21) (tgt := 73) hC dX9_faultOfRound_21 (by decide) ?_ ?_
  · exact r_wk [true, false] (hK73_6 s9)
  · refine r_aload_n (pc := 24) hC rfl dX9_faultOfRound_24 ?_
    refine r_cOM (pc := 25) (rest := []) (fun r12 s11 hf => runV [] hC (c_D_readPair (kl κ) (kW κ) hC.2.2.2.2.2.2.2.2.1 N s9 r12 s11 hf) o_X9_readPair k_373 (q0 := 0) (ci := 9) rfl rfl (rm_ok hR rfl) rfl (Nat.le_of_ble_eq_true rfl) dX9_faultOfRound_25) (fun r12 s11 => ?_)
    refine r_if_ne (pc := 28) (tgt := 39) hC dX9_faultOfRound_28 (by decide) ?_ ?_
    · refine r_aload_n (pc := 39) hC rfl dX9_faultOfRound_39 ?_
      refine gC_0_0 (pc := 40) hC k_311 dX9_faultOfRound_40 ?_
      refine r_cOM (pc := 43) (rest := []) (fun r14 s13 hf => runV [] hC (c_Sg_next (kl κ) (kW κ) hC.2.2.2.2.2.2.2.2.1 N s11 r14 s13 hf) o_X7_next k_385 (q0 := 1) (ci := 7) rfl rfl (rm_ok hR rfl) rfl (Nat.le_of_ble_eq_true rfl) dX9_faultOfRound_43) (fun r14 s13 => ?_)
      refine r_bipush (pc := 46) hC (v := (59 : Int32)) (by decide) dX9_faultOfRound_46 ?_
      refine r_icmp_eq (pc := 48) (tgt := 54) hC dX9_faultOfRound_48 (by decide) ?_ ?_
      · refine r_aload_n (pc := 54) hC rfl dX9_faultOfRound_54 ?_
        refine gC_0_0 (pc := 55) hC k_311 dX9_faultOfRound_55 ?_
        refine r_dup (pc := 58) hC rfl dX9_faultOfRound_58 ?_
        refine gC_1_2 (pc := 59) hC k_117 dX9_faultOfRound_59 ?_
        refine r_iconst (pc := 62) hC (v := (1 : Int32)) (by decide) dX9_faultOfRound_62 ?_
        refine r_iadd (pc := 63) hC dX9_faultOfRound_63 ?_
        refine pC_1_2 (pc := 64) hC k_117 dX9_faultOfRound_64 ?_
        refine r_letm (fun s15 => ?_)
        refine r_iinc (pc := 67) hC (v := (1 : Int32)) rfl (by decide) rfl rfl dX9_faultOfRound_67 ?_
        refine r_goto (pc := 70) (tgt := 17) hC dX9_faultOfRound_70 (by decide) ?_
        exact ih17_10 (i8 + (1 : Int32)) s15
      · exact r_wk [true, false] (hK51_7 s13)
    · refine r_aload_n (pc := 31) hC rfl dX9_faultOfRound_31 ?_
      refine gC_0_0 (pc := 32) hC k_311 dX9_faultOfRound_32 ?_
      refine gC_1_2 (pc := 35) hC k_117 dX9_faultOfRound_35 ?_
      exact r_retOM hC rfl dX9_faultOfRound_38
set_option maxRecDepth 100000 in
set_option maxHeartbeats 4000000 in
theorem c_D_faultOfRound (l : Launch) (w : Wenv) (hw : okw w wC) (N : Nat) (σ : Mem) (r : Int32) (τ : Mem) (hf : f_D_faultOfRound N  σ = some (r, τ)) : Ctr l w wC yX9_faultOfRound cX9_faultOfRound 2 (some .int) 3 66 [.ref (w.2.2.1 0)] σ (cQi w wC r τ) := mk_ctr (Q := fun κ => qOM κ wC) (lv := [some (.ref (w.2.2.1 0)), none]) (by decide) rfl hw (Nat.le_of_ble_eq_true rfl) rfl hf (fun κ h => by subst h; rfl) (fun κ hl h hR hC => by
    subst h
    exact w_D_faultOfRound hR hC N  σ)
-- DuelRound.round()I (0,) kind OM
def f_D_round (N : Nat) (σ : Mem) : Option (Int32 × Mem) :=
  ob2 (f_D_faultOfRound N σ) fun r2 s1 =>
  ob2 (f_Sg_cutTo (0 : Int32) s1) fun r4 s3 =>
  if r2 = (-1 : Int32) then
  (ob2 (f_D_startWithSpare N s3) fun r6 s5 =>
  some (r6, s5))
  else
  (some (((-1000 : Int32) - r2), s3))
set_option maxRecDepth 100000 in
set_option maxHeartbeats 4000000 in
theorem w_D_round {κ : Ctx} (hR : kR κ = { frames := 4, cells := 0, slots := 0, locals := 87 }) (hC : ok κ wC cX9_round 2 RX9 (some .int)) (N : Nat) (σ : Mem) : wF κ wC 2 (qOM κ wC) σ 0 [some (.ref (ad κ 0)), none] [] (f_D_round N  σ) := by
  unfold f_D_round
  refine r_aload_n (pc := 0) hC rfl dX9_round_0 ?_
  refine r_cOM (pc := 1) (rest := []) (fun r2 s1 hf => runV [] hC (c_D_faultOfRound (kl κ) (kW κ) hC.2.2.2.2.2.2.2.2.1 N σ r2 s1 hf) o_X9_faultOfRound k_365 (q0 := 0) (ci := 9) rfl rfl (rm_ok hR rfl) rfl (Nat.le_of_ble_eq_true rfl) dX9_round_1) (fun r2 s1 => ?_)
  refine r_istore_n (pc := 4) hC rfl rfl dX9_round_4 ?_
  refine r_aload_n (pc := 5) hC rfl dX9_round_5 ?_
  refine gC_0_0 (pc := 6) hC k_311 dX9_round_6 ?_
  refine r_iconst (pc := 9) hC (v := (0 : Int32)) (by decide) dX9_round_9 ?_
  refine r_cOM (pc := 10) (rest := []) (fun r4 s3 hf => runV [.int (0 : Int32)] hC (c_Sg_cutTo (kl κ) (kW κ) hC.2.2.2.2.2.2.2.2.1 (0 : Int32) s1 r4 s3 hf) o_X7_cutTo k_357 (q0 := 1) (ci := 7) rfl rfl (rm_ok hR rfl) rfl (Nat.le_of_ble_eq_true rfl) dX9_round_10) (fun r4 s3 => ?_)
  refine r_pop (pc := 13) hC rfl dX9_round_13 ?_
  refine r_iload_n (pc := 14) hC rfl dX9_round_14 ?_
  refine r_iconst (pc := 15) hC (v := (-1 : Int32)) (by decide) dX9_round_15 ?_
  refine r_icmp_eq (pc := 16) (tgt := 25) hC dX9_round_16 (by decide) ?_ ?_
  · refine r_aload_n (pc := 25) hC rfl dX9_round_25 ?_
    refine r_cOM (pc := 26) (rest := []) (fun r6 s5 hf => runV [] hC (c_D_startWithSpare (kl κ) (kW κ) hC.2.2.2.2.2.2.2.2.1 N s3 r6 s5 hf) o_X9_startWithSpare k_415 (q0 := 0) (ci := 9) rfl rfl (rm_ok hR rfl) rfl (Nat.le_of_ble_eq_true rfl) dX9_round_26) (fun r6 s5 => ?_)
    exact r_retOM hC rfl dX9_round_29
  · refine r_sipush (pc := 19) hC (v := (-1000 : Int32)) (by decide) dX9_round_19 ?_
    refine r_iload_n (pc := 22) hC rfl dX9_round_22 ?_
    refine r_isub (pc := 23) hC dX9_round_23 ?_
    exact r_retOM hC rfl dX9_round_24
set_option maxRecDepth 100000 in
set_option maxHeartbeats 4000000 in
theorem c_D_round (l : Launch) (w : Wenv) (hw : okw w wC) (N : Nat) (σ : Mem) (r : Int32) (τ : Mem) (hf : f_D_round N  σ = some (r, τ)) : Ctr l w wC yX9_round cX9_round 2 (some .int) 4 87 [.ref (w.2.2.1 0)] σ (cQi w wC r τ) := mk_ctr (Q := fun κ => qOM κ wC) (lv := [some (.ref (w.2.2.1 0)), none]) (by decide) rfl hw (Nat.le_of_ble_eq_true rfl) rfl hf (fun κ h => by subst h; rfl) (fun κ hl h hR hC => by
    subst h
    exact w_D_round hR hC N  σ)
-- DuelRound$Names.isFitting(LDuelRound$Duels;LDuelRound$Duels;II)Z (10, 2, 2, None, None) kind O
def Na_isFittingNN_B3 (σ : Mem) (a1 : Int32) (a2 : Int32) (self2 : Int32 → Option Int32) (i1 : Int32) : Option Int32 :=
  if a1 ≤ i1 then
  (some (1 : Int32))
  else
  (ob (f_Du_isBeatingN a1 i1 σ) fun r3 =>
  gd (inb i1 8) (ob (f_Du_isBeatingN a2 (gI σ 27 i1.toNatClampNeg) σ) fun r4 =>
  if r3 = r4 then
  (self2 (i1 + (1 : Int32)))
  else
  (some (0 : Int32))))
def f_Na_isFittingNN (N : Nat) (a1 : Int32) (a2 : Int32) (σ : Mem) : Option Int32 :=
  it1 (Na_isFittingNN_B3 σ a1 a2) N (0 : Int32)
set_option maxRecDepth 100000 in
set_option maxHeartbeats 4000000 in
theorem w_Na_isFittingNN {κ : Ctx} (hR : kR κ = { frames := 1, cells := 0, slots := 0, locals := 22 }) (hC : ok κ wC cX2_isFitting 6 RX2 (some .boolean)) (N : Nat) (a1 : Int32) (a2 : Int32) (σ : Mem) : wF κ wC 6 (qO κ wC σ) σ 0 [some (.ref (ad κ 10)), some (.ref (ad κ 2)), some (.ref (ad κ 2)), some (.int a1), some (.int a2), none] [] (f_Na_isFittingNN N a1 a2 σ) := by
  unfold f_Na_isFittingNN
  refine r_iconst (pc := 0) hC (v := (0 : Int32)) (by decide) dX2_isFitting_0 ?_
  refine r_istore (pc := 1) hC rfl rfl dX2_isFitting_1 ?_
  refine w_it1 (fun i1 => σ) (fun i1 => [some (.ref (ad κ 10)), some (.ref (ad κ 2)), some (.ref (ad κ 2)), some (.int a1), some (.int a2), some (.int i1)]) (fun self2 ih3_2 i1 => ?_) N (0 : Int32)
  unfold Na_isFittingNN_B3
  refine r_iload (pc := 3) hC rfl dX2_isFitting_3 ?_
  refine r_iload_n (pc := 5) hC rfl dX2_isFitting_5 ?_
  refine r_icmp_ge (pc := 6) (tgt := 40) hC dX2_isFitting_6 (by decide) ?_ ?_
  · refine r_iconst (pc := 40) hC (v := (1 : Int32)) (by decide) dX2_isFitting_40 ?_
    exact r_retO hC rfl dX2_isFitting_41
  · refine r_aload_n (pc := 9) hC rfl dX2_isFitting_9 ?_
    refine r_iload_n (pc := 10) hC rfl dX2_isFitting_10 ?_
    refine r_iload (pc := 11) hC rfl dX2_isFitting_11 ?_
    refine r_cO (pc := 13) (rest := []) (fun r3 hf => runV [.int a1, .int i1] hC (c_Du_isBeatingN (kl κ) (kW κ) hC.2.2.2.2.2.2.2.2.1 a1 i1 σ r3 hf) o_X1_isBeating k_913 (q0 := 2) (ci := 1) rfl rfl (rm_ok hR rfl) rfl (Nat.le_of_ble_eq_true rfl) dX2_isFitting_13) (fun r3 => ?_)
    refine r_aload_n (pc := 16) hC rfl dX2_isFitting_16 ?_
    refine r_iload (pc := 17) hC rfl dX2_isFitting_17 ?_
    refine r_aload_n (pc := 19) hC rfl dX2_isFitting_19 ?_
    refine gC_10_0 (pc := 20) hC k_307 dX2_isFitting_20 ?_
    refine r_iload (pc := 23) hC rfl dX2_isFitting_23 ?_
    refine aC_27 (pc := 25) hC dX2_isFitting_25 ?_
    refine r_cO (pc := 26) (rest := [.int r3]) (fun r4 hf => runV [.int a2, .int (gI σ 27 i1.toNatClampNeg)] hC (c_Du_isBeatingN (kl κ) (kW κ) hC.2.2.2.2.2.2.2.2.1 a2 (gI σ 27 i1.toNatClampNeg) σ r4 hf) o_X1_isBeating k_913 (q0 := 2) (ci := 1) rfl rfl (rm_ok hR rfl) rfl (Nat.le_of_ble_eq_true rfl) dX2_isFitting_26) (fun r4 => ?_)
    refine r_icmp_eq (pc := 29) (tgt := 34) hC dX2_isFitting_29 (by decide) ?_ ?_
    · refine r_iinc (pc := 34) hC (v := (1 : Int32)) rfl (by decide) rfl rfl dX2_isFitting_34 ?_
      refine r_goto (pc := 37) (tgt := 3) hC dX2_isFitting_37 (by decide) ?_
      exact ih3_2 (i1 + (1 : Int32))
    · refine r_iconst (pc := 32) hC (v := (0 : Int32)) (by decide) dX2_isFitting_32 ?_
      exact r_retO hC rfl dX2_isFitting_33
set_option maxRecDepth 100000 in
set_option maxHeartbeats 4000000 in
theorem c_Na_isFittingNN (l : Launch) (w : Wenv) (hw : okw w wC) (N : Nat) (a1 : Int32) (a2 : Int32) (σ : Mem) (r : Int32) (hf : f_Na_isFittingNN N a1 a2 σ = some r) : Ctr l w wC yX2_isFitting cX2_isFitting 6 (some .boolean) 1 22 [.ref (w.2.2.1 10), .ref (w.2.2.1 2), .ref (w.2.2.1 2), .int a1, .int a2] σ (cQi w wC r σ) := mk_ctr (Q := fun κ => qO κ wC σ) (lv := [some (.ref (w.2.2.1 10)), some (.ref (w.2.2.1 2)), some (.ref (w.2.2.1 2)), some (.int a1), some (.int a2), none]) (by decide) rfl hw (Nat.le_of_ble_eq_true rfl) rfl hf (fun κ h => by subst h; rfl) (fun κ hl h hR hC => by
    subst h
    exact w_Na_isFittingNN hR hC N a1 a2 σ)
-- DuelRound$Names.waysFrom(LDuelRound$Duels;LDuelRound$Duels;II)I (10, 2, 2, None, None) kind OM
def Na_waysFromNN_B16 (N : Nat) (a1 : Int32) (a2 : Int32) (self : Int32 → Int32 → Mem → Option (Int32 × Mem)) (self4 : Int32 → Int32 → Mem → Option (Int32 × Mem)) (i1 : Int32) (i2 : Int32) (s3 : Mem) : Option (Int32 × Mem) :=
  if (gI s3 3 0) ≤ i2 then
  (some (i1, s3))
  else
  (if (t_D_bitOf a2 i2) = (0 : Int32) then
  (ob (f_Na_isFittingNN N a1 i2 s3) fun r5 =>
  if r5 = (0 : Int32) then
  (self4 i1 (i2 + (1 : Int32)) s3)
  else
  (gd (inb a1 8) (bnd (sI s3 27 a1.toNatClampNeg i2) fun s6 =>
  ob2 (self (a1 + (1 : Int32)) (a2 ||| ((1 : Int32) <<< (i2 &&& 31))) s6) fun r8 s7 =>
  bnd (i1 + r8) fun x9 =>
  self4 x9 (i2 + (1 : Int32)) s7)))
  else
  (self4 i1 (i2 + (1 : Int32)) s3))
def Na_waysFromNN_R (N : Nat) (self : Int32 → Int32 → Mem → Option (Int32 × Mem)) (a1 : Int32) (a2 : Int32) (σ : Mem) : Option (Int32 × Mem) :=
  if a1 < (gI σ 3 0) then
  (it3 (Na_waysFromNN_B16 N a1 a2 self) N (0 : Int32) (0 : Int32) σ)
  else
  (some ((1 : Int32), σ))
def f_Na_waysFromNN (N d : Nat) (a1 : Int32) (a2 : Int32) (σ : Mem) : Option (Int32 × Mem) := it3 (Na_waysFromNN_R N) d a1 a2 σ
set_option maxRecDepth 100000 in
set_option maxHeartbeats 4000000 in
theorem w_Na_waysFromNN {κ : Ctx} {d : Nat} (hR : kR κ = { frames := 2 + (d + 1), cells := 0, slots := 0, locals := 47 + (d + 1) * 26 }) (hC : ok κ wC cX2_waysFrom 7 RX2 (some .int)) (N : Nat) (self : Int32 → Int32 → Mem → Option (Int32 × Mem)) (hself : ∀ (a1 : Int32) (a2 : Int32) (σ : Mem) (r : Int32) (τ : Mem), self a1 a2 σ = some (r, τ) → Ctr (kl κ) (kW κ) wC yX2_waysFrom cX2_waysFrom 7 (some .int) (2 + d) (47 + d * 26) [.ref ((kW κ).2.2.1 10), .ref ((kW κ).2.2.1 2), .ref ((kW κ).2.2.1 2), .int a1, .int a2] σ (cQi (kW κ) wC r τ)) (a1 : Int32) (a2 : Int32) (σ : Mem) : wF κ wC 7 (qOM κ wC) σ 0 [some (.ref (ad κ 10)), some (.ref (ad κ 2)), some (.ref (ad κ 2)), some (.int a1), some (.int a2), none, none] [] (Na_waysFromNN_R N self a1 a2 σ) := by
  have hRs : 2 + d + 1 ≤ (kR κ).frames ∧ 8 + (7 + 11) + (47 + d * 26) ≤ (kR κ).locals := by rw [hR]; exact ⟨by dsimp only; omega, by dsimp only; omega⟩
  have hRb : 2 ≤ (kR κ).frames ∧ 47 ≤ (kR κ).locals := by rw [hR]; exact ⟨by dsimp only; omega, by dsimp only; omega⟩
  unfold Na_waysFromNN_R
  refine r_iload_n (pc := 0) hC rfl dX2_waysFrom_0 ?_
  refine r_aload_n (pc := 1) hC rfl dX2_waysFrom_1 ?_
  refine gC_2_1 (pc := 2) hC k_138 dX2_waysFrom_2 ?_
  refine r_icmp_lt (pc := 5) (tgt := 10) hC dX2_waysFrom_5 (by decide) ?_ ?_
  · refine r_iconst (pc := 10) hC (v := (0 : Int32)) (by decide) dX2_waysFrom_10 ?_
    refine r_istore (pc := 11) hC rfl rfl dX2_waysFrom_11 ?_
    refine r_iconst (pc := 13) hC (v := (0 : Int32)) (by decide) dX2_waysFrom_13 ?_
    refine r_istore (pc := 14) hC rfl rfl dX2_waysFrom_14 ?_
    refine w_it3 (fun i1 i2 s3 => s3) (fun i1 i2 s3 => [some (.ref (ad κ 10)), some (.ref (ad κ 2)), some (.ref (ad κ 2)), some (.int a1), some (.int a2), some (.int i1), some (.int i2)]) (fun self4 ih16_4 i1 i2 s3 => ?_) N (0 : Int32) (0 : Int32) σ
    unfold Na_waysFromNN_B16
    refine r_iload (pc := 16) hC rfl dX2_waysFrom_16 ?_
    refine r_aload_n (pc := 18) hC rfl dX2_waysFrom_18 ?_
    refine gC_2_1 (pc := 19) hC k_138 dX2_waysFrom_19 ?_
    refine r_icmp_ge (pc := 22) (tgt := 82) hC dX2_waysFrom_22 (by decide) ?_ ?_
    · refine r_iload (pc := 82) hC rfl dX2_waysFrom_82 ?_
      exact r_retOM hC rfl dX2_waysFrom_84
    · refine r_iload (pc := 25) hC rfl dX2_waysFrom_25 ?_
      refine r_iload (pc := 27) hC rfl dX2_waysFrom_27 ?_
      refine r_cT (pc := 29) (rest := []) (runSN [.int a2, .int i2] hC (c_D_bitOf (kl κ) (kW κ) hC.2.2.2.2.2.2.2.2.1 a2 i2 s3) o_X9_bitOf (k_908 hC.2.2.2.2.2.2.2.2.2) (rm_le hRb rfl) rfl (Nat.le_of_ble_eq_true rfl) dX2_waysFrom_29) ?_
      refine r_if_ne (pc := 32) (tgt := 76) hC dX2_waysFrom_32 (by decide) ?_ ?_
      · refine r_iinc (pc := 76) hC (v := (1 : Int32)) rfl (by decide) rfl rfl dX2_waysFrom_76 ?_
        refine r_goto (pc := 79) (tgt := 16) hC dX2_waysFrom_79 (by decide) ?_
        exact ih16_4 i1 (i2 + (1 : Int32)) s3
      · refine r_aload_n (pc := 35) hC rfl dX2_waysFrom_35 ?_
        refine r_aload_n (pc := 36) hC rfl dX2_waysFrom_36 ?_
        refine r_aload_n (pc := 37) hC rfl dX2_waysFrom_37 ?_
        refine r_iload_n (pc := 38) hC rfl dX2_waysFrom_38 ?_
        refine r_iload (pc := 39) hC rfl dX2_waysFrom_39 ?_
        refine r_cO (pc := 41) (rest := []) (fun r5 hf => runV [.ref (ad κ 2), .ref (ad κ 2), .int a1, .int i2] hC (c_Na_isFittingNN (kl κ) (kW κ) hC.2.2.2.2.2.2.2.2.1 N a1 i2 s3 r5 hf) o_X2_isFitting k_909 (q0 := 10) (ci := 2) rfl rfl (rm_le hRb rfl) rfl (Nat.le_of_ble_eq_true rfl) dX2_waysFrom_41) (fun r5 => ?_)
        refine r_if_eq (pc := 44) (tgt := 76) hC dX2_waysFrom_44 (by decide) ?_ ?_
        · refine r_iinc (pc := 76) hC (v := (1 : Int32)) rfl (by decide) rfl rfl dX2_waysFrom_76 ?_
          refine r_goto (pc := 79) (tgt := 16) hC dX2_waysFrom_79 (by decide) ?_
          exact ih16_4 i1 (i2 + (1 : Int32)) s3
        · refine r_aload_n (pc := 47) hC rfl dX2_waysFrom_47 ?_
          refine gC_10_0 (pc := 48) hC k_307 dX2_waysFrom_48 ?_
          refine r_iload_n (pc := 51) hC rfl dX2_waysFrom_51 ?_
          refine r_iload (pc := 52) hC rfl dX2_waysFrom_52 ?_
          refine bC_27 (pc := 54) hC dX2_waysFrom_54 ?_
          refine r_letm (fun s6 => ?_)
          refine r_iload (pc := 55) hC rfl dX2_waysFrom_55 ?_
          refine r_aload_n (pc := 57) hC rfl dX2_waysFrom_57 ?_
          refine r_aload_n (pc := 58) hC rfl dX2_waysFrom_58 ?_
          refine r_aload_n (pc := 59) hC rfl dX2_waysFrom_59 ?_
          refine r_iload_n (pc := 60) hC rfl dX2_waysFrom_60 ?_
          refine r_iconst (pc := 61) hC (v := (1 : Int32)) (by decide) dX2_waysFrom_61 ?_
          refine r_iadd (pc := 62) hC dX2_waysFrom_62 ?_
          refine r_iload (pc := 63) hC rfl dX2_waysFrom_63 ?_
          refine r_iconst (pc := 65) hC (v := (1 : Int32)) (by decide) dX2_waysFrom_65 ?_
          refine r_iload (pc := 66) hC rfl dX2_waysFrom_66 ?_
          refine r_ishl (pc := 68) hC dX2_waysFrom_68 ?_
          refine r_ior (pc := 69) hC dX2_waysFrom_69 ?_
          refine r_cOM (pc := 70) (rest := [.int i1]) (fun r8 s7 hf => runV [.ref (ad κ 2), .ref (ad κ 2), .int (a1 + (1 : Int32)), .int (a2 ||| ((1 : Int32) <<< (i2 &&& 31)))] hC (hself (a1 + (1 : Int32)) (a2 ||| ((1 : Int32) <<< (i2 &&& 31))) s6 r8 s7 hf) o_X2_waysFrom k_904 (q0 := 10) (ci := 2) rfl rfl hRs rfl (Nat.le_of_ble_eq_true rfl) dX2_waysFrom_70) (fun r8 s7 => ?_)
          refine r_iadd (pc := 73) hC dX2_waysFrom_73 ?_
          refine r_let (fun x9 => ?_)
          refine r_istore (pc := 74) hC rfl rfl dX2_waysFrom_74 ?_
          refine r_iinc (pc := 76) hC (v := (1 : Int32)) rfl (by decide) rfl rfl dX2_waysFrom_76 ?_
          refine r_goto (pc := 79) (tgt := 16) hC dX2_waysFrom_79 (by decide) ?_
          exact ih16_4 x9 (i2 + (1 : Int32)) s7
  · refine r_iconst (pc := 8) hC (v := (1 : Int32)) (by decide) dX2_waysFrom_8 ?_
    exact r_retOM hC rfl dX2_waysFrom_9
set_option maxRecDepth 100000 in
set_option maxHeartbeats 4000000 in
theorem c_Na_waysFromNN (l : Launch) (w : Wenv) (hw : okw w wC) (N : Nat) : ∀ (d : Nat) (a1 : Int32) (a2 : Int32) (σ : Mem) (r : Int32) (τ : Mem) (hf : f_Na_waysFromNN N d a1 a2 σ = some (r, τ)), Ctr l w wC yX2_waysFrom cX2_waysFrom 7 (some .int) (2 + d) (47 + d * 26) [.ref (w.2.2.1 10), .ref (w.2.2.1 2), .ref (w.2.2.1 2), .int a1, .int a2] σ (cQi w wC r τ)
  | 0, a1, a2, σ, r, τ, hf => by cases hf
  | d + 1, a1, a2, σ, r, τ, hf => mk_ctr (Q := fun κ => qOM κ wC) (lv := [some (.ref (w.2.2.1 10)), some (.ref (w.2.2.1 2)), some (.ref (w.2.2.1 2)), some (.int a1), some (.int a2), none, none]) (by decide) rfl hw (Nat.le_of_ble_eq_true rfl) rfl hf (fun κ h => by subst h; rfl) (fun κ hl h hR hC => by
      subst h; subst hl
      exact w_Na_waysFromNN hR hC N _ (fun a1 a2 σ r τ h => c_Na_waysFromNN (kl κ) (kW κ) hw N d a1 a2 σ r τ h) a1 a2 σ)
-- DuelRound$Names.waysToRename(LDuelRound$Duels;LDuelRound$Duels;)I (10, 2, 2) kind OM
def f_Na_waysToRenameNN (N : Nat) (σ : Mem) : Option (Int32 × Mem) :=
  if (gI σ 3 0) = (gI σ 3 0) then
  (ob2 (f_Na_waysFromNN N 10 (0 : Int32) (0 : Int32) σ) fun r2 s1 =>
  some (r2, s1))
  else
  (some ((0 : Int32), σ))
set_option maxRecDepth 100000 in
set_option maxHeartbeats 4000000 in
theorem w_Na_waysToRenameNN {κ : Ctx} (hR : kR κ = { frames := 13, cells := 0, slots := 0, locals := 333 }) (hC : ok κ wC cX2_waysToRename 3 RX2 (some .int)) (N : Nat) (σ : Mem) : wF κ wC 3 (qOM κ wC) σ 0 [some (.ref (ad κ 10)), some (.ref (ad κ 2)), some (.ref (ad κ 2))] [] (f_Na_waysToRenameNN N  σ) := by
  unfold f_Na_waysToRenameNN
  refine r_aload_n (pc := 0) hC rfl dX2_waysToRename_0 ?_
  refine gC_2_1 (pc := 1) hC k_138 dX2_waysToRename_1 ?_
  refine r_aload_n (pc := 4) hC rfl dX2_waysToRename_4 ?_
  refine gC_2_1 (pc := 5) hC k_138 dX2_waysToRename_5 ?_
  refine r_icmp_ne (pc := 8) (tgt := 22) hC dX2_waysToRename_8 (by decide) ?_ ?_
  · refine r_iconst (pc := 22) hC (v := (0 : Int32)) (by decide) dX2_waysToRename_22 ?_
    exact r_retOM hC rfl dX2_waysToRename_23
  · refine r_aload_n (pc := 11) hC rfl dX2_waysToRename_11 ?_
    refine r_aload_n (pc := 12) hC rfl dX2_waysToRename_12 ?_
    refine r_aload_n (pc := 13) hC rfl dX2_waysToRename_13 ?_
    refine r_iconst (pc := 14) hC (v := (0 : Int32)) (by decide) dX2_waysToRename_14 ?_
    refine r_iconst (pc := 15) hC (v := (0 : Int32)) (by decide) dX2_waysToRename_15 ?_
    refine r_cOM (pc := 16) (rest := []) (fun r2 s1 hf => runV [.ref (ad κ 2), .ref (ad κ 2), .int (0 : Int32), .int (0 : Int32)] hC (c_Na_waysFromNN (kl κ) (kW κ) hC.2.2.2.2.2.2.2.2.1 N 10 (0 : Int32) (0 : Int32) σ r2 s1 hf) o_X2_waysFrom k_904 (q0 := 10) (ci := 2) rfl rfl (rm_ok hR rfl) rfl (Nat.le_of_ble_eq_true rfl) dX2_waysToRename_16) (fun r2 s1 => ?_)
    refine r_goto (pc := 19) (tgt := 23) hC dX2_waysToRename_19 (by decide) ?_
    exact r_retOM hC rfl dX2_waysToRename_23
set_option maxRecDepth 100000 in
set_option maxHeartbeats 4000000 in
theorem c_Na_waysToRenameNN (l : Launch) (w : Wenv) (hw : okw w wC) (N : Nat) (σ : Mem) (r : Int32) (τ : Mem) (hf : f_Na_waysToRenameNN N  σ = some (r, τ)) : Ctr l w wC yX2_waysToRename cX2_waysToRename 3 (some .int) 13 333 [.ref (w.2.2.1 10), .ref (w.2.2.1 2), .ref (w.2.2.1 2)] σ (cQi w wC r τ) := mk_ctr (Q := fun κ => qOM κ wC) (lv := [some (.ref (w.2.2.1 10)), some (.ref (w.2.2.1 2)), some (.ref (w.2.2.1 2))]) (by decide) rfl hw (Nat.le_of_ble_eq_true rfl) rfl hf (fun κ h => by subst h; rfl) (fun κ hl h hR hC => by
    subst h
    exact w_Na_waysToRenameNN hR hC N  σ)
-- DuelRound.selves()I (0,) kind OM
def f_D_selves (N : Nat) (σ : Mem) : Option (Int32 × Mem) :=
  if (gI σ 3 0) = (0 : Int32) then
  (some ((-1 : Int32), σ))
  else
  (ob2 (f_Na_waysToRenameNN N σ) fun r2 s1 =>
  some (r2, s1))
set_option maxRecDepth 100000 in
set_option maxHeartbeats 4000000 in
theorem w_D_selves {κ : Ctx} (hR : kR κ = { frames := 14, cells := 0, slots := 0, locals := 355 }) (hC : ok κ wC cX9_selves 1 RX9 (some .int)) (N : Nat) (σ : Mem) : wF κ wC 1 (qOM κ wC) σ 0 [some (.ref (ad κ 0))] [] (f_D_selves N  σ) := by
  unfold f_D_selves
  refine r_aload_n (pc := 0) hC rfl dX9_selves_0 ?_
  refine gC_0_1 (pc := 1) hC k_312 dX9_selves_1 ?_
  refine gC_2_1 (pc := 4) hC k_144 dX9_selves_4 ?_
  refine r_if_ne (pc := 7) (tgt := 12) hC dX9_selves_7 (by decide) ?_ ?_
  · refine r_aload_n (pc := 12) hC rfl dX9_selves_12 ?_
    refine gC_0_9 (pc := 13) hC k_320 dX9_selves_13 ?_
    refine r_aload_n (pc := 16) hC rfl dX9_selves_16 ?_
    refine gC_0_1 (pc := 17) hC k_312 dX9_selves_17 ?_
    refine r_aload_n (pc := 20) hC rfl dX9_selves_20 ?_
    refine gC_0_1 (pc := 21) hC k_312 dX9_selves_21 ?_
    refine r_cOM (pc := 24) (rest := []) (fun r2 s1 hf => runV [.ref (ad κ 2), .ref (ad κ 2)] hC (c_Na_waysToRenameNN (kl κ) (kW κ) hC.2.2.2.2.2.2.2.2.1 N σ r2 s1 hf) o_X2_waysToRename k_900 (q0 := 10) (ci := 2) rfl rfl (rm_ok hR rfl) rfl (Nat.le_of_ble_eq_true rfl) dX9_selves_24) (fun r2 s1 => ?_)
    exact r_retOM hC rfl dX9_selves_27
  · refine r_iconst (pc := 10) hC (v := (-1 : Int32)) (by decide) dX9_selves_10 ?_
    exact r_retOM hC rfl dX9_selves_11
set_option maxRecDepth 100000 in
set_option maxHeartbeats 4000000 in
theorem c_D_selves (l : Launch) (w : Wenv) (hw : okw w wC) (N : Nat) (σ : Mem) (r : Int32) (τ : Mem) (hf : f_D_selves N  σ = some (r, τ)) : Ctr l w wC yX9_selves cX9_selves 1 (some .int) 14 355 [.ref (w.2.2.1 0)] σ (cQi w wC r τ) := mk_ctr (Q := fun κ => qOM κ wC) (lv := [some (.ref (w.2.2.1 0))]) (by decide) rfl hw (Nat.le_of_ble_eq_true rfl) rfl hf (fun κ h => by subst h; rfl) (fun κ hl h hR hC => by
    subst h
    exact w_D_selves hR hC N  σ)
-- DuelRound.set(II)I (0, None, None) kind OM
def f_D_set (N : Nat) (a1 : Int32) (a2 : Int32) (σ : Mem) : Option (Int32 × Mem) :=
  if (gI σ 3 0) = (0 : Int32) then
  (some ((-1 : Int32), σ))
  else
  (if (t_D_isKind a1) = (0 : Int32) then
  (some ((-1 : Int32), σ))
  else
  (if (t_Du_arePlayersN a2 σ) = (0 : Int32) then
  (some ((-1 : Int32), σ))
  else
  (ob2 (f_Se_ofKind N a1 a2 σ) fun r2 s1 =>
  some (r2, s1))))
set_option maxRecDepth 100000 in
set_option maxHeartbeats 4000000 in
theorem w_D_set {κ : Ctx} (hR : kR κ = { frames := 15, cells := 0, slots := 0, locals := 364 }) (hC : ok κ wC cX9_set 3 RX9 (some .int)) (N : Nat) (a1 : Int32) (a2 : Int32) (σ : Mem) : wF κ wC 3 (qOM κ wC) σ 0 [some (.ref (ad κ 0)), some (.int a1), some (.int a2)] [] (f_D_set N a1 a2 σ) := by
  unfold f_D_set
  refine r_aload_n (pc := 0) hC rfl dX9_set_0 ?_
  refine gC_0_1 (pc := 1) hC k_312 dX9_set_1 ?_
  refine gC_2_1 (pc := 4) hC k_144 dX9_set_4 ?_
  refine r_if_eq (pc := 7) (tgt := 28) hC dX9_set_7 (by decide) ?_ ?_
  · refine r_iconst (pc := 28) hC (v := (-1 : Int32)) (by decide) dX9_set_28 ?_
    exact r_retOM hC rfl dX9_set_29
  · refine r_iload_n (pc := 10) hC rfl dX9_set_10 ?_
    refine r_cT (pc := 11) (rest := []) (runS [.int a1] hC (c_D_isKind (kl κ) (kW κ) hC.2.2.2.2.2.2.2.2.1 a1 σ) o_X9_isKind k_498 (rm_ok hR rfl) rfl (Nat.le_of_ble_eq_true rfl) dX9_set_11) ?_
    refine r_if_eq (pc := 14) (tgt := 28) hC dX9_set_14 (by decide) ?_ ?_
    · refine r_iconst (pc := 28) hC (v := (-1 : Int32)) (by decide) dX9_set_28 ?_
      exact r_retOM hC rfl dX9_set_29
    · refine r_aload_n (pc := 17) hC rfl dX9_set_17 ?_
      refine gC_0_1 (pc := 18) hC k_312 dX9_set_18 ?_
      refine r_iload_n (pc := 21) hC rfl dX9_set_21 ?_
      refine r_cT (pc := 22) (rest := []) (runV [.int a2] hC (c_Du_arePlayersN (kl κ) (kW κ) hC.2.2.2.2.2.2.2.2.1 a2 σ) o_X1_arePlayers k_451 (q0 := 2) (ci := 1) rfl rfl (rm_ok hR rfl) rfl (Nat.le_of_ble_eq_true rfl) dX9_set_22) ?_
      refine r_if_ne (pc := 25) (tgt := 30) hC dX9_set_25 (by decide) ?_ ?_
      · refine r_aload_n (pc := 30) hC rfl dX9_set_30 ?_
        refine gC_0_7 (pc := 31) hC k_318 dX9_set_31 ?_
        refine r_iload_n (pc := 34) hC rfl dX9_set_34 ?_
        refine r_iload_n (pc := 35) hC rfl dX9_set_35 ?_
        refine r_cOM (pc := 36) (rest := []) (fun r2 s1 hf => runV [.int a1, .int a2] hC (c_Se_ofKind (kl κ) (kW κ) hC.2.2.2.2.2.2.2.2.1 N a1 a2 σ r2 s1 hf) o_X6_ofKind k_501 (q0 := 8) (ci := 6) rfl rfl (rm_ok hR rfl) rfl (Nat.le_of_ble_eq_true rfl) dX9_set_36) (fun r2 s1 => ?_)
        exact r_retOM hC rfl dX9_set_39
      · refine r_iconst (pc := 28) hC (v := (-1 : Int32)) (by decide) dX9_set_28 ?_
        exact r_retOM hC rfl dX9_set_29
set_option maxRecDepth 100000 in
set_option maxHeartbeats 4000000 in
theorem c_D_set (l : Launch) (w : Wenv) (hw : okw w wC) (N : Nat) (a1 : Int32) (a2 : Int32) (σ : Mem) (r : Int32) (τ : Mem) (hf : f_D_set N a1 a2 σ = some (r, τ)) : Ctr l w wC yX9_set cX9_set 3 (some .int) 15 364 [.ref (w.2.2.1 0), .int a1, .int a2] σ (cQi w wC r τ) := mk_ctr (Q := fun κ => qOM κ wC) (lv := [some (.ref (w.2.2.1 0)), some (.int a1), some (.int a2)]) (by decide) rfl hw (Nat.le_of_ble_eq_true rfl) rfl hf (fun κ h => by subst h; rfl) (fun κ hl h hR hC => by
    subst h
    exact w_D_set hR hC N a1 a2 σ)
-- DuelRound$Signs.addFour(I)I (1, None) kind OM
def Sg_addFour_B17 (a1 : Int32) (self3 : Int32 → Mem → Option (Int32 × Mem)) (i1 : Int32) (s2 : Mem) : Option (Int32 × Mem) :=
  if i1 < (0 : Int32) then
  (some ((gI s2 1 0), s2))
  else
  (gd (inb (gI s2 1 0) 300) (bnd (sI s2 12 (gI s2 1 0).toNatClampNeg (vp_nar .char ((((a1 >>> (i1 &&& 31)) &&& (255 : Int32)).toUInt32 % 65536).toInt32))) fun s4 =>
  bnd (sI s4 1 0 ((gI s4 1 0) + (1 : Int32))) fun s5 =>
  self3 (i1 + (-8 : Int32)) s5))
def f_Sg_addFour (N : Nat) (a1 : Int32) (σ : Mem) : Option (Int32 × Mem) :=
  if ((gI σ 1 0) + (4 : Int32)) ≤ (300 : Int32) then
  (it2 (Sg_addFour_B17 a1) N (24 : Int32) σ)
  else
  (some ((-1 : Int32), σ))
set_option maxRecDepth 100000 in
set_option maxHeartbeats 4000000 in
theorem w_Sg_addFour {κ : Ctx} (hR : kR κ = { frames := 0, cells := 0, slots := 0, locals := 0 }) (hC : ok κ wC cX7_addFour 3 RX7 (some .int)) (N : Nat) (a1 : Int32) (σ : Mem) : wF κ wC 3 (qOM κ wC) σ 0 [some (.ref (ad κ 1)), some (.int a1), none] [] (f_Sg_addFour N a1 σ) := by
  unfold f_Sg_addFour
  refine r_aload_n (pc := 0) hC rfl dX7_addFour_0 ?_
  refine gC_1_1 (pc := 1) hC k_113 dX7_addFour_1 ?_
  refine r_iconst (pc := 4) hC (v := (4 : Int32)) (by decide) dX7_addFour_4 ?_
  refine r_iadd (pc := 5) hC dX7_addFour_5 ?_
  refine r_sipush (pc := 6) hC (v := (300 : Int32)) (by decide) dX7_addFour_6 ?_
  refine r_icmp_le (pc := 9) (tgt := 14) hC dX7_addFour_9 (by decide) ?_ ?_
  · refine r_bipush (pc := 14) hC (v := (24 : Int32)) (by decide) dX7_addFour_14 ?_
    refine r_istore_n (pc := 16) hC rfl rfl dX7_addFour_16 ?_
    refine w_it2 (fun i1 s2 => s2) (fun i1 s2 => [some (.ref (ad κ 1)), some (.int a1), some (.int i1)]) (fun self3 ih17_3 i1 s2 => ?_) N (24 : Int32) σ
    unfold Sg_addFour_B17
    refine r_iload_n (pc := 17) hC rfl dX7_addFour_17 ?_
    refine r_if_lt (pc := 18) (tgt := 54) hC dX7_addFour_18 (by decide) ?_ ?_
    · refine r_aload_n (pc := 54) hC rfl dX7_addFour_54 ?_
      refine gC_1_1 (pc := 55) hC k_113 dX7_addFour_55 ?_
      exact r_retOM hC rfl dX7_addFour_58
    · refine r_aload_n (pc := 21) hC rfl dX7_addFour_21 ?_
      refine gC_1_0 (pc := 22) hC k_112 dX7_addFour_22 ?_
      refine r_aload_n (pc := 25) hC rfl dX7_addFour_25 ?_
      refine gC_1_1 (pc := 26) hC k_113 dX7_addFour_26 ?_
      refine r_iload_n (pc := 29) hC rfl dX7_addFour_29 ?_
      refine r_iload_n (pc := 30) hC rfl dX7_addFour_30 ?_
      refine r_ishr (pc := 31) hC dX7_addFour_31 ?_
      refine r_sipush (pc := 32) hC (v := (255 : Int32)) (by decide) dX7_addFour_32 ?_
      refine r_iand (pc := 35) hC dX7_addFour_35 ?_
      refine r_i2c (pc := 36) hC dX7_addFour_36 ?_
      refine bC_12 (pc := 37) hC dX7_addFour_37 ?_
      refine r_letm (fun s4 => ?_)
      refine r_aload_n (pc := 38) hC rfl dX7_addFour_38 ?_
      refine r_dup (pc := 39) hC rfl dX7_addFour_39 ?_
      refine gC_1_1 (pc := 40) hC k_113 dX7_addFour_40 ?_
      refine r_iconst (pc := 43) hC (v := (1 : Int32)) (by decide) dX7_addFour_43 ?_
      refine r_iadd (pc := 44) hC dX7_addFour_44 ?_
      refine pC_1_1 (pc := 45) hC k_113 dX7_addFour_45 ?_
      refine r_letm (fun s5 => ?_)
      refine r_iinc (pc := 48) hC (v := (-8 : Int32)) rfl (by decide) rfl rfl dX7_addFour_48 ?_
      refine r_goto (pc := 51) (tgt := 17) hC dX7_addFour_51 (by decide) ?_
      exact ih17_3 (i1 + (-8 : Int32)) s5
  · refine r_iconst (pc := 12) hC (v := (-1 : Int32)) (by decide) dX7_addFour_12 ?_
    exact r_retOM hC rfl dX7_addFour_13
set_option maxRecDepth 100000 in
set_option maxHeartbeats 4000000 in
theorem c_Sg_addFour (l : Launch) (w : Wenv) (hw : okw w wC) (N : Nat) (a1 : Int32) (σ : Mem) (r : Int32) (τ : Mem) (hf : f_Sg_addFour N a1 σ = some (r, τ)) : Ctr l w wC yX7_addFour cX7_addFour 3 (some .int) 0 0 [.ref (w.2.2.1 1), .int a1] σ (cQi w wC r τ) := mk_ctr (Q := fun κ => qOM κ wC) (lv := [some (.ref (w.2.2.1 1)), some (.int a1), none]) (by decide) rfl hw (Nat.le_of_ble_eq_true rfl) rfl hf (fun κ h => by subst h; rfl) (fun κ hl h hR hC => by
    subst h
    exact w_Sg_addFour hR hC N a1 σ)
-- DuelRound.sign(I)I (0, None) kind OM
def f_D_sign (N : Nat) (a1 : Int32) (σ : Mem) : Option (Int32 × Mem) :=
  ob2 (f_Sg_addFour N a1 σ) fun r2 s1 =>
  some (r2, s1)
set_option maxRecDepth 100000 in
set_option maxHeartbeats 4000000 in
theorem w_D_sign {κ : Ctx} (hR : kR κ = { frames := 1, cells := 0, slots := 0, locals := 22 }) (hC : ok κ wC cX9_sign 2 RX9 (some .int)) (N : Nat) (a1 : Int32) (σ : Mem) : wF κ wC 2 (qOM κ wC) σ 0 [some (.ref (ad κ 0)), some (.int a1)] [] (f_D_sign N a1 σ) := by
  unfold f_D_sign
  refine r_aload_n (pc := 0) hC rfl dX9_sign_0 ?_
  refine gC_0_0 (pc := 1) hC k_311 dX9_sign_1 ?_
  refine r_iload_n (pc := 4) hC rfl dX9_sign_4 ?_
  refine r_cOM (pc := 5) (rest := []) (fun r2 s1 hf => runV [.int a1] hC (c_Sg_addFour (kl κ) (kW κ) hC.2.2.2.2.2.2.2.2.1 N a1 σ r2 s1 hf) o_X7_addFour k_349 (q0 := 1) (ci := 7) rfl rfl (rm_ok hR rfl) rfl (Nat.le_of_ble_eq_true rfl) dX9_sign_5) (fun r2 s1 => ?_)
  exact r_retOM hC rfl dX9_sign_8
set_option maxRecDepth 100000 in
set_option maxHeartbeats 4000000 in
theorem c_D_sign (l : Launch) (w : Wenv) (hw : okw w wC) (N : Nat) (a1 : Int32) (σ : Mem) (r : Int32) (τ : Mem) (hf : f_D_sign N a1 σ = some (r, τ)) : Ctr l w wC yX9_sign cX9_sign 2 (some .int) 1 22 [.ref (w.2.2.1 0), .int a1] σ (cQi w wC r τ) := mk_ctr (Q := fun κ => qOM κ wC) (lv := [some (.ref (w.2.2.1 0)), some (.int a1)]) (by decide) rfl hw (Nat.le_of_ble_eq_true rfl) rfl hf (fun κ h => by subst h; rfl) (fun κ hl h hR hC => by
    subst h
    exact w_D_sign hR hC N a1 σ)
-- DuelRound.turn(II)I (0, None, None) kind OM
def f_D_turn (N : Nat) (a1 : Int32) (a2 : Int32) (σ : Mem) : Option (Int32 × Mem) :=
  if a1 = a2 then
  (some ((-1 : Int32), σ))
  else
  (if (t_Du_isPlayerN a1 σ) = (0 : Int32) then
  (some ((-2 : Int32), σ))
  else
  (if (t_Du_isPlayerN a2 σ) = (0 : Int32) then
  (some ((-2 : Int32), σ))
  else
  (ob (f_Du_packedN N σ) fun r1 =>
  ob (f_Pa_remember r1 σ) fun s2 =>
  ob (f_Du_flipN a1 a2 s2) fun s3 =>
  ob (f_Du_winnerOfN a1 a2 s3) fun r4 =>
  some (r4, s3))))
set_option maxRecDepth 100000 in
set_option maxHeartbeats 4000000 in
theorem w_D_turn {κ : Ctx} (hR : kR κ = { frames := 2, cells := 0, slots := 0, locals := 82 }) (hC : ok κ wC cX9_turn 3 RX9 (some .int)) (N : Nat) (a1 : Int32) (a2 : Int32) (σ : Mem) : wF κ wC 3 (qOM κ wC) σ 0 [some (.ref (ad κ 0)), some (.int a1), some (.int a2)] [] (f_D_turn N a1 a2 σ) := by
  unfold f_D_turn
  refine r_iload_n (pc := 0) hC rfl dX9_turn_0 ?_
  refine r_iload_n (pc := 1) hC rfl dX9_turn_1 ?_
  refine r_icmp_ne (pc := 2) (tgt := 7) hC dX9_turn_2 (by decide) ?_ ?_
  · refine r_aload_n (pc := 7) hC rfl dX9_turn_7 ?_
    refine gC_0_1 (pc := 8) hC k_312 dX9_turn_8 ?_
    refine r_iload_n (pc := 11) hC rfl dX9_turn_11 ?_
    refine r_cT (pc := 12) (rest := []) (runV [.int a1] hC (c_Du_isPlayerN (kl κ) (kW κ) hC.2.2.2.2.2.2.2.2.1 a1 σ) o_X1_isPlayer k_447 (q0 := 2) (ci := 1) rfl rfl (rm_ok hR rfl) rfl (Nat.le_of_ble_eq_true rfl) dX9_turn_12) ?_
    refine r_if_eq (pc := 15) (tgt := 29) hC dX9_turn_15 (by decide) ?_ ?_
    · refine r_bipush (pc := 29) hC (v := (-2 : Int32)) (by decide) dX9_turn_29 ?_
      exact r_retOM hC rfl dX9_turn_31
    · refine r_aload_n (pc := 18) hC rfl dX9_turn_18 ?_
      refine gC_0_1 (pc := 19) hC k_312 dX9_turn_19 ?_
      refine r_iload_n (pc := 22) hC rfl dX9_turn_22 ?_
      refine r_cT (pc := 23) (rest := []) (runV [.int a2] hC (c_Du_isPlayerN (kl κ) (kW κ) hC.2.2.2.2.2.2.2.2.1 a2 σ) o_X1_isPlayer k_447 (q0 := 2) (ci := 1) rfl rfl (rm_ok hR rfl) rfl (Nat.le_of_ble_eq_true rfl) dX9_turn_23) ?_
      refine r_if_ne (pc := 26) (tgt := 32) hC dX9_turn_26 (by decide) ?_ ?_
      · refine r_aload_n (pc := 32) hC rfl dX9_turn_32 ?_
        refine gC_0_3 (pc := 33) hC k_314 dX9_turn_33 ?_
        refine r_aload_n (pc := 36) hC rfl dX9_turn_36 ?_
        refine gC_0_1 (pc := 37) hC k_312 dX9_turn_37 ?_
        refine r_cL (pc := 40) (rest := [.ref (ad κ 4)]) (fun r1 hf => runV [] hC (c_Du_packedN (kl κ) (kW κ) hC.2.2.2.2.2.2.2.2.1 N σ r1 hf) o_X1_packed k_419 (q0 := 2) (ci := 1) rfl rfl (rm_ok hR rfl) rfl (Nat.le_of_ble_eq_true rfl) dX9_turn_40) (fun r1 => ?_)
        refine r_cM (pc := 43) (rest := []) (fun s2 hf => runV [.long r1] hC (c_Pa_remember (kl κ) (kW κ) hC.2.2.2.2.2.2.2.2.1 r1 σ s2 hf) o_X4_remember k_463 (q0 := 4) (ci := 4) rfl rfl (rm_ok hR rfl) rfl (Nat.le_of_ble_eq_true rfl) dX9_turn_43) (fun s2 => ?_)
        refine r_aload_n (pc := 46) hC rfl dX9_turn_46 ?_
        refine gC_0_1 (pc := 47) hC k_312 dX9_turn_47 ?_
        refine r_iload_n (pc := 50) hC rfl dX9_turn_50 ?_
        refine r_iload_n (pc := 51) hC rfl dX9_turn_51 ?_
        refine r_cM (pc := 52) (rest := []) (fun s3 hf => runV [.int a1, .int a2] hC (c_Du_flipN (kl κ) (kW κ) hC.2.2.2.2.2.2.2.2.1 a1 a2 s2 s3 hf) o_X1_flip k_470 (q0 := 2) (ci := 1) rfl rfl (rm_ok hR rfl) rfl (Nat.le_of_ble_eq_true rfl) dX9_turn_52) (fun s3 => ?_)
        refine r_aload_n (pc := 55) hC rfl dX9_turn_55 ?_
        refine gC_0_1 (pc := 56) hC k_312 dX9_turn_56 ?_
        refine r_iload_n (pc := 59) hC rfl dX9_turn_59 ?_
        refine r_iload_n (pc := 60) hC rfl dX9_turn_60 ?_
        refine r_cO (pc := 61) (rest := []) (fun r4 hf => runV [.int a1, .int a2] hC (c_Du_winnerOfN (kl κ) (kW κ) hC.2.2.2.2.2.2.2.2.1 a1 a2 s3 r4 hf) o_X1_winnerOf k_474 (q0 := 2) (ci := 1) rfl rfl (rm_ok hR rfl) rfl (Nat.le_of_ble_eq_true rfl) dX9_turn_61) (fun r4 => ?_)
        exact r_retOM hC rfl dX9_turn_64
      · refine r_bipush (pc := 29) hC (v := (-2 : Int32)) (by decide) dX9_turn_29 ?_
        exact r_retOM hC rfl dX9_turn_31
  · refine r_iconst (pc := 5) hC (v := (-1 : Int32)) (by decide) dX9_turn_5 ?_
    exact r_retOM hC rfl dX9_turn_6
set_option maxRecDepth 100000 in
set_option maxHeartbeats 4000000 in
theorem c_D_turn (l : Launch) (w : Wenv) (hw : okw w wC) (N : Nat) (a1 : Int32) (a2 : Int32) (σ : Mem) (r : Int32) (τ : Mem) (hf : f_D_turn N a1 a2 σ = some (r, τ)) : Ctr l w wC yX9_turn cX9_turn 3 (some .int) 2 82 [.ref (w.2.2.1 0), .int a1, .int a2] σ (cQi w wC r τ) := mk_ctr (Q := fun κ => qOM κ wC) (lv := [some (.ref (w.2.2.1 0)), some (.int a1), some (.int a2)]) (by decide) rfl hw (Nat.le_of_ble_eq_true rfl) rfl hf (fun κ h => by subst h; rfl) (fun κ hl h hR hC => by
    subst h
    exact w_D_turn hR hC N a1 a2 σ)
-- DuelRound$Past.takeLatest()J (4,) kind LM
def f_Pa_takeLatest (σ : Mem) : Option (Int64 × Mem) :=
  bnd (sI σ 5 0 ((gI σ 5 0) - (1 : Int32))) fun s1 =>
  gd (inb (gI s1 5 0) 10) (some ((gJ s1 15 (gI s1 5 0).toNatClampNeg), s1))
set_option maxRecDepth 100000 in
set_option maxHeartbeats 4000000 in
theorem w_Pa_takeLatest {κ : Ctx} (hR : kR κ = { frames := 0, cells := 0, slots := 0, locals := 0 }) (hC : ok κ wC cX4_takeLatest 1 RX4 (some .long)) (σ : Mem) : wF κ wC 1 (qLM κ wC) σ 0 [some (.ref (ad κ 4))] [] (f_Pa_takeLatest  σ) := by
  unfold f_Pa_takeLatest
  refine r_aload_n (pc := 0) hC rfl dX4_takeLatest_0 ?_
  refine r_dup (pc := 1) hC rfl dX4_takeLatest_1 ?_
  refine gC_4_2 (pc := 2) hC k_161 dX4_takeLatest_2 ?_
  refine r_iconst (pc := 5) hC (v := (1 : Int32)) (by decide) dX4_takeLatest_5 ?_
  refine r_isub (pc := 6) hC dX4_takeLatest_6 ?_
  refine pC_4_2 (pc := 7) hC k_161 dX4_takeLatest_7 ?_
  refine r_letm (fun s1 => ?_)
  refine r_aload_n (pc := 10) hC rfl dX4_takeLatest_10 ?_
  refine gC_4_0 (pc := 11) hC k_158 dX4_takeLatest_11 ?_
  refine r_aload_n (pc := 14) hC rfl dX4_takeLatest_14 ?_
  refine gC_4_2 (pc := 15) hC k_161 dX4_takeLatest_15 ?_
  refine aC_15 (pc := 18) hC dX4_takeLatest_18 ?_
  exact r_retLM hC dX4_takeLatest_19
set_option maxRecDepth 100000 in
set_option maxHeartbeats 4000000 in
theorem c_Pa_takeLatest (l : Launch) (w : Wenv) (hw : okw w wC) (σ : Mem) (r : Int64) (τ : Mem) (hf : f_Pa_takeLatest  σ = some (r, τ)) : Ctr l w wC yX4_takeLatest cX4_takeLatest 1 (some .long) 0 0 [.ref (w.2.2.1 4)] σ (cQl w wC r τ) := mk_ctr (Q := fun κ => qLM κ wC) (lv := [some (.ref (w.2.2.1 4))]) (by decide) rfl hw (Nat.le_of_ble_eq_true rfl) rfl hf (fun κ h => by subst h; rfl) (fun κ hl h hR hC => by
    subst h
    exact w_Pa_takeLatest hR hC  σ)
-- DuelRound.undo()I (0,) kind OM
def f_D_undo (N : Nat) (σ : Mem) : Option (Int32 × Mem) :=
  if (gI σ 3 0) = (0 : Int32) then
  (some ((-2 : Int32), σ))
  else
  (if (gI σ 5 0) = (0 : Int32) then
  (some ((-3 : Int32), σ))
  else
  (ob2 (f_Pa_takeLatest σ) fun r2 s1 =>
  ob (f_Du_unpackN N r2 s1) fun s3 =>
  some ((gI s3 5 0), s3)))
set_option maxRecDepth 100000 in
set_option maxHeartbeats 4000000 in
theorem w_D_undo {κ : Ctx} (hR : kR κ = { frames := 2, cells := 0, slots := 0, locals := 49 }) (hC : ok κ wC cX9_undo 1 RX9 (some .int)) (N : Nat) (σ : Mem) : wF κ wC 1 (qOM κ wC) σ 0 [some (.ref (ad κ 0))] [] (f_D_undo N  σ) := by
  unfold f_D_undo
  refine r_aload_n (pc := 0) hC rfl dX9_undo_0 ?_
  refine gC_0_1 (pc := 1) hC k_312 dX9_undo_1 ?_
  refine gC_2_1 (pc := 4) hC k_144 dX9_undo_4 ?_
  refine r_if_ne (pc := 7) (tgt := 13) hC dX9_undo_7 (by decide) ?_ ?_
  · refine r_aload_n (pc := 13) hC rfl dX9_undo_13 ?_
    refine gC_0_3 (pc := 14) hC k_314 dX9_undo_14 ?_
    refine gC_4_2 (pc := 17) hC k_162 dX9_undo_17 ?_
    refine r_if_ne (pc := 20) (tgt := 26) hC dX9_undo_20 (by decide) ?_ ?_
    · refine r_aload_n (pc := 26) hC rfl dX9_undo_26 ?_
      refine gC_0_1 (pc := 27) hC k_312 dX9_undo_27 ?_
      refine r_aload_n (pc := 30) hC rfl dX9_undo_30 ?_
      refine gC_0_3 (pc := 31) hC k_314 dX9_undo_31 ?_
      refine r_cLM (pc := 34) (rest := [.ref (ad κ 2)]) (fun r2 s1 hf => runV [] hC (c_Pa_takeLatest (kl κ) (kW κ) hC.2.2.2.2.2.2.2.2.1 σ r2 s1 hf) o_X4_takeLatest k_918 (q0 := 4) (ci := 4) rfl rfl (rm_ok hR rfl) rfl (Nat.le_of_ble_eq_true rfl) dX9_undo_34) (fun r2 s1 => ?_)
      refine r_cM (pc := 37) (rest := []) (fun s3 hf => runV [.long r2] hC (c_Du_unpackN (kl κ) (kW κ) hC.2.2.2.2.2.2.2.2.1 N r2 s1 s3 hf) o_X1_unpack k_426 (q0 := 2) (ci := 1) rfl rfl (rm_ok hR rfl) rfl (Nat.le_of_ble_eq_true rfl) dX9_undo_37) (fun s3 => ?_)
      refine r_aload_n (pc := 40) hC rfl dX9_undo_40 ?_
      refine gC_0_3 (pc := 41) hC k_314 dX9_undo_41 ?_
      refine gC_4_2 (pc := 44) hC k_162 dX9_undo_44 ?_
      exact r_retOM hC rfl dX9_undo_47
    · refine r_bipush (pc := 23) hC (v := (-3 : Int32)) (by decide) dX9_undo_23 ?_
      exact r_retOM hC rfl dX9_undo_25
  · refine r_bipush (pc := 10) hC (v := (-2 : Int32)) (by decide) dX9_undo_10 ?_
    exact r_retOM hC rfl dX9_undo_12
set_option maxRecDepth 100000 in
set_option maxHeartbeats 4000000 in
theorem c_D_undo (l : Launch) (w : Wenv) (hw : okw w wC) (N : Nat) (σ : Mem) (r : Int32) (τ : Mem) (hf : f_D_undo N  σ = some (r, τ)) : Ctr l w wC yX9_undo cX9_undo 1 (some .int) 2 49 [.ref (w.2.2.1 0)] σ (cQi w wC r τ) := mk_ctr (Q := fun κ => qOM κ wC) (lv := [some (.ref (w.2.2.1 0))]) (by decide) rfl hw (Nat.le_of_ble_eq_true rfl) rfl hf (fun κ h => by subst h; rfl) (fun κ hl h hR hC => by
    subst h
    exact w_D_undo hR hC N  σ)
-- DuelRound.weight(II)I (0, None, None) kind OM
def f_D_weight (N : Nat) (a1 : Int32) (a2 : Int32) (σ : Mem) : Option (Int32 × Mem) :=
  if (t_Du_isPlayerN a1 σ) = (0 : Int32) then
  (some ((-2147483648 : Int32), σ))
  else
  (if a2 < (0 : Int32) then
  (some ((-2147483648 : Int32), σ))
  else
  (if a2 ≤ (1 : Int32) then
  (ob2 (f_We_balance N (t_Du_everybodyN σ) σ) fun r2 s1 =>
  if a2 = (0 : Int32) then
  (gd (inb a1 8) (some ((gI s1 19 a1.toNatClampNeg), s1)))
  else
  (ob (f_We_gainOfS N a1 s1) fun r3 =>
  some (r3, s1)))
  else
  (some ((-2147483648 : Int32), σ))))
set_option maxRecDepth 100000 in
set_option maxHeartbeats 4000000 in
theorem w_D_weight {κ : Ctx} (hR : kR κ = { frames := 5, cells := 0, slots := 0, locals := 113 }) (hC : ok κ wC cX9_weight 3 RX9 (some .int)) (N : Nat) (a1 : Int32) (a2 : Int32) (σ : Mem) : wF κ wC 3 (qOM κ wC) σ 0 [some (.ref (ad κ 0)), some (.int a1), some (.int a2)] [] (f_D_weight N a1 a2 σ) := by
  unfold f_D_weight
  refine r_aload_n (pc := 0) hC rfl dX9_weight_0 ?_
  refine gC_0_1 (pc := 1) hC k_312 dX9_weight_1 ?_
  refine r_iload_n (pc := 4) hC rfl dX9_weight_4 ?_
  refine r_cT (pc := 5) (rest := []) (runV [.int a1] hC (c_Du_isPlayerN (kl κ) (kW κ) hC.2.2.2.2.2.2.2.2.1 a1 σ) o_X1_isPlayer k_447 (q0 := 2) (ci := 1) rfl rfl (rm_ok hR rfl) rfl (Nat.le_of_ble_eq_true rfl) dX9_weight_5) ?_
  refine r_if_eq (pc := 8) (tgt := 20) hC dX9_weight_8 (by decide) ?_ ?_
  · refine r_ldc (pc := 20) hC (v := (-2147483648 : Int32)) k_710 dX9_weight_20 ?_
    exact r_retOM hC rfl dX9_weight_22
  · refine r_iload_n (pc := 11) hC rfl dX9_weight_11 ?_
    refine r_if_lt (pc := 12) (tgt := 20) hC dX9_weight_12 (by decide) ?_ ?_
    · refine r_ldc (pc := 20) hC (v := (-2147483648 : Int32)) k_710 dX9_weight_20 ?_
      exact r_retOM hC rfl dX9_weight_22
    · refine r_iload_n (pc := 15) hC rfl dX9_weight_15 ?_
      refine r_iconst (pc := 16) hC (v := (1 : Int32)) (by decide) dX9_weight_16 ?_
      refine r_icmp_le (pc := 17) (tgt := 23) hC dX9_weight_17 (by decide) ?_ ?_
      · refine r_aload_n (pc := 23) hC rfl dX9_weight_23 ?_
        refine gC_0_5 (pc := 24) hC k_316 dX9_weight_24 ?_
        refine r_aload_n (pc := 27) hC rfl dX9_weight_27 ?_
        refine gC_0_1 (pc := 28) hC k_312 dX9_weight_28 ?_
        refine r_cT (pc := 31) (rest := [.ref (ad κ 6)]) (runV [] hC (c_Du_everybodyN (kl κ) (kW κ) hC.2.2.2.2.2.2.2.2.1 σ) o_X1_everybody k_659 (q0 := 2) (ci := 1) rfl rfl (rm_ok hR rfl) rfl (Nat.le_of_ble_eq_true rfl) dX9_weight_31) ?_
        refine r_cOM (pc := 34) (rest := []) (fun r2 s1 hf => runV [.int (t_Du_everybodyN σ)] hC (c_We_balance (kl κ) (kW κ) hC.2.2.2.2.2.2.2.2.1 N (t_Du_everybodyN σ) σ r2 s1 hf) o_X8_balance k_711 (q0 := 6) (ci := 8) rfl rfl (rm_ok hR rfl) rfl (Nat.le_of_ble_eq_true rfl) dX9_weight_34) (fun r2 s1 => ?_)
        refine r_pop (pc := 37) hC rfl dX9_weight_37 ?_
        refine r_iload_n (pc := 38) hC rfl dX9_weight_38 ?_
        refine r_if_ne (pc := 39) (tgt := 54) hC dX9_weight_39 (by decide) ?_ ?_
        · refine r_aload_n (pc := 54) hC rfl dX9_weight_54 ?_
          refine gC_0_5 (pc := 55) hC k_316 dX9_weight_55 ?_
          refine r_iload_n (pc := 58) hC rfl dX9_weight_58 ?_
          refine r_aload_n (pc := 59) hC rfl dX9_weight_59 ?_
          refine gC_0_5 (pc := 60) hC k_316 dX9_weight_60 ?_
          refine gC_6_1 (pc := 63) hC k_196 dX9_weight_63 ?_
          refine r_cO (pc := 66) (rest := []) (fun r3 hf => runV [.int a1, .ref (ad κ 19)] hC (c_We_gainOfS (kl κ) (kW κ) hC.2.2.2.2.2.2.2.2.1 N a1 s1 r3 hf) o_X8_gainOf k_712 (q0 := 6) (ci := 8) rfl rfl (rm_ok hR rfl) rfl (Nat.le_of_ble_eq_true rfl) dX9_weight_66) (fun r3 => ?_)
          exact r_retOM hC rfl dX9_weight_69
        · refine r_aload_n (pc := 42) hC rfl dX9_weight_42 ?_
          refine gC_0_5 (pc := 43) hC k_316 dX9_weight_43 ?_
          refine gC_6_1 (pc := 46) hC k_196 dX9_weight_46 ?_
          refine r_iload_n (pc := 49) hC rfl dX9_weight_49 ?_
          refine aC_19 (pc := 50) hC dX9_weight_50 ?_
          refine r_goto (pc := 51) (tgt := 69) hC dX9_weight_51 (by decide) ?_
          exact r_retOM hC rfl dX9_weight_69
      · refine r_ldc (pc := 20) hC (v := (-2147483648 : Int32)) k_710 dX9_weight_20 ?_
        exact r_retOM hC rfl dX9_weight_22
set_option maxRecDepth 100000 in
set_option maxHeartbeats 4000000 in
theorem c_D_weight (l : Launch) (w : Wenv) (hw : okw w wC) (N : Nat) (a1 : Int32) (a2 : Int32) (σ : Mem) (r : Int32) (τ : Mem) (hf : f_D_weight N a1 a2 σ = some (r, τ)) : Ctr l w wC yX9_weight cX9_weight 3 (some .int) 5 113 [.ref (w.2.2.1 0), .int a1, .int a2] σ (cQi w wC r τ) := mk_ctr (Q := fun κ => qOM κ wC) (lv := [some (.ref (w.2.2.1 0)), some (.int a1), some (.int a2)]) (by decide) rfl hw (Nat.le_of_ble_eq_true rfl) rfl hf (fun κ h => by subst h; rfl) (fun κ hl h hR hC => by
    subst h
    exact w_D_weight hR hC N a1 a2 σ)
-- DuelRound$Cups.playWithFirst(I)I (7, None) kind OM
def Cu_playWithFirst_K95 (s6 : Mem) : Option (Int32 × Mem) :=
  some ((gI s6 21 (0 : Int32).toNatClampNeg), s6)
def Cu_playWithFirst_B42 (i7 : Int32) (self9 : Int32 → Mem → Option (Int32 × Mem)) (self12 : Int32 → Mem → Option (Int32 × Mem)) (i10 : Int32) (s11 : Mem) : Option (Int32 × Mem) :=
  if i7 ≤ i10 then
  (bnd (i7 / (2 : Int32)) fun x13 =>
  self9 x13 s11)
  else
  (gd (inb ((2 : Int32) * i10) 8) (gd (inb (((2 : Int32) * i10) + (1 : Int32)) 8) (ob (f_Du_winnerOfN (gI s11 21 ((2 : Int32) * i10).toNatClampNeg) (gI s11 21 (((2 : Int32) * i10) + (1 : Int32)).toNatClampNeg) s11) fun r14 =>
  gd (inb i10 8) (bnd (sI s11 21 i10.toNatClampNeg r14) fun s15 =>
  self12 (i10 + (1 : Int32)) s15))))
def Cu_playWithFirst_B34 (N : Nat) (self9 : Int32 → Mem → Option (Int32 × Mem)) (i7 : Int32) (s8 : Mem) : Option (Int32 × Mem) :=
  if i7 < (1 : Int32) then
  (Cu_playWithFirst_K95 s8)
  else
  (it2 (Cu_playWithFirst_B42 i7 self9) N (0 : Int32) s8)
def f_Cu_playWithFirst (N : Nat) (a1 : Int32) (σ : Mem) : Option (Int32 × Mem) :=
  ob2 (f_Cu_putIntoRow N a1 (0 : Int32) σ) fun r2 s1 =>
  ob2 (f_Cu_putIntoRow N ((t_Du_everybodyN s1) &&& (a1 ^^^ (-1 : Int32))) r2 s1) fun r4 s3 =>
  bnd ((gI s3 3 0) / (2 : Int32)) fun x5 =>
  it2 (Cu_playWithFirst_B34 N) N x5 s3
set_option maxRecDepth 100000 in
set_option maxHeartbeats 4000000 in
theorem w_Cu_playWithFirst {κ : Ctx} (hR : kR κ = { frames := 2, cells := 0, slots := 0, locals := 45 }) (hC : ok κ wC cX0_playWithFirst 5 RX0 (some .int)) (N : Nat) (a1 : Int32) (σ : Mem) : wF κ wC 5 (qOM κ wC) σ 0 [some (.ref (ad κ 7)), some (.int a1), none, none, none] [] (f_Cu_playWithFirst N a1 σ) := by
  unfold f_Cu_playWithFirst
  refine r_aload_n (pc := 0) hC rfl dX0_playWithFirst_0 ?_
  refine r_iload_n (pc := 1) hC rfl dX0_playWithFirst_1 ?_
  refine r_iconst (pc := 2) hC (v := (0 : Int32)) (by decide) dX0_playWithFirst_2 ?_
  refine r_cOM (pc := 3) (rest := []) (fun r2 s1 hf => runV [.int a1, .int (0 : Int32)] hC (c_Cu_putIntoRow (kl κ) (kW κ) hC.2.2.2.2.2.2.2.2.1 N a1 (0 : Int32) σ r2 s1 hf) o_X0_putIntoRow k_633 (q0 := 7) (ci := 0) rfl rfl (rm_ok hR rfl) rfl (Nat.le_of_ble_eq_true rfl) dX0_playWithFirst_3) (fun r2 s1 => ?_)
  refine r_istore_n (pc := 6) hC rfl rfl dX0_playWithFirst_6 ?_
  refine r_aload_n (pc := 7) hC rfl dX0_playWithFirst_7 ?_
  refine r_aload_n (pc := 8) hC rfl dX0_playWithFirst_8 ?_
  refine gC_7_0 (pc := 9) hC k_211 dX0_playWithFirst_9 ?_
  refine r_cT (pc := 12) (rest := [.ref (ad κ 7)]) (runV [] hC (c_Du_everybodyN (kl κ) (kW κ) hC.2.2.2.2.2.2.2.2.1 s1) o_X1_everybody k_739 (q0 := 2) (ci := 1) rfl rfl (rm_ok hR rfl) rfl (Nat.le_of_ble_eq_true rfl) dX0_playWithFirst_12) ?_
  refine r_iload_n (pc := 15) hC rfl dX0_playWithFirst_15 ?_
  refine r_iconst (pc := 16) hC (v := (-1 : Int32)) (by decide) dX0_playWithFirst_16 ?_
  refine r_ixor (pc := 17) hC dX0_playWithFirst_17 ?_
  refine r_iand (pc := 18) hC dX0_playWithFirst_18 ?_
  refine r_iload_n (pc := 19) hC rfl dX0_playWithFirst_19 ?_
  refine r_cOM (pc := 20) (rest := []) (fun r4 s3 hf => runV [.int ((t_Du_everybodyN s1) &&& (a1 ^^^ (-1 : Int32))), .int r2] hC (c_Cu_putIntoRow (kl κ) (kW κ) hC.2.2.2.2.2.2.2.2.1 N ((t_Du_everybodyN s1) &&& (a1 ^^^ (-1 : Int32))) r2 s1 r4 s3 hf) o_X0_putIntoRow k_633 (q0 := 7) (ci := 0) rfl rfl (rm_ok hR rfl) rfl (Nat.le_of_ble_eq_true rfl) dX0_playWithFirst_20) (fun r4 s3 => ?_)
  refine r_pop (pc := 23) hC rfl dX0_playWithFirst_23 ?_
  refine r_aload_n (pc := 24) hC rfl dX0_playWithFirst_24 ?_
  refine gC_7_0 (pc := 25) hC k_211 dX0_playWithFirst_25 ?_
  refine gC_2_1 (pc := 28) hC k_142 dX0_playWithFirst_28 ?_
  refine r_iconst (pc := 31) hC (v := (2 : Int32)) (by decide) dX0_playWithFirst_31 ?_
  refine r_idiv (pc := 32) hC (by decide) dX0_playWithFirst_32 ?_
  refine r_let (fun x5 => ?_)
  refine r_istore_n (pc := 33) hC rfl rfl dX0_playWithFirst_33 ?_
  have hK95_6 : ∀ (s6 : Mem), wF κ wC 5 (qOM κ wC) s6 95 [some (.ref (ad κ 7)), none, none, none, none] [] (Cu_playWithFirst_K95 s6) := by
    intro s6
    unfold Cu_playWithFirst_K95
    refine r_aload_n (pc := 95) hC rfl dX0_playWithFirst_95 ?_
    refine gC_7_1 (pc := 96) hC k_212 dX0_playWithFirst_96 ?_
    refine r_iconst (pc := 99) hC (v := (0 : Int32)) (by decide) dX0_playWithFirst_99 ?_
    refine r_ung (b := inb (0 : Int32) 8) (by decide) ?_
    refine aC_21 (pc := 100) hC dX0_playWithFirst_100 ?_
    exact r_retOM hC rfl dX0_playWithFirst_101
  refine r_wk [true, false, false, true, false] (w_it2 (fun i7 s8 => s8) (fun i7 s8 => [some (.ref (ad κ 7)), none, none, some (.int i7), none]) (fun self9 ih34_9 i7 s8 => ?_) N x5 s3)
  unfold Cu_playWithFirst_B34
  refine r_iload_n (pc := 34) hC rfl dX0_playWithFirst_34 ?_
  refine r_iconst (pc := 35) hC (v := (1 : Int32)) (by decide) dX0_playWithFirst_35 ?_
  refine r_icmp_lt (pc := 36) (tgt := 95) hC dX0_playWithFirst_36 (by decide) ?_ ?_
  · exact r_wk [true, false, false, false, false] (hK95_6 s8)
  · refine r_iconst (pc := 39) hC (v := (0 : Int32)) (by decide) dX0_playWithFirst_39 ?_
    refine r_istore (pc := 40) hC rfl rfl dX0_playWithFirst_40 ?_
    refine w_it2 (fun i10 s11 => s11) (fun i10 s11 => [some (.ref (ad κ 7)), none, none, some (.int i7), some (.int i10)]) (fun self12 ih42_12 i10 s11 => ?_) N (0 : Int32) s8
    unfold Cu_playWithFirst_B42
    refine r_iload (pc := 42) hC rfl dX0_playWithFirst_42 ?_
    refine r_iload_n (pc := 44) hC rfl dX0_playWithFirst_44 ?_
    refine r_icmp_ge (pc := 45) (tgt := 88) hC dX0_playWithFirst_45 (by decide) ?_ ?_
    · refine r_iload_n (pc := 88) hC rfl dX0_playWithFirst_88 ?_
      refine r_iconst (pc := 89) hC (v := (2 : Int32)) (by decide) dX0_playWithFirst_89 ?_
      refine r_idiv (pc := 90) hC (by decide) dX0_playWithFirst_90 ?_
      refine r_let (fun x13 => ?_)
      refine r_istore_n (pc := 91) hC rfl rfl dX0_playWithFirst_91 ?_
      refine r_goto (pc := 92) (tgt := 34) hC dX0_playWithFirst_92 (by decide) ?_
      exact r_wk [true, false, false, true, false] (ih34_9 x13 s11)
    · refine r_aload_n (pc := 48) hC rfl dX0_playWithFirst_48 ?_
      refine gC_7_1 (pc := 49) hC k_212 dX0_playWithFirst_49 ?_
      refine r_iload (pc := 52) hC rfl dX0_playWithFirst_52 ?_
      refine r_aload_n (pc := 54) hC rfl dX0_playWithFirst_54 ?_
      refine gC_7_0 (pc := 55) hC k_211 dX0_playWithFirst_55 ?_
      refine r_aload_n (pc := 58) hC rfl dX0_playWithFirst_58 ?_
      refine gC_7_1 (pc := 59) hC k_212 dX0_playWithFirst_59 ?_
      refine r_iconst (pc := 62) hC (v := (2 : Int32)) (by decide) dX0_playWithFirst_62 ?_
      refine r_iload (pc := 63) hC rfl dX0_playWithFirst_63 ?_
      refine r_imul (pc := 65) hC dX0_playWithFirst_65 ?_
      refine aC_21 (pc := 66) hC dX0_playWithFirst_66 ?_
      refine r_aload_n (pc := 67) hC rfl dX0_playWithFirst_67 ?_
      refine gC_7_1 (pc := 68) hC k_212 dX0_playWithFirst_68 ?_
      refine r_iconst (pc := 71) hC (v := (2 : Int32)) (by decide) dX0_playWithFirst_71 ?_
      refine r_iload (pc := 72) hC rfl dX0_playWithFirst_72 ?_
      refine r_imul (pc := 74) hC dX0_playWithFirst_74 ?_
      refine r_iconst (pc := 75) hC (v := (1 : Int32)) (by decide) dX0_playWithFirst_75 ?_
      refine r_iadd (pc := 76) hC dX0_playWithFirst_76 ?_
      refine aC_21 (pc := 77) hC dX0_playWithFirst_77 ?_
      refine r_cO (pc := 78) (rest := [.int i10, .ref (ad κ 21)]) (fun r14 hf => runV [.int (gI s11 21 ((2 : Int32) * i10).toNatClampNeg), .int (gI s11 21 (((2 : Int32) * i10) + (1 : Int32)).toNatClampNeg)] hC (c_Du_winnerOfN (kl κ) (kW κ) hC.2.2.2.2.2.2.2.2.1 (gI s11 21 ((2 : Int32) * i10).toNatClampNeg) (gI s11 21 (((2 : Int32) * i10) + (1 : Int32)).toNatClampNeg) s11 r14 hf) o_X1_winnerOf k_638 (q0 := 2) (ci := 1) rfl rfl (rm_ok hR rfl) rfl (Nat.le_of_ble_eq_true rfl) dX0_playWithFirst_78) (fun r14 => ?_)
      refine bC_21 (pc := 81) hC dX0_playWithFirst_81 ?_
      refine r_letm (fun s15 => ?_)
      refine r_iinc (pc := 82) hC (v := (1 : Int32)) rfl (by decide) rfl rfl dX0_playWithFirst_82 ?_
      refine r_goto (pc := 85) (tgt := 42) hC dX0_playWithFirst_85 (by decide) ?_
      exact ih42_12 (i10 + (1 : Int32)) s15
set_option maxRecDepth 100000 in
set_option maxHeartbeats 4000000 in
theorem c_Cu_playWithFirst (l : Launch) (w : Wenv) (hw : okw w wC) (N : Nat) (a1 : Int32) (σ : Mem) (r : Int32) (τ : Mem) (hf : f_Cu_playWithFirst N a1 σ = some (r, τ)) : Ctr l w wC yX0_playWithFirst cX0_playWithFirst 5 (some .int) 2 45 [.ref (w.2.2.1 7), .int a1] σ (cQi w wC r τ) := mk_ctr (Q := fun κ => qOM κ wC) (lv := [some (.ref (w.2.2.1 7)), some (.int a1), none, none, none]) (by decide) rfl hw (Nat.le_of_ble_eq_true rfl) rfl hf (fun κ h => by subst h; rfl) (fun κ hl h hR hC => by
    subst h
    exact w_Cu_playWithFirst hR hC N a1 σ)
-- DuelRound.winner(I)I (0, None) kind OM
def f_D_winner (N : Nat) (a1 : Int32) (σ : Mem) : Option (Int32 × Mem) :=
  if (gI σ 3 0) = (0 : Int32) then
  (some ((-1 : Int32), σ))
  else
  (if (t_Du_arePlayersN a1 σ) = (0 : Int32) then
  (some ((-1 : Int32), σ))
  else
  (if (t_Cu_fits (gI σ 3 0)) = (0 : Int32) then
  (some ((-3 : Int32), σ))
  else
  (ob2 (f_Cu_playWithFirst N a1 σ) fun r2 s1 =>
  some (r2, s1))))
set_option maxRecDepth 100000 in
set_option maxHeartbeats 4000000 in
theorem w_D_winner {κ : Ctx} (hR : kR κ = { frames := 3, cells := 0, slots := 0, locals := 69 }) (hC : ok κ wC cX9_winner 2 RX9 (some .int)) (N : Nat) (a1 : Int32) (σ : Mem) : wF κ wC 2 (qOM κ wC) σ 0 [some (.ref (ad κ 0)), some (.int a1)] [] (f_D_winner N a1 σ) := by
  unfold f_D_winner
  refine r_aload_n (pc := 0) hC rfl dX9_winner_0 ?_
  refine gC_0_1 (pc := 1) hC k_312 dX9_winner_1 ?_
  refine gC_2_1 (pc := 4) hC k_144 dX9_winner_4 ?_
  refine r_if_eq (pc := 7) (tgt := 21) hC dX9_winner_7 (by decide) ?_ ?_
  · refine r_iconst (pc := 21) hC (v := (-1 : Int32)) (by decide) dX9_winner_21 ?_
    exact r_retOM hC rfl dX9_winner_22
  · refine r_aload_n (pc := 10) hC rfl dX9_winner_10 ?_
    refine gC_0_1 (pc := 11) hC k_312 dX9_winner_11 ?_
    refine r_iload_n (pc := 14) hC rfl dX9_winner_14 ?_
    refine r_cT (pc := 15) (rest := []) (runV [.int a1] hC (c_Du_arePlayersN (kl κ) (kW κ) hC.2.2.2.2.2.2.2.2.1 a1 σ) o_X1_arePlayers k_451 (q0 := 2) (ci := 1) rfl rfl (rm_ok hR rfl) rfl (Nat.le_of_ble_eq_true rfl) dX9_winner_15) ?_
    refine r_if_ne (pc := 18) (tgt := 23) hC dX9_winner_18 (by decide) ?_ ?_
    · refine r_aload_n (pc := 23) hC rfl dX9_winner_23 ?_
      refine gC_0_6 (pc := 24) hC k_317 dX9_winner_24 ?_
      refine r_aload_n (pc := 27) hC rfl dX9_winner_27 ?_
      refine gC_0_1 (pc := 28) hC k_312 dX9_winner_28 ?_
      refine gC_2_1 (pc := 31) hC k_144 dX9_winner_31 ?_
      refine r_cT (pc := 34) (rest := []) (runV [.int (gI σ 3 0)] hC (c_Cu_fits (kl κ) (kW κ) hC.2.2.2.2.2.2.2.2.1 (gI σ 3 0) σ) o_X0_fits k_731 (q0 := 7) (ci := 0) rfl rfl (rm_ok hR rfl) rfl (Nat.le_of_ble_eq_true rfl) dX9_winner_34) ?_
      refine r_if_ne (pc := 37) (tgt := 43) hC dX9_winner_37 (by decide) ?_ ?_
      · refine r_aload_n (pc := 43) hC rfl dX9_winner_43 ?_
        refine gC_0_6 (pc := 44) hC k_317 dX9_winner_44 ?_
        refine r_iload_n (pc := 47) hC rfl dX9_winner_47 ?_
        refine r_cOM (pc := 48) (rest := []) (fun r2 s1 hf => runV [.int a1] hC (c_Cu_playWithFirst (kl κ) (kW κ) hC.2.2.2.2.2.2.2.2.1 N a1 σ r2 s1 hf) o_X0_playWithFirst k_768 (q0 := 7) (ci := 0) rfl rfl (rm_ok hR rfl) rfl (Nat.le_of_ble_eq_true rfl) dX9_winner_48) (fun r2 s1 => ?_)
        exact r_retOM hC rfl dX9_winner_51
      · refine r_bipush (pc := 40) hC (v := (-3 : Int32)) (by decide) dX9_winner_40 ?_
        exact r_retOM hC rfl dX9_winner_42
    · refine r_iconst (pc := 21) hC (v := (-1 : Int32)) (by decide) dX9_winner_21 ?_
      exact r_retOM hC rfl dX9_winner_22
set_option maxRecDepth 100000 in
set_option maxHeartbeats 4000000 in
theorem c_D_winner (l : Launch) (w : Wenv) (hw : okw w wC) (N : Nat) (a1 : Int32) (σ : Mem) (r : Int32) (τ : Mem) (hf : f_D_winner N a1 σ = some (r, τ)) : Ctr l w wC yX9_winner cX9_winner 2 (some .int) 3 69 [.ref (w.2.2.1 0), .int a1] σ (cQi w wC r τ) := mk_ctr (Q := fun κ => qOM κ wC) (lv := [some (.ref (w.2.2.1 0)), some (.int a1)]) (by decide) rfl hw (Nat.le_of_ble_eq_true rfl) rfl hf (fun κ h => by subst h; rfl) (fun κ hl h hR hC => by
    subst h
    exact w_D_winner hR hC N a1 σ)
-- DuelRound.countWithin()I (0,) kind O
def D_countWithin_B12 (σ : Mem) (i2 : Int32) (self3 : Int32 → Int32 → Option Int32) (self6 : Int32 → Int32 → Option Int32) (i4 : Int32) (i5 : Int32) : Option Int32 :=
  if (9 : Int32) ≤ i5 then
  (self3 i4 (i2 + (1 : Int32)))
  else
  (if i2 = i5 then
  (self6 i4 (i5 + (1 : Int32)))
  else
  (gd (inb i2 9) (gd (inb i5 9) (if ((gI σ 11 i2.toNatClampNeg) &&& ((gI σ 11 i5.toNatClampNeg) ^^^ (-1 : Int32))) = (0 : Int32) then
  (self6 (i4 + (1 : Int32)) (i5 + (1 : Int32)))
  else
  (self6 i4 (i5 + (1 : Int32)))))))
def D_countWithin_B4 (N : Nat) (σ : Mem) (self3 : Int32 → Int32 → Option Int32) (i1 : Int32) (i2 : Int32) : Option Int32 :=
  if (9 : Int32) ≤ i2 then
  (some i1)
  else
  (it2 (D_countWithin_B12 σ i2 self3) N i1 (0 : Int32))
def f_D_countWithin (N : Nat) (σ : Mem) : Option Int32 :=
  it2 (D_countWithin_B4 N σ) N (0 : Int32) (0 : Int32)
set_option maxRecDepth 100000 in
set_option maxHeartbeats 4000000 in
theorem w_D_countWithin {κ : Ctx} (hR : kR κ = { frames := 0, cells := 0, slots := 0, locals := 0 }) (hC : ok κ wC cX9_countWithin 4 RX9 (some .int)) (N : Nat) (σ : Mem) : wF κ wC 4 (qO κ wC σ) σ 0 [some (.ref (ad κ 0)), none, none, none] [] (f_D_countWithin N  σ) := by
  unfold f_D_countWithin
  refine r_iconst (pc := 0) hC (v := (0 : Int32)) (by decide) dX9_countWithin_0 ?_
  refine r_istore_n (pc := 1) hC rfl rfl dX9_countWithin_1 ?_
  refine r_iconst (pc := 2) hC (v := (0 : Int32)) (by decide) dX9_countWithin_2 ?_
  refine r_istore_n (pc := 3) hC rfl rfl dX9_countWithin_3 ?_
  refine w_it2 (fun i1 i2 => σ) (fun i1 i2 => [some (.ref (ad κ 0)), some (.int i1), some (.int i2), none]) (fun self3 ih4_3 i1 i2 => ?_) N (0 : Int32) (0 : Int32)
  unfold D_countWithin_B4
  refine r_iload_n (pc := 4) hC rfl dX9_countWithin_4 ?_
  refine r_bipush (pc := 5) hC (v := (9 : Int32)) (by decide) dX9_countWithin_5 ?_
  refine r_icmp_ge (pc := 7) (tgt := 56) hC dX9_countWithin_7 (by decide) ?_ ?_
  · refine r_iload_n (pc := 56) hC rfl dX9_countWithin_56 ?_
    exact r_retO hC rfl dX9_countWithin_57
  · refine r_iconst (pc := 10) hC (v := (0 : Int32)) (by decide) dX9_countWithin_10 ?_
    refine r_istore_n (pc := 11) hC rfl rfl dX9_countWithin_11 ?_
    refine w_it2 (fun i4 i5 => σ) (fun i4 i5 => [some (.ref (ad κ 0)), some (.int i4), some (.int i2), some (.int i5)]) (fun self6 ih12_6 i4 i5 => ?_) N i1 (0 : Int32)
    unfold D_countWithin_B12
    refine r_iload_n (pc := 12) hC rfl dX9_countWithin_12 ?_
    refine r_bipush (pc := 13) hC (v := (9 : Int32)) (by decide) dX9_countWithin_13 ?_
    refine r_icmp_ge (pc := 15) (tgt := 50) hC dX9_countWithin_15 (by decide) ?_ ?_
    · refine r_iinc (pc := 50) hC (v := (1 : Int32)) rfl (by decide) rfl rfl dX9_countWithin_50 ?_
      refine r_goto (pc := 53) (tgt := 4) hC dX9_countWithin_53 (by decide) ?_
      exact r_wk [true, true, true, false] (ih4_3 i4 (i2 + (1 : Int32)))
    · refine r_iload_n (pc := 18) hC rfl dX9_countWithin_18 ?_
      refine r_iload_n (pc := 19) hC rfl dX9_countWithin_19 ?_
      refine r_icmp_eq (pc := 20) (tgt := 44) hC dX9_countWithin_20 (by decide) ?_ ?_
      · refine r_iinc (pc := 44) hC (v := (1 : Int32)) rfl (by decide) rfl rfl dX9_countWithin_44 ?_
        refine r_goto (pc := 47) (tgt := 12) hC dX9_countWithin_47 (by decide) ?_
        exact ih12_6 i4 (i5 + (1 : Int32))
      · refine r_aload_n (pc := 23) hC rfl dX9_countWithin_23 ?_
        refine gC_0_10 (pc := 24) hC k_321 dX9_countWithin_24 ?_
        refine r_iload_n (pc := 27) hC rfl dX9_countWithin_27 ?_
        refine aC_11 (pc := 28) hC dX9_countWithin_28 ?_
        refine r_aload_n (pc := 29) hC rfl dX9_countWithin_29 ?_
        refine gC_0_10 (pc := 30) hC k_321 dX9_countWithin_30 ?_
        refine r_iload_n (pc := 33) hC rfl dX9_countWithin_33 ?_
        refine aC_11 (pc := 34) hC dX9_countWithin_34 ?_
        refine r_iconst (pc := 35) hC (v := (-1 : Int32)) (by decide) dX9_countWithin_35 ?_
        refine r_ixor (pc := 36) hC dX9_countWithin_36 ?_
        refine r_iand (pc := 37) hC dX9_countWithin_37 ?_
        refine r_if_ne (pc := 38) (tgt := 44) hC dX9_countWithin_38 (by decide) ?_ ?_
        · refine r_iinc (pc := 44) hC (v := (1 : Int32)) rfl (by decide) rfl rfl dX9_countWithin_44 ?_
          refine r_goto (pc := 47) (tgt := 12) hC dX9_countWithin_47 (by decide) ?_
          exact ih12_6 i4 (i5 + (1 : Int32))
        · refine r_iinc (pc := 41) hC (v := (1 : Int32)) rfl (by decide) rfl rfl dX9_countWithin_41 ?_
          refine r_iinc (pc := 44) hC (v := (1 : Int32)) rfl (by decide) rfl rfl dX9_countWithin_44 ?_
          refine r_goto (pc := 47) (tgt := 12) hC dX9_countWithin_47 (by decide) ?_
          exact ih12_6 (i4 + (1 : Int32)) (i5 + (1 : Int32))
set_option maxRecDepth 100000 in
set_option maxHeartbeats 4000000 in
theorem c_D_countWithin (l : Launch) (w : Wenv) (hw : okw w wC) (N : Nat) (σ : Mem) (r : Int32) (hf : f_D_countWithin N  σ = some r) : Ctr l w wC yX9_countWithin cX9_countWithin 4 (some .int) 0 0 [.ref (w.2.2.1 0)] σ (cQi w wC r σ) := mk_ctr (Q := fun κ => qO κ wC σ) (lv := [some (.ref (w.2.2.1 0)), none, none, none]) (by decide) rfl hw (Nat.le_of_ble_eq_true rfl) rfl hf (fun κ h => by subst h; rfl) (fun κ hl h hR hC => by
    subst h
    exact w_D_countWithin hR hC N  σ)
-- DuelRound.firstLessWithin()I (0,) kind O
def D_firstLessWithin_B10 (σ : Mem) (i1 : Int32) (self2 : Int32 → Option Int32) (self4 : Int32 → Option Int32) (i3 : Int32) : Option Int32 :=
  if (9 : Int32) ≤ i3 then
  (self2 (i1 + (1 : Int32)))
  else
  (gd (inb i1 9) (gd (inb i3 9) (if (gI σ 11 i1.toNatClampNeg) = (gI σ 11 i3.toNatClampNeg) then
  (self4 (i3 + (1 : Int32)))
  else
  (gd (inb i1 9) (gd (inb i3 9) (if ((gI σ 11 i1.toNatClampNeg) &&& ((gI σ 11 i3.toNatClampNeg) ^^^ (-1 : Int32))) = (0 : Int32) then
  (some (((10 : Int32) * i1) + i3))
  else
  (self4 (i3 + (1 : Int32)))))))))
def D_firstLessWithin_B2 (N : Nat) (σ : Mem) (self2 : Int32 → Option Int32) (i1 : Int32) : Option Int32 :=
  if (9 : Int32) ≤ i1 then
  (some (-1 : Int32))
  else
  (it1 (D_firstLessWithin_B10 σ i1 self2) N (0 : Int32))
def f_D_firstLessWithin (N : Nat) (σ : Mem) : Option Int32 :=
  it1 (D_firstLessWithin_B2 N σ) N (0 : Int32)
set_option maxRecDepth 100000 in
set_option maxHeartbeats 4000000 in
theorem w_D_firstLessWithin {κ : Ctx} (hR : kR κ = { frames := 0, cells := 0, slots := 0, locals := 0 }) (hC : ok κ wC cX9_firstLessWithin 3 RX9 (some .int)) (N : Nat) (σ : Mem) : wF κ wC 3 (qO κ wC σ) σ 0 [some (.ref (ad κ 0)), none, none] [] (f_D_firstLessWithin N  σ) := by
  unfold f_D_firstLessWithin
  refine r_iconst (pc := 0) hC (v := (0 : Int32)) (by decide) dX9_firstLessWithin_0 ?_
  refine r_istore_n (pc := 1) hC rfl rfl dX9_firstLessWithin_1 ?_
  refine w_it1 (fun i1 => σ) (fun i1 => [some (.ref (ad κ 0)), some (.int i1), none]) (fun self2 ih2_2 i1 => ?_) N (0 : Int32)
  unfold D_firstLessWithin_B2
  refine r_iload_n (pc := 2) hC rfl dX9_firstLessWithin_2 ?_
  refine r_bipush (pc := 3) hC (v := (9 : Int32)) (by decide) dX9_firstLessWithin_3 ?_
  refine r_icmp_ge (pc := 5) (tgt := 68) hC dX9_firstLessWithin_5 (by decide) ?_ ?_
  · refine r_iconst (pc := 68) hC (v := (-1 : Int32)) (by decide) dX9_firstLessWithin_68 ?_
    exact r_retO hC rfl dX9_firstLessWithin_69
  · refine r_iconst (pc := 8) hC (v := (0 : Int32)) (by decide) dX9_firstLessWithin_8 ?_
    refine r_istore_n (pc := 9) hC rfl rfl dX9_firstLessWithin_9 ?_
    refine w_it1 (fun i3 => σ) (fun i3 => [some (.ref (ad κ 0)), some (.int i1), some (.int i3)]) (fun self4 ih10_4 i3 => ?_) N (0 : Int32)
    unfold D_firstLessWithin_B10
    refine r_iload_n (pc := 10) hC rfl dX9_firstLessWithin_10 ?_
    refine r_bipush (pc := 11) hC (v := (9 : Int32)) (by decide) dX9_firstLessWithin_11 ?_
    refine r_icmp_ge (pc := 13) (tgt := 62) hC dX9_firstLessWithin_13 (by decide) ?_ ?_
    · refine r_iinc (pc := 62) hC (v := (1 : Int32)) rfl (by decide) rfl rfl dX9_firstLessWithin_62 ?_
      refine r_goto (pc := 65) (tgt := 2) hC dX9_firstLessWithin_65 (by decide) ?_
      exact r_wk [true, true, false] (ih2_2 (i1 + (1 : Int32)))
    · refine r_aload_n (pc := 16) hC rfl dX9_firstLessWithin_16 ?_
      refine gC_0_10 (pc := 17) hC k_321 dX9_firstLessWithin_17 ?_
      refine r_iload_n (pc := 20) hC rfl dX9_firstLessWithin_20 ?_
      refine aC_11 (pc := 21) hC dX9_firstLessWithin_21 ?_
      refine r_aload_n (pc := 22) hC rfl dX9_firstLessWithin_22 ?_
      refine gC_0_10 (pc := 23) hC k_321 dX9_firstLessWithin_23 ?_
      refine r_iload_n (pc := 26) hC rfl dX9_firstLessWithin_26 ?_
      refine aC_11 (pc := 27) hC dX9_firstLessWithin_27 ?_
      refine r_icmp_eq (pc := 28) (tgt := 56) hC dX9_firstLessWithin_28 (by decide) ?_ ?_
      · refine r_iinc (pc := 56) hC (v := (1 : Int32)) rfl (by decide) rfl rfl dX9_firstLessWithin_56 ?_
        refine r_goto (pc := 59) (tgt := 10) hC dX9_firstLessWithin_59 (by decide) ?_
        exact ih10_4 (i3 + (1 : Int32))
      · refine r_aload_n (pc := 31) hC rfl dX9_firstLessWithin_31 ?_
        refine gC_0_10 (pc := 32) hC k_321 dX9_firstLessWithin_32 ?_
        refine r_iload_n (pc := 35) hC rfl dX9_firstLessWithin_35 ?_
        refine aC_11 (pc := 36) hC dX9_firstLessWithin_36 ?_
        refine r_aload_n (pc := 37) hC rfl dX9_firstLessWithin_37 ?_
        refine gC_0_10 (pc := 38) hC k_321 dX9_firstLessWithin_38 ?_
        refine r_iload_n (pc := 41) hC rfl dX9_firstLessWithin_41 ?_
        refine aC_11 (pc := 42) hC dX9_firstLessWithin_42 ?_
        refine r_iconst (pc := 43) hC (v := (-1 : Int32)) (by decide) dX9_firstLessWithin_43 ?_
        refine r_ixor (pc := 44) hC dX9_firstLessWithin_44 ?_
        refine r_iand (pc := 45) hC dX9_firstLessWithin_45 ?_
        refine r_if_ne (pc := 46) (tgt := 56) hC dX9_firstLessWithin_46 (by decide) ?_ ?_
        · refine r_iinc (pc := 56) hC (v := (1 : Int32)) rfl (by decide) rfl rfl dX9_firstLessWithin_56 ?_
          refine r_goto (pc := 59) (tgt := 10) hC dX9_firstLessWithin_59 (by decide) ?_
          exact ih10_4 (i3 + (1 : Int32))
        · refine r_bipush (pc := 49) hC (v := (10 : Int32)) (by decide) dX9_firstLessWithin_49 ?_
          refine r_iload_n (pc := 51) hC rfl dX9_firstLessWithin_51 ?_
          refine r_imul (pc := 52) hC dX9_firstLessWithin_52 ?_
          refine r_iload_n (pc := 53) hC rfl dX9_firstLessWithin_53 ?_
          refine r_iadd (pc := 54) hC dX9_firstLessWithin_54 ?_
          exact r_retO hC rfl dX9_firstLessWithin_55
set_option maxRecDepth 100000 in
set_option maxHeartbeats 4000000 in
theorem c_D_firstLessWithin (l : Launch) (w : Wenv) (hw : okw w wC) (N : Nat) (σ : Mem) (r : Int32) (hf : f_D_firstLessWithin N  σ = some r) : Ctr l w wC yX9_firstLessWithin cX9_firstLessWithin 3 (some .int) 0 0 [.ref (w.2.2.1 0)] σ (cQi w wC r σ) := mk_ctr (Q := fun κ => qO κ wC σ) (lv := [some (.ref (w.2.2.1 0)), none, none]) (by decide) rfl hw (Nat.le_of_ble_eq_true rfl) rfl hf (fun κ h => by subst h; rfl) (fun κ hl h hR hC => by
    subst h
    exact w_D_firstLessWithin hR hC N  σ)
-- DuelRound.within(I)I (0, None) kind OM
def D_within_K56 (N : Nat) (a1 : Int32) (s1 : Mem) : Option (Int32 × Mem) :=
  if a1 = (0 : Int32) then
  (ob (f_D_countWithin N s1) fun r3 =>
  some (r3, s1))
  else
  (ob (f_D_firstLessWithin N s1) fun r2 =>
  some (r2, s1))
def D_within_B23 (N : Nat) (a1 : Int32) (self6 : Int32 → Mem → Option (Int32 × Mem)) (i4 : Int32) (s5 : Mem) : Option (Int32 × Mem) :=
  if (9 : Int32) ≤ i4 then
  (D_within_K56 N a1 s5)
  else
  (ob2 (f_Se_ofKind N i4 (t_Du_everybodyN s5) s5) fun r8 s7 =>
  gd (inb i4 9) (bnd (sI s7 11 i4.toNatClampNeg r8) fun s9 =>
  self6 (i4 + (1 : Int32)) s9))
def f_D_within (N : Nat) (a1 : Int32) (σ : Mem) : Option (Int32 × Mem) :=
  if (gI σ 3 0) = (0 : Int32) then
  (some ((-1 : Int32), σ))
  else
  (if a1 < (0 : Int32) then
  (some ((-1 : Int32), σ))
  else
  (if a1 ≤ (1 : Int32) then
  (it2 (D_within_B23 N a1) N (0 : Int32) σ)
  else
  (some ((-1 : Int32), σ))))
set_option maxRecDepth 100000 in
set_option maxHeartbeats 4000000 in
theorem w_D_within {κ : Ctx} (hR : kR κ = { frames := 15, cells := 0, slots := 0, locals := 364 }) (hC : ok κ wC cX9_within 3 RX9 (some .int)) (N : Nat) (a1 : Int32) (σ : Mem) : wF κ wC 3 (qOM κ wC) σ 0 [some (.ref (ad κ 0)), some (.int a1), none] [] (f_D_within N a1 σ) := by
  unfold f_D_within
  refine r_aload_n (pc := 0) hC rfl dX9_within_0 ?_
  refine gC_0_1 (pc := 1) hC k_312 dX9_within_1 ?_
  refine gC_2_1 (pc := 4) hC k_144 dX9_within_4 ?_
  refine r_if_eq (pc := 7) (tgt := 19) hC dX9_within_7 (by decide) ?_ ?_
  · refine r_iconst (pc := 19) hC (v := (-1 : Int32)) (by decide) dX9_within_19 ?_
    exact r_retOM hC rfl dX9_within_20
  · refine r_iload_n (pc := 10) hC rfl dX9_within_10 ?_
    refine r_if_lt (pc := 11) (tgt := 19) hC dX9_within_11 (by decide) ?_ ?_
    · refine r_iconst (pc := 19) hC (v := (-1 : Int32)) (by decide) dX9_within_19 ?_
      exact r_retOM hC rfl dX9_within_20
    · refine r_iload_n (pc := 14) hC rfl dX9_within_14 ?_
      refine r_iconst (pc := 15) hC (v := (1 : Int32)) (by decide) dX9_within_15 ?_
      refine r_icmp_le (pc := 16) (tgt := 21) hC dX9_within_16 (by decide) ?_ ?_
      · refine r_iconst (pc := 21) hC (v := (0 : Int32)) (by decide) dX9_within_21 ?_
        refine r_istore_n (pc := 22) hC rfl rfl dX9_within_22 ?_
        have hK56_3 : ∀ (s1 : Mem), wF κ wC 3 (qOM κ wC) s1 56 [some (.ref (ad κ 0)), some (.int a1), none] [] (D_within_K56 N a1 s1) := by
          intro s1
          unfold D_within_K56
          refine r_iload_n (pc := 56) hC rfl dX9_within_56 ?_
          refine r_if_ne (pc := 57) (tgt := 67) hC dX9_within_57 (by decide) ?_ ?_
          · refine r_aload_n (pc := 67) hC rfl dX9_within_67 ?_
            refine r_cO (pc := 68) (rest := []) (fun r2 hf => runV [] hC (c_D_firstLessWithin (kl κ) (kW κ) hC.2.2.2.2.2.2.2.2.1 N s1 r2 hf) o_X9_firstLessWithin k_668 (q0 := 0) (ci := 9) rfl rfl (rm_ok hR rfl) rfl (Nat.le_of_ble_eq_true rfl) dX9_within_68) (fun r2 => ?_)
            exact r_retOM hC rfl dX9_within_71
          · refine r_aload_n (pc := 60) hC rfl dX9_within_60 ?_
            refine r_cO (pc := 61) (rest := []) (fun r3 hf => runV [] hC (c_D_countWithin (kl κ) (kW κ) hC.2.2.2.2.2.2.2.2.1 N s1 r3 hf) o_X9_countWithin k_664 (q0 := 0) (ci := 9) rfl rfl (rm_ok hR rfl) rfl (Nat.le_of_ble_eq_true rfl) dX9_within_61) (fun r3 => ?_)
            refine r_goto (pc := 64) (tgt := 71) hC dX9_within_64 (by decide) ?_
            exact r_retOM hC rfl dX9_within_71
        refine w_it2 (fun i4 s5 => s5) (fun i4 s5 => [some (.ref (ad κ 0)), some (.int a1), some (.int i4)]) (fun self6 ih23_6 i4 s5 => ?_) N (0 : Int32) σ
        unfold D_within_B23
        refine r_iload_n (pc := 23) hC rfl dX9_within_23 ?_
        refine r_bipush (pc := 24) hC (v := (9 : Int32)) (by decide) dX9_within_24 ?_
        refine r_icmp_ge (pc := 26) (tgt := 56) hC dX9_within_26 (by decide) ?_ ?_
        · exact r_wk [true, true, false] (hK56_3 s5)
        · refine r_aload_n (pc := 29) hC rfl dX9_within_29 ?_
          refine gC_0_10 (pc := 30) hC k_321 dX9_within_30 ?_
          refine r_iload_n (pc := 33) hC rfl dX9_within_33 ?_
          refine r_aload_n (pc := 34) hC rfl dX9_within_34 ?_
          refine gC_0_7 (pc := 35) hC k_318 dX9_within_35 ?_
          refine r_iload_n (pc := 38) hC rfl dX9_within_38 ?_
          refine r_aload_n (pc := 39) hC rfl dX9_within_39 ?_
          refine gC_0_1 (pc := 40) hC k_312 dX9_within_40 ?_
          refine r_cT (pc := 43) (rest := [.int i4, .ref (ad κ 8), .int i4, .ref (ad κ 11)]) (runV [] hC (c_Du_everybodyN (kl κ) (kW κ) hC.2.2.2.2.2.2.2.2.1 s5) o_X1_everybody k_659 (q0 := 2) (ci := 1) rfl rfl (rm_ok hR rfl) rfl (Nat.le_of_ble_eq_true rfl) dX9_within_43) ?_
          refine r_cOM (pc := 46) (rest := [.int i4, .ref (ad κ 11)]) (fun r8 s7 hf => runV [.int i4, .int (t_Du_everybodyN s5)] hC (c_Se_ofKind (kl κ) (kW κ) hC.2.2.2.2.2.2.2.2.1 N i4 (t_Du_everybodyN s5) s5 r8 s7 hf) o_X6_ofKind k_501 (q0 := 8) (ci := 6) rfl rfl (rm_ok hR rfl) rfl (Nat.le_of_ble_eq_true rfl) dX9_within_46) (fun r8 s7 => ?_)
          refine bC_11 (pc := 49) hC dX9_within_49 ?_
          refine r_letm (fun s9 => ?_)
          refine r_iinc (pc := 50) hC (v := (1 : Int32)) rfl (by decide) rfl rfl dX9_within_50 ?_
          refine r_goto (pc := 53) (tgt := 23) hC dX9_within_53 (by decide) ?_
          exact ih23_6 (i4 + (1 : Int32)) s9
      · refine r_iconst (pc := 19) hC (v := (-1 : Int32)) (by decide) dX9_within_19 ?_
        exact r_retOM hC rfl dX9_within_20
set_option maxRecDepth 100000 in
set_option maxHeartbeats 4000000 in
theorem c_D_within (l : Launch) (w : Wenv) (hw : okw w wC) (N : Nat) (a1 : Int32) (σ : Mem) (r : Int32) (τ : Mem) (hf : f_D_within N a1 σ = some (r, τ)) : Ctr l w wC yX9_within cX9_within 3 (some .int) 15 364 [.ref (w.2.2.1 0), .int a1] σ (cQi w wC r τ) := mk_ctr (Q := fun κ => qOM κ wC) (lv := [some (.ref (w.2.2.1 0)), some (.int a1), none]) (by decide) rfl hw (Nat.le_of_ble_eq_true rfl) rfl hf (fun κ h => by subst h; rfl) (fun κ hl h hR hC => by
    subst h
    exact w_D_within hR hC N a1 σ)
-- DuelRoundModel.in(JJJ)Z (None, None, None) kind T
def t_M_in (a1 : Int64) (a2 : Int64) (a3 : Int64) : Int32 :=
  (if (lg_cmp a1 a2) < (0 : Int32) then (0 : Int32) else (if (0 : Int32) < (lg_cmp a1 a3) then (0 : Int32) else (1 : Int32)))
def f_M_in (a1 : Int64) (a2 : Int64) (a3 : Int64) : Option Int32 :=
  if (lg_cmp a1 a2) < (0 : Int32) then
  (some (0 : Int32))
  else
  (if (0 : Int32) < (lg_cmp a1 a3) then
  (some (0 : Int32))
  else
  (some (1 : Int32)))
theorem e_M_in (a1 : Int64) (a2 : Int64) (a3 : Int64) : f_M_in a1 a2 a3 = some (t_M_in a1 a2 a3) := by
  unfold f_M_in t_M_in
  try first | rfl | (repeat' split) <;> rfl
theorem z_M_in (a1 : Int64) (a2 : Int64) (a3 : Int64) : isb (t_M_in a1 a2 a3) = true := by
  unfold t_M_in
  (repeat' split) <;> rfl
set_option maxRecDepth 100000 in
set_option maxHeartbeats 4000000 in
theorem w_M_in {κ : Ctx} (hR : kR κ = { frames := 0, cells := 0, slots := 0, locals := 0 }) (hC : ok κ wM cX10_in 6 RX10 (some .boolean)) (a1 : Int64) (a2 : Int64) (a3 : Int64) (σ : Mem) : wF κ wM 6 (qO κ wM σ) σ 0 [some (.long a1), none, some (.long a2), none, some (.long a3), none] [] (f_M_in a1 a2 a3) := by
  unfold f_M_in
  refine r_lload_n (pc := 0) hC rfl dX10_in_0 ?_
  refine r_lload_n (pc := 1) hC rfl dX10_in_1 ?_
  refine r_lcmp (pc := 2) hC dX10_in_2 ?_
  refine r_if_lt (pc := 3) (tgt := 17) hC dX10_in_3 (by decide) ?_ ?_
  · refine r_iconst (pc := 17) hC (v := (0 : Int32)) (by decide) dX10_in_17 ?_
    exact r_retO hC rfl dX10_in_18
  · refine r_lload_n (pc := 6) hC rfl dX10_in_6 ?_
    refine r_lload (pc := 7) hC rfl dX10_in_7 ?_
    refine r_lcmp (pc := 9) hC dX10_in_9 ?_
    refine r_if_gt (pc := 10) (tgt := 17) hC dX10_in_10 (by decide) ?_ ?_
    · refine r_iconst (pc := 17) hC (v := (0 : Int32)) (by decide) dX10_in_17 ?_
      exact r_retO hC rfl dX10_in_18
    · refine r_iconst (pc := 13) hC (v := (1 : Int32)) (by decide) dX10_in_13 ?_
      refine r_goto (pc := 14) (tgt := 18) hC dX10_in_14 (by decide) ?_
      exact r_retO hC rfl dX10_in_18
set_option maxRecDepth 100000 in
set_option maxHeartbeats 4000000 in
theorem c_M_in (l : Launch) (w : Wenv) (hw : okw w wM) (a1 : Int64) (a2 : Int64) (a3 : Int64) (σ : Mem) : Ctr l w wM yX10_in cX10_in 6 (some .boolean) 0 0 [.long a1, .long a2, .long a3] σ (cQi w wM (t_M_in a1 a2 a3) σ) := mk_ctr (Q := fun κ => qO κ wM σ) (lv := [some (.long a1), none, some (.long a2), none, some (.long a3), none]) (by decide) rfl hw (Nat.le_of_ble_eq_true rfl) rfl (e_M_in a1 a2 a3) (fun κ h => by subst h; rfl) (fun κ hl h hR hC => by
    subst h
    exact w_M_in hR hC a1 a2 a3 σ)
-- DuelRoundModel.remember()V (0,) kind M
def M_remember_K87 (s2 : Mem) : Option Mem :=
  bnd (sI s2 3 0 ((gI s2 3 0) + (1 : Int32))) fun s3 =>
  some s3
def M_remember_B55 (self6 : Int32 → Mem → Option Mem) (i4 : Int32) (s5 : Mem) : Option Mem :=
  if (9 : Int32) ≤ i4 then
  (M_remember_K87 s5)
  else
  (gd (inb i4 9) (gd (inb (((9 : Int32) * (gI s5 3 0)) + i4) 90) (bnd (sI s5 2 (((9 : Int32) * (gI s5 3 0)) + i4).toNatClampNeg (gI s5 1 i4.toNatClampNeg)) fun s7 =>
  self6 (i4 + (1 : Int32)) s7)))
def M_remember_J53 (N : Nat) (s1 : Mem) : Option Mem :=
  it2 (M_remember_B55) N (0 : Int32) s1
def M_remember_B21 (N : Nat) (self11 : Int32 → Mem → Option Mem) (i9 : Int32) (s10 : Mem) : Option Mem :=
  if ((9 : Int32) * (gI s10 3 0)) ≤ i9 then
  (M_remember_J53 N s10)
  else
  (gd (inb (i9 + (9 : Int32)) 90) (gd (inb i9 90) (bnd (sI s10 2 i9.toNatClampNeg (gI s10 2 (i9 + (9 : Int32)).toNatClampNeg)) fun s12 =>
  self11 (i9 + (1 : Int32)) s12)))
def f_M_remember (N : Nat) (σ : Mem) : Option Mem :=
  if (gI σ 3 0) = (10 : Int32) then
  (bnd (sI σ 3 0 ((gI σ 3 0) - (1 : Int32))) fun s8 =>
  it2 (M_remember_B21 N) N (0 : Int32) s8)
  else
  (M_remember_J53 N σ)
set_option maxRecDepth 100000 in
set_option maxHeartbeats 4000000 in
theorem w_M_remember {κ : Ctx} (hR : kR κ = { frames := 0, cells := 0, slots := 0, locals := 0 }) (hC : ok κ wM cX10_remember 2 RX10 none) (N : Nat) (σ : Mem) : wF κ wM 2 (qM κ wM) σ 0 [some (.ref (ad κ 0)), none] [] (f_M_remember N  σ) := by
  unfold f_M_remember
  refine r_aload_n (pc := 0) hC rfl dX10_remember_0 ?_
  refine gM_0_3 (pc := 1) hC k_1040 dX10_remember_1 ?_
  refine r_bipush (pc := 4) hC (v := (10 : Int32)) (by decide) dX10_remember_4 ?_
  have hJ53_7 : ∀ (s1 : Mem), wF κ wM 2 (qM κ wM) s1 53 [some (.ref (ad κ 0)), none] [] (M_remember_J53 N s1) := by
    intro s1
    unfold M_remember_J53
    refine r_iconst (pc := 53) hC (v := (0 : Int32)) (by decide) dX10_remember_53 ?_
    refine r_istore_n (pc := 54) hC rfl rfl dX10_remember_54 ?_
    have hK87_3 : ∀ (s2 : Mem), wF κ wM 2 (qM κ wM) s2 87 [some (.ref (ad κ 0)), none] [] (M_remember_K87 s2) := by
      intro s2
      unfold M_remember_K87
      refine r_aload_n (pc := 87) hC rfl dX10_remember_87 ?_
      refine r_dup (pc := 88) hC rfl dX10_remember_88 ?_
      refine gM_0_3 (pc := 89) hC k_1040 dX10_remember_89 ?_
      refine r_iconst (pc := 92) hC (v := (1 : Int32)) (by decide) dX10_remember_92 ?_
      refine r_iadd (pc := 93) hC dX10_remember_93 ?_
      refine pM_0_3 (pc := 94) hC k_1040 dX10_remember_94 ?_
      refine r_letm (fun s3 => ?_)
      exact r_retM hC dX10_remember_97
    refine w_it2 (fun i4 s5 => s5) (fun i4 s5 => [some (.ref (ad κ 0)), some (.int i4)]) (fun self6 ih55_6 i4 s5 => ?_) N (0 : Int32) s1
    unfold M_remember_B55
    refine r_iload_n (pc := 55) hC rfl dX10_remember_55 ?_
    refine r_bipush (pc := 56) hC (v := (9 : Int32)) (by decide) dX10_remember_56 ?_
    refine r_icmp_ge (pc := 58) (tgt := 87) hC dX10_remember_58 (by decide) ?_ ?_
    · exact r_wk [true, false] (hK87_3 s5)
    · refine r_aload_n (pc := 61) hC rfl dX10_remember_61 ?_
      refine gM_0_2 (pc := 62) hC k_1039 dX10_remember_62 ?_
      refine r_bipush (pc := 65) hC (v := (9 : Int32)) (by decide) dX10_remember_65 ?_
      refine r_aload_n (pc := 67) hC rfl dX10_remember_67 ?_
      refine gM_0_3 (pc := 68) hC k_1040 dX10_remember_68 ?_
      refine r_imul (pc := 71) hC dX10_remember_71 ?_
      refine r_iload_n (pc := 72) hC rfl dX10_remember_72 ?_
      refine r_iadd (pc := 73) hC dX10_remember_73 ?_
      refine r_aload_n (pc := 74) hC rfl dX10_remember_74 ?_
      refine gM_0_1 (pc := 75) hC k_1038 dX10_remember_75 ?_
      refine r_iload_n (pc := 78) hC rfl dX10_remember_78 ?_
      refine aM_1 (pc := 79) hC dX10_remember_79 ?_
      refine bM_2 (pc := 80) hC dX10_remember_80 ?_
      refine r_letm (fun s7 => ?_)
      refine r_iinc (pc := 81) hC (v := (1 : Int32)) rfl (by decide) rfl rfl dX10_remember_81 ?_
      refine r_goto (pc := 84) (tgt := 55) hC dX10_remember_84 (by decide) ?_
      exact ih55_6 (i4 + (1 : Int32)) s7
  refine r_icmp_ne (pc := 6) (tgt := 53) hC dX10_remember_6 (by decide) ?_ ?_
  · exact hJ53_7 σ
  · refine r_aload_n (pc := 9) hC rfl dX10_remember_9 ?_
    refine r_dup (pc := 10) hC rfl dX10_remember_10 ?_
    refine gM_0_3 (pc := 11) hC k_1040 dX10_remember_11 ?_
    refine r_iconst (pc := 14) hC (v := (1 : Int32)) (by decide) dX10_remember_14 ?_
    refine r_isub (pc := 15) hC dX10_remember_15 ?_
    refine pM_0_3 (pc := 16) hC k_1040 dX10_remember_16 ?_
    refine r_letm (fun s8 => ?_)
    refine r_iconst (pc := 19) hC (v := (0 : Int32)) (by decide) dX10_remember_19 ?_
    refine r_istore_n (pc := 20) hC rfl rfl dX10_remember_20 ?_
    refine w_it2 (fun i9 s10 => s10) (fun i9 s10 => [some (.ref (ad κ 0)), some (.int i9)]) (fun self11 ih21_11 i9 s10 => ?_) N (0 : Int32) s8
    unfold M_remember_B21
    refine r_iload_n (pc := 21) hC rfl dX10_remember_21 ?_
    refine r_bipush (pc := 22) hC (v := (9 : Int32)) (by decide) dX10_remember_22 ?_
    refine r_aload_n (pc := 24) hC rfl dX10_remember_24 ?_
    refine gM_0_3 (pc := 25) hC k_1040 dX10_remember_25 ?_
    refine r_imul (pc := 28) hC dX10_remember_28 ?_
    refine r_icmp_ge (pc := 29) (tgt := 53) hC dX10_remember_29 (by decide) ?_ ?_
    · exact r_wk [true, false] (hJ53_7 s10)
    · refine r_aload_n (pc := 32) hC rfl dX10_remember_32 ?_
      refine gM_0_2 (pc := 33) hC k_1039 dX10_remember_33 ?_
      refine r_iload_n (pc := 36) hC rfl dX10_remember_36 ?_
      refine r_aload_n (pc := 37) hC rfl dX10_remember_37 ?_
      refine gM_0_2 (pc := 38) hC k_1039 dX10_remember_38 ?_
      refine r_iload_n (pc := 41) hC rfl dX10_remember_41 ?_
      refine r_bipush (pc := 42) hC (v := (9 : Int32)) (by decide) dX10_remember_42 ?_
      refine r_iadd (pc := 44) hC dX10_remember_44 ?_
      refine aM_2 (pc := 45) hC dX10_remember_45 ?_
      refine bM_2 (pc := 46) hC dX10_remember_46 ?_
      refine r_letm (fun s12 => ?_)
      refine r_iinc (pc := 47) hC (v := (1 : Int32)) rfl (by decide) rfl rfl dX10_remember_47 ?_
      refine r_goto (pc := 50) (tgt := 21) hC dX10_remember_50 (by decide) ?_
      exact ih21_11 (i9 + (1 : Int32)) s12
set_option maxRecDepth 100000 in
set_option maxHeartbeats 4000000 in
theorem c_M_remember (l : Launch) (w : Wenv) (hw : okw w wM) (N : Nat) (σ : Mem) (τ : Mem) (hf : f_M_remember N  σ = some τ) : Ctr l w wM yX10_remember cX10_remember 2 none 0 0 [.ref (w.2.2.1 0)] σ (cQv w wM τ) := mk_ctr (Q := fun κ => qM κ wM) (lv := [some (.ref (w.2.2.1 0)), none]) (by decide) rfl hw (Nat.le_of_ble_eq_true rfl) rfl hf (fun κ h => by subst h; rfl) (fun κ hl h hR hC => by
    subst h
    exact w_M_remember hR hC N  σ)
-- DuelRoundModel.again(I)Z (0, None) kind OM
def M_again_B32 (a1 : Int32) (self5 : Int32 → Mem → Option (Int32 × Mem)) (i3 : Int32) (s4 : Mem) : Option (Int32 × Mem) :=
  if (9 : Int32) ≤ i3 then
  (some ((1 : Int32), s4))
  else
  (gd (inb (((9 : Int32) * a1) + i3) 18) (gd (inb i3 9) (bnd (sI s4 1 i3.toNatClampNeg (gI s4 4 (((9 : Int32) * a1) + i3).toNatClampNeg)) fun s6 =>
  self5 (i3 + (1 : Int32)) s6)))
def f_M_again (N : Nat) (a1 : Int32) (σ : Mem) : Option (Int32 × Mem) :=
  bnd (sI σ 0 0 (0 : Int32)) fun s1 =>
  if (t_M_in (a1.toInt64) (0 : Int64) (1 : Int64)) = (0 : Int32) then
  (some ((0 : Int32), s1))
  else
  (gd (inb a1 2) (if (gI s1 5 a1.toNatClampNeg) = (0 : Int32) then
  (some ((0 : Int32), s1))
  else
  (ob (f_M_remember N s1) fun s2 =>
  it2 (M_again_B32 a1) N (0 : Int32) s2)))
set_option maxRecDepth 100000 in
set_option maxHeartbeats 4000000 in
theorem w_M_again {κ : Ctx} (hR : kR κ = { frames := 1, cells := 0, slots := 0, locals := 25 }) (hC : ok κ wM cX10_again 3 RX10 (some .boolean)) (N : Nat) (a1 : Int32) (σ : Mem) : wF κ wM 3 (qOM κ wM) σ 0 [some (.ref (ad κ 0)), some (.int a1), none] [] (f_M_again N a1 σ) := by
  unfold f_M_again
  refine r_aload_n (pc := 0) hC rfl dX10_again_0 ?_
  refine r_iconst (pc := 1) hC (v := (0 : Int32)) (by decide) dX10_again_1 ?_
  refine pM_0_0 (pc := 2) hC k_1037 dX10_again_2 ?_
  refine r_letm (fun s1 => ?_)
  refine r_iload_n (pc := 5) hC rfl dX10_again_5 ?_
  refine r_i2l (pc := 6) hC dX10_again_6 ?_
  refine r_lconst (pc := 7) hC (v := (0 : Int64)) (by decide) dX10_again_7 ?_
  refine r_lconst (pc := 8) hC (v := (1 : Int64)) (by decide) dX10_again_8 ?_
  refine r_cT (pc := 9) (rest := []) (runS [.long (a1.toInt64), .long (0 : Int64), .long (1 : Int64)] hC (c_M_in (kl κ) (kW κ) hC.2.2.2.2.2.2.2.2.1 (a1.toInt64) (0 : Int64) (1 : Int64) s1) o_X10_in k_1161 (rm_ok hR rfl) rfl (Nat.le_of_ble_eq_true rfl) dX10_again_9) ?_
  refine r_if_eq (pc := 12) (tgt := 24) hC dX10_again_12 (by decide) ?_ ?_
  · refine r_iconst (pc := 24) hC (v := (0 : Int32)) (by decide) dX10_again_24 ?_
    exact r_retOM hC rfl dX10_again_25
  · refine r_aload_n (pc := 15) hC rfl dX10_again_15 ?_
    refine gM_0_5 (pc := 16) hC k_1042 dX10_again_16 ?_
    refine r_iload_n (pc := 19) hC rfl dX10_again_19 ?_
    refine aM_4 (pc := 20) hC dX10_again_20 ?_
    refine r_if_ne (pc := 21) (tgt := 26) hC dX10_again_21 (by decide) ?_ ?_
    · refine r_aload_n (pc := 26) hC rfl dX10_again_26 ?_
      refine r_cM (pc := 27) (rest := []) (fun s2 hf => runV [] hC (c_M_remember (kl κ) (kW κ) hC.2.2.2.2.2.2.2.2.1 N s1 s2 hf) o_X10_remember k_1262 (q0 := 0) (ci := 10) rfl rfl (rm_ok hR rfl) rfl (Nat.le_of_ble_eq_true rfl) dX10_again_27) (fun s2 => ?_)
      refine r_iconst (pc := 30) hC (v := (0 : Int32)) (by decide) dX10_again_30 ?_
      refine r_istore_n (pc := 31) hC rfl rfl dX10_again_31 ?_
      refine w_it2 (fun i3 s4 => s4) (fun i3 s4 => [some (.ref (ad κ 0)), some (.int a1), some (.int i3)]) (fun self5 ih32_5 i3 s4 => ?_) N (0 : Int32) s2
      unfold M_again_B32
      refine r_iload_n (pc := 32) hC rfl dX10_again_32 ?_
      refine r_bipush (pc := 33) hC (v := (9 : Int32)) (by decide) dX10_again_33 ?_
      refine r_icmp_ge (pc := 35) (tgt := 61) hC dX10_again_35 (by decide) ?_ ?_
      · refine r_iconst (pc := 61) hC (v := (1 : Int32)) (by decide) dX10_again_61 ?_
        exact r_retOM hC rfl dX10_again_62
      · refine r_aload_n (pc := 38) hC rfl dX10_again_38 ?_
        refine gM_0_1 (pc := 39) hC k_1038 dX10_again_39 ?_
        refine r_iload_n (pc := 42) hC rfl dX10_again_42 ?_
        refine r_aload_n (pc := 43) hC rfl dX10_again_43 ?_
        refine gM_0_4 (pc := 44) hC k_1041 dX10_again_44 ?_
        refine r_bipush (pc := 47) hC (v := (9 : Int32)) (by decide) dX10_again_47 ?_
        refine r_iload_n (pc := 49) hC rfl dX10_again_49 ?_
        refine r_imul (pc := 50) hC dX10_again_50 ?_
        refine r_iload_n (pc := 51) hC rfl dX10_again_51 ?_
        refine r_iadd (pc := 52) hC dX10_again_52 ?_
        refine aM_3 (pc := 53) hC dX10_again_53 ?_
        refine bM_1 (pc := 54) hC dX10_again_54 ?_
        refine r_letm (fun s6 => ?_)
        refine r_iinc (pc := 55) hC (v := (1 : Int32)) rfl (by decide) rfl rfl dX10_again_55 ?_
        refine r_goto (pc := 58) (tgt := 32) hC dX10_again_58 (by decide) ?_
        exact ih32_5 (i3 + (1 : Int32)) s6
    · refine r_iconst (pc := 24) hC (v := (0 : Int32)) (by decide) dX10_again_24 ?_
      exact r_retOM hC rfl dX10_again_25
set_option maxRecDepth 100000 in
set_option maxHeartbeats 4000000 in
theorem c_M_again (l : Launch) (w : Wenv) (hw : okw w wM) (N : Nat) (a1 : Int32) (σ : Mem) (r : Int32) (τ : Mem) (hf : f_M_again N a1 σ = some (r, τ)) : Ctr l w wM yX10_again cX10_again 3 (some .boolean) 1 25 [.ref (w.2.2.1 0), .int a1] σ (cQi w wM r τ) := mk_ctr (Q := fun κ => qOM κ wM) (lv := [some (.ref (w.2.2.1 0)), some (.int a1), none]) (by decide) rfl hw (Nat.le_of_ble_eq_true rfl) rfl hf (fun κ h => by subst h; rfl) (fun κ hl h hR hC => by
    subst h
    exact w_M_again hR hC N a1 σ)
-- DuelRoundModel.firstOrder()V (0,) kind M
def M_firstOrder_B2 (self3 : Int32 → Mem → Option Mem) (i1 : Int32) (s2 : Mem) : Option Mem :=
  if (8 : Int32) ≤ i1 then
  (some s2)
  else
  (gd (inb i1 8) (bnd (sI s2 26 i1.toNatClampNeg i1) fun s4 =>
  self3 (i1 + (1 : Int32)) s4))
def f_M_firstOrder (N : Nat) (σ : Mem) : Option Mem :=
  it2 (M_firstOrder_B2) N (0 : Int32) σ
set_option maxRecDepth 100000 in
set_option maxHeartbeats 4000000 in
theorem w_M_firstOrder {κ : Ctx} (hR : kR κ = { frames := 0, cells := 0, slots := 0, locals := 0 }) (hC : ok κ wM cX10_firstOrder 2 RX10 none) (N : Nat) (σ : Mem) : wF κ wM 2 (qM κ wM) σ 0 [some (.ref (ad κ 0)), none] [] (f_M_firstOrder N  σ) := by
  unfold f_M_firstOrder
  refine r_iconst (pc := 0) hC (v := (0 : Int32)) (by decide) dX10_firstOrder_0 ?_
  refine r_istore_n (pc := 1) hC rfl rfl dX10_firstOrder_1 ?_
  refine w_it2 (fun i1 s2 => s2) (fun i1 s2 => [some (.ref (ad κ 0)), some (.int i1)]) (fun self3 ih2_3 i1 s2 => ?_) N (0 : Int32) σ
  unfold M_firstOrder_B2
  refine r_iload_n (pc := 2) hC rfl dX10_firstOrder_2 ?_
  refine r_bipush (pc := 3) hC (v := (8 : Int32)) (by decide) dX10_firstOrder_3 ?_
  refine r_icmp_ge (pc := 5) (tgt := 21) hC dX10_firstOrder_5 (by decide) ?_ ?_
  · exact r_retM hC dX10_firstOrder_21
  · refine r_aload_n (pc := 8) hC rfl dX10_firstOrder_8 ?_
    refine gM_0_26 (pc := 9) hC k_1063 dX10_firstOrder_9 ?_
    refine r_iload_n (pc := 12) hC rfl dX10_firstOrder_12 ?_
    refine r_iload_n (pc := 13) hC rfl dX10_firstOrder_13 ?_
    refine bM_20 (pc := 14) hC dX10_firstOrder_14 ?_
    refine r_letm (fun s4 => ?_)
    refine r_iinc (pc := 15) hC (v := (1 : Int32)) rfl (by decide) rfl rfl dX10_firstOrder_15 ?_
    refine r_goto (pc := 18) (tgt := 2) hC dX10_firstOrder_18 (by decide) ?_
    exact ih2_3 (i1 + (1 : Int32)) s4
set_option maxRecDepth 100000 in
set_option maxHeartbeats 4000000 in
theorem c_M_firstOrder (l : Launch) (w : Wenv) (hw : okw w wM) (N : Nat) (σ : Mem) (τ : Mem) (hf : f_M_firstOrder N  σ = some τ) : Ctr l w wM yX10_firstOrder cX10_firstOrder 2 none 0 0 [.ref (w.2.2.1 0)] σ (cQv w wM τ) := mk_ctr (Q := fun κ => qM κ wM) (lv := [some (.ref (w.2.2.1 0)), none]) (by decide) rfl hw (Nat.le_of_ble_eq_true rfl) rfl hf (fun κ h => by subst h; rfl) (fun κ hl h hR hC => by
    subst h
    exact w_M_firstOrder hR hC N  σ)
-- DuelRoundModel.many()I (0,) kind T
def t_M_many (σ : Mem) : Int32 :=
  (gI σ 1 (0 : Int32).toNatClampNeg)
def f_M_many (σ : Mem) : Option Int32 :=
  some (gI σ 1 (0 : Int32).toNatClampNeg)
theorem e_M_many (σ : Mem) : f_M_many  σ = some (t_M_many  σ) := by
  unfold f_M_many t_M_many
  try first | rfl | (repeat' split) <;> rfl
set_option maxRecDepth 100000 in
set_option maxHeartbeats 4000000 in
theorem w_M_many {κ : Ctx} (hR : kR κ = { frames := 0, cells := 0, slots := 0, locals := 0 }) (hC : ok κ wM cX10_many 1 RX10 (some .int)) (σ : Mem) : wF κ wM 1 (qO κ wM σ) σ 0 [some (.ref (ad κ 0))] [] (f_M_many  σ) := by
  unfold f_M_many
  refine r_aload_n (pc := 0) hC rfl dX10_many_0 ?_
  refine gM_0_1 (pc := 1) hC k_1038 dX10_many_1 ?_
  refine r_iconst (pc := 4) hC (v := (0 : Int32)) (by decide) dX10_many_4 ?_
  refine r_ung (b := inb (0 : Int32) 9) (by decide) ?_
  refine aM_1 (pc := 5) hC dX10_many_5 ?_
  exact r_retO hC rfl dX10_many_6
set_option maxRecDepth 100000 in
set_option maxHeartbeats 4000000 in
theorem c_M_many (l : Launch) (w : Wenv) (hw : okw w wM) (σ : Mem) : Ctr l w wM yX10_many cX10_many 1 (some .int) 0 0 [.ref (w.2.2.1 0)] σ (cQi w wM (t_M_many  σ) σ) := mk_ctr (Q := fun κ => qO κ wM σ) (lv := [some (.ref (w.2.2.1 0))]) (by decide) rfl hw (Nat.le_of_ble_eq_true rfl) rfl (e_M_many  σ) (fun κ h => by subst h; rfl) (fun κ hl h hR hC => by
    subst h
    exact w_M_many hR hC  σ)
-- DuelRoundModel.beats(I)I (0, None) kind O
def f_M_beats (a1 : Int32) (σ : Mem) : Option Int32 :=
  gd (inb ((1 : Int32) + a1) 9) (some (gI σ 1 ((1 : Int32) + a1).toNatClampNeg))
set_option maxRecDepth 100000 in
set_option maxHeartbeats 4000000 in
theorem w_M_beats {κ : Ctx} (hR : kR κ = { frames := 0, cells := 0, slots := 0, locals := 0 }) (hC : ok κ wM cX10_beats 2 RX10 (some .int)) (a1 : Int32) (σ : Mem) : wF κ wM 2 (qO κ wM σ) σ 0 [some (.ref (ad κ 0)), some (.int a1)] [] (f_M_beats a1 σ) := by
  unfold f_M_beats
  refine r_aload_n (pc := 0) hC rfl dX10_beats_0 ?_
  refine gM_0_1 (pc := 1) hC k_1038 dX10_beats_1 ?_
  refine r_iconst (pc := 4) hC (v := (1 : Int32)) (by decide) dX10_beats_4 ?_
  refine r_iload_n (pc := 5) hC rfl dX10_beats_5 ?_
  refine r_iadd (pc := 6) hC dX10_beats_6 ?_
  refine aM_1 (pc := 7) hC dX10_beats_7 ?_
  exact r_retO hC rfl dX10_beats_8
set_option maxRecDepth 100000 in
set_option maxHeartbeats 4000000 in
theorem c_M_beats (l : Launch) (w : Wenv) (hw : okw w wM) (a1 : Int32) (σ : Mem) (r : Int32) (hf : f_M_beats a1 σ = some r) : Ctr l w wM yX10_beats cX10_beats 2 (some .int) 0 0 [.ref (w.2.2.1 0), .int a1] σ (cQi w wM r σ) := mk_ctr (Q := fun κ => qO κ wM σ) (lv := [some (.ref (w.2.2.1 0)), some (.int a1)]) (by decide) rfl hw (Nat.le_of_ble_eq_true rfl) rfl hf (fun κ h => by subst h; rfl) (fun κ hl h hR hC => by
    subst h
    exact w_M_beats hR hC a1 σ)
-- DuelRoundModel.has(II)Z (None, None) kind T
def t_M_has (a1 : Int32) (a2 : Int32) : Int32 :=
  (if ((a1 >>> (a2 &&& 31)) &&& (1 : Int32)) = (1 : Int32) then (1 : Int32) else (0 : Int32))
def f_M_has (a1 : Int32) (a2 : Int32) : Option Int32 :=
  if ((a1 >>> (a2 &&& 31)) &&& (1 : Int32)) = (1 : Int32) then
  (some (1 : Int32))
  else
  (some (0 : Int32))
theorem e_M_has (a1 : Int32) (a2 : Int32) : f_M_has a1 a2 = some (t_M_has a1 a2) := by
  unfold f_M_has t_M_has
  try first | rfl | (repeat' split) <;> rfl
theorem z_M_has (a1 : Int32) (a2 : Int32) : isb (t_M_has a1 a2) = true := by
  unfold t_M_has
  (repeat' split) <;> rfl
set_option maxRecDepth 100000 in
set_option maxHeartbeats 4000000 in
theorem w_M_has {κ : Ctx} (hR : kR κ = { frames := 0, cells := 0, slots := 0, locals := 0 }) (hC : ok κ wM cX10_has 2 RX10 (some .boolean)) (a1 : Int32) (a2 : Int32) (σ : Mem) : wF κ wM 2 (qO κ wM σ) σ 0 [some (.int a1), some (.int a2)] [] (f_M_has a1 a2) := by
  unfold f_M_has
  refine r_iload_n (pc := 0) hC rfl dX10_has_0 ?_
  refine r_iload_n (pc := 1) hC rfl dX10_has_1 ?_
  refine r_ishr (pc := 2) hC dX10_has_2 ?_
  refine r_iconst (pc := 3) hC (v := (1 : Int32)) (by decide) dX10_has_3 ?_
  refine r_iand (pc := 4) hC dX10_has_4 ?_
  refine r_iconst (pc := 5) hC (v := (1 : Int32)) (by decide) dX10_has_5 ?_
  refine r_icmp_ne (pc := 6) (tgt := 13) hC dX10_has_6 (by decide) ?_ ?_
  · refine r_iconst (pc := 13) hC (v := (0 : Int32)) (by decide) dX10_has_13 ?_
    exact r_retO hC rfl dX10_has_14
  · refine r_iconst (pc := 9) hC (v := (1 : Int32)) (by decide) dX10_has_9 ?_
    refine r_goto (pc := 10) (tgt := 14) hC dX10_has_10 (by decide) ?_
    exact r_retO hC rfl dX10_has_14
set_option maxRecDepth 100000 in
set_option maxHeartbeats 4000000 in
theorem c_M_has (l : Launch) (w : Wenv) (hw : okw w wM) (a1 : Int32) (a2 : Int32) (σ : Mem) : Ctr l w wM yX10_has cX10_has 2 (some .boolean) 0 0 [.int a1, .int a2] σ (cQi w wM (t_M_has a1 a2) σ) := mk_ctr (Q := fun κ => qO κ wM σ) (lv := [some (.int a1), some (.int a2)]) (by decide) rfl hw (Nat.le_of_ble_eq_true rfl) rfl (e_M_has a1 a2) (fun κ h => by subst h; rfl) (fun κ hl h hR hC => by
    subst h
    exact w_M_has hR hC a1 a2 σ)
-- DuelRoundModel.areNames([II)Z (0, 3, None) kind O
def M_areNamesK_B20 (σ : Mem) (a1 : Int32) (x1 : Int32) (i2 : Int32) (self3 : Int32 → Option Int32) (self6 : Int32 → Option Int32) (i5 : Int32) : Option Int32 :=
  if x1 ≤ i5 then
  (self3 (i2 + (1 : Int32)))
  else
  (ob (f_M_beats i2 σ) fun r7 =>
  gd (inb i2 8) (gd (inb (a1 + (gI σ 26 i2.toNatClampNeg)) 18) (gd (inb i5 8) (if (t_M_has r7 i5) = (t_M_has (gI σ 4 (a1 + (gI σ 26 i2.toNatClampNeg)).toNatClampNeg) (gI σ 26 i5.toNatClampNeg)) then
  (self6 (i5 + (1 : Int32)))
  else
  (some (0 : Int32))))))
def M_areNamesK_B8 (N : Nat) (σ : Mem) (a1 : Int32) (x1 : Int32) (self3 : Int32 → Option Int32) (i2 : Int32) : Option Int32 :=
  if x1 ≤ i2 then
  (some (1 : Int32))
  else
  (bnd (i2 + (1 : Int32)) fun x4 =>
  it1 (M_areNamesK_B20 σ a1 x1 i2 self3) N x4)
def f_M_areNamesK (N : Nat) (a1 : Int32) (σ : Mem) : Option Int32 :=
  bnd (t_M_many σ) fun x1 =>
  it1 (M_areNamesK_B8 N σ a1 x1) N (0 : Int32)
set_option maxRecDepth 100000 in
set_option maxHeartbeats 4000000 in
theorem w_M_areNamesK {κ : Ctx} (hR : kR κ = { frames := 1, cells := 0, slots := 0, locals := 21 }) (hC : ok κ wM cX10_areNames 6 RX10 (some .boolean)) (N : Nat) (a1 : Int32) (σ : Mem) : wF κ wM 6 (qO κ wM σ) σ 0 [some (.ref (ad κ 0)), some (.ref (ad κ 3)), some (.int a1), none, none, none] [] (f_M_areNamesK N a1 σ) := by
  unfold f_M_areNamesK
  refine r_aload_n (pc := 0) hC rfl dX10_areNames_0 ?_
  refine r_cT (pc := 1) (rest := []) (runV [] hC (c_M_many (kl κ) (kW κ) hC.2.2.2.2.2.2.2.2.1 σ) o_X10_many k_1274 (q0 := 0) (ci := 10) rfl rfl (rm_ok hR rfl) rfl (Nat.le_of_ble_eq_true rfl) dX10_areNames_1) ?_
  refine r_let (fun x1 => ?_)
  refine r_istore_n (pc := 4) hC rfl rfl dX10_areNames_4 ?_
  refine r_iconst (pc := 5) hC (v := (0 : Int32)) (by decide) dX10_areNames_5 ?_
  refine r_istore (pc := 6) hC rfl rfl dX10_areNames_6 ?_
  refine w_it1 (fun i2 => σ) (fun i2 => [some (.ref (ad κ 0)), some (.ref (ad κ 3)), some (.int a1), some (.int x1), some (.int i2), none]) (fun self3 ih8_3 i2 => ?_) N (0 : Int32)
  unfold M_areNamesK_B8
  refine r_iload (pc := 8) hC rfl dX10_areNames_8 ?_
  refine r_iload_n (pc := 10) hC rfl dX10_areNames_10 ?_
  refine r_icmp_ge (pc := 11) (tgt := 75) hC dX10_areNames_11 (by decide) ?_ ?_
  · refine r_iconst (pc := 75) hC (v := (1 : Int32)) (by decide) dX10_areNames_75 ?_
    exact r_retO hC rfl dX10_areNames_76
  · refine r_iload (pc := 14) hC rfl dX10_areNames_14 ?_
    refine r_iconst (pc := 16) hC (v := (1 : Int32)) (by decide) dX10_areNames_16 ?_
    refine r_iadd (pc := 17) hC dX10_areNames_17 ?_
    refine r_let (fun x4 => ?_)
    refine r_istore (pc := 18) hC rfl rfl dX10_areNames_18 ?_
    refine w_it1 (fun i5 => σ) (fun i5 => [some (.ref (ad κ 0)), some (.ref (ad κ 3)), some (.int a1), some (.int x1), some (.int i2), some (.int i5)]) (fun self6 ih20_6 i5 => ?_) N x4
    unfold M_areNamesK_B20
    refine r_iload (pc := 20) hC rfl dX10_areNames_20 ?_
    refine r_iload_n (pc := 22) hC rfl dX10_areNames_22 ?_
    refine r_icmp_ge (pc := 23) (tgt := 69) hC dX10_areNames_23 (by decide) ?_ ?_
    · refine r_iinc (pc := 69) hC (v := (1 : Int32)) rfl (by decide) rfl rfl dX10_areNames_69 ?_
      refine r_goto (pc := 72) (tgt := 8) hC dX10_areNames_72 (by decide) ?_
      exact r_wk [true, true, true, true, true, false] (ih8_3 (i2 + (1 : Int32)))
    · refine r_aload_n (pc := 26) hC rfl dX10_areNames_26 ?_
      refine r_iload (pc := 27) hC rfl dX10_areNames_27 ?_
      refine r_cO (pc := 29) (rest := []) (fun r7 hf => runV [.int i2] hC (c_M_beats (kl κ) (kW κ) hC.2.2.2.2.2.2.2.2.1 i2 σ r7 hf) o_X10_beats k_1224 (q0 := 0) (ci := 10) rfl rfl (rm_ok hR rfl) rfl (Nat.le_of_ble_eq_true rfl) dX10_areNames_29) (fun r7 => ?_)
      refine r_iload (pc := 32) hC rfl dX10_areNames_32 ?_
      refine r_cT (pc := 34) (rest := []) (runS [.int r7, .int i5] hC (c_M_has (kl κ) (kW κ) hC.2.2.2.2.2.2.2.2.1 r7 i5 σ) o_X10_has k_1194 (rm_ok hR rfl) rfl (Nat.le_of_ble_eq_true rfl) dX10_areNames_34) ?_
      refine r_aload_n (pc := 37) hC rfl dX10_areNames_37 ?_
      refine r_iload_n (pc := 38) hC rfl dX10_areNames_38 ?_
      refine r_aload_n (pc := 39) hC rfl dX10_areNames_39 ?_
      refine gM_0_26 (pc := 40) hC k_1063 dX10_areNames_40 ?_
      refine r_iload (pc := 43) hC rfl dX10_areNames_43 ?_
      refine aM_20 (pc := 45) hC dX10_areNames_45 ?_
      refine r_iadd (pc := 46) hC dX10_areNames_46 ?_
      refine aM_3 (pc := 47) hC dX10_areNames_47 ?_
      refine r_aload_n (pc := 48) hC rfl dX10_areNames_48 ?_
      refine gM_0_26 (pc := 49) hC k_1063 dX10_areNames_49 ?_
      refine r_iload (pc := 52) hC rfl dX10_areNames_52 ?_
      refine aM_20 (pc := 54) hC dX10_areNames_54 ?_
      refine r_cT (pc := 55) (rest := [.int (t_M_has r7 i5)]) (runS [.int (gI σ 4 (a1 + (gI σ 26 i2.toNatClampNeg)).toNatClampNeg), .int (gI σ 26 i5.toNatClampNeg)] hC (c_M_has (kl κ) (kW κ) hC.2.2.2.2.2.2.2.2.1 (gI σ 4 (a1 + (gI σ 26 i2.toNatClampNeg)).toNatClampNeg) (gI σ 26 i5.toNatClampNeg) σ) o_X10_has k_1194 (rm_ok hR rfl) rfl (Nat.le_of_ble_eq_true rfl) dX10_areNames_55) ?_
      refine r_icmp_eq (pc := 58) (tgt := 63) hC dX10_areNames_58 (by decide) ?_ ?_
      · refine r_iinc (pc := 63) hC (v := (1 : Int32)) rfl (by decide) rfl rfl dX10_areNames_63 ?_
        refine r_goto (pc := 66) (tgt := 20) hC dX10_areNames_66 (by decide) ?_
        exact ih20_6 (i5 + (1 : Int32))
      · refine r_iconst (pc := 61) hC (v := (0 : Int32)) (by decide) dX10_areNames_61 ?_
        exact r_retO hC rfl dX10_areNames_62
set_option maxRecDepth 100000 in
set_option maxHeartbeats 4000000 in
theorem c_M_areNamesK (l : Launch) (w : Wenv) (hw : okw w wM) (N : Nat) (a1 : Int32) (σ : Mem) (r : Int32) (hf : f_M_areNamesK N a1 σ = some r) : Ctr l w wM yX10_areNames cX10_areNames 6 (some .boolean) 1 21 [.ref (w.2.2.1 0), .ref (w.2.2.1 3), .int a1] σ (cQi w wM r σ) := mk_ctr (Q := fun κ => qO κ wM σ) (lv := [some (.ref (w.2.2.1 0)), some (.ref (w.2.2.1 3)), some (.int a1), none, none, none]) (by decide) rfl hw (Nat.le_of_ble_eq_true rfl) rfl hf (fun κ h => by subst h; rfl) (fun κ hl h hR hC => by
    subst h
    exact w_M_areNamesK hR hC N a1 σ)
-- DuelRoundModel.swap(II)V (0, None, None) kind M
def f_M_swap (a1 : Int32) (a2 : Int32) (σ : Mem) : Option Mem :=
  gd (inb a1 8) (bnd (gI σ 26 a1.toNatClampNeg) fun x1 =>
  gd (inb a2 8) (gd (inb a1 8) (bnd (sI σ 26 a1.toNatClampNeg (gI σ 26 a2.toNatClampNeg)) fun s2 =>
  gd (inb a2 8) (bnd (sI s2 26 a2.toNatClampNeg x1) fun s3 =>
  some s3))))
set_option maxRecDepth 100000 in
set_option maxHeartbeats 4000000 in
theorem w_M_swap {κ : Ctx} (hR : kR κ = { frames := 0, cells := 0, slots := 0, locals := 0 }) (hC : ok κ wM cX10_swap 4 RX10 none) (a1 : Int32) (a2 : Int32) (σ : Mem) : wF κ wM 4 (qM κ wM) σ 0 [some (.ref (ad κ 0)), some (.int a1), some (.int a2), none] [] (f_M_swap a1 a2 σ) := by
  unfold f_M_swap
  refine r_aload_n (pc := 0) hC rfl dX10_swap_0 ?_
  refine gM_0_26 (pc := 1) hC k_1063 dX10_swap_1 ?_
  refine r_iload_n (pc := 4) hC rfl dX10_swap_4 ?_
  refine aM_20 (pc := 5) hC dX10_swap_5 ?_
  refine r_let (fun x1 => ?_)
  refine r_istore_n (pc := 6) hC rfl rfl dX10_swap_6 ?_
  refine r_aload_n (pc := 7) hC rfl dX10_swap_7 ?_
  refine gM_0_26 (pc := 8) hC k_1063 dX10_swap_8 ?_
  refine r_iload_n (pc := 11) hC rfl dX10_swap_11 ?_
  refine r_aload_n (pc := 12) hC rfl dX10_swap_12 ?_
  refine gM_0_26 (pc := 13) hC k_1063 dX10_swap_13 ?_
  refine r_iload_n (pc := 16) hC rfl dX10_swap_16 ?_
  refine aM_20 (pc := 17) hC dX10_swap_17 ?_
  refine bM_20 (pc := 18) hC dX10_swap_18 ?_
  refine r_letm (fun s2 => ?_)
  refine r_aload_n (pc := 19) hC rfl dX10_swap_19 ?_
  refine gM_0_26 (pc := 20) hC k_1063 dX10_swap_20 ?_
  refine r_iload_n (pc := 23) hC rfl dX10_swap_23 ?_
  refine r_iload_n (pc := 24) hC rfl dX10_swap_24 ?_
  refine bM_20 (pc := 25) hC dX10_swap_25 ?_
  refine r_letm (fun s3 => ?_)
  exact r_retM hC dX10_swap_26
set_option maxRecDepth 100000 in
set_option maxHeartbeats 4000000 in
theorem c_M_swap (l : Launch) (w : Wenv) (hw : okw w wM) (a1 : Int32) (a2 : Int32) (σ : Mem) (τ : Mem) (hf : f_M_swap a1 a2 σ = some τ) : Ctr l w wM yX10_swap cX10_swap 4 none 0 0 [.ref (w.2.2.1 0), .int a1, .int a2] σ (cQv w wM τ) := mk_ctr (Q := fun κ => qM κ wM) (lv := [some (.ref (w.2.2.1 0)), some (.int a1), some (.int a2), none]) (by decide) rfl hw (Nat.le_of_ble_eq_true rfl) rfl hf (fun κ h => by subst h; rfl) (fun κ hl h hR hC => by
    subst h
    exact w_M_swap hR hC a1 a2 σ)
-- DuelRoundModel.nextOrder()Z (0,) kind OM
def M_nextOrder_B83 (self12 : Int32 → Int32 → Mem → Option (Int32 × Mem)) (i9 : Int32) (i10 : Int32) (s11 : Mem) : Option (Int32 × Mem) :=
  if i10 ≤ i9 then
  (some ((1 : Int32), s11))
  else
  (ob (f_M_swap i9 i10 s11) fun s13 =>
  self12 (i9 + (1 : Int32)) (i10 + (-1 : Int32)) s13)
def M_nextOrder_K67 (N : Nat) (σ : Mem) (x1 : Int32) (y3 : Int32) (y5 : Int32) : Option (Int32 × Mem) :=
  ob (f_M_swap y3 y5 σ) fun s6 =>
  bnd (y3 + (1 : Int32)) fun x7 =>
  bnd (x1 - (1 : Int32)) fun x8 =>
  it3 (M_nextOrder_B83) N x7 x8 s6
def M_nextOrder_B46 (N : Nat) (σ : Mem) (x1 : Int32) (y3 : Int32) (self15 : Int32 → Option (Int32 × Mem)) (i14 : Int32) : Option (Int32 × Mem) :=
  gd (inb i14 8) (gd (inb y3 8) (if (gI σ 26 y3.toNatClampNeg) ≤ (gI σ 26 i14.toNatClampNeg) then
  (M_nextOrder_K67 N σ x1 y3 i14)
  else
  (self15 (i14 + (-1 : Int32)))))
def M_nextOrder_K36 (N : Nat) (σ : Mem) (x1 : Int32) (y3 : Int32) : Option (Int32 × Mem) :=
  if (0 : Int32) ≤ y3 then
  (bnd (x1 - (1 : Int32)) fun x4 =>
  it1 (M_nextOrder_B46 N σ x1 y3) N x4)
  else
  (some ((0 : Int32), σ))
def M_nextOrder_B9 (N : Nat) (σ : Mem) (x1 : Int32) (self17 : Int32 → Option (Int32 × Mem)) (i16 : Int32) : Option (Int32 × Mem) :=
  if i16 < (0 : Int32) then
  (M_nextOrder_K36 N σ x1 i16)
  else
  (gd (inb i16 8) (gd (inb (i16 + (1 : Int32)) 8) (if (gI σ 26 i16.toNatClampNeg) ≤ (gI σ 26 (i16 + (1 : Int32)).toNatClampNeg) then
  (M_nextOrder_K36 N σ x1 i16)
  else
  (self17 (i16 + (-1 : Int32))))))
def f_M_nextOrder (N : Nat) (σ : Mem) : Option (Int32 × Mem) :=
  bnd (t_M_many σ) fun x1 =>
  bnd (x1 - (2 : Int32)) fun x2 =>
  it1 (M_nextOrder_B9 N σ x1) N x2
set_option maxRecDepth 100000 in
set_option maxHeartbeats 4000000 in
theorem w_M_nextOrder {κ : Ctx} (hR : kR κ = { frames := 1, cells := 0, slots := 0, locals := 23 }) (hC : ok κ wM cX10_nextOrder 6 RX10 (some .boolean)) (N : Nat) (σ : Mem) : wF κ wM 6 (qOM κ wM) σ 0 [some (.ref (ad κ 0)), none, none, none, none, none] [] (f_M_nextOrder N  σ) := by
  unfold f_M_nextOrder
  refine r_aload_n (pc := 0) hC rfl dX10_nextOrder_0 ?_
  refine r_cT (pc := 1) (rest := []) (runV [] hC (c_M_many (kl κ) (kW κ) hC.2.2.2.2.2.2.2.2.1 σ) o_X10_many k_1274 (q0 := 0) (ci := 10) rfl rfl (rm_ok hR rfl) rfl (Nat.le_of_ble_eq_true rfl) dX10_nextOrder_1) ?_
  refine r_let (fun x1 => ?_)
  refine r_istore_n (pc := 4) hC rfl rfl dX10_nextOrder_4 ?_
  refine r_iload_n (pc := 5) hC rfl dX10_nextOrder_5 ?_
  refine r_iconst (pc := 6) hC (v := (2 : Int32)) (by decide) dX10_nextOrder_6 ?_
  refine r_isub (pc := 7) hC dX10_nextOrder_7 ?_
  refine r_let (fun x2 => ?_)
  refine r_istore_n (pc := 8) hC rfl rfl dX10_nextOrder_8 ?_
  have hK36_15 : ∀ (y3 : Int32), wF κ wM 6 (qOM κ wM) σ 36 [some (.ref (ad κ 0)), some (.int x1), some (.int y3), none, none, none] [] (M_nextOrder_K36 N σ x1 y3) := by
    intro y3
    unfold M_nextOrder_K36
    refine r_iload_n (pc := 36) hC rfl dX10_nextOrder_36 ?_
    refine r_if_ge (pc := 37) (tgt := 42) hC dX10_nextOrder_37 (by decide) ?_ ?_
    · refine r_iload_n (pc := 42) hC rfl dX10_nextOrder_42 ?_
      refine r_iconst (pc := 43) hC (v := (1 : Int32)) (by decide) dX10_nextOrder_43 ?_
      refine r_isub (pc := 44) hC dX10_nextOrder_44 ?_
      refine r_let (fun x4 => ?_)
      refine r_istore_n (pc := 45) hC rfl rfl dX10_nextOrder_45 ?_
      have hK67_13 : ∀ (y5 : Int32), wF κ wM 6 (qOM κ wM) σ 67 [some (.ref (ad κ 0)), some (.int x1), some (.int y3), some (.int y5), none, none] [] (M_nextOrder_K67 N σ x1 y3 y5) := by
        intro y5
        unfold M_nextOrder_K67
        refine r_aload_n (pc := 67) hC rfl dX10_nextOrder_67 ?_
        refine r_iload_n (pc := 68) hC rfl dX10_nextOrder_68 ?_
        refine r_iload_n (pc := 69) hC rfl dX10_nextOrder_69 ?_
        refine r_cM (pc := 70) (rest := []) (fun s6 hf => runV [.int y3, .int y5] hC (c_M_swap (kl κ) (kW κ) hC.2.2.2.2.2.2.2.2.1 y3 y5 σ s6 hf) o_X10_swap k_1458 (q0 := 0) (ci := 10) rfl rfl (rm_ok hR rfl) rfl (Nat.le_of_ble_eq_true rfl) dX10_nextOrder_70) (fun s6 => ?_)
        refine r_iload_n (pc := 73) hC rfl dX10_nextOrder_73 ?_
        refine r_iconst (pc := 74) hC (v := (1 : Int32)) (by decide) dX10_nextOrder_74 ?_
        refine r_iadd (pc := 75) hC dX10_nextOrder_75 ?_
        refine r_let (fun x7 => ?_)
        refine r_istore (pc := 76) hC rfl rfl dX10_nextOrder_76 ?_
        refine r_iload_n (pc := 78) hC rfl dX10_nextOrder_78 ?_
        refine r_iconst (pc := 79) hC (v := (1 : Int32)) (by decide) dX10_nextOrder_79 ?_
        refine r_isub (pc := 80) hC dX10_nextOrder_80 ?_
        refine r_let (fun x8 => ?_)
        refine r_istore (pc := 81) hC rfl rfl dX10_nextOrder_81 ?_
        refine r_wk [true, false, false, false, true, true] (w_it3 (fun i9 i10 s11 => s11) (fun i9 i10 s11 => [some (.ref (ad κ 0)), none, none, none, some (.int i9), some (.int i10)]) (fun self12 ih83_12 i9 i10 s11 => ?_) N x7 x8 s6)
        unfold M_nextOrder_B83
        refine r_iload (pc := 83) hC rfl dX10_nextOrder_83 ?_
        refine r_iload (pc := 85) hC rfl dX10_nextOrder_85 ?_
        refine r_icmp_ge (pc := 87) (tgt := 107) hC dX10_nextOrder_87 (by decide) ?_ ?_
        · refine r_iconst (pc := 107) hC (v := (1 : Int32)) (by decide) dX10_nextOrder_107 ?_
          exact r_retOM hC rfl dX10_nextOrder_108
        · refine r_aload_n (pc := 90) hC rfl dX10_nextOrder_90 ?_
          refine r_iload (pc := 91) hC rfl dX10_nextOrder_91 ?_
          refine r_iload (pc := 93) hC rfl dX10_nextOrder_93 ?_
          refine r_cM (pc := 95) (rest := []) (fun s13 hf => runV [.int i9, .int i10] hC (c_M_swap (kl κ) (kW κ) hC.2.2.2.2.2.2.2.2.1 i9 i10 s11 s13 hf) o_X10_swap k_1458 (q0 := 0) (ci := 10) rfl rfl (rm_ok hR rfl) rfl (Nat.le_of_ble_eq_true rfl) dX10_nextOrder_95) (fun s13 => ?_)
          refine r_iinc (pc := 98) hC (v := (-1 : Int32)) rfl (by decide) rfl rfl dX10_nextOrder_98 ?_
          refine r_iinc (pc := 101) hC (v := (1 : Int32)) rfl (by decide) rfl rfl dX10_nextOrder_101 ?_
          refine r_goto (pc := 104) (tgt := 83) hC dX10_nextOrder_104 (by decide) ?_
          exact ih83_12 (i9 + (1 : Int32)) (i10 + (-1 : Int32)) s13
      refine w_it1 (fun i14 => σ) (fun i14 => [some (.ref (ad κ 0)), some (.int x1), some (.int y3), some (.int i14), none, none]) (fun self15 ih46_15 i14 => ?_) N x4
      unfold M_nextOrder_B46
      refine r_aload_n (pc := 46) hC rfl dX10_nextOrder_46 ?_
      refine gM_0_26 (pc := 47) hC k_1063 dX10_nextOrder_47 ?_
      refine r_iload_n (pc := 50) hC rfl dX10_nextOrder_50 ?_
      refine aM_20 (pc := 51) hC dX10_nextOrder_51 ?_
      refine r_aload_n (pc := 52) hC rfl dX10_nextOrder_52 ?_
      refine gM_0_26 (pc := 53) hC k_1063 dX10_nextOrder_53 ?_
      refine r_iload_n (pc := 56) hC rfl dX10_nextOrder_56 ?_
      refine aM_20 (pc := 57) hC dX10_nextOrder_57 ?_
      refine r_icmp_ge (pc := 58) (tgt := 67) hC dX10_nextOrder_58 (by decide) ?_ ?_
      · exact hK67_13 i14
      · refine r_iinc (pc := 61) hC (v := (-1 : Int32)) rfl (by decide) rfl rfl dX10_nextOrder_61 ?_
        refine r_goto (pc := 64) (tgt := 46) hC dX10_nextOrder_64 (by decide) ?_
        exact ih46_15 (i14 + (-1 : Int32))
    · refine r_iconst (pc := 40) hC (v := (0 : Int32)) (by decide) dX10_nextOrder_40 ?_
      exact r_retOM hC rfl dX10_nextOrder_41
  refine w_it1 (fun i16 => σ) (fun i16 => [some (.ref (ad κ 0)), some (.int x1), some (.int i16), none, none, none]) (fun self17 ih9_17 i16 => ?_) N x2
  unfold M_nextOrder_B9
  refine r_iload_n (pc := 9) hC rfl dX10_nextOrder_9 ?_
  refine r_if_lt (pc := 10) (tgt := 36) hC dX10_nextOrder_10 (by decide) ?_ ?_
  · exact hK36_15 i16
  · refine r_aload_n (pc := 13) hC rfl dX10_nextOrder_13 ?_
    refine gM_0_26 (pc := 14) hC k_1063 dX10_nextOrder_14 ?_
    refine r_iload_n (pc := 17) hC rfl dX10_nextOrder_17 ?_
    refine aM_20 (pc := 18) hC dX10_nextOrder_18 ?_
    refine r_aload_n (pc := 19) hC rfl dX10_nextOrder_19 ?_
    refine gM_0_26 (pc := 20) hC k_1063 dX10_nextOrder_20 ?_
    refine r_iload_n (pc := 23) hC rfl dX10_nextOrder_23 ?_
    refine r_iconst (pc := 24) hC (v := (1 : Int32)) (by decide) dX10_nextOrder_24 ?_
    refine r_iadd (pc := 25) hC dX10_nextOrder_25 ?_
    refine aM_20 (pc := 26) hC dX10_nextOrder_26 ?_
    refine r_icmp_le (pc := 27) (tgt := 36) hC dX10_nextOrder_27 (by decide) ?_ ?_
    · exact hK36_15 i16
    · refine r_iinc (pc := 30) hC (v := (-1 : Int32)) rfl (by decide) rfl rfl dX10_nextOrder_30 ?_
      refine r_goto (pc := 33) (tgt := 9) hC dX10_nextOrder_33 (by decide) ?_
      exact ih9_17 (i16 + (-1 : Int32))
set_option maxRecDepth 100000 in
set_option maxHeartbeats 4000000 in
theorem c_M_nextOrder (l : Launch) (w : Wenv) (hw : okw w wM) (N : Nat) (σ : Mem) (r : Int32) (τ : Mem) (hf : f_M_nextOrder N  σ = some (r, τ)) : Ctr l w wM yX10_nextOrder cX10_nextOrder 6 (some .boolean) 1 23 [.ref (w.2.2.1 0)] σ (cQi w wM r τ) := mk_ctr (Q := fun κ => qOM κ wM) (lv := [some (.ref (w.2.2.1 0)), none, none, none, none, none]) (by decide) rfl hw (Nat.le_of_ble_eq_true rfl) rfl hf (fun κ h => by subst h; rfl) (fun κ hl h hR hC => by
    subst h
    exact w_M_nextOrder hR hC N  σ)
-- DuelRoundModel.isAlike(I)Z (0, None) kind OM
def M_isAlike_B26 (N : Nat) (a1 : Int32) (self5 : Int32 → Mem → Option (Int32 × Mem)) (i3 : Int32) (s4 : Mem) : Option (Int32 × Mem) :=
  if i3 = (0 : Int32) then
  (gd (isb i3) (some (i3, s4)))
  else
  (ob (f_M_areNamesK N (((9 : Int32) * a1) + (1 : Int32)) s4) fun r6 =>
  if r6 = (0 : Int32) then
  (ob2 (f_M_nextOrder N s4) fun r8 s7 =>
  self5 r8 s7)
  else
  (gd (isb i3) (some (i3, s4))))
def M_isAlike_J25 (N : Nat) (s1 : Mem) (a1 : Int32) (v2 : Int32) : Option (Int32 × Mem) :=
  it2 (M_isAlike_B26 N a1) N v2 s1
def f_M_isAlike (N : Nat) (a1 : Int32) (σ : Mem) : Option (Int32 × Mem) :=
  ob (f_M_firstOrder N σ) fun s1 =>
  gd (inb ((9 : Int32) * a1) 18) (if (gI s1 4 ((9 : Int32) * a1).toNatClampNeg) = (t_M_many s1) then
  (M_isAlike_J25 N s1 a1 (1 : Int32))
  else
  (M_isAlike_J25 N s1 a1 (0 : Int32)))
set_option maxRecDepth 100000 in
set_option maxHeartbeats 4000000 in
theorem w_M_isAlike {κ : Ctx} (hR : kR κ = { frames := 2, cells := 0, slots := 0, locals := 48 }) (hC : ok κ wM cX10_isAlike 3 RX10 (some .boolean)) (N : Nat) (a1 : Int32) (σ : Mem) : wF κ wM 3 (qOM κ wM) σ 0 [some (.ref (ad κ 0)), some (.int a1), none] [] (f_M_isAlike N a1 σ) := by
  unfold f_M_isAlike
  refine r_aload_n (pc := 0) hC rfl dX10_isAlike_0 ?_
  refine r_cM (pc := 1) (rest := []) (fun s1 hf => runV [] hC (c_M_firstOrder (kl κ) (kW κ) hC.2.2.2.2.2.2.2.2.1 N σ s1 hf) o_X10_firstOrder k_1446 (q0 := 0) (ci := 10) rfl rfl (rm_ok hR rfl) rfl (Nat.le_of_ble_eq_true rfl) dX10_isAlike_1) (fun s1 => ?_)
  refine r_aload_n (pc := 4) hC rfl dX10_isAlike_4 ?_
  refine gM_0_4 (pc := 5) hC k_1041 dX10_isAlike_5 ?_
  refine r_bipush (pc := 8) hC (v := (9 : Int32)) (by decide) dX10_isAlike_8 ?_
  refine r_iload_n (pc := 10) hC rfl dX10_isAlike_10 ?_
  refine r_imul (pc := 11) hC dX10_isAlike_11 ?_
  refine aM_3 (pc := 12) hC dX10_isAlike_12 ?_
  refine r_aload_n (pc := 13) hC rfl dX10_isAlike_13 ?_
  refine r_cT (pc := 14) (rest := [.int (gI s1 4 ((9 : Int32) * a1).toNatClampNeg)]) (runV [] hC (c_M_many (kl κ) (kW κ) hC.2.2.2.2.2.2.2.2.1 s1) o_X10_many k_1274 (q0 := 0) (ci := 10) rfl rfl (rm_ok hR rfl) rfl (Nat.le_of_ble_eq_true rfl) dX10_isAlike_14) ?_
  have hJ25_8 : ∀ (v2 : Int32), wF κ wM 3 (qOM κ wM) s1 25 [some (.ref (ad κ 0)), some (.int a1), none] [.int v2] (M_isAlike_J25 N s1 a1 v2) := by
    intro v2
    unfold M_isAlike_J25
    refine r_istore_n (pc := 25) hC rfl rfl dX10_isAlike_25 ?_
    refine w_it2 (fun i3 s4 => s4) (fun i3 s4 => [some (.ref (ad κ 0)), some (.int a1), some (.int i3)]) (fun self5 ih26_5 i3 s4 => ?_) N v2 s1
    unfold M_isAlike_B26
    refine r_iload_n (pc := 26) hC rfl dX10_isAlike_26 ?_
    refine r_if_eq (pc := 27) (tgt := 55) hC dX10_isAlike_27 (by decide) ?_ ?_
    · refine r_iload_n (pc := 55) hC rfl dX10_isAlike_55 ?_
      exact r_retOMb hC dX10_isAlike_56
    · refine r_aload_n (pc := 30) hC rfl dX10_isAlike_30 ?_
      refine r_aload_n (pc := 31) hC rfl dX10_isAlike_31 ?_
      refine gM_0_4 (pc := 32) hC k_1041 dX10_isAlike_32 ?_
      refine r_bipush (pc := 35) hC (v := (9 : Int32)) (by decide) dX10_isAlike_35 ?_
      refine r_iload_n (pc := 37) hC rfl dX10_isAlike_37 ?_
      refine r_imul (pc := 38) hC dX10_isAlike_38 ?_
      refine r_iconst (pc := 39) hC (v := (1 : Int32)) (by decide) dX10_isAlike_39 ?_
      refine r_iadd (pc := 40) hC dX10_isAlike_40 ?_
      refine r_cO (pc := 41) (rest := []) (fun r6 hf => runV [.ref (ad κ 3), .int (((9 : Int32) * a1) + (1 : Int32))] hC (c_M_areNamesK (kl κ) (kW κ) hC.2.2.2.2.2.2.2.2.1 N (((9 : Int32) * a1) + (1 : Int32)) s4 r6 hf) o_X10_areNames k_1558 (q0 := 0) (ci := 10) rfl rfl (rm_ok hR rfl) rfl (Nat.le_of_ble_eq_true rfl) dX10_isAlike_41) (fun r6 => ?_)
      refine r_if_ne (pc := 44) (tgt := 55) hC dX10_isAlike_44 (by decide) ?_ ?_
      · refine r_iload_n (pc := 55) hC rfl dX10_isAlike_55 ?_
        exact r_retOMb hC dX10_isAlike_56
      · refine r_aload_n (pc := 47) hC rfl dX10_isAlike_47 ?_
        refine r_cOM (pc := 48) (rest := []) (fun r8 s7 hf => runV [] hC (c_M_nextOrder (kl κ) (kW κ) hC.2.2.2.2.2.2.2.2.1 N s4 r8 s7 hf) o_X10_nextOrder k_1454 (q0 := 0) (ci := 10) rfl rfl (rm_ok hR rfl) rfl (Nat.le_of_ble_eq_true rfl) dX10_isAlike_48) (fun r8 s7 => ?_)
        refine r_istore_n (pc := 51) hC rfl rfl dX10_isAlike_51 ?_
        refine r_goto (pc := 52) (tgt := 26) hC dX10_isAlike_52 (by decide) ?_
        exact ih26_5 r8 s7
  refine r_icmp_ne (pc := 17) (tgt := 24) hC dX10_isAlike_17 (by decide) ?_ ?_
  · refine r_iconst (pc := 24) hC (v := (0 : Int32)) (by decide) dX10_isAlike_24 ?_
    exact hJ25_8 (0 : Int32)
  · refine r_iconst (pc := 20) hC (v := (1 : Int32)) (by decide) dX10_isAlike_20 ?_
    refine r_goto (pc := 21) (tgt := 25) hC dX10_isAlike_21 (by decide) ?_
    exact hJ25_8 (1 : Int32)
set_option maxRecDepth 100000 in
set_option maxHeartbeats 4000000 in
theorem c_M_isAlike (l : Launch) (w : Wenv) (hw : okw w wM) (N : Nat) (a1 : Int32) (σ : Mem) (r : Int32) (τ : Mem) (hf : f_M_isAlike N a1 σ = some (r, τ)) : Ctr l w wM yX10_isAlike cX10_isAlike 3 (some .boolean) 2 48 [.ref (w.2.2.1 0), .int a1] σ (cQi w wM r τ) := mk_ctr (Q := fun κ => qOM κ wM) (lv := [some (.ref (w.2.2.1 0)), some (.int a1), none]) (by decide) rfl hw (Nat.le_of_ble_eq_true rfl) rfl hf (fun κ h => by subst h; rfl) (fun κ hl h hR hC => by
    subst h
    exact w_M_isAlike hR hC N a1 σ)
-- DuelRoundModel.alike(II)I (0, None, None) kind OM
def M_alike_B106 (s1 : Mem) (a1 : Int32) (v2 : Int32) (i4 : Int32) (self5 : Int32 → Int32 → Option (Int32 × Mem)) (self9 : Int32 → Int32 → Option (Int32 × Mem)) (i7 : Int32) (i8 : Int32) : Option (Int32 × Mem) :=
  if v2 ≤ i8 then
  (self5 i7 (i4 + (1 : Int32)))
  else
  (ob (f_M_beats i4 s1) fun r10 =>
  gd (inb ((((9 : Int32) * a1) + (1 : Int32)) + i4) 18) (if (t_M_has r10 i8) = (t_M_has (gI s1 4 ((((9 : Int32) * a1) + (1 : Int32)) + i4).toNatClampNeg) i8) then
  (bnd (i7 + (0 : Int32)) fun x11 =>
  self9 x11 (i8 + (1 : Int32)))
  else
  (bnd (i7 + (1 : Int32)) fun x12 =>
  self9 x12 (i8 + (1 : Int32)))))
def M_alike_B93 (N : Nat) (s1 : Mem) (a1 : Int32) (v2 : Int32) (self5 : Int32 → Int32 → Option (Int32 × Mem)) (i3 : Int32) (i4 : Int32) : Option (Int32 × Mem) :=
  if v2 ≤ i4 then
  (some (i3, s1))
  else
  (bnd (i4 + (1 : Int32)) fun x6 =>
  it2 (M_alike_B106 s1 a1 v2 i4 self5) N i3 x6)
def M_alike_J88 (N : Nat) (s1 : Mem) (a1 : Int32) (v2 : Int32) : Option (Int32 × Mem) :=
  it2 (M_alike_B93 N s1 a1 v2) N (0 : Int32) (0 : Int32)
def f_M_alike (N : Nat) (a1 : Int32) (a2 : Int32) (σ : Mem) : Option (Int32 × Mem) :=
  bnd (sI σ 0 0 (0 : Int32)) fun s1 =>
  if (t_M_in (a1.toInt64) (0 : Int64) (1 : Int64)) = (0 : Int32) then
  (some ((-1 : Int32), s1))
  else
  (gd (inb a1 2) (if (gI s1 5 a1.toNatClampNeg) = (0 : Int32) then
  (some ((-1 : Int32), s1))
  else
  (if (t_M_in (a2.toInt64) (0 : Int64) (1 : Int64)) = (0 : Int32) then
  (some ((-1 : Int32), s1))
  else
  (if a2 = (0 : Int32) then
  (ob2 (f_M_isAlike N a1 s1) fun r14 s13 =>
  if r14 = (0 : Int32) then
  (some ((0 : Int32), s13))
  else
  (some ((1 : Int32), s13)))
  else
  (gd (inb ((9 : Int32) * a1) 18) (if (t_M_many s1) ≤ (gI s1 4 ((9 : Int32) * a1).toNatClampNeg) then
  (M_alike_J88 N s1 a1 (t_M_many s1))
  else
  (gd (inb ((9 : Int32) * a1) 18) (M_alike_J88 N s1 a1 (gI s1 4 ((9 : Int32) * a1).toNatClampNeg)))))))))
set_option maxRecDepth 100000 in
set_option maxHeartbeats 4000000 in
theorem w_M_alike {κ : Ctx} (hR : kR κ = { frames := 3, cells := 0, slots := 0, locals := 70 }) (hC : ok κ wM cX10_alike 7 RX10 (some .int)) (N : Nat) (a1 : Int32) (a2 : Int32) (σ : Mem) : wF κ wM 7 (qOM κ wM) σ 0 [some (.ref (ad κ 0)), some (.int a1), some (.int a2), none, none, none, none] [] (f_M_alike N a1 a2 σ) := by
  unfold f_M_alike
  refine r_aload_n (pc := 0) hC rfl dX10_alike_0 ?_
  refine r_iconst (pc := 1) hC (v := (0 : Int32)) (by decide) dX10_alike_1 ?_
  refine pM_0_0 (pc := 2) hC k_1037 dX10_alike_2 ?_
  refine r_letm (fun s1 => ?_)
  refine r_iload_n (pc := 5) hC rfl dX10_alike_5 ?_
  refine r_i2l (pc := 6) hC dX10_alike_6 ?_
  refine r_lconst (pc := 7) hC (v := (0 : Int64)) (by decide) dX10_alike_7 ?_
  refine r_lconst (pc := 8) hC (v := (1 : Int64)) (by decide) dX10_alike_8 ?_
  refine r_cT (pc := 9) (rest := []) (runS [.long (a1.toInt64), .long (0 : Int64), .long (1 : Int64)] hC (c_M_in (kl κ) (kW κ) hC.2.2.2.2.2.2.2.2.1 (a1.toInt64) (0 : Int64) (1 : Int64) s1) o_X10_in k_1161 (rm_ok hR rfl) rfl (Nat.le_of_ble_eq_true rfl) dX10_alike_9) ?_
  refine r_if_eq (pc := 12) (tgt := 34) hC dX10_alike_12 (by decide) ?_ ?_
  · refine r_iconst (pc := 34) hC (v := (-1 : Int32)) (by decide) dX10_alike_34 ?_
    exact r_retOM hC rfl dX10_alike_35
  · refine r_aload_n (pc := 15) hC rfl dX10_alike_15 ?_
    refine gM_0_5 (pc := 16) hC k_1042 dX10_alike_16 ?_
    refine r_iload_n (pc := 19) hC rfl dX10_alike_19 ?_
    refine aM_4 (pc := 20) hC dX10_alike_20 ?_
    refine r_if_eq (pc := 21) (tgt := 34) hC dX10_alike_21 (by decide) ?_ ?_
    · refine r_iconst (pc := 34) hC (v := (-1 : Int32)) (by decide) dX10_alike_34 ?_
      exact r_retOM hC rfl dX10_alike_35
    · refine r_iload_n (pc := 24) hC rfl dX10_alike_24 ?_
      refine r_i2l (pc := 25) hC dX10_alike_25 ?_
      refine r_lconst (pc := 26) hC (v := (0 : Int64)) (by decide) dX10_alike_26 ?_
      refine r_lconst (pc := 27) hC (v := (1 : Int64)) (by decide) dX10_alike_27 ?_
      refine r_cT (pc := 28) (rest := []) (runS [.long (a2.toInt64), .long (0 : Int64), .long (1 : Int64)] hC (c_M_in (kl κ) (kW κ) hC.2.2.2.2.2.2.2.2.1 (a2.toInt64) (0 : Int64) (1 : Int64) s1) o_X10_in k_1161 (rm_ok hR rfl) rfl (Nat.le_of_ble_eq_true rfl) dX10_alike_28) ?_
      refine r_if_ne (pc := 31) (tgt := 36) hC dX10_alike_31 (by decide) ?_ ?_
      · refine r_iload_n (pc := 36) hC rfl dX10_alike_36 ?_
        refine r_if_ne (pc := 37) (tgt := 54) hC dX10_alike_37 (by decide) ?_ ?_
        · refine r_iconst (pc := 54) hC (v := (0 : Int32)) (by decide) dX10_alike_54 ?_
          refine r_istore_n (pc := 55) hC rfl rfl dX10_alike_55 ?_
          refine r_aload_n (pc := 56) hC rfl dX10_alike_56 ?_
          refine gM_0_4 (pc := 57) hC k_1041 dX10_alike_57 ?_
          refine r_bipush (pc := 60) hC (v := (9 : Int32)) (by decide) dX10_alike_60 ?_
          refine r_iload_n (pc := 62) hC rfl dX10_alike_62 ?_
          refine r_imul (pc := 63) hC dX10_alike_63 ?_
          refine aM_3 (pc := 64) hC dX10_alike_64 ?_
          refine r_aload_n (pc := 65) hC rfl dX10_alike_65 ?_
          refine r_cT (pc := 66) (rest := [.int (gI s1 4 ((9 : Int32) * a1).toNatClampNeg)]) (runV [] hC (c_M_many (kl κ) (kW κ) hC.2.2.2.2.2.2.2.2.1 s1) o_X10_many k_1274 (q0 := 0) (ci := 10) rfl rfl (rm_ok hR rfl) rfl (Nat.le_of_ble_eq_true rfl) dX10_alike_66) ?_
          have hJ88_12 : ∀ (v2 : Int32), wF κ wM 7 (qOM κ wM) s1 88 [some (.ref (ad κ 0)), some (.int a1), none, some (.int (0 : Int32)), none, none, none] [.int v2] (M_alike_J88 N s1 a1 v2) := by
            intro v2
            unfold M_alike_J88
            refine r_istore (pc := 88) hC rfl rfl dX10_alike_88 ?_
            refine r_iconst (pc := 90) hC (v := (0 : Int32)) (by decide) dX10_alike_90 ?_
            refine r_istore (pc := 91) hC rfl rfl dX10_alike_91 ?_
            refine w_it2 (fun i3 i4 => s1) (fun i3 i4 => [some (.ref (ad κ 0)), some (.int a1), none, some (.int i3), some (.int v2), some (.int i4), none]) (fun self5 ih93_5 i3 i4 => ?_) N (0 : Int32) (0 : Int32)
            unfold M_alike_B93
            refine r_iload (pc := 93) hC rfl dX10_alike_93 ?_
            refine r_iload (pc := 95) hC rfl dX10_alike_95 ?_
            refine r_icmp_ge (pc := 97) (tgt := 166) hC dX10_alike_97 (by decide) ?_ ?_
            · refine r_iload_n (pc := 166) hC rfl dX10_alike_166 ?_
              exact r_retOM hC rfl dX10_alike_167
            · refine r_iload (pc := 100) hC rfl dX10_alike_100 ?_
              refine r_iconst (pc := 102) hC (v := (1 : Int32)) (by decide) dX10_alike_102 ?_
              refine r_iadd (pc := 103) hC dX10_alike_103 ?_
              refine r_let (fun x6 => ?_)
              refine r_istore (pc := 104) hC rfl rfl dX10_alike_104 ?_
              refine w_it2 (fun i7 i8 => s1) (fun i7 i8 => [some (.ref (ad κ 0)), some (.int a1), none, some (.int i7), some (.int v2), some (.int i4), some (.int i8)]) (fun self9 ih106_9 i7 i8 => ?_) N i3 x6
              unfold M_alike_B106
              refine r_iload (pc := 106) hC rfl dX10_alike_106 ?_
              refine r_iload (pc := 108) hC rfl dX10_alike_108 ?_
              refine r_icmp_ge (pc := 110) (tgt := 160) hC dX10_alike_110 (by decide) ?_ ?_
              · refine r_iinc (pc := 160) hC (v := (1 : Int32)) rfl (by decide) rfl rfl dX10_alike_160 ?_
                refine r_goto (pc := 163) (tgt := 93) hC dX10_alike_163 (by decide) ?_
                exact r_wk [true, true, false, true, true, true, false] (ih93_5 i7 (i4 + (1 : Int32)))
              · refine r_iload_n (pc := 113) hC rfl dX10_alike_113 ?_
                refine r_aload_n (pc := 114) hC rfl dX10_alike_114 ?_
                refine r_iload (pc := 115) hC rfl dX10_alike_115 ?_
                refine r_cO (pc := 117) (rest := [.int i7]) (fun r10 hf => runV [.int i4] hC (c_M_beats (kl κ) (kW κ) hC.2.2.2.2.2.2.2.2.1 i4 s1 r10 hf) o_X10_beats k_1224 (q0 := 0) (ci := 10) rfl rfl (rm_ok hR rfl) rfl (Nat.le_of_ble_eq_true rfl) dX10_alike_117) (fun r10 => ?_)
                refine r_iload (pc := 120) hC rfl dX10_alike_120 ?_
                refine r_cT (pc := 122) (rest := [.int i7]) (runS [.int r10, .int i8] hC (c_M_has (kl κ) (kW κ) hC.2.2.2.2.2.2.2.2.1 r10 i8 s1) o_X10_has k_1194 (rm_ok hR rfl) rfl (Nat.le_of_ble_eq_true rfl) dX10_alike_122) ?_
                refine r_aload_n (pc := 125) hC rfl dX10_alike_125 ?_
                refine gM_0_4 (pc := 126) hC k_1041 dX10_alike_126 ?_
                refine r_bipush (pc := 129) hC (v := (9 : Int32)) (by decide) dX10_alike_129 ?_
                refine r_iload_n (pc := 131) hC rfl dX10_alike_131 ?_
                refine r_imul (pc := 132) hC dX10_alike_132 ?_
                refine r_iconst (pc := 133) hC (v := (1 : Int32)) (by decide) dX10_alike_133 ?_
                refine r_iadd (pc := 134) hC dX10_alike_134 ?_
                refine r_iload (pc := 135) hC rfl dX10_alike_135 ?_
                refine r_iadd (pc := 137) hC dX10_alike_137 ?_
                refine aM_3 (pc := 138) hC dX10_alike_138 ?_
                refine r_iload (pc := 139) hC rfl dX10_alike_139 ?_
                refine r_cT (pc := 141) (rest := [.int (t_M_has r10 i8), .int i7]) (runS [.int (gI s1 4 ((((9 : Int32) * a1) + (1 : Int32)) + i4).toNatClampNeg), .int i8] hC (c_M_has (kl κ) (kW κ) hC.2.2.2.2.2.2.2.2.1 (gI s1 4 ((((9 : Int32) * a1) + (1 : Int32)) + i4).toNatClampNeg) i8 s1) o_X10_has k_1194 (rm_ok hR rfl) rfl (Nat.le_of_ble_eq_true rfl) dX10_alike_141) ?_
                refine r_icmp_eq (pc := 144) (tgt := 151) hC dX10_alike_144 (by decide) ?_ ?_
                · refine r_iconst (pc := 151) hC (v := (0 : Int32)) (by decide) dX10_alike_151 ?_
                  refine r_iadd (pc := 152) hC dX10_alike_152 ?_
                  refine r_let (fun x11 => ?_)
                  refine r_istore_n (pc := 153) hC rfl rfl dX10_alike_153 ?_
                  refine r_iinc (pc := 154) hC (v := (1 : Int32)) rfl (by decide) rfl rfl dX10_alike_154 ?_
                  refine r_goto (pc := 157) (tgt := 106) hC dX10_alike_157 (by decide) ?_
                  exact ih106_9 x11 (i8 + (1 : Int32))
                · refine r_iconst (pc := 147) hC (v := (1 : Int32)) (by decide) dX10_alike_147 ?_
                  refine r_goto (pc := 148) (tgt := 152) hC dX10_alike_148 (by decide) ?_
                  refine r_iadd (pc := 152) hC dX10_alike_152 ?_
                  refine r_let (fun x12 => ?_)
                  refine r_istore_n (pc := 153) hC rfl rfl dX10_alike_153 ?_
                  refine r_iinc (pc := 154) hC (v := (1 : Int32)) rfl (by decide) rfl rfl dX10_alike_154 ?_
                  refine r_goto (pc := 157) (tgt := 106) hC dX10_alike_157 (by decide) ?_
                  exact ih106_9 x12 (i8 + (1 : Int32))
          refine r_icmp_ge (pc := 69) (tgt := 84) hC dX10_alike_69 (by decide) ?_ ?_
          · refine r_aload_n (pc := 84) hC rfl dX10_alike_84 ?_
            refine r_cT (pc := 85) (rest := []) (runV [] hC (c_M_many (kl κ) (kW κ) hC.2.2.2.2.2.2.2.2.1 s1) o_X10_many k_1274 (q0 := 0) (ci := 10) rfl rfl (rm_ok hR rfl) rfl (Nat.le_of_ble_eq_true rfl) dX10_alike_85) ?_
            exact r_wk [true, true, false, true, false, false, false] (hJ88_12 (t_M_many s1))
          · refine r_aload_n (pc := 72) hC rfl dX10_alike_72 ?_
            refine gM_0_4 (pc := 73) hC k_1041 dX10_alike_73 ?_
            refine r_bipush (pc := 76) hC (v := (9 : Int32)) (by decide) dX10_alike_76 ?_
            refine r_iload_n (pc := 78) hC rfl dX10_alike_78 ?_
            refine r_imul (pc := 79) hC dX10_alike_79 ?_
            refine aM_3 (pc := 80) hC dX10_alike_80 ?_
            refine r_goto (pc := 81) (tgt := 88) hC dX10_alike_81 (by decide) ?_
            exact r_wk [true, true, false, true, false, false, false] (hJ88_12 (gI s1 4 ((9 : Int32) * a1).toNatClampNeg))
        · refine r_aload_n (pc := 40) hC rfl dX10_alike_40 ?_
          refine r_iload_n (pc := 41) hC rfl dX10_alike_41 ?_
          refine r_cOM (pc := 42) (rest := []) (fun r14 s13 hf => runV [.int a1] hC (c_M_isAlike (kl κ) (kW κ) hC.2.2.2.2.2.2.2.2.1 N a1 s1 r14 s13 hf) o_X10_isAlike k_1578 (q0 := 0) (ci := 10) rfl rfl (rm_ok hR rfl) rfl (Nat.le_of_ble_eq_true rfl) dX10_alike_42) (fun r14 s13 => ?_)
          refine r_if_eq (pc := 45) (tgt := 52) hC dX10_alike_45 (by decide) ?_ ?_
          · refine r_iconst (pc := 52) hC (v := (0 : Int32)) (by decide) dX10_alike_52 ?_
            exact r_retOM hC rfl dX10_alike_53
          · refine r_iconst (pc := 48) hC (v := (1 : Int32)) (by decide) dX10_alike_48 ?_
            refine r_goto (pc := 49) (tgt := 53) hC dX10_alike_49 (by decide) ?_
            exact r_retOM hC rfl dX10_alike_53
      · refine r_iconst (pc := 34) hC (v := (-1 : Int32)) (by decide) dX10_alike_34 ?_
        exact r_retOM hC rfl dX10_alike_35
set_option maxRecDepth 100000 in
set_option maxHeartbeats 4000000 in
theorem c_M_alike (l : Launch) (w : Wenv) (hw : okw w wM) (N : Nat) (a1 : Int32) (a2 : Int32) (σ : Mem) (r : Int32) (τ : Mem) (hf : f_M_alike N a1 a2 σ = some (r, τ)) : Ctr l w wM yX10_alike cX10_alike 7 (some .int) 3 70 [.ref (w.2.2.1 0), .int a1, .int a2] σ (cQi w wM r τ) := mk_ctr (Q := fun κ => qOM κ wM) (lv := [some (.ref (w.2.2.1 0)), some (.int a1), some (.int a2), none, none, none, none]) (by decide) rfl hw (Nat.le_of_ble_eq_true rfl) rfl hf (fun κ h => by subst h; rfl) (fun κ hl h hR hC => by
    subst h
    exact w_M_alike hR hC N a1 a2 σ)
-- DuelRoundModel.isPlayer(I)Z (0, None) kind T
def t_M_isPlayer (a1 : Int32) (σ : Mem) : Int32 :=
  (t_M_in (a1.toInt64) (0 : Int64) (((gI σ 1 (0 : Int32).toNatClampNeg).toInt64) - (1 : Int64)))
def f_M_isPlayer (a1 : Int32) (σ : Mem) : Option Int32 :=
  some (t_M_in (a1.toInt64) (0 : Int64) (((gI σ 1 (0 : Int32).toNatClampNeg).toInt64) - (1 : Int64)))
theorem e_M_isPlayer (a1 : Int32) (σ : Mem) : f_M_isPlayer a1 σ = some (t_M_isPlayer a1 σ) := by
  unfold f_M_isPlayer t_M_isPlayer
  try first | rfl | (repeat' split) <;> rfl
theorem z_M_isPlayer (a1 : Int32) (σ : Mem) : isb (t_M_isPlayer a1 σ) = true := by
  unfold t_M_isPlayer
  exact z_M_in (a1.toInt64) (0 : Int64) (((gI σ 1 (0 : Int32).toNatClampNeg).toInt64) - (1 : Int64))
set_option maxRecDepth 100000 in
set_option maxHeartbeats 4000000 in
theorem w_M_isPlayer {κ : Ctx} (hR : kR κ = { frames := 1, cells := 0, slots := 0, locals := 25 }) (hC : ok κ wM cX10_isPlayer 2 RX10 (some .boolean)) (a1 : Int32) (σ : Mem) : wF κ wM 2 (qO κ wM σ) σ 0 [some (.ref (ad κ 0)), some (.int a1)] [] (f_M_isPlayer a1 σ) := by
  unfold f_M_isPlayer
  refine r_iload_n (pc := 0) hC rfl dX10_isPlayer_0 ?_
  refine r_i2l (pc := 1) hC dX10_isPlayer_1 ?_
  refine r_lconst (pc := 2) hC (v := (0 : Int64)) (by decide) dX10_isPlayer_2 ?_
  refine r_aload_n (pc := 3) hC rfl dX10_isPlayer_3 ?_
  refine gM_0_1 (pc := 4) hC k_1038 dX10_isPlayer_4 ?_
  refine r_iconst (pc := 7) hC (v := (0 : Int32)) (by decide) dX10_isPlayer_7 ?_
  refine r_ung (b := inb (0 : Int32) 9) (by decide) ?_
  refine aM_1 (pc := 8) hC dX10_isPlayer_8 ?_
  refine r_i2l (pc := 9) hC dX10_isPlayer_9 ?_
  refine r_lconst (pc := 10) hC (v := (1 : Int64)) (by decide) dX10_isPlayer_10 ?_
  refine r_lsub (pc := 11) hC dX10_isPlayer_11 ?_
  refine r_cT (pc := 12) (rest := []) (runS [.long (a1.toInt64), .long (0 : Int64), .long (((gI σ 1 (0 : Int32).toNatClampNeg).toInt64) - (1 : Int64))] hC (c_M_in (kl κ) (kW κ) hC.2.2.2.2.2.2.2.2.1 (a1.toInt64) (0 : Int64) (((gI σ 1 (0 : Int32).toNatClampNeg).toInt64) - (1 : Int64)) σ) o_X10_in k_1161 (rm_ok hR rfl) rfl (Nat.le_of_ble_eq_true rfl) dX10_isPlayer_12) ?_
  exact r_retO hC (isb_nar (z_M_in (a1.toInt64) (0 : Int64) (((gI σ 1 (0 : Int32).toNatClampNeg).toInt64) - (1 : Int64)))) dX10_isPlayer_15
set_option maxRecDepth 100000 in
set_option maxHeartbeats 4000000 in
theorem c_M_isPlayer (l : Launch) (w : Wenv) (hw : okw w wM) (a1 : Int32) (σ : Mem) : Ctr l w wM yX10_isPlayer cX10_isPlayer 2 (some .boolean) 1 25 [.ref (w.2.2.1 0), .int a1] σ (cQi w wM (t_M_isPlayer a1 σ) σ) := mk_ctr (Q := fun κ => qO κ wM σ) (lv := [some (.ref (w.2.2.1 0)), some (.int a1)]) (by decide) rfl hw (Nat.le_of_ble_eq_true rfl) rfl (e_M_isPlayer a1 σ) (fun κ h => by subst h; rfl) (fun κ hl h hR hC => by
    subst h
    exact w_M_isPlayer hR hC a1 σ)
-- DuelRoundModel.isRound()Z (0,) kind T
def t_M_isRound (σ : Mem) : Int32 :=
  (if (gI σ 1 (0 : Int32).toNatClampNeg) ≤ (0 : Int32) then (0 : Int32) else (1 : Int32))
def f_M_isRound (σ : Mem) : Option Int32 :=
  if (gI σ 1 (0 : Int32).toNatClampNeg) ≤ (0 : Int32) then
  (some (0 : Int32))
  else
  (some (1 : Int32))
theorem e_M_isRound (σ : Mem) : f_M_isRound  σ = some (t_M_isRound  σ) := by
  unfold f_M_isRound t_M_isRound
  try first | rfl | (repeat' split) <;> rfl
theorem z_M_isRound (σ : Mem) : isb (t_M_isRound  σ) = true := by
  unfold t_M_isRound
  (repeat' split) <;> rfl
set_option maxRecDepth 100000 in
set_option maxHeartbeats 4000000 in
theorem w_M_isRound {κ : Ctx} (hR : kR κ = { frames := 0, cells := 0, slots := 0, locals := 0 }) (hC : ok κ wM cX10_isRound 1 RX10 (some .boolean)) (σ : Mem) : wF κ wM 1 (qO κ wM σ) σ 0 [some (.ref (ad κ 0))] [] (f_M_isRound  σ) := by
  unfold f_M_isRound
  refine r_aload_n (pc := 0) hC rfl dX10_isRound_0 ?_
  refine gM_0_1 (pc := 1) hC k_1038 dX10_isRound_1 ?_
  refine r_iconst (pc := 4) hC (v := (0 : Int32)) (by decide) dX10_isRound_4 ?_
  refine r_ung (b := inb (0 : Int32) 9) (by decide) ?_
  refine aM_1 (pc := 5) hC dX10_isRound_5 ?_
  refine r_if_le (pc := 6) (tgt := 13) hC dX10_isRound_6 (by decide) ?_ ?_
  · refine r_iconst (pc := 13) hC (v := (0 : Int32)) (by decide) dX10_isRound_13 ?_
    exact r_retO hC rfl dX10_isRound_14
  · refine r_iconst (pc := 9) hC (v := (1 : Int32)) (by decide) dX10_isRound_9 ?_
    refine r_goto (pc := 10) (tgt := 14) hC dX10_isRound_10 (by decide) ?_
    exact r_retO hC rfl dX10_isRound_14
set_option maxRecDepth 100000 in
set_option maxHeartbeats 4000000 in
theorem c_M_isRound (l : Launch) (w : Wenv) (hw : okw w wM) (σ : Mem) : Ctr l w wM yX10_isRound cX10_isRound 1 (some .boolean) 0 0 [.ref (w.2.2.1 0)] σ (cQi w wM (t_M_isRound  σ) σ) := mk_ctr (Q := fun κ => qO κ wM σ) (lv := [some (.ref (w.2.2.1 0))]) (by decide) rfl hw (Nat.le_of_ble_eq_true rfl) rfl (e_M_isRound  σ) (fun κ h => by subst h; rfl) (fun κ hl h hR hC => by
    subst h
    exact w_M_isRound hR hC  σ)
-- DuelRoundModel.all()I (0,) kind T
def t_M_all (σ : Mem) : Int32 :=
  (((1 : Int32) <<< ((gI σ 1 (0 : Int32).toNatClampNeg) &&& 31)) - (1 : Int32))
def f_M_all (σ : Mem) : Option Int32 :=
  some (((1 : Int32) <<< ((gI σ 1 (0 : Int32).toNatClampNeg) &&& 31)) - (1 : Int32))
theorem e_M_all (σ : Mem) : f_M_all  σ = some (t_M_all  σ) := by
  unfold f_M_all t_M_all
  try first | rfl | (repeat' split) <;> rfl
set_option maxRecDepth 100000 in
set_option maxHeartbeats 4000000 in
theorem w_M_all {κ : Ctx} (hR : kR κ = { frames := 0, cells := 0, slots := 0, locals := 0 }) (hC : ok κ wM cX10_all 1 RX10 (some .int)) (σ : Mem) : wF κ wM 1 (qO κ wM σ) σ 0 [some (.ref (ad κ 0))] [] (f_M_all  σ) := by
  unfold f_M_all
  refine r_iconst (pc := 0) hC (v := (1 : Int32)) (by decide) dX10_all_0 ?_
  refine r_aload_n (pc := 1) hC rfl dX10_all_1 ?_
  refine gM_0_1 (pc := 2) hC k_1038 dX10_all_2 ?_
  refine r_iconst (pc := 5) hC (v := (0 : Int32)) (by decide) dX10_all_5 ?_
  refine r_ung (b := inb (0 : Int32) 9) (by decide) ?_
  refine aM_1 (pc := 6) hC dX10_all_6 ?_
  refine r_ishl (pc := 7) hC dX10_all_7 ?_
  refine r_iconst (pc := 8) hC (v := (1 : Int32)) (by decide) dX10_all_8 ?_
  refine r_isub (pc := 9) hC dX10_all_9 ?_
  exact r_retO hC rfl dX10_all_10
set_option maxRecDepth 100000 in
set_option maxHeartbeats 4000000 in
theorem c_M_all (l : Launch) (w : Wenv) (hw : okw w wM) (σ : Mem) : Ctr l w wM yX10_all cX10_all 1 (some .int) 0 0 [.ref (w.2.2.1 0)] σ (cQi w wM (t_M_all  σ) σ) := mk_ctr (Q := fun κ => qO κ wM σ) (lv := [some (.ref (w.2.2.1 0))]) (by decide) rfl hw (Nat.le_of_ble_eq_true rfl) rfl (e_M_all  σ) (fun κ h => by subst h; rfl) (fun κ hl h hR hC => by
    subst h
    exact w_M_all hR hC  σ)
