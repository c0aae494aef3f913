-- DuelRound$Cups.rowsWonBy(I)I (7, None) kind OM
def f_Cu_rowsWonBy (N : Nat) (a1 : Int32) (σ : Mem) : Option (Int32 × Mem) :=
  bnd (t_Du_everybodyN σ) fun x1 =>
  swc (gI σ 3 0) [((1 : Int32), some ((1 : Int32), σ)),
  ((2 : Int32), gd (inb a1 8) (if (gI σ 13 a1.toNatClampNeg) = (0 : Int32) then
  (some ((0 : Int32), σ))
  else
  (some ((2 : Int32), σ)))),
  ((3 : Int32), some ((0 : Int32), σ)),
  ((4 : Int32), ob2 (f_Cu_rowsOfFour N x1 ((1 : Int32) <<< (a1 &&& 31)) σ) fun r3 s2 =>
  some (r3, s2)),
  ((5 : Int32), some ((0 : Int32), σ)),
  ((6 : Int32), some ((0 : Int32), σ)),
  ((7 : Int32), some ((0 : Int32), σ)),
  ((8 : Int32), ob2 (f_Cu_rowsOfEight N x1 a1 σ) fun r5 s4 =>
  some (r5, s4))]
  (some ((0 : Int32), σ))
set_option maxRecDepth 100000 in
set_option maxHeartbeats 4000000 in
theorem w_Cu_rowsWonBy {κ : Ctx} (hR : kR κ = { frames := 4, cells := 0, slots := 0, locals := 93 }) (hC : ok κ wC cX0_rowsWonBy 3 RX0 (some .int)) (N : Nat) (a1 : Int32) (σ : Mem) : wF κ wC 3 (qOM κ wC) σ 0 [some (.ref (ad κ 7)), some (.int a1), none] [] (f_Cu_rowsWonBy N a1 σ) := by
  unfold f_Cu_rowsWonBy
  refine r_aload_n (pc := 0) hC rfl dX0_rowsWonBy_0 ?_
  refine gC_7_0 (pc := 1) hC k_211 dX0_rowsWonBy_1 ?_
  refine r_cT (pc := 4) (rest := []) (runV [] hC (c_Du_everybodyN (kl κ) (kW κ) hC.2.2.2.2.2.2.2.2.1 σ) o_X1_everybody k_739 (q0 := 2) (ci := 1) rfl rfl (rm_ok hR rfl) rfl (Nat.le_of_ble_eq_true rfl) dX0_rowsWonBy_4) ?_
  refine r_let (fun x1 => ?_)
  refine r_istore_n (pc := 7) hC rfl rfl dX0_rowsWonBy_7 ?_
  refine r_aload_n (pc := 8) hC rfl dX0_rowsWonBy_8 ?_
  refine gC_7_0 (pc := 9) hC k_211 dX0_rowsWonBy_9 ?_
  refine gC_2_1 (pc := 12) hC k_142 dX0_rowsWonBy_12 ?_
  refine r_table (pc := 15) (tg := fun i => ([60, 62, 96, 80, 96, 96, 96, 89] : List Nat).getD i 0) (dt := 96) hC 8 dX0_rowsWonBy_15 (by decide) (by decide) rfl (fun i hi => ?_) ?_
  · rcases (show i = 0 ∨ i = 1 ∨ i = 2 ∨ i = 3 ∨ i = 4 ∨ i = 5 ∨ i = 6 ∨ i = 7 by omega) with rfl | rfl | rfl | rfl | rfl | rfl | rfl | rfl
    · refine ⟨_, _, _, rfl, by decide, rfl, by decide, ?_⟩
      refine r_iconst (pc := 60) hC (v := (1 : Int32)) (by decide) dX0_rowsWonBy_60 ?_
      exact r_retOM hC rfl dX0_rowsWonBy_61
    · refine ⟨_, _, _, rfl, by decide, rfl, by decide, ?_⟩
      refine r_aload_n (pc := 62) hC rfl dX0_rowsWonBy_62 ?_
      refine gC_7_0 (pc := 63) hC k_211 dX0_rowsWonBy_63 ?_
      refine gC_2_0 (pc := 66) hC k_136 dX0_rowsWonBy_66 ?_
      refine r_iload_n (pc := 69) hC rfl dX0_rowsWonBy_69 ?_
      refine aC_13 (pc := 70) hC dX0_rowsWonBy_70 ?_
      refine r_if_ne (pc := 71) (tgt := 78) hC dX0_rowsWonBy_71 (by decide) ?_ ?_
      · refine r_iconst (pc := 78) hC (v := (2 : Int32)) (by decide) dX0_rowsWonBy_78 ?_
        exact r_retOM hC rfl dX0_rowsWonBy_79
      · refine r_iconst (pc := 74) hC (v := (0 : Int32)) (by decide) dX0_rowsWonBy_74 ?_
        refine r_goto (pc := 75) (tgt := 79) hC dX0_rowsWonBy_75 (by decide) ?_
        exact r_retOM hC rfl dX0_rowsWonBy_79
    · refine ⟨_, _, _, rfl, by decide, rfl, by decide, ?_⟩
      refine r_iconst (pc := 96) hC (v := (0 : Int32)) (by decide) dX0_rowsWonBy_96 ?_
      exact r_retOM hC rfl dX0_rowsWonBy_97
    · refine ⟨_, _, _, rfl, by decide, rfl, by decide, ?_⟩
      refine r_aload_n (pc := 80) hC rfl dX0_rowsWonBy_80 ?_
      refine r_iload_n (pc := 81) hC rfl dX0_rowsWonBy_81 ?_
      refine r_iconst (pc := 82) hC (v := (1 : Int32)) (by decide) dX0_rowsWonBy_82 ?_
      refine r_iload_n (pc := 83) hC rfl dX0_rowsWonBy_83 ?_
      refine r_ishl (pc := 84) hC dX0_rowsWonBy_84 ?_
      refine r_cOM (pc := 85) (rest := []) (fun r3 s2 hf => runV [.int x1, .int ((1 : Int32) <<< (a1 &&& 31))] hC (c_Cu_rowsOfFour (kl κ) (kW κ) hC.2.2.2.2.2.2.2.2.1 N x1 ((1 : Int32) <<< (a1 &&& 31)) σ r3 s2 hf) o_X0_rowsOfFour k_740 (q0 := 7) (ci := 0) rfl rfl (rm_ok hR rfl) rfl (Nat.le_of_ble_eq_true rfl) dX0_rowsWonBy_85) (fun r3 s2 => ?_)
      exact r_retOM hC rfl dX0_rowsWonBy_88
    · refine ⟨_, _, _, rfl, by decide, rfl, by decide, ?_⟩
      refine r_iconst (pc := 96) hC (v := (0 : Int32)) (by decide) dX0_rowsWonBy_96 ?_
      exact r_retOM hC rfl dX0_rowsWonBy_97
    · refine ⟨_, _, _, rfl, by decide, rfl, by decide, ?_⟩
      refine r_iconst (pc := 96) hC (v := (0 : Int32)) (by decide) dX0_rowsWonBy_96 ?_
      exact r_retOM hC rfl dX0_rowsWonBy_97
    · refine ⟨_, _, _, rfl, by decide, rfl, by decide, ?_⟩
      refine r_iconst (pc := 96) hC (v := (0 : Int32)) (by decide) dX0_rowsWonBy_96 ?_
      exact r_retOM hC rfl dX0_rowsWonBy_97
    · refine ⟨_, _, _, rfl, by decide, rfl, by decide, ?_⟩
      refine r_aload_n (pc := 89) hC rfl dX0_rowsWonBy_89 ?_
      refine r_iload_n (pc := 90) hC rfl dX0_rowsWonBy_90 ?_
      refine r_iload_n (pc := 91) hC rfl dX0_rowsWonBy_91 ?_
      refine r_cOM (pc := 92) (rest := []) (fun r5 s4 hf => runV [.int x1, .int a1] hC (c_Cu_rowsOfEight (kl κ) (kW κ) hC.2.2.2.2.2.2.2.2.1 N x1 a1 σ r5 s4 hf) o_X0_rowsOfEight k_744 (q0 := 7) (ci := 0) rfl rfl (rm_ok hR rfl) rfl (Nat.le_of_ble_eq_true rfl) dX0_rowsWonBy_92) (fun r5 s4 => ?_)
      exact r_retOM hC rfl dX0_rowsWonBy_95
  · refine r_iconst (pc := 96) hC (v := (0 : Int32)) (by decide) dX0_rowsWonBy_96 ?_
    exact r_retOM hC rfl dX0_rowsWonBy_97
set_option maxRecDepth 100000 in
set_option maxHeartbeats 4000000 in
theorem c_Cu_rowsWonBy (l : Launch) (w : Wenv) (hw : okw w wC) (N : Nat) (a1 : Int32) (σ : Mem) (r : Int32) (τ : Mem) (hf : f_Cu_rowsWonBy N a1 σ = some (r, τ)) : Ctr l w wC yX0_rowsWonBy cX0_rowsWonBy 3 (some .int) 4 93 [.ref (w.2.2.1 7), .int a1] σ (cQi w wC r τ) := mk_ctr (Q := fun κ => qOM κ wC) (lv := [some (.ref (w.2.2.1 7)), some (.int a1), none]) (by decide) rfl hw (Nat.le_of_ble_eq_true rfl) rfl hf (fun κ h => by subst h; rfl) (fun κ hl h hR hC => by
    subst h
    exact w_Cu_rowsWonBy hR hC N a1 σ)
-- DuelRound$Cups.leastRowOfFour(II)I (7, None, None) kind OM
def Cu_leastRowOfFour_J48 (s1 : Mem) (y3 : Int32) (v4 : Int32) (v5 : Int32) : Option (Int32 × Mem) :=
  gd (inb (y3 + (1 : Int32)) 8) (gd (inb v4 8) (gd (inb v5 8) (some ((((((((gI s1 21 (0 : Int32).toNatClampNeg) <<< ((3 : Int32) &&& 31)) ||| (gI s1 21 (y3 + (1 : Int32)).toNatClampNeg)) <<< ((3 : Int32) &&& 31)) ||| (gI s1 21 v4.toNatClampNeg)) <<< ((3 : Int32) &&& 31)) ||| (gI s1 21 v5.toNatClampNeg)), s1))))
def Cu_leastRowOfFour_J36 (s1 : Mem) (y3 : Int32) (v4 : Int32) : Option (Int32 × Mem) :=
  if y3 = (2 : Int32) then
  (Cu_leastRowOfFour_J48 s1 y3 v4 (2 : Int32))
  else
  (Cu_leastRowOfFour_J48 s1 y3 v4 (3 : Int32))
def Cu_leastRowOfFour_K27 (s1 : Mem) (y3 : Int32) : Option (Int32 × Mem) :=
  if y3 = (0 : Int32) then
  (Cu_leastRowOfFour_J36 s1 y3 (2 : Int32))
  else
  (Cu_leastRowOfFour_J36 s1 y3 (1 : Int32))
def Cu_leastRowOfFour_B9 (s1 : Mem) (a2 : Int32) (self7 : Int32 → Option (Int32 × Mem)) (i6 : Int32) : Option (Int32 × Mem) :=
  if (3 : Int32) ≤ i6 then
  (some ((-1 : Int32), s1))
  else
  (ob (f_Cu_winnerByWay i6 s1) fun r8 =>
  if (t_D_bitOf a2 r8) = (1 : Int32) then
  (Cu_leastRowOfFour_K27 s1 i6)
  else
  (self7 (i6 + (1 : Int32))))
def f_Cu_leastRowOfFour (N : Nat) (a1 : Int32) (a2 : Int32) (σ : Mem) : Option (Int32 × Mem) :=
  ob2 (f_Cu_putIntoRow N a1 (0 : Int32) σ) fun r2 s1 =>
  it1 (Cu_leastRowOfFour_B9 s1 a2) N (0 : Int32)
set_option maxRecDepth 100000 in
set_option maxHeartbeats 4000000 in
theorem w_Cu_leastRowOfFour {κ : Ctx} (hR : kR κ = { frames := 2, cells := 0, slots := 0, locals := 45 }) (hC : ok κ wC cX0_leastRowOfFour 6 RX0 (some .int)) (N : Nat) (a1 : Int32) (a2 : Int32) (σ : Mem) : wF κ wC 6 (qOM κ wC) σ 0 [some (.ref (ad κ 7)), some (.int a1), some (.int a2), none, none, none] [] (f_Cu_leastRowOfFour N a1 a2 σ) := by
  unfold f_Cu_leastRowOfFour
  refine r_aload_n (pc := 0) hC rfl dX0_leastRowOfFour_0 ?_
  refine r_iload_n (pc := 1) hC rfl dX0_leastRowOfFour_1 ?_
  refine r_iconst (pc := 2) hC (v := (0 : Int32)) (by decide) dX0_leastRowOfFour_2 ?_
  refine r_cOM (pc := 3) (rest := []) (fun r2 s1 hf => runV [.int a1, .int (0 : Int32)] hC (c_Cu_putIntoRow (kl κ) (kW κ) hC.2.2.2.2.2.2.2.2.1 N a1 (0 : Int32) σ r2 s1 hf) o_X0_putIntoRow k_633 (q0 := 7) (ci := 0) rfl rfl (rm_ok hR rfl) rfl (Nat.le_of_ble_eq_true rfl) dX0_leastRowOfFour_3) (fun r2 s1 => ?_)
  refine r_pop (pc := 6) hC rfl dX0_leastRowOfFour_6 ?_
  refine r_iconst (pc := 7) hC (v := (0 : Int32)) (by decide) dX0_leastRowOfFour_7 ?_
  refine r_istore_n (pc := 8) hC rfl rfl dX0_leastRowOfFour_8 ?_
  have hK27_5 : ∀ (y3 : Int32), wF κ wC 6 (qOM κ wC) s1 27 [some (.ref (ad κ 7)), none, none, some (.int y3), none, none] [] (Cu_leastRowOfFour_K27 s1 y3) := by
    intro y3
    unfold Cu_leastRowOfFour_K27
    refine r_iload_n (pc := 27) hC rfl dX0_leastRowOfFour_27 ?_
    have hJ36_5 : ∀ (v4 : Int32), wF κ wC 6 (qOM κ wC) s1 36 [some (.ref (ad κ 7)), none, none, some (.int y3), none, none] [.int v4] (Cu_leastRowOfFour_J36 s1 y3 v4) := by
      intro v4
      unfold Cu_leastRowOfFour_J36
      refine r_istore (pc := 36) hC rfl rfl dX0_leastRowOfFour_36 ?_
      refine r_iload_n (pc := 38) hC rfl dX0_leastRowOfFour_38 ?_
      refine r_iconst (pc := 39) hC (v := (2 : Int32)) (by decide) dX0_leastRowOfFour_39 ?_
      have hJ48_5 : ∀ (v5 : Int32), wF κ wC 6 (qOM κ wC) s1 48 [some (.ref (ad κ 7)), none, none, some (.int y3), some (.int v4), none] [.int v5] (Cu_leastRowOfFour_J48 s1 y3 v4 v5) := by
        intro v5
        unfold Cu_leastRowOfFour_J48
        refine r_istore (pc := 48) hC rfl rfl dX0_leastRowOfFour_48 ?_
        refine r_aload_n (pc := 50) hC rfl dX0_leastRowOfFour_50 ?_
        refine gC_7_1 (pc := 51) hC k_212 dX0_leastRowOfFour_51 ?_
        refine r_iconst (pc := 54) hC (v := (0 : Int32)) (by decide) dX0_leastRowOfFour_54 ?_
        refine r_ung (b := inb (0 : Int32) 8) (by decide) ?_
        refine aC_21 (pc := 55) hC dX0_leastRowOfFour_55 ?_
        refine r_iconst (pc := 56) hC (v := (3 : Int32)) (by decide) dX0_leastRowOfFour_56 ?_
        refine r_ishl (pc := 57) hC dX0_leastRowOfFour_57 ?_
        refine r_aload_n (pc := 58) hC rfl dX0_leastRowOfFour_58 ?_
        refine gC_7_1 (pc := 59) hC k_212 dX0_leastRowOfFour_59 ?_
        refine r_iload_n (pc := 62) hC rfl dX0_leastRowOfFour_62 ?_
        refine r_iconst (pc := 63) hC (v := (1 : Int32)) (by decide) dX0_leastRowOfFour_63 ?_
        refine r_iadd (pc := 64) hC dX0_leastRowOfFour_64 ?_
        refine aC_21 (pc := 65) hC dX0_leastRowOfFour_65 ?_
        refine r_ior (pc := 66) hC dX0_leastRowOfFour_66 ?_
        refine r_iconst (pc := 67) hC (v := (3 : Int32)) (by decide) dX0_leastRowOfFour_67 ?_
        refine r_ishl (pc := 68) hC dX0_leastRowOfFour_68 ?_
        refine r_aload_n (pc := 69) hC rfl dX0_leastRowOfFour_69 ?_
        refine gC_7_1 (pc := 70) hC k_212 dX0_leastRowOfFour_70 ?_
        refine r_iload (pc := 73) hC rfl dX0_leastRowOfFour_73 ?_
        refine aC_21 (pc := 75) hC dX0_leastRowOfFour_75 ?_
        refine r_ior (pc := 76) hC dX0_leastRowOfFour_76 ?_
        refine r_iconst (pc := 77) hC (v := (3 : Int32)) (by decide) dX0_leastRowOfFour_77 ?_
        refine r_ishl (pc := 78) hC dX0_leastRowOfFour_78 ?_
        refine r_aload_n (pc := 79) hC rfl dX0_leastRowOfFour_79 ?_
        refine gC_7_1 (pc := 80) hC k_212 dX0_leastRowOfFour_80 ?_
        refine r_iload (pc := 83) hC rfl dX0_leastRowOfFour_83 ?_
        refine aC_21 (pc := 85) hC dX0_leastRowOfFour_85 ?_
        refine r_ior (pc := 86) hC dX0_leastRowOfFour_86 ?_
        exact r_retOM hC rfl dX0_leastRowOfFour_87
      refine r_icmp_ne (pc := 40) (tgt := 47) hC dX0_leastRowOfFour_40 (by decide) ?_ ?_
      · refine r_iconst (pc := 47) hC (v := (3 : Int32)) (by decide) dX0_leastRowOfFour_47 ?_
        exact hJ48_5 (3 : Int32)
      · refine r_iconst (pc := 43) hC (v := (2 : Int32)) (by decide) dX0_leastRowOfFour_43 ?_
        refine r_goto (pc := 44) (tgt := 48) hC dX0_leastRowOfFour_44 (by decide) ?_
        exact hJ48_5 (2 : Int32)
    refine r_if_ne (pc := 28) (tgt := 35) hC dX0_leastRowOfFour_28 (by decide) ?_ ?_
    · refine r_iconst (pc := 35) hC (v := (1 : Int32)) (by decide) dX0_leastRowOfFour_35 ?_
      exact hJ36_5 (1 : Int32)
    · refine r_iconst (pc := 31) hC (v := (2 : Int32)) (by decide) dX0_leastRowOfFour_31 ?_
      refine r_goto (pc := 32) (tgt := 36) hC dX0_leastRowOfFour_32 (by decide) ?_
      exact hJ36_5 (2 : Int32)
  refine r_wk [true, false, true, true, false, false] (w_it1 (fun i6 => s1) (fun i6 => [some (.ref (ad κ 7)), none, some (.int a2), some (.int i6), none, none]) (fun self7 ih9_7 i6 => ?_) N (0 : Int32))
  unfold Cu_leastRowOfFour_B9
  refine r_iload_n (pc := 9) hC rfl dX0_leastRowOfFour_9 ?_
  refine r_iconst (pc := 10) hC (v := (3 : Int32)) (by decide) dX0_leastRowOfFour_10 ?_
  refine r_icmp_ge (pc := 11) (tgt := 94) hC dX0_leastRowOfFour_11 (by decide) ?_ ?_
  · refine r_iconst (pc := 94) hC (v := (-1 : Int32)) (by decide) dX0_leastRowOfFour_94 ?_
    exact r_retOM hC rfl dX0_leastRowOfFour_95
  · refine r_iload_n (pc := 14) hC rfl dX0_leastRowOfFour_14 ?_
    refine r_aload_n (pc := 15) hC rfl dX0_leastRowOfFour_15 ?_
    refine r_iload_n (pc := 16) hC rfl dX0_leastRowOfFour_16 ?_
    refine r_cO (pc := 17) (rest := [.int a2]) (fun r8 hf => runV [.int i6] hC (c_Cu_winnerByWay (kl κ) (kW κ) hC.2.2.2.2.2.2.2.2.1 i6 s1 r8 hf) o_X0_winnerByWay k_643 (q0 := 7) (ci := 0) rfl rfl (rm_ok hR rfl) rfl (Nat.le_of_ble_eq_true rfl) dX0_leastRowOfFour_17) (fun r8 => ?_)
    refine r_cT (pc := 20) (rest := []) (runSN [.int a2, .int r8] hC (c_D_bitOf (kl κ) (kW κ) hC.2.2.2.2.2.2.2.2.1 a2 r8 s1) o_X9_bitOf (k_637 hC.2.2.2.2.2.2.2.2.2) (rm_ok hR rfl) rfl (Nat.le_of_ble_eq_true rfl) dX0_leastRowOfFour_20) ?_
    refine r_iconst (pc := 23) hC (v := (1 : Int32)) (by decide) dX0_leastRowOfFour_23 ?_
    refine r_icmp_ne (pc := 24) (tgt := 88) hC dX0_leastRowOfFour_24 (by decide) ?_ ?_
    · refine r_iinc (pc := 88) hC (v := (1 : Int32)) rfl (by decide) rfl rfl dX0_leastRowOfFour_88 ?_
      refine r_goto (pc := 91) (tgt := 9) hC dX0_leastRowOfFour_91 (by decide) ?_
      exact ih9_7 (i6 + (1 : Int32))
    · exact r_wk [true, false, false, true, false, false] (hK27_5 i6)
set_option maxRecDepth 100000 in
set_option maxHeartbeats 4000000 in
theorem c_Cu_leastRowOfFour (l : Launch) (w : Wenv) (hw : okw w wC) (N : Nat) (a1 : Int32) (a2 : Int32) (σ : Mem) (r : Int32) (τ : Mem) (hf : f_Cu_leastRowOfFour N a1 a2 σ = some (r, τ)) : Ctr l w wC yX0_leastRowOfFour cX0_leastRowOfFour 6 (some .int) 2 45 [.ref (w.2.2.1 7), .int a1, .int a2] σ (cQi w wC r τ) := mk_ctr (Q := fun κ => qOM κ wC) (lv := [some (.ref (w.2.2.1 7)), some (.int a1), some (.int a2), none, none, none]) (by decide) rfl hw (Nat.le_of_ble_eq_true rfl) rfl hf (fun κ h => by subst h; rfl) (fun κ hl h hR hC => by
    subst h
    exact w_Cu_leastRowOfFour hR hC N a1 a2 σ)
-- DuelRound$Cups.leastRowOfEight(II)I (7, None, None) kind OM
def Cu_leastRowOfEight_J95 (N : Nat) (s7 : Mem) (a1 : Int32) (i1 : Int32) (i2 : Int32) (r8 : Int32) (self4 : Int32 → Int32 → Mem → Option (Int32 × Mem)) (v9 : Int32) : Option (Int32 × Mem) :=
  ob2 (f_Cu_leastRowOfFour N (a1 &&& (i2 ^^^ (-1 : Int32))) v9 s7) fun r11 s10 =>
  if r8 = (-1 : Int32) then
  (self4 i1 (i2 + (2 : Int32)) s10)
  else
  (if r11 = (-1 : Int32) then
  (self4 i1 (i2 + (2 : Int32)) s10)
  else
  (bnd ((r8 <<< ((12 : Int32) &&& 31)) ||| r11) fun x12 =>
  if i1 = (-1 : Int32) then
  (self4 x12 (i2 + (2 : Int32)) s10)
  else
  (if i1 ≤ x12 then
  (self4 i1 (i2 + (2 : Int32)) s10)
  else
  (self4 x12 (i2 + (2 : Int32)) s10))))
def Cu_leastRowOfEight_J63 (N : Nat) (s3 : Mem) (a1 : Int32) (i1 : Int32) (a2 : Int32) (i2 : Int32) (v5 : Int32) (self4 : Int32 → Int32 → Mem → Option (Int32 × Mem)) (v6 : Int32) : Option (Int32 × Mem) :=
  ob2 (f_Cu_leastRowOfFour N i2 v6 s3) fun r8 s7 =>
  if v5 = (0 : Int32) then
  (Cu_leastRowOfEight_J95 N s7 a1 i1 i2 r8 self4 ((1 : Int32) <<< (a2 &&& 31)))
  else
  (gd (inb a2 8) (Cu_leastRowOfEight_J95 N s7 a1 i1 i2 r8 self4 (gI s7 13 a2.toNatClampNeg)))
def Cu_leastRowOfEight_J38 (N : Nat) (s3 : Mem) (a1 : Int32) (i1 : Int32) (a2 : Int32) (i2 : Int32) (self4 : Int32 → Int32 → Mem → Option (Int32 × Mem)) (v5 : Int32) : Option (Int32 × Mem) :=
  if v5 = (0 : Int32) then
  (gd (inb a2 8) (Cu_leastRowOfEight_J63 N s3 a1 i1 a2 i2 v5 self4 (gI s3 13 a2.toNatClampNeg)))
  else
  (Cu_leastRowOfEight_J63 N s3 a1 i1 a2 i2 v5 self4 ((1 : Int32) <<< (a2 &&& 31)))
def Cu_leastRowOfEight_B5 (N : Nat) (a1 : Int32) (a2 : Int32) (self4 : Int32 → Int32 → Mem → Option (Int32 × Mem)) (i1 : Int32) (i2 : Int32) (s3 : Mem) : Option (Int32 × Mem) :=
  if a1 ≤ i2 then
  (some (i1, s3))
  else
  (if (t_J_bitCount i2) = (4 : Int32) then
  (if (t_D_bitOf i2 a2) = (1 : Int32) then
  (Cu_leastRowOfEight_J38 N s3 a1 i1 a2 i2 self4 (1 : Int32))
  else
  (Cu_leastRowOfEight_J38 N s3 a1 i1 a2 i2 self4 (0 : Int32)))
  else
  (self4 i1 (i2 + (2 : Int32)) s3))
def f_Cu_leastRowOfEight (N : Nat) (a1 : Int32) (a2 : Int32) (σ : Mem) : Option (Int32 × Mem) :=
  it3 (Cu_leastRowOfEight_B5 N a1 a2) N (-1 : Int32) (1 : Int32) σ
set_option maxRecDepth 100000 in
set_option maxHeartbeats 4000000 in
theorem w_Cu_leastRowOfEight {κ : Ctx} (hR : kR κ = { frames := 3, cells := 0, slots := 0, locals := 70 }) (hC : ok κ wC cX0_leastRowOfEight 9 RX0 (some .int)) (N : Nat) (a1 : Int32) (a2 : Int32) (σ : Mem) : wF κ wC 9 (qOM κ wC) σ 0 [some (.ref (ad κ 7)), some (.int a1), some (.int a2), none, none, none, none, none, none] [] (f_Cu_leastRowOfEight N a1 a2 σ) := by
  unfold f_Cu_leastRowOfEight
  refine r_iconst (pc := 0) hC (v := (-1 : Int32)) (by decide) dX0_leastRowOfEight_0 ?_
  refine r_istore_n (pc := 1) hC rfl rfl dX0_leastRowOfEight_1 ?_
  refine r_iconst (pc := 2) hC (v := (1 : Int32)) (by decide) dX0_leastRowOfEight_2 ?_
  refine r_istore (pc := 3) hC rfl rfl dX0_leastRowOfEight_3 ?_
  refine w_it3 (fun i1 i2 s3 => s3) (fun i1 i2 s3 => [some (.ref (ad κ 7)), some (.int a1), some (.int a2), some (.int i1), some (.int i2), none, none, none, none]) (fun self4 ih5_4 i1 i2 s3 => ?_) N (-1 : Int32) (1 : Int32) σ
  unfold Cu_leastRowOfEight_B5
  refine r_iload (pc := 5) hC rfl dX0_leastRowOfEight_5 ?_
  refine r_iload_n (pc := 7) hC rfl dX0_leastRowOfEight_7 ?_
  refine r_icmp_ge (pc := 8) (tgt := 145) hC dX0_leastRowOfEight_8 (by decide) ?_ ?_
  · refine r_iload_n (pc := 145) hC rfl dX0_leastRowOfEight_145 ?_
    exact r_retOM hC rfl dX0_leastRowOfEight_146
  · refine r_iload (pc := 11) hC rfl dX0_leastRowOfEight_11 ?_
    refine r_cT (pc := 13) (rest := []) (runS [.int i2] hC (c_J_bitCount (kl κ) (kW κ) hC.2.2.2.2.2.2.2.2.1 i2 s3) o_J6_bitCount_0f7a4 k_632 (rm_ok hR rfl) rfl (Nat.le_of_ble_eq_true rfl) dX0_leastRowOfEight_13) ?_
    refine r_iconst (pc := 16) hC (v := (4 : Int32)) (by decide) dX0_leastRowOfEight_16 ?_
    refine r_icmp_eq (pc := 17) (tgt := 23) hC dX0_leastRowOfEight_17 (by decide) ?_ ?_
    · refine r_iload (pc := 23) hC rfl dX0_leastRowOfEight_23 ?_
      refine r_iload_n (pc := 25) hC rfl dX0_leastRowOfEight_25 ?_
      refine r_cT (pc := 26) (rest := []) (runSN [.int i2, .int a2] hC (c_D_bitOf (kl κ) (kW κ) hC.2.2.2.2.2.2.2.2.1 i2 a2 s3) o_X9_bitOf (k_637 hC.2.2.2.2.2.2.2.2.2) (rm_ok hR rfl) rfl (Nat.le_of_ble_eq_true rfl) dX0_leastRowOfEight_26) ?_
      refine r_iconst (pc := 29) hC (v := (1 : Int32)) (by decide) dX0_leastRowOfEight_29 ?_
      have hJ38_12 : ∀ (v5 : Int32), wF κ wC 9 (qOM κ wC) s3 38 [some (.ref (ad κ 7)), some (.int a1), some (.int a2), some (.int i1), some (.int i2), none, none, none, none] [.int v5] (Cu_leastRowOfEight_J38 N s3 a1 i1 a2 i2 self4 v5) := by
        intro v5
        unfold Cu_leastRowOfEight_J38
        refine r_istore (pc := 38) hC rfl rfl dX0_leastRowOfEight_38 ?_
        refine r_aload_n (pc := 40) hC rfl dX0_leastRowOfEight_40 ?_
        refine r_iload (pc := 41) hC rfl dX0_leastRowOfEight_41 ?_
        refine r_iload (pc := 43) hC rfl dX0_leastRowOfEight_43 ?_
        have hJ63_12 : ∀ (v6 : Int32), wF κ wC 9 (qOM κ wC) s3 63 [some (.ref (ad κ 7)), some (.int a1), some (.int a2), some (.int i1), some (.int i2), some (.int v5), none, none, none] [.int v6, .int i2, .ref (ad κ 7)] (Cu_leastRowOfEight_J63 N s3 a1 i1 a2 i2 v5 self4 v6) := by
          intro v6
          unfold Cu_leastRowOfEight_J63
          refine r_cOM (pc := 63) (rest := []) (fun r8 s7 hf => runV [.int i2, .int v6] hC (c_Cu_leastRowOfFour (kl κ) (kW κ) hC.2.2.2.2.2.2.2.2.1 N i2 v6 s3 r8 s7 hf) o_X0_leastRowOfFour k_752 (q0 := 7) (ci := 0) rfl rfl (rm_ok hR rfl) rfl (Nat.le_of_ble_eq_true rfl) dX0_leastRowOfEight_63) (fun r8 s7 => ?_)
          refine r_istore (pc := 66) hC rfl rfl dX0_leastRowOfEight_66 ?_
          refine r_aload_n (pc := 68) hC rfl dX0_leastRowOfEight_68 ?_
          refine r_iload_n (pc := 69) hC rfl dX0_leastRowOfEight_69 ?_
          refine r_iload (pc := 70) hC rfl dX0_leastRowOfEight_70 ?_
          refine r_iconst (pc := 72) hC (v := (-1 : Int32)) (by decide) dX0_leastRowOfEight_72 ?_
          refine r_ixor (pc := 73) hC dX0_leastRowOfEight_73 ?_
          refine r_iand (pc := 74) hC dX0_leastRowOfEight_74 ?_
          refine r_iload (pc := 75) hC rfl dX0_leastRowOfEight_75 ?_
          have hJ95_12 : ∀ (v9 : Int32), wF κ wC 9 (qOM κ wC) s7 95 [some (.ref (ad κ 7)), some (.int a1), some (.int a2), some (.int i1), some (.int i2), none, some (.int r8), none, none] [.int v9, .int (a1 &&& (i2 ^^^ (-1 : Int32))), .ref (ad κ 7)] (Cu_leastRowOfEight_J95 N s7 a1 i1 i2 r8 self4 v9) := by
            intro v9
            unfold Cu_leastRowOfEight_J95
            refine r_cOM (pc := 95) (rest := []) (fun r11 s10 hf => runV [.int (a1 &&& (i2 ^^^ (-1 : Int32))), .int v9] hC (c_Cu_leastRowOfFour (kl κ) (kW κ) hC.2.2.2.2.2.2.2.2.1 N (a1 &&& (i2 ^^^ (-1 : Int32))) v9 s7 r11 s10 hf) o_X0_leastRowOfFour k_752 (q0 := 7) (ci := 0) rfl rfl (rm_ok hR rfl) rfl (Nat.le_of_ble_eq_true rfl) dX0_leastRowOfEight_95) (fun r11 s10 => ?_)
            refine r_istore (pc := 98) hC rfl rfl dX0_leastRowOfEight_98 ?_
            refine r_iload (pc := 100) hC rfl dX0_leastRowOfEight_100 ?_
            refine r_iconst (pc := 102) hC (v := (-1 : Int32)) (by decide) dX0_leastRowOfEight_102 ?_
            refine r_icmp_eq (pc := 103) (tgt := 139) hC dX0_leastRowOfEight_103 (by decide) ?_ ?_
            · refine r_iinc (pc := 139) hC (v := (2 : Int32)) rfl (by decide) rfl rfl dX0_leastRowOfEight_139 ?_
              refine r_goto (pc := 142) (tgt := 5) hC dX0_leastRowOfEight_142 (by decide) ?_
              exact r_wk [true, true, true, true, true, false, false, false, false] (ih5_4 i1 (i2 + (2 : Int32)) s10)
            · refine r_iload (pc := 106) hC rfl dX0_leastRowOfEight_106 ?_
              refine r_iconst (pc := 108) hC (v := (-1 : Int32)) (by decide) dX0_leastRowOfEight_108 ?_
              refine r_icmp_ne (pc := 109) (tgt := 115) hC dX0_leastRowOfEight_109 (by decide) ?_ ?_
              · refine r_iload (pc := 115) hC rfl dX0_leastRowOfEight_115 ?_
                refine r_bipush (pc := 117) hC (v := (12 : Int32)) (by decide) dX0_leastRowOfEight_117 ?_
                refine r_ishl (pc := 119) hC dX0_leastRowOfEight_119 ?_
                refine r_iload (pc := 120) hC rfl dX0_leastRowOfEight_120 ?_
                refine r_ior (pc := 122) hC dX0_leastRowOfEight_122 ?_
                refine r_let (fun x12 => ?_)
                refine r_istore (pc := 123) hC rfl rfl dX0_leastRowOfEight_123 ?_
                refine r_iload_n (pc := 125) hC rfl dX0_leastRowOfEight_125 ?_
                refine r_iconst (pc := 126) hC (v := (-1 : Int32)) (by decide) dX0_leastRowOfEight_126 ?_
                refine r_icmp_eq (pc := 127) (tgt := 136) hC dX0_leastRowOfEight_127 (by decide) ?_ ?_
                · refine r_iload (pc := 136) hC rfl dX0_leastRowOfEight_136 ?_
                  refine r_istore_n (pc := 138) hC rfl rfl dX0_leastRowOfEight_138 ?_
                  refine r_iinc (pc := 139) hC (v := (2 : Int32)) rfl (by decide) rfl rfl dX0_leastRowOfEight_139 ?_
                  refine r_goto (pc := 142) (tgt := 5) hC dX0_leastRowOfEight_142 (by decide) ?_
                  exact r_wk [true, true, true, true, true, false, false, false, false] (ih5_4 x12 (i2 + (2 : Int32)) s10)
                · refine r_iload (pc := 130) hC rfl dX0_leastRowOfEight_130 ?_
                  refine r_iload_n (pc := 132) hC rfl dX0_leastRowOfEight_132 ?_
                  refine r_icmp_ge (pc := 133) (tgt := 139) hC dX0_leastRowOfEight_133 (by decide) ?_ ?_
                  · refine r_iinc (pc := 139) hC (v := (2 : Int32)) rfl (by decide) rfl rfl dX0_leastRowOfEight_139 ?_
                    refine r_goto (pc := 142) (tgt := 5) hC dX0_leastRowOfEight_142 (by decide) ?_
                    exact r_wk [true, true, true, true, true, false, false, false, false] (ih5_4 i1 (i2 + (2 : Int32)) s10)
                  · refine r_iload (pc := 136) hC rfl dX0_leastRowOfEight_136 ?_
                    refine r_istore_n (pc := 138) hC rfl rfl dX0_leastRowOfEight_138 ?_
                    refine r_iinc (pc := 139) hC (v := (2 : Int32)) rfl (by decide) rfl rfl dX0_leastRowOfEight_139 ?_
                    refine r_goto (pc := 142) (tgt := 5) hC dX0_leastRowOfEight_142 (by decide) ?_
                    exact r_wk [true, true, true, true, true, false, false, false, false] (ih5_4 x12 (i2 + (2 : Int32)) s10)
              · refine r_goto (pc := 112) (tgt := 139) hC dX0_leastRowOfEight_112 (by decide) ?_
                refine r_iinc (pc := 139) hC (v := (2 : Int32)) rfl (by decide) rfl rfl dX0_leastRowOfEight_139 ?_
                refine r_goto (pc := 142) (tgt := 5) hC dX0_leastRowOfEight_142 (by decide) ?_
                exact r_wk [true, true, true, true, true, false, false, false, false] (ih5_4 i1 (i2 + (2 : Int32)) s10)
          refine r_if_eq (pc := 77) (tgt := 92) hC dX0_leastRowOfEight_77 (by decide) ?_ ?_
          · refine r_iconst (pc := 92) hC (v := (1 : Int32)) (by decide) dX0_leastRowOfEight_92 ?_
            refine r_iload_n (pc := 93) hC rfl dX0_leastRowOfEight_93 ?_
            refine r_ishl (pc := 94) hC dX0_leastRowOfEight_94 ?_
            exact r_wk [true, true, true, true, true, false, true, false, false] (hJ95_12 ((1 : Int32) <<< (a2 &&& 31)))
          · refine r_aload_n (pc := 80) hC rfl dX0_leastRowOfEight_80 ?_
            refine gC_7_0 (pc := 81) hC k_211 dX0_leastRowOfEight_81 ?_
            refine gC_2_0 (pc := 84) hC k_136 dX0_leastRowOfEight_84 ?_
            refine r_iload_n (pc := 87) hC rfl dX0_leastRowOfEight_87 ?_
            refine aC_13 (pc := 88) hC dX0_leastRowOfEight_88 ?_
            refine r_goto (pc := 89) (tgt := 95) hC dX0_leastRowOfEight_89 (by decide) ?_
            exact r_wk [true, true, true, true, true, false, true, false, false] (hJ95_12 (gI s7 13 a2.toNatClampNeg))
        refine r_if_eq (pc := 45) (tgt := 54) hC dX0_leastRowOfEight_45 (by decide) ?_ ?_
        · refine r_aload_n (pc := 54) hC rfl dX0_leastRowOfEight_54 ?_
          refine gC_7_0 (pc := 55) hC k_211 dX0_leastRowOfEight_55 ?_
          refine gC_2_0 (pc := 58) hC k_136 dX0_leastRowOfEight_58 ?_
          refine r_iload_n (pc := 61) hC rfl dX0_leastRowOfEight_61 ?_
          refine aC_13 (pc := 62) hC dX0_leastRowOfEight_62 ?_
          exact hJ63_12 (gI s3 13 a2.toNatClampNeg)
        · refine r_iconst (pc := 48) hC (v := (1 : Int32)) (by decide) dX0_leastRowOfEight_48 ?_
          refine r_iload_n (pc := 49) hC rfl dX0_leastRowOfEight_49 ?_
          refine r_ishl (pc := 50) hC dX0_leastRowOfEight_50 ?_
          refine r_goto (pc := 51) (tgt := 63) hC dX0_leastRowOfEight_51 (by decide) ?_
          exact hJ63_12 ((1 : Int32) <<< (a2 &&& 31))
      refine r_icmp_ne (pc := 30) (tgt := 37) hC dX0_leastRowOfEight_30 (by decide) ?_ ?_
      · refine r_iconst (pc := 37) hC (v := (0 : Int32)) (by decide) dX0_leastRowOfEight_37 ?_
        exact hJ38_12 (0 : Int32)
      · refine r_iconst (pc := 33) hC (v := (1 : Int32)) (by decide) dX0_leastRowOfEight_33 ?_
        refine r_goto (pc := 34) (tgt := 38) hC dX0_leastRowOfEight_34 (by decide) ?_
        exact hJ38_12 (1 : Int32)
    · refine r_goto (pc := 20) (tgt := 139) hC dX0_leastRowOfEight_20 (by decide) ?_
      refine r_iinc (pc := 139) hC (v := (2 : Int32)) rfl (by decide) rfl rfl dX0_leastRowOfEight_139 ?_
      refine r_goto (pc := 142) (tgt := 5) hC dX0_leastRowOfEight_142 (by decide) ?_
      exact ih5_4 i1 (i2 + (2 : Int32)) s3
set_option maxRecDepth 100000 in
set_option maxHeartbeats 4000000 in
theorem c_Cu_leastRowOfEight (l : Launch) (w : Wenv) (hw : okw w wC) (N : Nat) (a1 : Int32) (a2 : Int32) (σ : Mem) (r : Int32) (τ : Mem) (hf : f_Cu_leastRowOfEight N a1 a2 σ = some (r, τ)) : Ctr l w wC yX0_leastRowOfEight cX0_leastRowOfEight 9 (some .int) 3 70 [.ref (w.2.2.1 7), .int a1, .int a2] σ (cQi w wC r τ) := mk_ctr (Q := fun κ => qOM κ wC) (lv := [some (.ref (w.2.2.1 7)), some (.int a1), some (.int a2), none, none, none, none, none, none]) (by decide) rfl hw (Nat.le_of_ble_eq_true rfl) rfl hf (fun κ h => by subst h; rfl) (fun κ hl h hR hC => by
    subst h
    exact w_Cu_leastRowOfEight hR hC N a1 a2 σ)
-- DuelRound$Cups.leastRowWonBy(I)I (7, None) kind OM
def f_Cu_leastRowWonBy (N : Nat) (a1 : Int32) (σ : Mem) : Option (Int32 × Mem) :=
  bnd (t_Du_everybodyN σ) fun x1 =>
  swc (gI σ 3 0) [((1 : Int32), some ((0 : Int32), σ)),
  ((2 : Int32), gd (inb a1 8) (if (gI σ 13 a1.toNatClampNeg) = (0 : Int32) then
  (some ((-1 : Int32), σ))
  else
  (some ((1 : Int32), σ)))),
  ((3 : Int32), some ((-1 : Int32), σ)),
  ((4 : Int32), ob2 (f_Cu_leastRowOfFour N x1 ((1 : Int32) <<< (a1 &&& 31)) σ) fun r3 s2 =>
  some (r3, s2)),
  ((5 : Int32), some ((-1 : Int32), σ)),
  ((6 : Int32), some ((-1 : Int32), σ)),
  ((7 : Int32), some ((-1 : Int32), σ)),
  ((8 : Int32), ob2 (f_Cu_leastRowOfEight N x1 a1 σ) fun r5 s4 =>
  some (r5, s4))]
  (some ((-1 : Int32), σ))
set_option maxRecDepth 100000 in
set_option maxHeartbeats 4000000 in
theorem w_Cu_leastRowWonBy {κ : Ctx} (hR : kR κ = { frames := 4, cells := 0, slots := 0, locals := 98 }) (hC : ok κ wC cX0_leastRowWonBy 3 RX0 (some .int)) (N : Nat) (a1 : Int32) (σ : Mem) : wF κ wC 3 (qOM κ wC) σ 0 [some (.ref (ad κ 7)), some (.int a1), none] [] (f_Cu_leastRowWonBy N a1 σ) := by
  unfold f_Cu_leastRowWonBy
  refine r_aload_n (pc := 0) hC rfl dX0_leastRowWonBy_0 ?_
  refine gC_7_0 (pc := 1) hC k_211 dX0_leastRowWonBy_1 ?_
  refine r_cT (pc := 4) (rest := []) (runV [] hC (c_Du_everybodyN (kl κ) (kW κ) hC.2.2.2.2.2.2.2.2.1 σ) o_X1_everybody k_739 (q0 := 2) (ci := 1) rfl rfl (rm_ok hR rfl) rfl (Nat.le_of_ble_eq_true rfl) dX0_leastRowWonBy_4) ?_
  refine r_let (fun x1 => ?_)
  refine r_istore_n (pc := 7) hC rfl rfl dX0_leastRowWonBy_7 ?_
  refine r_aload_n (pc := 8) hC rfl dX0_leastRowWonBy_8 ?_
  refine gC_7_0 (pc := 9) hC k_211 dX0_leastRowWonBy_9 ?_
  refine gC_2_1 (pc := 12) hC k_142 dX0_leastRowWonBy_12 ?_
  refine r_table (pc := 15) (tg := fun i => ([60, 62, 96, 80, 96, 96, 96, 89] : List Nat).getD i 0) (dt := 96) hC 8 dX0_leastRowWonBy_15 (by decide) (by decide) rfl (fun i hi => ?_) ?_
  · rcases (show i = 0 ∨ i = 1 ∨ i = 2 ∨ i = 3 ∨ i = 4 ∨ i = 5 ∨ i = 6 ∨ i = 7 by omega) with rfl | rfl | rfl | rfl | rfl | rfl | rfl | rfl
    · refine ⟨_, _, _, rfl, by decide, rfl, by decide, ?_⟩
      refine r_iconst (pc := 60) hC (v := (0 : Int32)) (by decide) dX0_leastRowWonBy_60 ?_
      exact r_retOM hC rfl dX0_leastRowWonBy_61
    · refine ⟨_, _, _, rfl, by decide, rfl, by decide, ?_⟩
      refine r_aload_n (pc := 62) hC rfl dX0_leastRowWonBy_62 ?_
      refine gC_7_0 (pc := 63) hC k_211 dX0_leastRowWonBy_63 ?_
      refine gC_2_0 (pc := 66) hC k_136 dX0_leastRowWonBy_66 ?_
      refine r_iload_n (pc := 69) hC rfl dX0_leastRowWonBy_69 ?_
      refine aC_13 (pc := 70) hC dX0_leastRowWonBy_70 ?_
      refine r_if_ne (pc := 71) (tgt := 78) hC dX0_leastRowWonBy_71 (by decide) ?_ ?_
      · refine r_iconst (pc := 78) hC (v := (1 : Int32)) (by decide) dX0_leastRowWonBy_78 ?_
        exact r_retOM hC rfl dX0_leastRowWonBy_79
      · refine r_iconst (pc := 74) hC (v := (-1 : Int32)) (by decide) dX0_leastRowWonBy_74 ?_
        refine r_goto (pc := 75) (tgt := 79) hC dX0_leastRowWonBy_75 (by decide) ?_
        exact r_retOM hC rfl dX0_leastRowWonBy_79
    · refine ⟨_, _, _, rfl, by decide, rfl, by decide, ?_⟩
      refine r_iconst (pc := 96) hC (v := (-1 : Int32)) (by decide) dX0_leastRowWonBy_96 ?_
      exact r_retOM hC rfl dX0_leastRowWonBy_97
    · refine ⟨_, _, _, rfl, by decide, rfl, by decide, ?_⟩
      refine r_aload_n (pc := 80) hC rfl dX0_leastRowWonBy_80 ?_
      refine r_iload_n (pc := 81) hC rfl dX0_leastRowWonBy_81 ?_
      refine r_iconst (pc := 82) hC (v := (1 : Int32)) (by decide) dX0_leastRowWonBy_82 ?_
      refine r_iload_n (pc := 83) hC rfl dX0_leastRowWonBy_83 ?_
      refine r_ishl (pc := 84) hC dX0_leastRowWonBy_84 ?_
      refine r_cOM (pc := 85) (rest := []) (fun r3 s2 hf => runV [.int x1, .int ((1 : Int32) <<< (a1 &&& 31))] hC (c_Cu_leastRowOfFour (kl κ) (kW κ) hC.2.2.2.2.2.2.2.2.1 N x1 ((1 : Int32) <<< (a1 &&& 31)) σ r3 s2 hf) o_X0_leastRowOfFour k_752 (q0 := 7) (ci := 0) rfl rfl (rm_ok hR rfl) rfl (Nat.le_of_ble_eq_true rfl) dX0_leastRowWonBy_85) (fun r3 s2 => ?_)
      exact r_retOM hC rfl dX0_leastRowWonBy_88
    · refine ⟨_, _, _, rfl, by decide, rfl, by decide, ?_⟩
      refine r_iconst (pc := 96) hC (v := (-1 : Int32)) (by decide) dX0_leastRowWonBy_96 ?_
      exact r_retOM hC rfl dX0_leastRowWonBy_97
    · refine ⟨_, _, _, rfl, by decide, rfl, by decide, ?_⟩
      refine r_iconst (pc := 96) hC (v := (-1 : Int32)) (by decide) dX0_leastRowWonBy_96 ?_
      exact r_retOM hC rfl dX0_leastRowWonBy_97
    · refine ⟨_, _, _, rfl, by decide, rfl, by decide, ?_⟩
      refine r_iconst (pc := 96) hC (v := (-1 : Int32)) (by decide) dX0_leastRowWonBy_96 ?_
      exact r_retOM hC rfl dX0_leastRowWonBy_97
    · refine ⟨_, _, _, rfl, by decide, rfl, by decide, ?_⟩
      refine r_aload_n (pc := 89) hC rfl dX0_leastRowWonBy_89 ?_
      refine r_iload_n (pc := 90) hC rfl dX0_leastRowWonBy_90 ?_
      refine r_iload_n (pc := 91) hC rfl dX0_leastRowWonBy_91 ?_
      refine r_cOM (pc := 92) (rest := []) (fun r5 s4 hf => runV [.int x1, .int a1] hC (c_Cu_leastRowOfEight (kl κ) (kW κ) hC.2.2.2.2.2.2.2.2.1 N x1 a1 σ r5 s4 hf) o_X0_leastRowOfEight k_756 (q0 := 7) (ci := 0) rfl rfl (rm_ok hR rfl) rfl (Nat.le_of_ble_eq_true rfl) dX0_leastRowWonBy_92) (fun r5 s4 => ?_)
      exact r_retOM hC rfl dX0_leastRowWonBy_95
  · refine r_iconst (pc := 96) hC (v := (-1 : Int32)) (by decide) dX0_leastRowWonBy_96 ?_
    exact r_retOM hC rfl dX0_leastRowWonBy_97
set_option maxRecDepth 100000 in
set_option maxHeartbeats 4000000 in
theorem c_Cu_leastRowWonBy (l : Launch) (w : Wenv) (hw : okw w wC) (N : Nat) (a1 : Int32) (σ : Mem) (r : Int32) (τ : Mem) (hf : f_Cu_leastRowWonBy N a1 σ = some (r, τ)) : Ctr l w wC yX0_leastRowWonBy cX0_leastRowWonBy 3 (some .int) 4 98 [.ref (w.2.2.1 7), .int a1] σ (cQi w wC r τ) := mk_ctr (Q := fun κ => qOM κ wC) (lv := [some (.ref (w.2.2.1 7)), some (.int a1), none]) (by decide) rfl hw (Nat.le_of_ble_eq_true rfl) rfl hf (fun κ h => by subst h; rfl) (fun κ hl h hR hC => by
    subst h
    exact w_Cu_leastRowWonBy hR hC N a1 σ)
-- DuelRound$Cups.placeIn(III)I (7, None, None, None) kind T
def t_Cu_placeIn (a1 : Int32) (a2 : Int32) (a3 : Int32) : Int32 :=
  ((a1 >>> (((3 : Int32) * ((a3 - (1 : Int32)) - a2)) &&& 31)) &&& (7 : Int32))
def f_Cu_placeIn (a1 : Int32) (a2 : Int32) (a3 : Int32) : Option Int32 :=
  some ((a1 >>> (((3 : Int32) * ((a3 - (1 : Int32)) - a2)) &&& 31)) &&& (7 : Int32))
theorem e_Cu_placeIn (a1 : Int32) (a2 : Int32) (a3 : Int32) : f_Cu_placeIn a1 a2 a3 = some (t_Cu_placeIn a1 a2 a3) := by
  unfold f_Cu_placeIn t_Cu_placeIn
  try first | rfl | (repeat' split) <;> rfl
set_option maxRecDepth 100000 in
set_option maxHeartbeats 4000000 in
theorem w_Cu_placeIn {κ : Ctx} (hR : kR κ = { frames := 0, cells := 0, slots := 0, locals := 0 }) (hC : ok κ wC cX0_placeIn 4 RX0 (some .int)) (a1 : Int32) (a2 : Int32) (a3 : Int32) (σ : Mem) : wF κ wC 4 (qO κ wC σ) σ 0 [some (.ref (ad κ 7)), some (.int a1), some (.int a2), some (.int a3)] [] (f_Cu_placeIn a1 a2 a3) := by
  unfold f_Cu_placeIn
  refine r_iload_n (pc := 0) hC rfl dX0_placeIn_0 ?_
  refine r_iconst (pc := 1) hC (v := (3 : Int32)) (by decide) dX0_placeIn_1 ?_
  refine r_iload_n (pc := 2) hC rfl dX0_placeIn_2 ?_
  refine r_iconst (pc := 3) hC (v := (1 : Int32)) (by decide) dX0_placeIn_3 ?_
  refine r_isub (pc := 4) hC dX0_placeIn_4 ?_
  refine r_iload_n (pc := 5) hC rfl dX0_placeIn_5 ?_
  refine r_isub (pc := 6) hC dX0_placeIn_6 ?_
  refine r_imul (pc := 7) hC dX0_placeIn_7 ?_
  refine r_ishr (pc := 8) hC dX0_placeIn_8 ?_
  refine r_bipush (pc := 9) hC (v := (7 : Int32)) (by decide) dX0_placeIn_9 ?_
  refine r_iand (pc := 11) hC dX0_placeIn_11 ?_
  exact r_retO hC rfl dX0_placeIn_12
set_option maxRecDepth 100000 in
set_option maxHeartbeats 4000000 in
theorem c_Cu_placeIn (l : Launch) (w : Wenv) (hw : okw w wC) (a1 : Int32) (a2 : Int32) (a3 : Int32) (σ : Mem) : Ctr l w wC yX0_placeIn cX0_placeIn 4 (some .int) 0 0 [.ref (w.2.2.1 7), .int a1, .int a2, .int a3] σ (cQi w wC (t_Cu_placeIn a1 a2 a3) σ) := mk_ctr (Q := fun κ => qO κ wC σ) (lv := [some (.ref (w.2.2.1 7)), some (.int a1), some (.int a2), some (.int a3)]) (by decide) rfl hw (Nat.le_of_ble_eq_true rfl) rfl (e_Cu_placeIn a1 a2 a3) (fun κ h => by subst h; rfl) (fun κ hl h hR hC => by
    subst h
    exact w_Cu_placeIn hR hC a1 a2 a3 σ)
-- DuelRound.cup(II)I (0, None, None) kind OM
def f_D_cup (N : Nat) (a1 : Int32) (a2 : Int32) (σ : Mem) : Option (Int32 × Mem) :=
  if (t_Du_isPlayerN a1 σ) = (0 : Int32) then
  (some ((-1 : Int32), σ))
  else
  (if a2 < (-1 : Int32) then
  (some ((-1 : Int32), σ))
  else
  (if a2 < (gI σ 3 0) then
  (if (t_Cu_fits (gI σ 3 0)) = (0 : Int32) then
  (some ((-3 : Int32), σ))
  else
  (if a2 = (-1 : Int32) then
  (ob2 (f_Cu_rowsWonBy N a1 σ) fun r4 s3 =>
  some (r4, s3))
  else
  (ob2 (f_Cu_leastRowWonBy N a1 σ) fun r2 s1 =>
  if r2 = (-1 : Int32) then
  (some ((-3 : Int32), s1))
  else
  (some ((t_Cu_placeIn r2 a2 (gI s1 3 0)), s1)))))
  else
  (some ((-1 : Int32), σ))))
set_option maxRecDepth 100000 in
set_option maxHeartbeats 4000000 in
theorem w_D_cup {κ : Ctx} (hR : kR κ = { frames := 5, cells := 0, slots := 0, locals := 120 }) (hC : ok κ wC cX9_cup 4 RX9 (some .int)) (N : Nat) (a1 : Int32) (a2 : Int32) (σ : Mem) : wF κ wC 4 (qOM κ wC) σ 0 [some (.ref (ad κ 0)), some (.int a1), some (.int a2), none] [] (f_D_cup N a1 a2 σ) := by
  unfold f_D_cup
  refine r_aload_n (pc := 0) hC rfl dX9_cup_0 ?_
  refine gC_0_1 (pc := 1) hC k_312 dX9_cup_1 ?_
  refine r_iload_n (pc := 4) hC rfl dX9_cup_4 ?_
  refine r_cT (pc := 5) (rest := []) (runV [.int a1] hC (c_Du_isPlayerN (kl κ) (kW κ) hC.2.2.2.2.2.2.2.2.1 a1 σ) o_X1_isPlayer k_447 (q0 := 2) (ci := 1) rfl rfl (rm_ok hR rfl) rfl (Nat.le_of_ble_eq_true rfl) dX9_cup_5) ?_
  refine r_if_eq (pc := 8) (tgt := 27) hC dX9_cup_8 (by decide) ?_ ?_
  · refine r_iconst (pc := 27) hC (v := (-1 : Int32)) (by decide) dX9_cup_27 ?_
    exact r_retOM hC rfl dX9_cup_28
  · refine r_iload_n (pc := 11) hC rfl dX9_cup_11 ?_
    refine r_iconst (pc := 12) hC (v := (-1 : Int32)) (by decide) dX9_cup_12 ?_
    refine r_icmp_lt (pc := 13) (tgt := 27) hC dX9_cup_13 (by decide) ?_ ?_
    · refine r_iconst (pc := 27) hC (v := (-1 : Int32)) (by decide) dX9_cup_27 ?_
      exact r_retOM hC rfl dX9_cup_28
    · refine r_iload_n (pc := 16) hC rfl dX9_cup_16 ?_
      refine r_aload_n (pc := 17) hC rfl dX9_cup_17 ?_
      refine gC_0_1 (pc := 18) hC k_312 dX9_cup_18 ?_
      refine gC_2_1 (pc := 21) hC k_144 dX9_cup_21 ?_
      refine r_icmp_lt (pc := 24) (tgt := 29) hC dX9_cup_24 (by decide) ?_ ?_
      · refine r_aload_n (pc := 29) hC rfl dX9_cup_29 ?_
        refine gC_0_6 (pc := 30) hC k_317 dX9_cup_30 ?_
        refine r_aload_n (pc := 33) hC rfl dX9_cup_33 ?_
        refine gC_0_1 (pc := 34) hC k_312 dX9_cup_34 ?_
        refine gC_2_1 (pc := 37) hC k_144 dX9_cup_37 ?_
        refine r_cT (pc := 40) (rest := []) (runV [.int (gI σ 3 0)] hC (c_Cu_fits (kl κ) (kW κ) hC.2.2.2.2.2.2.2.2.1 (gI σ 3 0) σ) o_X0_fits k_731 (q0 := 7) (ci := 0) rfl rfl (rm_ok hR rfl) rfl (Nat.le_of_ble_eq_true rfl) dX9_cup_40) ?_
        refine r_if_ne (pc := 43) (tgt := 49) hC dX9_cup_43 (by decide) ?_ ?_
        · refine r_iload_n (pc := 49) hC rfl dX9_cup_49 ?_
          refine r_iconst (pc := 50) hC (v := (-1 : Int32)) (by decide) dX9_cup_50 ?_
          refine r_icmp_ne (pc := 51) (tgt := 63) hC dX9_cup_51 (by decide) ?_ ?_
          · refine r_aload_n (pc := 63) hC rfl dX9_cup_63 ?_
            refine gC_0_6 (pc := 64) hC k_317 dX9_cup_64 ?_
            refine r_iload_n (pc := 67) hC rfl dX9_cup_67 ?_
            refine r_cOM (pc := 68) (rest := []) (fun r2 s1 hf => runV [.int a1] hC (c_Cu_leastRowWonBy (kl κ) (kW κ) hC.2.2.2.2.2.2.2.2.1 N a1 σ r2 s1 hf) o_X0_leastRowWonBy k_748 (q0 := 7) (ci := 0) rfl rfl (rm_ok hR rfl) rfl (Nat.le_of_ble_eq_true rfl) dX9_cup_68) (fun r2 s1 => ?_)
            refine r_istore_n (pc := 71) hC rfl rfl dX9_cup_71 ?_
            refine r_iload_n (pc := 72) hC rfl dX9_cup_72 ?_
            refine r_iconst (pc := 73) hC (v := (-1 : Int32)) (by decide) dX9_cup_73 ?_
            refine r_icmp_ne (pc := 74) (tgt := 80) hC dX9_cup_74 (by decide) ?_ ?_
            · refine r_aload_n (pc := 80) hC rfl dX9_cup_80 ?_
              refine gC_0_6 (pc := 81) hC k_317 dX9_cup_81 ?_
              refine r_iload_n (pc := 84) hC rfl dX9_cup_84 ?_
              refine r_iload_n (pc := 85) hC rfl dX9_cup_85 ?_
              refine r_aload_n (pc := 86) hC rfl dX9_cup_86 ?_
              refine gC_0_1 (pc := 87) hC k_312 dX9_cup_87 ?_
              refine gC_2_1 (pc := 90) hC k_144 dX9_cup_90 ?_
              refine r_cT (pc := 93) (rest := []) (runV [.int r2, .int a2, .int (gI s1 3 0)] hC (c_Cu_placeIn (kl κ) (kW κ) hC.2.2.2.2.2.2.2.2.1 r2 a2 (gI s1 3 0) s1) o_X0_placeIn k_760 (q0 := 7) (ci := 0) rfl rfl (rm_ok hR rfl) rfl (Nat.le_of_ble_eq_true rfl) dX9_cup_93) ?_
              exact r_retOM hC rfl dX9_cup_96
            · refine r_bipush (pc := 77) hC (v := (-3 : Int32)) (by decide) dX9_cup_77 ?_
              exact r_retOM hC rfl dX9_cup_79
          · refine r_aload_n (pc := 54) hC rfl dX9_cup_54 ?_
            refine gC_0_6 (pc := 55) hC k_317 dX9_cup_55 ?_
            refine r_iload_n (pc := 58) hC rfl dX9_cup_58 ?_
            refine r_cOM (pc := 59) (rest := []) (fun r4 s3 hf => runV [.int a1] hC (c_Cu_rowsWonBy (kl κ) (kW κ) hC.2.2.2.2.2.2.2.2.1 N a1 σ r4 s3 hf) o_X0_rowsWonBy k_735 (q0 := 7) (ci := 0) rfl rfl (rm_ok hR rfl) rfl (Nat.le_of_ble_eq_true rfl) dX9_cup_59) (fun r4 s3 => ?_)
            exact r_retOM hC rfl dX9_cup_62
        · refine r_bipush (pc := 46) hC (v := (-3 : Int32)) (by decide) dX9_cup_46 ?_
          exact r_retOM hC rfl dX9_cup_48
      · refine r_iconst (pc := 27) hC (v := (-1 : Int32)) (by decide) dX9_cup_27 ?_
        exact r_retOM hC rfl dX9_cup_28
set_option maxRecDepth 100000 in
set_option maxHeartbeats 4000000 in
theorem c_D_cup (l : Launch) (w : Wenv) (hw : okw w wC) (N : Nat) (a1 : Int32) (a2 : Int32) (σ : Mem) (r : Int32) (τ : Mem) (hf : f_D_cup N a1 a2 σ = some (r, τ)) : Ctr l w wC yX9_cup cX9_cup 4 (some .int) 5 120 [.ref (w.2.2.1 0), .int a1, .int a2] σ (cQi w wC r τ) := mk_ctr (Q := fun κ => qOM κ wC) (lv := [some (.ref (w.2.2.1 0)), some (.int a1), some (.int a2), none]) (by decide) rfl hw (Nat.le_of_ble_eq_true rfl) rfl hf (fun κ h => by subst h; rfl) (fun κ hl h hR hC => by
    subst h
    exact w_D_cup hR hC N a1 a2 σ)
-- DuelRound$Duels.packed()J (3,) kind L
def Du_packedS_B17 (σ : Mem) (i2 : Int32) (self3 : Int64 → Int32 → Option Int64) (self7 : Int64 → Int32 → Option Int64) (i5 : Int64) (i6 : Int32) : Option Int64 :=
  if (gI σ 4 0) ≤ i6 then
  (self3 i5 (i2 + (1 : Int32)))
  else
  (gd (inb i2 8) (bnd ((i5 <<< ((1 : Int32).toInt64 &&& 63)) ||| ((t_D_bitOf (gI σ 14 i2.toNatClampNeg) i6).toInt64)) fun l8 =>
  self7 l8 (i6 + (1 : Int32))))
def Du_packedS_B4 (N : Nat) (σ : Mem) (self3 : Int64 → Int32 → Option Int64) (i1 : Int64) (i2 : Int32) : Option Int64 :=
  if (gI σ 4 0) ≤ i2 then
  (some ((i1 <<< ((4 : Int32).toInt64 &&& 63)) ||| ((gI σ 4 0).toInt64)))
  else
  (bnd (i2 + (1 : Int32)) fun x4 =>
  it2 (Du_packedS_B17 σ i2 self3) N i1 x4)
def f_Du_packedS (N : Nat) (σ : Mem) : Option Int64 :=
  it2 (Du_packedS_B4 N σ) N (0 : Int64) (0 : Int32)
set_option maxRecDepth 100000 in
set_option maxHeartbeats 4000000 in
theorem w_Du_packedS {κ : Ctx} (hR : kR κ = { frames := 1, cells := 0, slots := 0, locals := 21 }) (hC : ok κ wC cX1_packed 5 RX1 (some .long)) (N : Nat) (σ : Mem) : wF κ wC 5 (qL κ wC σ) σ 0 [some (.ref (ad κ 3)), none, none, none, none] [] (f_Du_packedS N  σ) := by
  unfold f_Du_packedS
  refine r_lconst (pc := 0) hC (v := (0 : Int64)) (by decide) dX1_packed_0 ?_
  refine r_lstore_n (pc := 1) hC rfl rfl dX1_packed_1 ?_
  refine r_iconst (pc := 2) hC (v := (0 : Int32)) (by decide) dX1_packed_2 ?_
  refine r_istore_n (pc := 3) hC rfl rfl dX1_packed_3 ?_
  refine w_it2 (fun i1 i2 => σ) (fun i1 i2 => [some (.ref (ad κ 3)), some (.long i1), none, some (.int i2), none]) (fun self3 ih4_3 i1 i2 => ?_) N (0 : Int64) (0 : Int32)
  unfold Du_packedS_B4
  refine r_iload_n (pc := 4) hC rfl dX1_packed_4 ?_
  refine r_aload_n (pc := 5) hC rfl dX1_packed_5 ?_
  refine gC_3_1 (pc := 6) hC k_139 dX1_packed_6 ?_
  refine r_icmp_ge (pc := 9) (tgt := 55) hC dX1_packed_9 (by decide) ?_ ?_
  · refine r_lload_n (pc := 55) hC rfl dX1_packed_55 ?_
    refine r_iconst (pc := 56) hC (v := (4 : Int32)) (by decide) dX1_packed_56 ?_
    refine r_lshl (pc := 57) hC dX1_packed_57 ?_
    refine r_aload_n (pc := 58) hC rfl dX1_packed_58 ?_
    refine gC_3_1 (pc := 59) hC k_139 dX1_packed_59 ?_
    refine r_i2l (pc := 62) hC dX1_packed_62 ?_
    refine r_lor (pc := 63) hC dX1_packed_63 ?_
    exact r_retL hC dX1_packed_64
  · refine r_iload_n (pc := 12) hC rfl dX1_packed_12 ?_
    refine r_iconst (pc := 13) hC (v := (1 : Int32)) (by decide) dX1_packed_13 ?_
    refine r_iadd (pc := 14) hC dX1_packed_14 ?_
    refine r_let (fun x4 => ?_)
    refine r_istore (pc := 15) hC rfl rfl dX1_packed_15 ?_
    refine w_it2 (fun i5 i6 => σ) (fun i5 i6 => [some (.ref (ad κ 3)), some (.long i5), none, some (.int i2), some (.int i6)]) (fun self7 ih17_7 i5 i6 => ?_) N i1 x4
    unfold Du_packedS_B17
    refine r_iload (pc := 17) hC rfl dX1_packed_17 ?_
    refine r_aload_n (pc := 19) hC rfl dX1_packed_19 ?_
    refine gC_3_1 (pc := 20) hC k_139 dX1_packed_20 ?_
    refine r_icmp_ge (pc := 23) (tgt := 49) hC dX1_packed_23 (by decide) ?_ ?_
    · refine r_iinc (pc := 49) hC (v := (1 : Int32)) rfl (by decide) rfl rfl dX1_packed_49 ?_
      refine r_goto (pc := 52) (tgt := 4) hC dX1_packed_52 (by decide) ?_
      exact r_wk [true, true, false, true, false] (ih4_3 i5 (i2 + (1 : Int32)))
    · refine r_lload_n (pc := 26) hC rfl dX1_packed_26 ?_
      refine r_iconst (pc := 27) hC (v := (1 : Int32)) (by decide) dX1_packed_27 ?_
      refine r_lshl (pc := 28) hC dX1_packed_28 ?_
      refine r_aload_n (pc := 29) hC rfl dX1_packed_29 ?_
      refine gC_3_0 (pc := 30) hC k_132 dX1_packed_30 ?_
      refine r_iload_n (pc := 33) hC rfl dX1_packed_33 ?_
      refine aC_14 (pc := 34) hC dX1_packed_34 ?_
      refine r_iload (pc := 35) hC rfl dX1_packed_35 ?_
      refine r_cT (pc := 37) (rest := [.long (i5 <<< ((1 : Int32).toInt64 &&& 63))]) (runSN [.int (gI σ 14 i2.toNatClampNeg), .int i6] hC (c_D_bitOf (kl κ) (kW κ) hC.2.2.2.2.2.2.2.2.1 (gI σ 14 i2.toNatClampNeg) i6 σ) o_X9_bitOf (k_423 hC.2.2.2.2.2.2.2.2.2) (rm_ok hR rfl) rfl (Nat.le_of_ble_eq_true rfl) dX1_packed_37) ?_
      refine r_i2l (pc := 40) hC dX1_packed_40 ?_
      refine r_lor (pc := 41) hC dX1_packed_41 ?_
      refine r_letl (fun l8 => ?_)
      refine r_lstore_n (pc := 42) hC rfl rfl dX1_packed_42 ?_
      refine r_iinc (pc := 43) hC (v := (1 : Int32)) rfl (by decide) rfl rfl dX1_packed_43 ?_
      refine r_goto (pc := 46) (tgt := 17) hC dX1_packed_46 (by decide) ?_
      exact ih17_7 l8 (i6 + (1 : Int32))
set_option maxRecDepth 100000 in
set_option maxHeartbeats 4000000 in
theorem c_Du_packedS (l : Launch) (w : Wenv) (hw : okw w wC) (N : Nat) (σ : Mem) (r : Int64) (hf : f_Du_packedS N  σ = some r) : Ctr l w wC yX1_packed cX1_packed 5 (some .long) 1 21 [.ref (w.2.2.1 3)] σ (cQl w wC r σ) := mk_ctr (Q := fun κ => qL κ wC σ) (lv := [some (.ref (w.2.2.1 3)), none, none, none, none]) (by decide) rfl hw (Nat.le_of_ble_eq_true rfl) rfl hf (fun κ h => by subst h; rfl) (fun κ hl h hR hC => by
    subst h
    exact w_Du_packedS hR hC N  σ)
-- DuelRound$Past.forgetAll()V (4,) kind M
def Pa_forgetAll_B7 (self4 : Int32 → Mem → Option Mem) (i2 : Int32) (s3 : Mem) : Option Mem :=
  if (2 : Int32) ≤ i2 then
  (some s3)
  else
  (gd (inb i2 2) (bnd (sJ s3 16 i2.toNatClampNeg (0 : Int64)) fun s5 =>
  self4 (i2 + (1 : Int32)) s5))
def f_Pa_forgetAll (N : Nat) (σ : Mem) : Option Mem :=
  bnd (sI σ 5 0 (0 : Int32)) fun s1 =>
  it2 (Pa_forgetAll_B7) N (0 : Int32) s1
set_option maxRecDepth 100000 in
set_option maxHeartbeats 4000000 in
theorem w_Pa_forgetAll {κ : Ctx} (hR : kR κ = { frames := 0, cells := 0, slots := 0, locals := 0 }) (hC : ok κ wC cX4_forgetAll 2 RX4 none) (N : Nat) (σ : Mem) : wF κ wC 2 (qM κ wC) σ 0 [some (.ref (ad κ 4)), none] [] (f_Pa_forgetAll N  σ) := by
  unfold f_Pa_forgetAll
  refine r_aload_n (pc := 0) hC rfl dX4_forgetAll_0 ?_
  refine r_iconst (pc := 1) hC (v := (0 : Int32)) (by decide) dX4_forgetAll_1 ?_
  refine pC_4_2 (pc := 2) hC k_161 dX4_forgetAll_2 ?_
  refine r_letm (fun s1 => ?_)
  refine r_iconst (pc := 5) hC (v := (0 : Int32)) (by decide) dX4_forgetAll_5 ?_
  refine r_istore_n (pc := 6) hC rfl rfl dX4_forgetAll_6 ?_
  refine w_it2 (fun i2 s3 => s3) (fun i2 s3 => [some (.ref (ad κ 4)), some (.int i2)]) (fun self4 ih7_4 i2 s3 => ?_) N (0 : Int32) s1
  unfold Pa_forgetAll_B7
  refine r_iload_n (pc := 7) hC rfl dX4_forgetAll_7 ?_
  refine r_iconst (pc := 8) hC (v := (2 : Int32)) (by decide) dX4_forgetAll_8 ?_
  refine r_icmp_ge (pc := 9) (tgt := 25) hC dX4_forgetAll_9 (by decide) ?_ ?_
  · exact r_retM hC dX4_forgetAll_25
  · refine r_aload_n (pc := 12) hC rfl dX4_forgetAll_12 ?_
    refine gC_4_1 (pc := 13) hC k_159 dX4_forgetAll_13 ?_
    refine r_iload_n (pc := 16) hC rfl dX4_forgetAll_16 ?_
    refine r_lconst (pc := 17) hC (v := (0 : Int64)) (by decide) dX4_forgetAll_17 ?_
    refine bC_16 (pc := 18) hC dX4_forgetAll_18 ?_
    refine r_letm (fun s5 => ?_)
    refine r_iinc (pc := 19) hC (v := (1 : Int32)) rfl (by decide) rfl rfl dX4_forgetAll_19 ?_
    refine r_goto (pc := 22) (tgt := 7) hC dX4_forgetAll_22 (by decide) ?_
    exact ih7_4 (i2 + (1 : Int32)) s5
set_option maxRecDepth 100000 in
set_option maxHeartbeats 4000000 in
theorem c_Pa_forgetAll (l : Launch) (w : Wenv) (hw : okw w wC) (N : Nat) (σ : Mem) (τ : Mem) (hf : f_Pa_forgetAll N  σ = some τ) : Ctr l w wC yX4_forgetAll cX4_forgetAll 2 none 0 0 [.ref (w.2.2.1 4)] σ (cQv w wC τ) := mk_ctr (Q := fun κ => qM κ wC) (lv := [some (.ref (w.2.2.1 4)), none]) (by decide) rfl hw (Nat.le_of_ble_eq_true rfl) rfl hf (fun κ h => by subst h; rfl) (fun κ hl h hR hC => by
    subst h
    exact w_Pa_forgetAll hR hC N  σ)
-- DuelRound.startWithSpare()I (0,) kind OM
def f_D_startWithSpare (N : Nat) (σ : Mem) : Option (Int32 × Mem) :=
  ob (f_Du_packedS N σ) fun r1 =>
  ob (f_Du_unpackN N r1 σ) fun s2 =>
  ob (f_Pa_forgetAll N s2) fun s3 =>
  some ((gI s3 3 0), s3)
set_option maxRecDepth 100000 in
set_option maxHeartbeats 4000000 in
theorem w_D_startWithSpare {κ : Ctx} (hR : kR κ = { frames := 2, cells := 0, slots := 0, locals := 49 }) (hC : ok κ wC cX9_startWithSpare 1 RX9 (some .int)) (N : Nat) (σ : Mem) : wF κ wC 1 (qOM κ wC) σ 0 [some (.ref (ad κ 0))] [] (f_D_startWithSpare N  σ) := by
  unfold f_D_startWithSpare
  refine r_aload_n (pc := 0) hC rfl dX9_startWithSpare_0 ?_
  refine gC_0_1 (pc := 1) hC k_312 dX9_startWithSpare_1 ?_
  refine r_aload_n (pc := 4) hC rfl dX9_startWithSpare_4 ?_
  refine gC_0_2 (pc := 5) hC k_313 dX9_startWithSpare_5 ?_
  refine r_cL (pc := 8) (rest := [.ref (ad κ 2)]) (fun r1 hf => runV [] hC (c_Du_packedS (kl κ) (kW κ) hC.2.2.2.2.2.2.2.2.1 N σ r1 hf) o_X1_packed k_419 (q0 := 3) (ci := 1) rfl rfl (rm_ok hR rfl) rfl (Nat.le_of_ble_eq_true rfl) dX9_startWithSpare_8) (fun r1 => ?_)
  refine r_cM (pc := 11) (rest := []) (fun s2 hf => runV [.long r1] hC (c_Du_unpackN (kl κ) (kW κ) hC.2.2.2.2.2.2.2.2.1 N r1 σ s2 hf) o_X1_unpack k_426 (q0 := 2) (ci := 1) rfl rfl (rm_ok hR rfl) rfl (Nat.le_of_ble_eq_true rfl) dX9_startWithSpare_11) (fun s2 => ?_)
  refine r_aload_n (pc := 14) hC rfl dX9_startWithSpare_14 ?_
  refine gC_0_3 (pc := 15) hC k_314 dX9_startWithSpare_15 ?_
  refine r_cM (pc := 18) (rest := []) (fun s3 hf => runV [] hC (c_Pa_forgetAll (kl κ) (kW κ) hC.2.2.2.2.2.2.2.2.1 N s2 s3 hf) o_X4_forgetAll k_433 (q0 := 4) (ci := 4) rfl rfl (rm_ok hR rfl) rfl (Nat.le_of_ble_eq_true rfl) dX9_startWithSpare_18) (fun s3 => ?_)
  refine r_aload_n (pc := 21) hC rfl dX9_startWithSpare_21 ?_
  refine gC_0_1 (pc := 22) hC k_312 dX9_startWithSpare_22 ?_
  refine gC_2_1 (pc := 25) hC k_144 dX9_startWithSpare_25 ?_
  exact r_retOM hC rfl dX9_startWithSpare_28
set_option maxRecDepth 100000 in
set_option maxHeartbeats 4000000 in
theorem c_D_startWithSpare (l : Launch) (w : Wenv) (hw : okw w wC) (N : Nat) (σ : Mem) (r : Int32) (τ : Mem) (hf : f_D_startWithSpare N  σ = some (r, τ)) : Ctr l w wC yX9_startWithSpare cX9_startWithSpare 1 (some .int) 2 49 [.ref (w.2.2.1 0)] σ (cQi w wC r τ) := mk_ctr (Q := fun κ => qOM κ wC) (lv := [some (.ref (w.2.2.1 0))]) (by decide) rfl hw (Nat.le_of_ble_eq_true rfl) rfl hf (fun κ h => by subst h; rfl) (fun κ hl h hR hC => by
    subst h
    exact w_D_startWithSpare hR hC N  σ)
-- DuelRound.drawn(II)I (0, None, None) kind OM
def D_drawn_K117 (N : Nat) (s3 : Mem) : Option (Int32 × Mem) :=
  ob2 (f_D_startWithSpare N s3) fun r5 s4 =>
  some (r5, s4)
def D_drawn_B55 (a1 : Int32) (i7 : Int32) (self9 : Int32 → Int32 → Mem → Option (Int32 × Mem)) (self14 : Int32 → Int32 → Mem → Option (Int32 × Mem)) (i11 : Int32) (i12 : Int32) (s13 : Mem) : Option (Int32 × Mem) :=
  if a1 ≤ i12 then
  (self9 i11 (i7 + (1 : Int32)) s13)
  else
  (bnd ((((1103 : Int32) * i11) + (12345 : Int32)) - (((1103 : Int32) * i11) + (12345 : Int32)) / (1000003 : Int32) * (1000003 : Int32)) fun x15 =>
  if (x15 - x15 / (2 : Int32) * (2 : Int32)) = (0 : Int32) then
  (ob (f_Du_letBeatS i7 i12 s13) fun s17 =>
  self14 x15 (i12 + (1 : Int32)) s17)
  else
  (ob (f_Du_letBeatS i12 i7 s13) fun s16 =>
  self14 x15 (i12 + (1 : Int32)) s16))
def D_drawn_B43 (N : Nat) (a1 : Int32) (self9 : Int32 → Int32 → Mem → Option (Int32 × Mem)) (i6 : Int32) (i7 : Int32) (s8 : Mem) : Option (Int32 × Mem) :=
  if a1 ≤ i7 then
  (D_drawn_K117 N s8)
  else
  (bnd (i7 + (1 : Int32)) fun x10 =>
  it3 (D_drawn_B55 a1 i7 self9) N i6 x10 s8)
def f_D_drawn (N : Nat) (a1 : Int32) (a2 : Int32) (σ : Mem) : Option (Int32 × Mem) :=
  if a1 < (1 : Int32) then
  (some ((-1 : Int32), σ))
  else
  (if (8 : Int32) < a1 then
  (some ((-1 : Int32), σ))
  else
  (if a2 < (0 : Int32) then
  (some ((-1 : Int32), σ))
  else
  (if a2 ≤ (999999 : Int32) then
  (ob (f_Du_clearS N σ) fun s1 =>
  bnd (sI s1 4 0 a1) fun s2 =>
  it3 (D_drawn_B43 N a1) N a2 (0 : Int32) s2)
  else
  (some ((-1 : Int32), σ)))))
set_option maxRecDepth 100000 in
set_option maxHeartbeats 4000000 in
theorem w_D_drawn {κ : Ctx} (hR : kR κ = { frames := 3, cells := 0, slots := 0, locals := 69 }) (hC : ok κ wC cX9_drawn 6 RX9 (some .int)) (N : Nat) (a1 : Int32) (a2 : Int32) (σ : Mem) : wF κ wC 6 (qOM κ wC) σ 0 [some (.ref (ad κ 0)), some (.int a1), some (.int a2), none, none, none] [] (f_D_drawn N a1 a2 σ) := by
  unfold f_D_drawn
  refine r_iload_n (pc := 0) hC rfl dX9_drawn_0 ?_
  refine r_iconst (pc := 1) hC (v := (1 : Int32)) (by decide) dX9_drawn_1 ?_
  refine r_icmp_lt (pc := 2) (tgt := 21) hC dX9_drawn_2 (by decide) ?_ ?_
  · refine r_iconst (pc := 21) hC (v := (-1 : Int32)) (by decide) dX9_drawn_21 ?_
    exact r_retOM hC rfl dX9_drawn_22
  · refine r_iload_n (pc := 5) hC rfl dX9_drawn_5 ?_
    refine r_bipush (pc := 6) hC (v := (8 : Int32)) (by decide) dX9_drawn_6 ?_
    refine r_icmp_gt (pc := 8) (tgt := 21) hC dX9_drawn_8 (by decide) ?_ ?_
    · refine r_iconst (pc := 21) hC (v := (-1 : Int32)) (by decide) dX9_drawn_21 ?_
      exact r_retOM hC rfl dX9_drawn_22
    · refine r_iload_n (pc := 11) hC rfl dX9_drawn_11 ?_
      refine r_if_lt (pc := 12) (tgt := 21) hC dX9_drawn_12 (by decide) ?_ ?_
      · refine r_iconst (pc := 21) hC (v := (-1 : Int32)) (by decide) dX9_drawn_21 ?_
        exact r_retOM hC rfl dX9_drawn_22
      · refine r_iload_n (pc := 15) hC rfl dX9_drawn_15 ?_
        refine r_ldc (pc := 16) hC (v := (999999 : Int32)) k_441 dX9_drawn_16 ?_
        refine r_icmp_le (pc := 18) (tgt := 23) hC dX9_drawn_18 (by decide) ?_ ?_
        · refine r_aload_n (pc := 23) hC rfl dX9_drawn_23 ?_
          refine gC_0_2 (pc := 24) hC k_313 dX9_drawn_24 ?_
          refine r_cM (pc := 27) (rest := []) (fun s1 hf => runV [] hC (c_Du_clearS (kl κ) (kW κ) hC.2.2.2.2.2.2.2.2.1 N σ s1 hf) o_X1_clear k_369 (q0 := 3) (ci := 1) rfl rfl (rm_ok hR rfl) rfl (Nat.le_of_ble_eq_true rfl) dX9_drawn_27) (fun s1 => ?_)
          refine r_aload_n (pc := 30) hC rfl dX9_drawn_30 ?_
          refine gC_0_2 (pc := 31) hC k_313 dX9_drawn_31 ?_
          refine r_iload_n (pc := 34) hC rfl dX9_drawn_34 ?_
          refine pC_3_1 (pc := 35) hC k_144 dX9_drawn_35 ?_
          refine r_letm (fun s2 => ?_)
          refine r_iload_n (pc := 38) hC rfl dX9_drawn_38 ?_
          refine r_istore_n (pc := 39) hC rfl rfl dX9_drawn_39 ?_
          refine r_iconst (pc := 40) hC (v := (0 : Int32)) (by decide) dX9_drawn_40 ?_
          refine r_istore (pc := 41) hC rfl rfl dX9_drawn_41 ?_
          have hK117_5 : ∀ (s3 : Mem), wF κ wC 6 (qOM κ wC) s3 117 [some (.ref (ad κ 0)), none, none, none, none, none] [] (D_drawn_K117 N s3) := by
            intro s3
            unfold D_drawn_K117
            refine r_aload_n (pc := 117) hC rfl dX9_drawn_117 ?_
            refine r_cOM (pc := 118) (rest := []) (fun r5 s4 hf => runV [] hC (c_D_startWithSpare (kl κ) (kW κ) hC.2.2.2.2.2.2.2.2.1 N s3 r5 s4 hf) o_X9_startWithSpare k_415 (q0 := 0) (ci := 9) rfl rfl (rm_ok hR rfl) rfl (Nat.le_of_ble_eq_true rfl) dX9_drawn_118) (fun r5 s4 => ?_)
            exact r_retOM hC rfl dX9_drawn_121
          refine r_wk [true, true, false, true, true, false] (w_it3 (fun i6 i7 s8 => s8) (fun i6 i7 s8 => [some (.ref (ad κ 0)), some (.int a1), none, some (.int i6), some (.int i7), none]) (fun self9 ih43_9 i6 i7 s8 => ?_) N a2 (0 : Int32) s2)
          unfold D_drawn_B43
          refine r_iload (pc := 43) hC rfl dX9_drawn_43 ?_
          refine r_iload_n (pc := 45) hC rfl dX9_drawn_45 ?_
          refine r_icmp_ge (pc := 46) (tgt := 117) hC dX9_drawn_46 (by decide) ?_ ?_
          · exact r_wk [true, false, false, false, false, false] (hK117_5 s8)
          · refine r_iload (pc := 49) hC rfl dX9_drawn_49 ?_
            refine r_iconst (pc := 51) hC (v := (1 : Int32)) (by decide) dX9_drawn_51 ?_
            refine r_iadd (pc := 52) hC dX9_drawn_52 ?_
            refine r_let (fun x10 => ?_)
            refine r_istore (pc := 53) hC rfl rfl dX9_drawn_53 ?_
            refine w_it3 (fun i11 i12 s13 => s13) (fun i11 i12 s13 => [some (.ref (ad κ 0)), some (.int a1), none, some (.int i11), some (.int i7), some (.int i12)]) (fun self14 ih55_14 i11 i12 s13 => ?_) N i6 x10 s8
            unfold D_drawn_B55
            refine r_iload (pc := 55) hC rfl dX9_drawn_55 ?_
            refine r_iload_n (pc := 57) hC rfl dX9_drawn_57 ?_
            refine r_icmp_ge (pc := 58) (tgt := 111) hC dX9_drawn_58 (by decide) ?_ ?_
            · refine r_iinc (pc := 111) hC (v := (1 : Int32)) rfl (by decide) rfl rfl dX9_drawn_111 ?_
              refine r_goto (pc := 114) (tgt := 43) hC dX9_drawn_114 (by decide) ?_
              exact r_wk [true, true, false, true, true, false] (ih43_9 i11 (i7 + (1 : Int32)) s13)
            · refine r_sipush (pc := 61) hC (v := (1103 : Int32)) (by decide) dX9_drawn_61 ?_
              refine r_iload_n (pc := 64) hC rfl dX9_drawn_64 ?_
              refine r_imul (pc := 65) hC dX9_drawn_65 ?_
              refine r_sipush (pc := 66) hC (v := (12345 : Int32)) (by decide) dX9_drawn_66 ?_
              refine r_iadd (pc := 69) hC dX9_drawn_69 ?_
              refine r_ldc (pc := 70) hC (v := (1000003 : Int32)) k_442 dX9_drawn_70 ?_
              refine r_irem (pc := 72) hC (by decide) dX9_drawn_72 ?_
              refine r_let (fun x15 => ?_)
              refine r_istore_n (pc := 73) hC rfl rfl dX9_drawn_73 ?_
              refine r_iload_n (pc := 74) hC rfl dX9_drawn_74 ?_
              refine r_iconst (pc := 75) hC (v := (2 : Int32)) (by decide) dX9_drawn_75 ?_
              refine r_irem (pc := 76) hC (by decide) dX9_drawn_76 ?_
              refine r_if_ne (pc := 77) (tgt := 94) hC dX9_drawn_77 (by decide) ?_ ?_
              · refine r_aload_n (pc := 94) hC rfl dX9_drawn_94 ?_
                refine gC_0_2 (pc := 95) hC k_313 dX9_drawn_95 ?_
                refine r_iload (pc := 98) hC rfl dX9_drawn_98 ?_
                refine r_iload (pc := 100) hC rfl dX9_drawn_100 ?_
                refine r_cM (pc := 102) (rest := []) (fun s16 hf => runV [.int i12, .int i7] hC (c_Du_letBeatS (kl κ) (kW κ) hC.2.2.2.2.2.2.2.2.1 i12 i7 s13 s16 hf) o_X1_letBeat k_394 (q0 := 3) (ci := 1) rfl rfl (rm_ok hR rfl) rfl (Nat.le_of_ble_eq_true rfl) dX9_drawn_102) (fun s16 => ?_)
                refine r_iinc (pc := 105) hC (v := (1 : Int32)) rfl (by decide) rfl rfl dX9_drawn_105 ?_
                refine r_goto (pc := 108) (tgt := 55) hC dX9_drawn_108 (by decide) ?_
                exact ih55_14 x15 (i12 + (1 : Int32)) s16
              · refine r_aload_n (pc := 80) hC rfl dX9_drawn_80 ?_
                refine gC_0_2 (pc := 81) hC k_313 dX9_drawn_81 ?_
                refine r_iload (pc := 84) hC rfl dX9_drawn_84 ?_
                refine r_iload (pc := 86) hC rfl dX9_drawn_86 ?_
                refine r_cM (pc := 88) (rest := []) (fun s17 hf => runV [.int i7, .int i12] hC (c_Du_letBeatS (kl κ) (kW κ) hC.2.2.2.2.2.2.2.2.1 i7 i12 s13 s17 hf) o_X1_letBeat k_394 (q0 := 3) (ci := 1) rfl rfl (rm_ok hR rfl) rfl (Nat.le_of_ble_eq_true rfl) dX9_drawn_88) (fun s17 => ?_)
                refine r_goto (pc := 91) (tgt := 105) hC dX9_drawn_91 (by decide) ?_
                refine r_iinc (pc := 105) hC (v := (1 : Int32)) rfl (by decide) rfl rfl dX9_drawn_105 ?_
                refine r_goto (pc := 108) (tgt := 55) hC dX9_drawn_108 (by decide) ?_
                exact ih55_14 x15 (i12 + (1 : Int32)) s17
        · refine r_iconst (pc := 21) hC (v := (-1 : Int32)) (by decide) dX9_drawn_21 ?_
          exact r_retOM hC rfl dX9_drawn_22
set_option maxRecDepth 100000 in
set_option maxHeartbeats 4000000 in
theorem c_D_drawn (l : Launch) (w : Wenv) (hw : okw w wC) (N : Nat) (a1 : Int32) (a2 : Int32) (σ : Mem) (r : Int32) (τ : Mem) (hf : f_D_drawn N a1 a2 σ = some (r, τ)) : Ctr l w wC yX9_drawn cX9_drawn 6 (some .int) 3 69 [.ref (w.2.2.1 0), .int a1, .int a2] σ (cQi w wC r τ) := mk_ctr (Q := fun κ => qOM κ wC) (lv := [some (.ref (w.2.2.1 0)), some (.int a1), some (.int a2), none, none, none]) (by decide) rfl hw (Nat.le_of_ble_eq_true rfl) rfl hf (fun κ h => by subst h; rfl) (fun κ hl h hR hC => by
    subst h
    exact w_D_drawn hR hC N a1 a2 σ)
-- DuelRound$Duels.removePlayer(I)V (2, None) kind M
def Du_removePlayerN_B60 (x4 : Int32) (self7 : Int32 → Mem → Option Mem) (i5 : Int32) (s6 : Mem) : Option Mem :=
  if (gI s6 3 0) ≤ i5 then
  (some s6)
  else
  (gd (inb i5 8) (gd (inb i5 8) (gd (inb i5 8) (bnd (sI s6 13 i5.toNatClampNeg (((gI s6 13 i5.toNatClampNeg) &&& x4) ||| (((gI s6 13 i5.toNatClampNeg) >>> ((1 : Int32) &&& 31)) &&& (x4 ^^^ (-1 : Int32))))) fun s8 =>
  self7 (i5 + (1 : Int32)) s8))))
def Du_removePlayerN_K32 (N : Nat) (a1 : Int32) (s1 : Mem) : Option Mem :=
  bnd (sI s1 3 0 ((gI s1 3 0) - (1 : Int32))) fun s2 =>
  gd (inb (gI s2 3 0) 8) (bnd (sI s2 13 (gI s2 3 0).toNatClampNeg (0 : Int32)) fun s3 =>
  bnd (((1 : Int32) <<< (a1 &&& 31)) - (1 : Int32)) fun x4 =>
  it2 (Du_removePlayerN_B60 x4) N (0 : Int32) s3)
def Du_removePlayerN_B2 (N : Nat) (a1 : Int32) (self11 : Int32 → Mem → Option Mem) (i9 : Int32) (s10 : Mem) : Option Mem :=
  if ((gI s10 3 0) - (1 : Int32)) ≤ i9 then
  (Du_removePlayerN_K32 N a1 s10)
  else
  (gd (inb (i9 + (1 : Int32)) 8) (gd (inb i9 8) (bnd (sI s10 13 i9.toNatClampNeg (gI s10 13 (i9 + (1 : Int32)).toNatClampNeg)) fun s12 =>
  self11 (i9 + (1 : Int32)) s12)))
def f_Du_removePlayerN (N : Nat) (a1 : Int32) (σ : Mem) : Option Mem :=
  it2 (Du_removePlayerN_B2 N a1) N a1 σ
set_option maxRecDepth 100000 in
set_option maxHeartbeats 4000000 in
theorem w_Du_removePlayerN {κ : Ctx} (hR : kR κ = { frames := 0, cells := 0, slots := 0, locals := 0 }) (hC : ok κ wC cX1_removePlayer 4 RX1 none) (N : Nat) (a1 : Int32) (σ : Mem) : wF κ wC 4 (qM κ wC) σ 0 [some (.ref (ad κ 2)), some (.int a1), none, none] [] (f_Du_removePlayerN N a1 σ) := by
  unfold f_Du_removePlayerN
  refine r_iload_n (pc := 0) hC rfl dX1_removePlayer_0 ?_
  refine r_istore_n (pc := 1) hC rfl rfl dX1_removePlayer_1 ?_
  have hK32_8 : ∀ (s1 : Mem), wF κ wC 4 (qM κ wC) s1 32 [some (.ref (ad κ 2)), some (.int a1), none, none] [] (Du_removePlayerN_K32 N a1 s1) := by
    intro s1
    unfold Du_removePlayerN_K32
    refine r_aload_n (pc := 32) hC rfl dX1_removePlayer_32 ?_
    refine r_dup (pc := 33) hC rfl dX1_removePlayer_33 ?_
    refine gC_2_1 (pc := 34) hC k_139 dX1_removePlayer_34 ?_
    refine r_iconst (pc := 37) hC (v := (1 : Int32)) (by decide) dX1_removePlayer_37 ?_
    refine r_isub (pc := 38) hC dX1_removePlayer_38 ?_
    refine pC_2_1 (pc := 39) hC k_139 dX1_removePlayer_39 ?_
    refine r_letm (fun s2 => ?_)
    refine r_aload_n (pc := 42) hC rfl dX1_removePlayer_42 ?_
    refine gC_2_0 (pc := 43) hC k_132 dX1_removePlayer_43 ?_
    refine r_aload_n (pc := 46) hC rfl dX1_removePlayer_46 ?_
    refine gC_2_1 (pc := 47) hC k_139 dX1_removePlayer_47 ?_
    refine r_iconst (pc := 50) hC (v := (0 : Int32)) (by decide) dX1_removePlayer_50 ?_
    refine bC_13 (pc := 51) hC dX1_removePlayer_51 ?_
    refine r_letm (fun s3 => ?_)
    refine r_iconst (pc := 52) hC (v := (1 : Int32)) (by decide) dX1_removePlayer_52 ?_
    refine r_iload_n (pc := 53) hC rfl dX1_removePlayer_53 ?_
    refine r_ishl (pc := 54) hC dX1_removePlayer_54 ?_
    refine r_iconst (pc := 55) hC (v := (1 : Int32)) (by decide) dX1_removePlayer_55 ?_
    refine r_isub (pc := 56) hC dX1_removePlayer_56 ?_
    refine r_let (fun x4 => ?_)
    refine r_istore_n (pc := 57) hC rfl rfl dX1_removePlayer_57 ?_
    refine r_iconst (pc := 58) hC (v := (0 : Int32)) (by decide) dX1_removePlayer_58 ?_
    refine r_istore_n (pc := 59) hC rfl rfl dX1_removePlayer_59 ?_
    refine r_wk [true, false, true, true] (w_it2 (fun i5 s6 => s6) (fun i5 s6 => [some (.ref (ad κ 2)), none, some (.int x4), some (.int i5)]) (fun self7 ih60_7 i5 s6 => ?_) N (0 : Int32) s3)
    unfold Du_removePlayerN_B60
    refine r_iload_n (pc := 60) hC rfl dX1_removePlayer_60 ?_
    refine r_aload_n (pc := 61) hC rfl dX1_removePlayer_61 ?_
    refine gC_2_1 (pc := 62) hC k_139 dX1_removePlayer_62 ?_
    refine r_icmp_ge (pc := 65) (tgt := 101) hC dX1_removePlayer_65 (by decide) ?_ ?_
    · exact r_retM hC dX1_removePlayer_101
    · refine r_aload_n (pc := 68) hC rfl dX1_removePlayer_68 ?_
      refine gC_2_0 (pc := 69) hC k_132 dX1_removePlayer_69 ?_
      refine r_iload_n (pc := 72) hC rfl dX1_removePlayer_72 ?_
      refine r_aload_n (pc := 73) hC rfl dX1_removePlayer_73 ?_
      refine gC_2_0 (pc := 74) hC k_132 dX1_removePlayer_74 ?_
      refine r_iload_n (pc := 77) hC rfl dX1_removePlayer_77 ?_
      refine aC_13 (pc := 78) hC dX1_removePlayer_78 ?_
      refine r_iload_n (pc := 79) hC rfl dX1_removePlayer_79 ?_
      refine r_iand (pc := 80) hC dX1_removePlayer_80 ?_
      refine r_aload_n (pc := 81) hC rfl dX1_removePlayer_81 ?_
      refine gC_2_0 (pc := 82) hC k_132 dX1_removePlayer_82 ?_
      refine r_iload_n (pc := 85) hC rfl dX1_removePlayer_85 ?_
      refine aC_13 (pc := 86) hC dX1_removePlayer_86 ?_
      refine r_iconst (pc := 87) hC (v := (1 : Int32)) (by decide) dX1_removePlayer_87 ?_
      refine r_ishr (pc := 88) hC dX1_removePlayer_88 ?_
      refine r_iload_n (pc := 89) hC rfl dX1_removePlayer_89 ?_
      refine r_iconst (pc := 90) hC (v := (-1 : Int32)) (by decide) dX1_removePlayer_90 ?_
      refine r_ixor (pc := 91) hC dX1_removePlayer_91 ?_
      refine r_iand (pc := 92) hC dX1_removePlayer_92 ?_
      refine r_ior (pc := 93) hC dX1_removePlayer_93 ?_
      refine bC_13 (pc := 94) hC dX1_removePlayer_94 ?_
      refine r_letm (fun s8 => ?_)
      refine r_iinc (pc := 95) hC (v := (1 : Int32)) rfl (by decide) rfl rfl dX1_removePlayer_95 ?_
      refine r_goto (pc := 98) (tgt := 60) hC dX1_removePlayer_98 (by decide) ?_
      exact ih60_7 (i5 + (1 : Int32)) s8
  refine w_it2 (fun i9 s10 => s10) (fun i9 s10 => [some (.ref (ad κ 2)), some (.int a1), some (.int i9), none]) (fun self11 ih2_11 i9 s10 => ?_) N a1 σ
  unfold Du_removePlayerN_B2
  refine r_iload_n (pc := 2) hC rfl dX1_removePlayer_2 ?_
  refine r_aload_n (pc := 3) hC rfl dX1_removePlayer_3 ?_
  refine gC_2_1 (pc := 4) hC k_139 dX1_removePlayer_4 ?_
  refine r_iconst (pc := 7) hC (v := (1 : Int32)) (by decide) dX1_removePlayer_7 ?_
  refine r_isub (pc := 8) hC dX1_removePlayer_8 ?_
  refine r_icmp_ge (pc := 9) (tgt := 32) hC dX1_removePlayer_9 (by decide) ?_ ?_
  · exact r_wk [true, true, false, false] (hK32_8 s10)
  · refine r_aload_n (pc := 12) hC rfl dX1_removePlayer_12 ?_
    refine gC_2_0 (pc := 13) hC k_132 dX1_removePlayer_13 ?_
    refine r_iload_n (pc := 16) hC rfl dX1_removePlayer_16 ?_
    refine r_aload_n (pc := 17) hC rfl dX1_removePlayer_17 ?_
    refine gC_2_0 (pc := 18) hC k_132 dX1_removePlayer_18 ?_
    refine r_iload_n (pc := 21) hC rfl dX1_removePlayer_21 ?_
    refine r_iconst (pc := 22) hC (v := (1 : Int32)) (by decide) dX1_removePlayer_22 ?_
    refine r_iadd (pc := 23) hC dX1_removePlayer_23 ?_
    refine aC_13 (pc := 24) hC dX1_removePlayer_24 ?_
    refine bC_13 (pc := 25) hC dX1_removePlayer_25 ?_
    refine r_letm (fun s12 => ?_)
    refine r_iinc (pc := 26) hC (v := (1 : Int32)) rfl (by decide) rfl rfl dX1_removePlayer_26 ?_
    refine r_goto (pc := 29) (tgt := 2) hC dX1_removePlayer_29 (by decide) ?_
    exact ih2_11 (i9 + (1 : Int32)) s12
set_option maxRecDepth 100000 in
set_option maxHeartbeats 4000000 in
theorem c_Du_removePlayerN (l : Launch) (w : Wenv) (hw : okw w wC) (N : Nat) (a1 : Int32) (σ : Mem) (τ : Mem) (hf : f_Du_removePlayerN N a1 σ = some τ) : Ctr l w wC yX1_removePlayer cX1_removePlayer 4 none 0 0 [.ref (w.2.2.1 2), .int a1] σ (cQv w wC τ) := mk_ctr (Q := fun κ => qM κ wC) (lv := [some (.ref (w.2.2.1 2)), some (.int a1), none, none]) (by decide) rfl hw (Nat.le_of_ble_eq_true rfl) rfl hf (fun κ h => by subst h; rfl) (fun κ hl h hR hC => by
    subst h
    exact w_Du_removePlayerN hR hC N a1 σ)
-- DuelRound.drop(I)I (0, None) kind OM
def f_D_drop (N : Nat) (a1 : Int32) (σ : Mem) : Option (Int32 × Mem) :=
  if (t_Du_isPlayerN a1 σ) = (0 : Int32) then
  (some ((-2 : Int32), σ))
  else
  (if (gI σ 3 0) = (1 : Int32) then
  (some ((-3 : Int32), σ))
  else
  (ob (f_Du_packedN N σ) fun r1 =>
  ob (f_Pa_remember r1 σ) fun s2 =>
  ob (f_Du_removePlayerN N a1 s2) fun s3 =>
  some ((gI s3 3 0), s3)))
set_option maxRecDepth 100000 in
set_option maxHeartbeats 4000000 in
theorem w_D_drop {κ : Ctx} (hR : kR κ = { frames := 2, cells := 0, slots := 0, locals := 82 }) (hC : ok κ wC cX9_drop 2 RX9 (some .int)) (N : Nat) (a1 : Int32) (σ : Mem) : wF κ wC 2 (qOM κ wC) σ 0 [some (.ref (ad κ 0)), some (.int a1)] [] (f_D_drop N a1 σ) := by
  unfold f_D_drop
  refine r_aload_n (pc := 0) hC rfl dX9_drop_0 ?_
  refine gC_0_1 (pc := 1) hC k_312 dX9_drop_1 ?_
  refine r_iload_n (pc := 4) hC rfl dX9_drop_4 ?_
  refine r_cT (pc := 5) (rest := []) (runV [.int a1] hC (c_Du_isPlayerN (kl κ) (kW κ) hC.2.2.2.2.2.2.2.2.1 a1 σ) o_X1_isPlayer k_447 (q0 := 2) (ci := 1) rfl rfl (rm_ok hR rfl) rfl (Nat.le_of_ble_eq_true rfl) dX9_drop_5) ?_
  refine r_if_ne (pc := 8) (tgt := 14) hC dX9_drop_8 (by decide) ?_ ?_
  · refine r_aload_n (pc := 14) hC rfl dX9_drop_14 ?_
    refine gC_0_1 (pc := 15) hC k_312 dX9_drop_15 ?_
    refine gC_2_1 (pc := 18) hC k_144 dX9_drop_18 ?_
    refine r_iconst (pc := 21) hC (v := (1 : Int32)) (by decide) dX9_drop_21 ?_
    refine r_icmp_ne (pc := 22) (tgt := 28) hC dX9_drop_22 (by decide) ?_ ?_
    · refine r_aload_n (pc := 28) hC rfl dX9_drop_28 ?_
      refine gC_0_3 (pc := 29) hC k_314 dX9_drop_29 ?_
      refine r_aload_n (pc := 32) hC rfl dX9_drop_32 ?_
      refine gC_0_1 (pc := 33) hC k_312 dX9_drop_33 ?_
      refine r_cL (pc := 36) (rest := [.ref (ad κ 4)]) (fun r1 hf => runV [] hC (c_Du_packedN (kl κ) (kW κ) hC.2.2.2.2.2.2.2.2.1 N σ r1 hf) o_X1_packed k_419 (q0 := 2) (ci := 1) rfl rfl (rm_ok hR rfl) rfl (Nat.le_of_ble_eq_true rfl) dX9_drop_36) (fun r1 => ?_)
      refine r_cM (pc := 39) (rest := []) (fun s2 hf => runV [.long r1] hC (c_Pa_remember (kl κ) (kW κ) hC.2.2.2.2.2.2.2.2.1 r1 σ s2 hf) o_X4_remember k_463 (q0 := 4) (ci := 4) rfl rfl (rm_ok hR rfl) rfl (Nat.le_of_ble_eq_true rfl) dX9_drop_39) (fun s2 => ?_)
      refine r_aload_n (pc := 42) hC rfl dX9_drop_42 ?_
      refine gC_0_1 (pc := 43) hC k_312 dX9_drop_43 ?_
      refine r_iload_n (pc := 46) hC rfl dX9_drop_46 ?_
      refine r_cM (pc := 47) (rest := []) (fun s3 hf => runV [.int a1] hC (c_Du_removePlayerN (kl κ) (kW κ) hC.2.2.2.2.2.2.2.2.1 N a1 s2 s3 hf) o_X1_removePlayer k_490 (q0 := 2) (ci := 1) rfl rfl (rm_ok hR rfl) rfl (Nat.le_of_ble_eq_true rfl) dX9_drop_47) (fun s3 => ?_)
      refine r_aload_n (pc := 50) hC rfl dX9_drop_50 ?_
      refine gC_0_1 (pc := 51) hC k_312 dX9_drop_51 ?_
      refine gC_2_1 (pc := 54) hC k_144 dX9_drop_54 ?_
      exact r_retOM hC rfl dX9_drop_57
    · refine r_bipush (pc := 25) hC (v := (-3 : Int32)) (by decide) dX9_drop_25 ?_
      exact r_retOM hC rfl dX9_drop_27
  · refine r_bipush (pc := 11) hC (v := (-2 : Int32)) (by decide) dX9_drop_11 ?_
    exact r_retOM hC rfl dX9_drop_13
set_option maxRecDepth 100000 in
set_option maxHeartbeats 4000000 in
theorem c_D_drop (l : Launch) (w : Wenv) (hw : okw w wC) (N : Nat) (a1 : Int32) (σ : Mem) (r : Int32) (τ : Mem) (hf : f_D_drop N a1 σ = some (r, τ)) : Ctr l w wC yX9_drop cX9_drop 2 (some .int) 2 82 [.ref (w.2.2.1 0), .int a1] σ (cQi w wC r τ) := mk_ctr (Q := fun κ => qOM κ wC) (lv := [some (.ref (w.2.2.1 0)), some (.int a1)]) (by decide) rfl hw (Nat.le_of_ble_eq_true rfl) rfl hf (fun κ h => by subst h; rfl) (fun κ hl h hR hC => by
    subst h
    exact w_D_drop hR hC N a1 σ)
-- DuelRound$Signs.cutTo(I)Z (1, None) kind OM
def f_Sg_cutTo (a1 : Int32) (σ : Mem) : Option (Int32 × Mem) :=
  if a1 < (0 : Int32) then
  (some ((0 : Int32), σ))
  else
  (if a1 ≤ (gI σ 1 0) then
  (bnd (sI σ 1 0 a1) fun s1 =>
  some ((1 : Int32), s1))
  else
  (some ((0 : Int32), σ)))
set_option maxRecDepth 100000 in
set_option maxHeartbeats 4000000 in
theorem w_Sg_cutTo {κ : Ctx} (hR : kR κ = { frames := 0, cells := 0, slots := 0, locals := 0 }) (hC : ok κ wC cX7_cutTo 2 RX7 (some .boolean)) (a1 : Int32) (σ : Mem) : wF κ wC 2 (qOM κ wC) σ 0 [some (.ref (ad κ 1)), some (.int a1)] [] (f_Sg_cutTo a1 σ) := by
  unfold f_Sg_cutTo
  refine r_iload_n (pc := 0) hC rfl dX7_cutTo_0 ?_
  refine r_if_lt (pc := 1) (tgt := 12) hC dX7_cutTo_1 (by decide) ?_ ?_
  · refine r_iconst (pc := 12) hC (v := (0 : Int32)) (by decide) dX7_cutTo_12 ?_
    exact r_retOM hC rfl dX7_cutTo_13
  · refine r_iload_n (pc := 4) hC rfl dX7_cutTo_4 ?_
    refine r_aload_n (pc := 5) hC rfl dX7_cutTo_5 ?_
    refine gC_1_1 (pc := 6) hC k_113 dX7_cutTo_6 ?_
    refine r_icmp_le (pc := 9) (tgt := 14) hC dX7_cutTo_9 (by decide) ?_ ?_
    · refine r_aload_n (pc := 14) hC rfl dX7_cutTo_14 ?_
      refine r_iload_n (pc := 15) hC rfl dX7_cutTo_15 ?_
      refine pC_1_1 (pc := 16) hC k_113 dX7_cutTo_16 ?_
      refine r_letm (fun s1 => ?_)
      refine r_iconst (pc := 19) hC (v := (1 : Int32)) (by decide) dX7_cutTo_19 ?_
      exact r_retOM hC rfl dX7_cutTo_20
    · refine r_iconst (pc := 12) hC (v := (0 : Int32)) (by decide) dX7_cutTo_12 ?_
      exact r_retOM hC rfl dX7_cutTo_13
set_option maxRecDepth 100000 in
set_option maxHeartbeats 4000000 in
theorem c_Sg_cutTo (l : Launch) (w : Wenv) (hw : okw w wC) (a1 : Int32) (σ : Mem) (r : Int32) (τ : Mem) (hf : f_Sg_cutTo a1 σ = some (r, τ)) : Ctr l w wC yX7_cutTo cX7_cutTo 2 (some .boolean) 0 0 [.ref (w.2.2.1 1), .int a1] σ (cQi w wC r τ) := mk_ctr (Q := fun κ => qOM κ wC) (lv := [some (.ref (w.2.2.1 1)), some (.int a1)]) (by decide) rfl hw (Nat.le_of_ble_eq_true rfl) rfl hf (fun κ h => by subst h; rfl) (fun κ hl h hR hC => by
    subst h
    exact w_Sg_cutTo hR hC a1 σ)
-- DuelRound.end(I)Z (0, None) kind OM
def f_D_end (a1 : Int32) (σ : Mem) : Option (Int32 × Mem) :=
  ob2 (f_Sg_cutTo a1 σ) fun r2 s1 =>
  gd (isb r2) (some (r2, s1))
set_option maxRecDepth 100000 in
set_option maxHeartbeats 4000000 in
theorem w_D_end {κ : Ctx} (hR : kR κ = { frames := 1, cells := 0, slots := 0, locals := 21 }) (hC : ok κ wC cX9_end 2 RX9 (some .boolean)) (a1 : Int32) (σ : Mem) : wF κ wC 2 (qOM κ wC) σ 0 [some (.ref (ad κ 0)), some (.int a1)] [] (f_D_end a1 σ) := by
  unfold f_D_end
  refine r_aload_n (pc := 0) hC rfl dX9_end_0 ?_
  refine gC_0_0 (pc := 1) hC k_311 dX9_end_1 ?_
  refine r_iload_n (pc := 4) hC rfl dX9_end_4 ?_
  refine r_cOM (pc := 5) (rest := []) (fun r2 s1 hf => runV [.int a1] hC (c_Sg_cutTo (kl κ) (kW κ) hC.2.2.2.2.2.2.2.2.1 a1 σ r2 s1 hf) o_X7_cutTo k_357 (q0 := 1) (ci := 7) rfl rfl (rm_ok hR rfl) rfl (Nat.le_of_ble_eq_true rfl) dX9_end_5) (fun r2 s1 => ?_)
  exact r_retOMb hC dX9_end_8
set_option maxRecDepth 100000 in
set_option maxHeartbeats 4000000 in
theorem c_D_end (l : Launch) (w : Wenv) (hw : okw w wC) (a1 : Int32) (σ : Mem) (r : Int32) (τ : Mem) (hf : f_D_end a1 σ = some (r, τ)) : Ctr l w wC yX9_end cX9_end 2 (some .boolean) 1 21 [.ref (w.2.2.1 0), .int a1] σ (cQi w wC r τ) := mk_ctr (Q := fun κ => qOM κ wC) (lv := [some (.ref (w.2.2.1 0)), some (.int a1)]) (by decide) rfl hw (Nat.le_of_ble_eq_true rfl) rfl hf (fun κ h => by subst h; rfl) (fun κ hl h hR hC => by
    subst h
    exact w_D_end hR hC a1 σ)
-- DuelRound.isKind(I)Z (None,) kind T
def t_D_isKind (a1 : Int32) : Int32 :=
  (if a1 < (0 : Int32) then (0 : Int32) else (if (10 : Int32) ≤ a1 then (0 : Int32) else (1 : Int32)))
def f_D_isKind (a1 : Int32) : Option Int32 :=
  if a1 < (0 : Int32) then
  (some (0 : Int32))
  else
  (if (10 : Int32) ≤ a1 then
  (some (0 : Int32))
  else
  (some (1 : Int32)))
theorem e_D_isKind (a1 : Int32) : f_D_isKind a1 = some (t_D_isKind a1) := by
  unfold f_D_isKind t_D_isKind
  try first | rfl | (repeat' split) <;> rfl
theorem z_D_isKind (a1 : Int32) : isb (t_D_isKind a1) = true := by
  unfold t_D_isKind
  (repeat' split) <;> rfl
set_option maxRecDepth 100000 in
set_option maxHeartbeats 4000000 in
theorem w_D_isKind {κ : Ctx} (hR : kR κ = { frames := 0, cells := 0, slots := 0, locals := 0 }) (hC : ok κ wC cX9_isKind 1 RX9 (some .boolean)) (a1 : Int32) (σ : Mem) : wF κ wC 1 (qO κ wC σ) σ 0 [some (.int a1)] [] (f_D_isKind a1) := by
  unfold f_D_isKind
  refine r_iload_n (pc := 0) hC rfl dX9_isKind_0 ?_
  refine r_if_lt (pc := 1) (tgt := 14) hC dX9_isKind_1 (by decide) ?_ ?_
  · refine r_iconst (pc := 14) hC (v := (0 : Int32)) (by decide) dX9_isKind_14 ?_
    exact r_retO hC rfl dX9_isKind_15
  · refine r_iload_n (pc := 4) hC rfl dX9_isKind_4 ?_
    refine r_bipush (pc := 5) hC (v := (10 : Int32)) (by decide) dX9_isKind_5 ?_
    refine r_icmp_ge (pc := 7) (tgt := 14) hC dX9_isKind_7 (by decide) ?_ ?_
    · refine r_iconst (pc := 14) hC (v := (0 : Int32)) (by decide) dX9_isKind_14 ?_
      exact r_retO hC rfl dX9_isKind_15
    · refine r_iconst (pc := 10) hC (v := (1 : Int32)) (by decide) dX9_isKind_10 ?_
      refine r_goto (pc := 11) (tgt := 15) hC dX9_isKind_11 (by decide) ?_
      exact r_retO hC rfl dX9_isKind_15
set_option maxRecDepth 100000 in
set_option maxHeartbeats 4000000 in
theorem c_D_isKind (l : Launch) (w : Wenv) (hw : okw w wC) (a1 : Int32) (σ : Mem) : Ctr l w wC yX9_isKind cX9_isKind 1 (some .boolean) 0 0 [.int a1] σ (cQi w wC (t_D_isKind a1) σ) := mk_ctr (Q := fun κ => qO κ wC σ) (lv := [some (.int a1)]) (by decide) rfl hw (Nat.le_of_ble_eq_true rfl) rfl (e_D_isKind a1) (fun κ h => by subst h; rfl) (fun κ hl h hR hC => by
    subst h
    exact w_D_isKind hR hC a1 σ)
-- DuelRound$Sets.isCovering(III)Z (8, None, None, None) kind O
def f_Se_isCovering (a1 : Int32) (a2 : Int32) (a3 : Int32) (σ : Mem) : Option Int32 :=
  gd (inb a2 8) (bnd (((gI σ 13 a2.toNatClampNeg) &&& a3) ||| ((1 : Int32) <<< (a2 &&& 31))) fun x1 =>
  gd (inb a1 8) (if (x1 &&& ((gI σ 13 a1.toNatClampNeg) ^^^ (-1 : Int32))) = (0 : Int32) then
  (some (1 : Int32))
  else
  (some (0 : Int32))))
set_option maxRecDepth 100000 in
set_option maxHeartbeats 4000000 in
theorem w_Se_isCovering {κ : Ctx} (hR : kR κ = { frames := 0, cells := 0, slots := 0, locals := 0 }) (hC : ok κ wC cX6_isCovering 5 RX6 (some .boolean)) (a1 : Int32) (a2 : Int32) (a3 : Int32) (σ : Mem) : wF κ wC 5 (qO κ wC σ) σ 0 [some (.ref (ad κ 8)), some (.int a1), some (.int a2), some (.int a3), none] [] (f_Se_isCovering a1 a2 a3 σ) := by
  unfold f_Se_isCovering
  refine r_aload_n (pc := 0) hC rfl dX6_isCovering_0 ?_
  refine gC_8_0 (pc := 1) hC k_224 dX6_isCovering_1 ?_
  refine gC_2_0 (pc := 4) hC k_134 dX6_isCovering_4 ?_
  refine r_iload_n (pc := 7) hC rfl dX6_isCovering_7 ?_
  refine aC_13 (pc := 8) hC dX6_isCovering_8 ?_
  refine r_iload_n (pc := 9) hC rfl dX6_isCovering_9 ?_
  refine r_iand (pc := 10) hC dX6_isCovering_10 ?_
  refine r_iconst (pc := 11) hC (v := (1 : Int32)) (by decide) dX6_isCovering_11 ?_
  refine r_iload_n (pc := 12) hC rfl dX6_isCovering_12 ?_
  refine r_ishl (pc := 13) hC dX6_isCovering_13 ?_
  refine r_ior (pc := 14) hC dX6_isCovering_14 ?_
  refine r_let (fun x1 => ?_)
  refine r_istore (pc := 15) hC rfl rfl dX6_isCovering_15 ?_
  refine r_iload (pc := 17) hC rfl dX6_isCovering_17 ?_
  refine r_aload_n (pc := 19) hC rfl dX6_isCovering_19 ?_
  refine gC_8_0 (pc := 20) hC k_224 dX6_isCovering_20 ?_
  refine gC_2_0 (pc := 23) hC k_134 dX6_isCovering_23 ?_
  refine r_iload_n (pc := 26) hC rfl dX6_isCovering_26 ?_
  refine aC_13 (pc := 27) hC dX6_isCovering_27 ?_
  refine r_iconst (pc := 28) hC (v := (-1 : Int32)) (by decide) dX6_isCovering_28 ?_
  refine r_ixor (pc := 29) hC dX6_isCovering_29 ?_
  refine r_iand (pc := 30) hC dX6_isCovering_30 ?_
  refine r_if_ne (pc := 31) (tgt := 38) hC dX6_isCovering_31 (by decide) ?_ ?_
  · refine r_iconst (pc := 38) hC (v := (0 : Int32)) (by decide) dX6_isCovering_38 ?_
    exact r_retO hC rfl dX6_isCovering_39
  · refine r_iconst (pc := 34) hC (v := (1 : Int32)) (by decide) dX6_isCovering_34 ?_
    refine r_goto (pc := 35) (tgt := 39) hC dX6_isCovering_35 (by decide) ?_
    exact r_retO hC rfl dX6_isCovering_39
set_option maxRecDepth 100000 in
set_option maxHeartbeats 4000000 in
theorem c_Se_isCovering (l : Launch) (w : Wenv) (hw : okw w wC) (a1 : Int32) (a2 : Int32) (a3 : Int32) (σ : Mem) (r : Int32) (hf : f_Se_isCovering a1 a2 a3 σ = some r) : Ctr l w wC yX6_isCovering cX6_isCovering 5 (some .boolean) 0 0 [.ref (w.2.2.1 8), .int a1, .int a2, .int a3] σ (cQi w wC r σ) := mk_ctr (Q := fun κ => qO κ wC σ) (lv := [some (.ref (w.2.2.1 8)), some (.int a1), some (.int a2), some (.int a3), none]) (by decide) rfl hw (Nat.le_of_ble_eq_true rfl) rfl hf (fun κ h => by subst h; rfl) (fun κ hl h hR hC => by
    subst h
    exact w_Se_isCovering hR hC a1 a2 a3 σ)
-- DuelRound$Sets.isCovered(II)Z (8, None, None) kind O
def Se_isCovered_B2 (σ : Mem) (a1 : Int32) (a2 : Int32) (self2 : Int32 → Option Int32) (i1 : Int32) : Option Int32 :=
  if (gI σ 3 0) ≤ i1 then
  (some (0 : Int32))
  else
  (if (t_D_bitOf a2 i1) = (1 : Int32) then
  (ob (f_Se_isCovering i1 a1 a2 σ) fun r3 =>
  if r3 = (0 : Int32) then
  (self2 (i1 + (1 : Int32)))
  else
  (some (1 : Int32)))
  else
  (self2 (i1 + (1 : Int32))))
def f_Se_isCovered (N : Nat) (a1 : Int32) (a2 : Int32) (σ : Mem) : Option Int32 :=
  it1 (Se_isCovered_B2 σ a1 a2) N (0 : Int32)
set_option maxRecDepth 100000 in
set_option maxHeartbeats 4000000 in
theorem w_Se_isCovered {κ : Ctx} (hR : kR κ = { frames := 1, cells := 0, slots := 0, locals := 24 }) (hC : ok κ wC cX6_isCovered 4 RX6 (some .boolean)) (N : Nat) (a1 : Int32) (a2 : Int32) (σ : Mem) : wF κ wC 4 (qO κ wC σ) σ 0 [some (.ref (ad κ 8)), some (.int a1), some (.int a2), none] [] (f_Se_isCovered N a1 a2 σ) := by
  unfold f_Se_isCovered
  refine r_iconst (pc := 0) hC (v := (0 : Int32)) (by decide) dX6_isCovered_0 ?_
  refine r_istore_n (pc := 1) hC rfl rfl dX6_isCovered_1 ?_
  refine w_it1 (fun i1 => σ) (fun i1 => [some (.ref (ad κ 8)), some (.int a1), some (.int a2), some (.int i1)]) (fun self2 ih2_2 i1 => ?_) N (0 : Int32)
  unfold Se_isCovered_B2
  refine r_iload_n (pc := 2) hC rfl dX6_isCovered_2 ?_
  refine r_aload_n (pc := 3) hC rfl dX6_isCovered_3 ?_
  refine gC_8_0 (pc := 4) hC k_224 dX6_isCovered_4 ?_
  refine gC_2_1 (pc := 7) hC k_141 dX6_isCovered_7 ?_
  refine r_icmp_ge (pc := 10) (tgt := 40) hC dX6_isCovered_10 (by decide) ?_ ?_
  · refine r_iconst (pc := 40) hC (v := (0 : Int32)) (by decide) dX6_isCovered_40 ?_
    exact r_retO hC rfl dX6_isCovered_41
  · refine r_iload_n (pc := 13) hC rfl dX6_isCovered_13 ?_
    refine r_iload_n (pc := 14) hC rfl dX6_isCovered_14 ?_
    refine r_cT (pc := 15) (rest := []) (runSN [.int a2, .int i1] hC (c_D_bitOf (kl κ) (kW κ) hC.2.2.2.2.2.2.2.2.1 a2 i1 σ) o_X9_bitOf (k_509 hC.2.2.2.2.2.2.2.2.2) (rm_ok hR rfl) rfl (Nat.le_of_ble_eq_true rfl) dX6_isCovered_15) ?_
    refine r_iconst (pc := 18) hC (v := (1 : Int32)) (by decide) dX6_isCovered_18 ?_
    refine r_icmp_ne (pc := 19) (tgt := 34) hC dX6_isCovered_19 (by decide) ?_ ?_
    · refine r_iinc (pc := 34) hC (v := (1 : Int32)) rfl (by decide) rfl rfl dX6_isCovered_34 ?_
      refine r_goto (pc := 37) (tgt := 2) hC dX6_isCovered_37 (by decide) ?_
      exact ih2_2 (i1 + (1 : Int32))
    · refine r_aload_n (pc := 22) hC rfl dX6_isCovered_22 ?_
      refine r_iload_n (pc := 23) hC rfl dX6_isCovered_23 ?_
      refine r_iload_n (pc := 24) hC rfl dX6_isCovered_24 ?_
      refine r_iload_n (pc := 25) hC rfl dX6_isCovered_25 ?_
      refine r_cO (pc := 26) (rest := []) (fun r3 hf => runV [.int i1, .int a1, .int a2] hC (c_Se_isCovering (kl κ) (kW κ) hC.2.2.2.2.2.2.2.2.1 i1 a1 a2 σ r3 hf) o_X6_isCovering k_535 (q0 := 8) (ci := 6) rfl rfl (rm_ok hR rfl) rfl (Nat.le_of_ble_eq_true rfl) dX6_isCovered_26) (fun r3 => ?_)
      refine r_if_eq (pc := 29) (tgt := 34) hC dX6_isCovered_29 (by decide) ?_ ?_
      · refine r_iinc (pc := 34) hC (v := (1 : Int32)) rfl (by decide) rfl rfl dX6_isCovered_34 ?_
        refine r_goto (pc := 37) (tgt := 2) hC dX6_isCovered_37 (by decide) ?_
        exact ih2_2 (i1 + (1 : Int32))
      · refine r_iconst (pc := 32) hC (v := (1 : Int32)) (by decide) dX6_isCovered_32 ?_
        exact r_retO hC rfl dX6_isCovered_33
set_option maxRecDepth 100000 in
set_option maxHeartbeats 4000000 in
theorem c_Se_isCovered (l : Launch) (w : Wenv) (hw : okw w wC) (N : Nat) (a1 : Int32) (a2 : Int32) (σ : Mem) (r : Int32) (hf : f_Se_isCovered N a1 a2 σ = some r) : Ctr l w wC yX6_isCovered cX6_isCovered 4 (some .boolean) 1 24 [.ref (w.2.2.1 8), .int a1, .int a2] σ (cQi w wC r σ) := mk_ctr (Q := fun κ => qO κ wC σ) (lv := [some (.ref (w.2.2.1 8)), some (.int a1), some (.int a2), none]) (by decide) rfl hw (Nat.le_of_ble_eq_true rfl) rfl hf (fun κ h => by subst h; rfl) (fun κ hl h hR hC => by
    subst h
    exact w_Se_isCovered hR hC N a1 a2 σ)
-- DuelRound$Orders.behindBest(II)I (5, None, None) kind OM
def f_Or_behindBest (N : Nat) (a1 : Int32) (a2 : Int32) (σ : Mem) : Option (Int32 × Mem) :=
  ob (f_Or_measure N a2 σ) fun s1 =>
  ob (f_Or_turnedWithFirst a1 a2 s1) fun r2 =>
  gd (inb a2 256) (some ((r2 - (gI s1 17 a2.toNatClampNeg)), s1))
set_option maxRecDepth 100000 in
set_option maxHeartbeats 4000000 in
theorem w_Or_behindBest {κ : Ctx} (hR : kR κ = { frames := 3, cells := 0, slots := 0, locals := 67 }) (hC : ok κ wC cX3_behindBest 3 RX3 (some .int)) (N : Nat) (a1 : Int32) (a2 : Int32) (σ : Mem) : wF κ wC 3 (qOM κ wC) σ 0 [some (.ref (ad κ 5)), some (.int a1), some (.int a2)] [] (f_Or_behindBest N a1 a2 σ) := by
  unfold f_Or_behindBest
  refine r_aload_n (pc := 0) hC rfl dX3_behindBest_0 ?_
  refine r_iload_n (pc := 1) hC rfl dX3_behindBest_1 ?_
  refine r_cM (pc := 2) (rest := []) (fun s1 hf => runV [.int a2] hC (c_Or_measure (kl κ) (kW κ) hC.2.2.2.2.2.2.2.2.1 N a2 σ s1 hf) o_X3_measure k_559 (q0 := 5) (ci := 3) rfl rfl (rm_ok hR rfl) rfl (Nat.le_of_ble_eq_true rfl) dX3_behindBest_2) (fun s1 => ?_)
  refine r_aload_n (pc := 5) hC rfl dX3_behindBest_5 ?_
  refine r_iload_n (pc := 6) hC rfl dX3_behindBest_6 ?_
  refine r_iload_n (pc := 7) hC rfl dX3_behindBest_7 ?_
  refine r_cO (pc := 8) (rest := []) (fun r2 hf => runV [.int a1, .int a2] hC (c_Or_turnedWithFirst (kl κ) (kW κ) hC.2.2.2.2.2.2.2.2.1 a1 a2 s1 r2 hf) o_X3_turnedWithFirst k_564 (q0 := 5) (ci := 3) rfl rfl (rm_ok hR rfl) rfl (Nat.le_of_ble_eq_true rfl) dX3_behindBest_8) (fun r2 => ?_)
  refine r_aload_n (pc := 11) hC rfl dX3_behindBest_11 ?_
  refine gC_5_1 (pc := 12) hC k_178 dX3_behindBest_12 ?_
  refine r_iload_n (pc := 15) hC rfl dX3_behindBest_15 ?_
  refine aC_17 (pc := 16) hC dX3_behindBest_16 ?_
  refine r_isub (pc := 17) hC dX3_behindBest_17 ?_
  exact r_retOM hC rfl dX3_behindBest_18
set_option maxRecDepth 100000 in
set_option maxHeartbeats 4000000 in
theorem c_Or_behindBest (l : Launch) (w : Wenv) (hw : okw w wC) (N : Nat) (a1 : Int32) (a2 : Int32) (σ : Mem) (r : Int32) (τ : Mem) (hf : f_Or_behindBest N a1 a2 σ = some (r, τ)) : Ctr l w wC yX3_behindBest cX3_behindBest 3 (some .int) 3 67 [.ref (w.2.2.1 5), .int a1, .int a2] σ (cQi w wC r τ) := mk_ctr (Q := fun κ => qOM κ wC) (lv := [some (.ref (w.2.2.1 5)), some (.int a1), some (.int a2)]) (by decide) rfl hw (Nat.le_of_ble_eq_true rfl) rfl hf (fun κ h => by subst h; rfl) (fun κ hl h hR hC => by
    subst h
    exact w_Or_behindBest hR hC N a1 a2 σ)
-- DuelRound.isTooFar(III)Z (0, None, None, None) kind OM
def D_isTooFar_J68 (N : Nat) (σ : Mem) (a1 : Int32) (a2 : Int32) (a3 : Int32) : Option (Int32 × Mem) :=
  if a2 = (5 : Int32) then
  (ob2 (f_Or_behindBest N a1 (t_Du_everybodyN σ) σ) fun r2 s1 =>
  if r2 ≤ ((2 : Int32) * a3) then
  (some ((0 : Int32), s1))
  else
  (some ((1 : Int32), s1)))
  else
  (some ((0 : Int32), σ))
def f_D_isTooFar (N : Nat) (a1 : Int32) (a2 : Int32) (a3 : Int32) (σ : Mem) : Option (Int32 × Mem) :=
  if a2 = (0 : Int32) then
  (some ((0 : Int32), σ))
  else
  (if a2 = (9 : Int32) then
  (gd (inb a1 8) (if (gI σ 3 0) ≤ ((1 : Int32) <<< (((t_J_bitCount (gI σ 13 a1.toNatClampNeg)) + a3) &&& 31)) then
  (some ((0 : Int32), σ))
  else
  (some ((1 : Int32), σ))))
  else
  (if a3 = (0 : Int32) then
  (ob (f_Se_isCovered N a1 (t_Du_everybodyN σ) σ) fun r3 =>
  if r3 = (0 : Int32) then
  (D_isTooFar_J68 N σ a1 a2 a3)
  else
  (some ((1 : Int32), σ)))
  else
  (D_isTooFar_J68 N σ a1 a2 a3)))
set_option maxRecDepth 100000 in
set_option maxHeartbeats 4000000 in
theorem w_D_isTooFar {κ : Ctx} (hR : kR κ = { frames := 4, cells := 0, slots := 0, locals := 89 }) (hC : ok κ wC cX9_isTooFar 4 RX9 (some .boolean)) (N : Nat) (a1 : Int32) (a2 : Int32) (a3 : Int32) (σ : Mem) : wF κ wC 4 (qOM κ wC) σ 0 [some (.ref (ad κ 0)), some (.int a1), some (.int a2), some (.int a3)] [] (f_D_isTooFar N a1 a2 a3 σ) := by
  unfold f_D_isTooFar
  refine r_iload_n (pc := 0) hC rfl dX9_isTooFar_0 ?_
  refine r_if_ne (pc := 1) (tgt := 6) hC dX9_isTooFar_1 (by decide) ?_ ?_
  · refine r_iload_n (pc := 6) hC rfl dX9_isTooFar_6 ?_
    refine r_bipush (pc := 7) hC (v := (9 : Int32)) (by decide) dX9_isTooFar_7 ?_
    refine r_icmp_ne (pc := 9) (tgt := 44) hC dX9_isTooFar_9 (by decide) ?_ ?_
    · refine r_iload_n (pc := 44) hC rfl dX9_isTooFar_44 ?_
      have hJ68_2 : wF κ wC 4 (qOM κ wC) σ 68 [some (.ref (ad κ 0)), some (.int a1), some (.int a2), some (.int a3)] [] (D_isTooFar_J68 N σ a1 a2 a3) := by
        unfold D_isTooFar_J68
        refine r_iload_n (pc := 68) hC rfl dX9_isTooFar_68 ?_
        refine r_iconst (pc := 69) hC (v := (5 : Int32)) (by decide) dX9_isTooFar_69 ?_
        refine r_icmp_ne (pc := 70) (tgt := 98) hC dX9_isTooFar_70 (by decide) ?_ ?_
        · refine r_iconst (pc := 98) hC (v := (0 : Int32)) (by decide) dX9_isTooFar_98 ?_
          exact r_retOM hC rfl dX9_isTooFar_99
        · refine r_aload_n (pc := 73) hC rfl dX9_isTooFar_73 ?_
          refine gC_0_4 (pc := 74) hC k_315 dX9_isTooFar_74 ?_
          refine r_iload_n (pc := 77) hC rfl dX9_isTooFar_77 ?_
          refine r_aload_n (pc := 78) hC rfl dX9_isTooFar_78 ?_
          refine gC_0_1 (pc := 79) hC k_312 dX9_isTooFar_79 ?_
          refine r_cT (pc := 82) (rest := [.int a1, .ref (ad κ 5)]) (runV [] hC (c_Du_everybodyN (kl κ) (kW κ) hC.2.2.2.2.2.2.2.2.1 σ) o_X1_everybody k_659 (q0 := 2) (ci := 1) rfl rfl (rm_ok hR rfl) rfl (Nat.le_of_ble_eq_true rfl) dX9_isTooFar_82) ?_
          refine r_cOM (pc := 85) (rest := []) (fun r2 s1 hf => runV [.int a1, .int (t_Du_everybodyN σ)] hC (c_Or_behindBest (kl κ) (kW κ) hC.2.2.2.2.2.2.2.2.1 N a1 (t_Du_everybodyN σ) σ r2 s1 hf) o_X3_behindBest k_892 (q0 := 5) (ci := 3) rfl rfl (rm_ok hR rfl) rfl (Nat.le_of_ble_eq_true rfl) dX9_isTooFar_85) (fun r2 s1 => ?_)
          refine r_iconst (pc := 88) hC (v := (2 : Int32)) (by decide) dX9_isTooFar_88 ?_
          refine r_iload_n (pc := 89) hC rfl dX9_isTooFar_89 ?_
          refine r_imul (pc := 90) hC dX9_isTooFar_90 ?_
          refine r_icmp_le (pc := 91) (tgt := 98) hC dX9_isTooFar_91 (by decide) ?_ ?_
          · refine r_iconst (pc := 98) hC (v := (0 : Int32)) (by decide) dX9_isTooFar_98 ?_
            exact r_retOM hC rfl dX9_isTooFar_99
          · refine r_iconst (pc := 94) hC (v := (1 : Int32)) (by decide) dX9_isTooFar_94 ?_
            refine r_goto (pc := 95) (tgt := 99) hC dX9_isTooFar_95 (by decide) ?_
            exact r_retOM hC rfl dX9_isTooFar_99
      refine r_if_ne (pc := 45) (tgt := 68) hC dX9_isTooFar_45 (by decide) ?_ ?_
      · exact hJ68_2
      · refine r_aload_n (pc := 48) hC rfl dX9_isTooFar_48 ?_
        refine gC_0_7 (pc := 49) hC k_318 dX9_isTooFar_49 ?_
        refine r_iload_n (pc := 52) hC rfl dX9_isTooFar_52 ?_
        refine r_aload_n (pc := 53) hC rfl dX9_isTooFar_53 ?_
        refine gC_0_1 (pc := 54) hC k_312 dX9_isTooFar_54 ?_
        refine r_cT (pc := 57) (rest := [.int a1, .ref (ad κ 8)]) (runV [] hC (c_Du_everybodyN (kl κ) (kW κ) hC.2.2.2.2.2.2.2.2.1 σ) o_X1_everybody k_659 (q0 := 2) (ci := 1) rfl rfl (rm_ok hR rfl) rfl (Nat.le_of_ble_eq_true rfl) dX9_isTooFar_57) ?_
        refine r_cO (pc := 60) (rest := []) (fun r3 hf => runV [.int a1, .int (t_Du_everybodyN σ)] hC (c_Se_isCovered (kl κ) (kW κ) hC.2.2.2.2.2.2.2.2.1 N a1 (t_Du_everybodyN σ) σ r3 hf) o_X6_isCovered k_891 (q0 := 8) (ci := 6) rfl rfl (rm_ok hR rfl) rfl (Nat.le_of_ble_eq_true rfl) dX9_isTooFar_60) (fun r3 => ?_)
        refine r_if_eq (pc := 63) (tgt := 68) hC dX9_isTooFar_63 (by decide) ?_ ?_
        · exact hJ68_2
        · refine r_iconst (pc := 66) hC (v := (1 : Int32)) (by decide) dX9_isTooFar_66 ?_
          exact r_retOM hC rfl dX9_isTooFar_67
    · refine r_iconst (pc := 12) hC (v := (1 : Int32)) (by decide) dX9_isTooFar_12 ?_
      refine r_aload_n (pc := 13) hC rfl dX9_isTooFar_13 ?_
      refine gC_0_1 (pc := 14) hC k_312 dX9_isTooFar_14 ?_
      refine gC_2_0 (pc := 17) hC k_135 dX9_isTooFar_17 ?_
      refine r_iload_n (pc := 20) hC rfl dX9_isTooFar_20 ?_
      refine aC_13 (pc := 21) hC dX9_isTooFar_21 ?_
      refine r_cT (pc := 22) (rest := [.int (1 : Int32)]) (runS [.int (gI σ 13 a1.toNatClampNeg)] hC (c_J_bitCount (kl κ) (kW κ) hC.2.2.2.2.2.2.2.2.1 (gI σ 13 a1.toNatClampNeg) σ) o_J6_bitCount_0f7a4 k_890 (rm_ok hR rfl) rfl (Nat.le_of_ble_eq_true rfl) dX9_isTooFar_22) ?_
      refine r_iload_n (pc := 25) hC rfl dX9_isTooFar_25 ?_
      refine r_iadd (pc := 26) hC dX9_isTooFar_26 ?_
      refine r_ishl (pc := 27) hC dX9_isTooFar_27 ?_
      refine r_aload_n (pc := 28) hC rfl dX9_isTooFar_28 ?_
      refine gC_0_1 (pc := 29) hC k_312 dX9_isTooFar_29 ?_
      refine gC_2_1 (pc := 32) hC k_144 dX9_isTooFar_32 ?_
      refine r_icmp_ge (pc := 35) (tgt := 42) hC dX9_isTooFar_35 (by decide) ?_ ?_
      · refine r_iconst (pc := 42) hC (v := (0 : Int32)) (by decide) dX9_isTooFar_42 ?_
        exact r_retOM hC rfl dX9_isTooFar_43
      · refine r_iconst (pc := 38) hC (v := (1 : Int32)) (by decide) dX9_isTooFar_38 ?_
        refine r_goto (pc := 39) (tgt := 43) hC dX9_isTooFar_39 (by decide) ?_
        exact r_retOM hC rfl dX9_isTooFar_43
  · refine r_iconst (pc := 4) hC (v := (0 : Int32)) (by decide) dX9_isTooFar_4 ?_
    exact r_retOM hC rfl dX9_isTooFar_5
set_option maxRecDepth 100000 in
set_option maxHeartbeats 4000000 in
theorem c_D_isTooFar (l : Launch) (w : Wenv) (hw : okw w wC) (N : Nat) (a1 : Int32) (a2 : Int32) (a3 : Int32) (σ : Mem) (r : Int32) (τ : Mem) (hf : f_D_isTooFar N a1 a2 a3 σ = some (r, τ)) : Ctr l w wC yX9_isTooFar cX9_isTooFar 4 (some .boolean) 4 89 [.ref (w.2.2.1 0), .int a1, .int a2, .int a3] σ (cQi w wC r τ) := mk_ctr (Q := fun κ => qOM κ wC) (lv := [some (.ref (w.2.2.1 0)), some (.int a1), some (.int a2), some (.int a3)]) (by decide) rfl hw (Nat.le_of_ble_eq_true rfl) rfl hf (fun κ h => by subst h; rfl) (fun κ hl h hR hC => by
    subst h
    exact w_D_isTooFar hR hC N a1 a2 a3 σ)
-- DuelRound$Cups.winnersOfFour(I)I (7, None) kind OM
def Cu_winnersOfFour_B11 (s1 : Mem) (self5 : Int32 → Int32 → Option (Int32 × Mem)) (i3 : Int32) (i4 : Int32) : Option (Int32 × Mem) :=
  if (3 : Int32) ≤ i4 then
  (some (i3, s1))
  else
  (ob (f_Cu_winnerByWay i4 s1) fun r6 =>
  bnd (i3 ||| ((1 : Int32) <<< (r6 &&& 31))) fun x7 =>
  self5 x7 (i4 + (1 : Int32)))
def f_Cu_winnersOfFour (N : Nat) (a1 : Int32) (σ : Mem) : Option (Int32 × Mem) :=
  ob2 (f_Cu_putIntoRow N a1 (0 : Int32) σ) fun r2 s1 =>
  it2 (Cu_winnersOfFour_B11 s1) N (0 : Int32) (0 : Int32)
set_option maxRecDepth 100000 in
set_option maxHeartbeats 4000000 in
theorem w_Cu_winnersOfFour {κ : Ctx} (hR : kR κ = { frames := 2, cells := 0, slots := 0, locals := 45 }) (hC : ok κ wC cX0_winnersOfFour 4 RX0 (some .int)) (N : Nat) (a1 : Int32) (σ : Mem) : wF κ wC 4 (qOM κ wC) σ 0 [some (.ref (ad κ 7)), some (.int a1), none, none] [] (f_Cu_winnersOfFour N a1 σ) := by
  unfold f_Cu_winnersOfFour
  refine r_aload_n (pc := 0) hC rfl dX0_winnersOfFour_0 ?_
  refine r_iload_n (pc := 1) hC rfl dX0_winnersOfFour_1 ?_
  refine r_iconst (pc := 2) hC (v := (0 : Int32)) (by decide) dX0_winnersOfFour_2 ?_
  refine r_cOM (pc := 3) (rest := []) (fun r2 s1 hf => runV [.int a1, .int (0 : Int32)] hC (c_Cu_putIntoRow (kl κ) (kW κ) hC.2.2.2.2.2.2.2.2.1 N a1 (0 : Int32) σ r2 s1 hf) o_X0_putIntoRow k_633 (q0 := 7) (ci := 0) rfl rfl (rm_ok hR rfl) rfl (Nat.le_of_ble_eq_true rfl) dX0_winnersOfFour_3) (fun r2 s1 => ?_)
  refine r_pop (pc := 6) hC rfl dX0_winnersOfFour_6 ?_
  refine r_iconst (pc := 7) hC (v := (0 : Int32)) (by decide) dX0_winnersOfFour_7 ?_
  refine r_istore_n (pc := 8) hC rfl rfl dX0_winnersOfFour_8 ?_
  refine r_iconst (pc := 9) hC (v := (0 : Int32)) (by decide) dX0_winnersOfFour_9 ?_
  refine r_istore_n (pc := 10) hC rfl rfl dX0_winnersOfFour_10 ?_
  refine r_wk [true, false, true, true] (w_it2 (fun i3 i4 => s1) (fun i3 i4 => [some (.ref (ad κ 7)), none, some (.int i3), some (.int i4)]) (fun self5 ih11_5 i3 i4 => ?_) N (0 : Int32) (0 : Int32))
  unfold Cu_winnersOfFour_B11
  refine r_iload_n (pc := 11) hC rfl dX0_winnersOfFour_11 ?_
  refine r_iconst (pc := 12) hC (v := (3 : Int32)) (by decide) dX0_winnersOfFour_12 ?_
  refine r_icmp_ge (pc := 13) (tgt := 32) hC dX0_winnersOfFour_13 (by decide) ?_ ?_
  · refine r_iload_n (pc := 32) hC rfl dX0_winnersOfFour_32 ?_
    exact r_retOM hC rfl dX0_winnersOfFour_33
  · refine r_iload_n (pc := 16) hC rfl dX0_winnersOfFour_16 ?_
    refine r_iconst (pc := 17) hC (v := (1 : Int32)) (by decide) dX0_winnersOfFour_17 ?_
    refine r_aload_n (pc := 18) hC rfl dX0_winnersOfFour_18 ?_
    refine r_iload_n (pc := 19) hC rfl dX0_winnersOfFour_19 ?_
    refine r_cO (pc := 20) (rest := [.int (1 : Int32), .int i3]) (fun r6 hf => runV [.int i4] hC (c_Cu_winnerByWay (kl κ) (kW κ) hC.2.2.2.2.2.2.2.2.1 i4 s1 r6 hf) o_X0_winnerByWay k_643 (q0 := 7) (ci := 0) rfl rfl (rm_ok hR rfl) rfl (Nat.le_of_ble_eq_true rfl) dX0_winnersOfFour_20) (fun r6 => ?_)
    refine r_ishl (pc := 23) hC dX0_winnersOfFour_23 ?_
    refine r_ior (pc := 24) hC dX0_winnersOfFour_24 ?_
    refine r_let (fun x7 => ?_)
    refine r_istore_n (pc := 25) hC rfl rfl dX0_winnersOfFour_25 ?_
    refine r_iinc (pc := 26) hC (v := (1 : Int32)) rfl (by decide) rfl rfl dX0_winnersOfFour_26 ?_
    refine r_goto (pc := 29) (tgt := 11) hC dX0_winnersOfFour_29 (by decide) ?_
    exact ih11_5 x7 (i4 + (1 : Int32))
set_option maxRecDepth 100000 in
set_option maxHeartbeats 4000000 in
theorem c_Cu_winnersOfFour (l : Launch) (w : Wenv) (hw : okw w wC) (N : Nat) (a1 : Int32) (σ : Mem) (r : Int32) (τ : Mem) (hf : f_Cu_winnersOfFour N a1 σ = some (r, τ)) : Ctr l w wC yX0_winnersOfFour cX0_winnersOfFour 4 (some .int) 2 45 [.ref (w.2.2.1 7), .int a1] σ (cQi w wC r τ) := mk_ctr (Q := fun κ => qOM κ wC) (lv := [some (.ref (w.2.2.1 7)), some (.int a1), none, none]) (by decide) rfl hw (Nat.le_of_ble_eq_true rfl) rfl hf (fun κ h => by subst h; rfl) (fun κ hl h hR hC => by
    subst h
    exact w_Cu_winnersOfFour hR hC N a1 σ)
-- DuelRound$Cups.winnersOver(II)I (7, None, None) kind O
def Cu_winnersOver_B5 (σ : Mem) (a1 : Int32) (a2 : Int32) (self3 : Int32 → Int32 → Option Int32) (i1 : Int32) (i2 : Int32) : Option Int32 :=
  if (gI σ 3 0) ≤ i2 then
  (some i1)
  else
  (if (t_D_bitOf a1 i2) = (1 : Int32) then
  (gd (inb i2 8) (if ((gI σ 13 i2.toNatClampNeg) &&& a2) = (0 : Int32) then
  (self3 i1 (i2 + (1 : Int32)))
  else
  (bnd (i1 ||| ((1 : Int32) <<< (i2 &&& 31))) fun x4 =>
  self3 x4 (i2 + (1 : Int32)))))
  else
  (self3 i1 (i2 + (1 : Int32))))
def f_Cu_winnersOver (N : Nat) (a1 : Int32) (a2 : Int32) (σ : Mem) : Option Int32 :=
  it2 (Cu_winnersOver_B5 σ a1 a2) N (0 : Int32) (0 : Int32)
set_option maxRecDepth 100000 in
set_option maxHeartbeats 4000000 in
theorem w_Cu_winnersOver {κ : Ctx} (hR : kR κ = { frames := 1, cells := 0, slots := 0, locals := 21 }) (hC : ok κ wC cX0_winnersOver 5 RX0 (some .int)) (N : Nat) (a1 : Int32) (a2 : Int32) (σ : Mem) : wF κ wC 5 (qO κ wC σ) σ 0 [some (.ref (ad κ 7)), some (.int a1), some (.int a2), none, none] [] (f_Cu_winnersOver N a1 a2 σ) := by
  unfold f_Cu_winnersOver
  refine r_iconst (pc := 0) hC (v := (0 : Int32)) (by decide) dX0_winnersOver_0 ?_
  refine r_istore_n (pc := 1) hC rfl rfl dX0_winnersOver_1 ?_
  refine r_iconst (pc := 2) hC (v := (0 : Int32)) (by decide) dX0_winnersOver_2 ?_
  refine r_istore (pc := 3) hC rfl rfl dX0_winnersOver_3 ?_
  refine w_it2 (fun i1 i2 => σ) (fun i1 i2 => [some (.ref (ad κ 7)), some (.int a1), some (.int a2), some (.int i1), some (.int i2)]) (fun self3 ih5_3 i1 i2 => ?_) N (0 : Int32) (0 : Int32)
  unfold Cu_winnersOver_B5
  refine r_iload (pc := 5) hC rfl dX0_winnersOver_5 ?_
  refine r_aload_n (pc := 7) hC rfl dX0_winnersOver_7 ?_
  refine gC_7_0 (pc := 8) hC k_211 dX0_winnersOver_8 ?_
  refine gC_2_1 (pc := 11) hC k_142 dX0_winnersOver_11 ?_
  refine r_icmp_ge (pc := 14) (tgt := 55) hC dX0_winnersOver_14 (by decide) ?_ ?_
  · refine r_iload_n (pc := 55) hC rfl dX0_winnersOver_55 ?_
    exact r_retO hC rfl dX0_winnersOver_56
  · refine r_iload_n (pc := 17) hC rfl dX0_winnersOver_17 ?_
    refine r_iload (pc := 18) hC rfl dX0_winnersOver_18 ?_
    refine r_cT (pc := 20) (rest := []) (runSN [.int a1, .int i2] hC (c_D_bitOf (kl κ) (kW κ) hC.2.2.2.2.2.2.2.2.1 a1 i2 σ) o_X9_bitOf (k_637 hC.2.2.2.2.2.2.2.2.2) (rm_ok hR rfl) rfl (Nat.le_of_ble_eq_true rfl) dX0_winnersOver_20) ?_
    refine r_iconst (pc := 23) hC (v := (1 : Int32)) (by decide) dX0_winnersOver_23 ?_
    refine r_icmp_ne (pc := 24) (tgt := 49) hC dX0_winnersOver_24 (by decide) ?_ ?_
    · refine r_iinc (pc := 49) hC (v := (1 : Int32)) rfl (by decide) rfl rfl dX0_winnersOver_49 ?_
      refine r_goto (pc := 52) (tgt := 5) hC dX0_winnersOver_52 (by decide) ?_
      exact ih5_3 i1 (i2 + (1 : Int32))
    · refine r_aload_n (pc := 27) hC rfl dX0_winnersOver_27 ?_
      refine gC_7_0 (pc := 28) hC k_211 dX0_winnersOver_28 ?_
      refine gC_2_0 (pc := 31) hC k_136 dX0_winnersOver_31 ?_
      refine r_iload (pc := 34) hC rfl dX0_winnersOver_34 ?_
      refine aC_13 (pc := 36) hC dX0_winnersOver_36 ?_
      refine r_iload_n (pc := 37) hC rfl dX0_winnersOver_37 ?_
      refine r_iand (pc := 38) hC dX0_winnersOver_38 ?_
      refine r_if_eq (pc := 39) (tgt := 49) hC dX0_winnersOver_39 (by decide) ?_ ?_
      · refine r_iinc (pc := 49) hC (v := (1 : Int32)) rfl (by decide) rfl rfl dX0_winnersOver_49 ?_
        refine r_goto (pc := 52) (tgt := 5) hC dX0_winnersOver_52 (by decide) ?_
        exact ih5_3 i1 (i2 + (1 : Int32))
      · refine r_iload_n (pc := 42) hC rfl dX0_winnersOver_42 ?_
        refine r_iconst (pc := 43) hC (v := (1 : Int32)) (by decide) dX0_winnersOver_43 ?_
        refine r_iload (pc := 44) hC rfl dX0_winnersOver_44 ?_
        refine r_ishl (pc := 46) hC dX0_winnersOver_46 ?_
        refine r_ior (pc := 47) hC dX0_winnersOver_47 ?_
        refine r_let (fun x4 => ?_)
        refine r_istore_n (pc := 48) hC rfl rfl dX0_winnersOver_48 ?_
        refine r_iinc (pc := 49) hC (v := (1 : Int32)) rfl (by decide) rfl rfl dX0_winnersOver_49 ?_
        refine r_goto (pc := 52) (tgt := 5) hC dX0_winnersOver_52 (by decide) ?_
        exact ih5_3 x4 (i2 + (1 : Int32))
set_option maxRecDepth 100000 in
set_option maxHeartbeats 4000000 in
theorem c_Cu_winnersOver (l : Launch) (w : Wenv) (hw : okw w wC) (N : Nat) (a1 : Int32) (a2 : Int32) (σ : Mem) (r : Int32) (hf : f_Cu_winnersOver N a1 a2 σ = some r) : Ctr l w wC yX0_winnersOver cX0_winnersOver 5 (some .int) 1 21 [.ref (w.2.2.1 7), .int a1, .int a2] σ (cQi w wC r σ) := mk_ctr (Q := fun κ => qO κ wC σ) (lv := [some (.ref (w.2.2.1 7)), some (.int a1), some (.int a2), none, none]) (by decide) rfl hw (Nat.le_of_ble_eq_true rfl) rfl hf (fun κ h => by subst h; rfl) (fun κ hl h hR hC => by
    subst h
    exact w_Cu_winnersOver hR hC N a1 a2 σ)
-- DuelRound$Cups.winnersOfEight(I)I (7, None) kind OM
def Cu_winnersOfEight_B4 (N : Nat) (a1 : Int32) (self4 : Int32 → Int32 → Mem → Option (Int32 × Mem)) (i1 : Int32) (i2 : Int32) (s3 : Mem) : Option (Int32 × Mem) :=
  if a1 ≤ i2 then
  (some (i1, s3))
  else
  (if (t_J_bitCount i2) = (4 : Int32) then
  (ob2 (f_Cu_winnersOfFour N i2 s3) fun r6 s5 =>
  ob2 (f_Cu_winnersOfFour N (a1 &&& (i2 ^^^ (-1 : Int32))) s5) fun r8 s7 =>
  ob (f_Cu_winnersOver N r6 r8 s7) fun r9 =>
  ob (f_Cu_winnersOver N r8 r6 s7) fun r10 =>
  bnd (i1 ||| (r9 ||| r10)) fun x11 =>
  self4 x11 (i2 + (2 : Int32)) s7)
  else
  (self4 i1 (i2 + (2 : Int32)) s3))
def f_Cu_winnersOfEight (N : Nat) (a1 : Int32) (σ : Mem) : Option (Int32 × Mem) :=
  it3 (Cu_winnersOfEight_B4 N a1) N (0 : Int32) (1 : Int32) σ
set_option maxRecDepth 100000 in
set_option maxHeartbeats 4000000 in
theorem w_Cu_winnersOfEight {κ : Ctx} (hR : kR κ = { frames := 3, cells := 0, slots := 0, locals := 68 }) (hC : ok κ wC cX0_winnersOfEight 6 RX0 (some .int)) (N : Nat) (a1 : Int32) (σ : Mem) : wF κ wC 6 (qOM κ wC) σ 0 [some (.ref (ad κ 7)), some (.int a1), none, none, none, none] [] (f_Cu_winnersOfEight N a1 σ) := by
  unfold f_Cu_winnersOfEight
  refine r_iconst (pc := 0) hC (v := (0 : Int32)) (by decide) dX0_winnersOfEight_0 ?_
  refine r_istore_n (pc := 1) hC rfl rfl dX0_winnersOfEight_1 ?_
  refine r_iconst (pc := 2) hC (v := (1 : Int32)) (by decide) dX0_winnersOfEight_2 ?_
  refine r_istore_n (pc := 3) hC rfl rfl dX0_winnersOfEight_3 ?_
  refine w_it3 (fun i1 i2 s3 => s3) (fun i1 i2 s3 => [some (.ref (ad κ 7)), some (.int a1), some (.int i1), some (.int i2), none, none]) (fun self4 ih4_4 i1 i2 s3 => ?_) N (0 : Int32) (1 : Int32) σ
  unfold Cu_winnersOfEight_B4
  refine r_iload_n (pc := 4) hC rfl dX0_winnersOfEight_4 ?_
  refine r_iload_n (pc := 5) hC rfl dX0_winnersOfEight_5 ?_
  refine r_icmp_ge (pc := 6) (tgt := 61) hC dX0_winnersOfEight_6 (by decide) ?_ ?_
  · refine r_iload_n (pc := 61) hC rfl dX0_winnersOfEight_61 ?_
    exact r_retOM hC rfl dX0_winnersOfEight_62
  · refine r_iload_n (pc := 9) hC rfl dX0_winnersOfEight_9 ?_
    refine r_cT (pc := 10) (rest := []) (runS [.int i2] hC (c_J_bitCount (kl κ) (kW κ) hC.2.2.2.2.2.2.2.2.1 i2 s3) o_J6_bitCount_0f7a4 k_632 (rm_ok hR rfl) rfl (Nat.le_of_ble_eq_true rfl) dX0_winnersOfEight_10) ?_
    refine r_iconst (pc := 13) hC (v := (4 : Int32)) (by decide) dX0_winnersOfEight_13 ?_
    refine r_icmp_ne (pc := 14) (tgt := 55) hC dX0_winnersOfEight_14 (by decide) ?_ ?_
    · refine r_iinc (pc := 55) hC (v := (2 : Int32)) rfl (by decide) rfl rfl dX0_winnersOfEight_55 ?_
      refine r_goto (pc := 58) (tgt := 4) hC dX0_winnersOfEight_58 (by decide) ?_
      exact ih4_4 i1 (i2 + (2 : Int32)) s3
    · refine r_aload_n (pc := 17) hC rfl dX0_winnersOfEight_17 ?_
      refine r_iload_n (pc := 18) hC rfl dX0_winnersOfEight_18 ?_
      refine r_cOM (pc := 19) (rest := []) (fun r6 s5 hf => runV [.int i2] hC (c_Cu_winnersOfFour (kl κ) (kW κ) hC.2.2.2.2.2.2.2.2.1 N i2 s3 r6 s5 hf) o_X0_winnersOfFour k_639 (q0 := 7) (ci := 0) rfl rfl (rm_ok hR rfl) rfl (Nat.le_of_ble_eq_true rfl) dX0_winnersOfEight_19) (fun r6 s5 => ?_)
      refine r_istore (pc := 22) hC rfl rfl dX0_winnersOfEight_22 ?_
      refine r_aload_n (pc := 24) hC rfl dX0_winnersOfEight_24 ?_
      refine r_iload_n (pc := 25) hC rfl dX0_winnersOfEight_25 ?_
      refine r_iload_n (pc := 26) hC rfl dX0_winnersOfEight_26 ?_
      refine r_iconst (pc := 27) hC (v := (-1 : Int32)) (by decide) dX0_winnersOfEight_27 ?_
      refine r_ixor (pc := 28) hC dX0_winnersOfEight_28 ?_
      refine r_iand (pc := 29) hC dX0_winnersOfEight_29 ?_
      refine r_cOM (pc := 30) (rest := []) (fun r8 s7 hf => runV [.int (a1 &&& (i2 ^^^ (-1 : Int32)))] hC (c_Cu_winnersOfFour (kl κ) (kW κ) hC.2.2.2.2.2.2.2.2.1 N (a1 &&& (i2 ^^^ (-1 : Int32))) s5 r8 s7 hf) o_X0_winnersOfFour k_639 (q0 := 7) (ci := 0) rfl rfl (rm_ok hR rfl) rfl (Nat.le_of_ble_eq_true rfl) dX0_winnersOfEight_30) (fun r8 s7 => ?_)
      refine r_istore (pc := 33) hC rfl rfl dX0_winnersOfEight_33 ?_
      refine r_iload_n (pc := 35) hC rfl dX0_winnersOfEight_35 ?_
      refine r_aload_n (pc := 36) hC rfl dX0_winnersOfEight_36 ?_
      refine r_iload (pc := 37) hC rfl dX0_winnersOfEight_37 ?_
      refine r_iload (pc := 39) hC rfl dX0_winnersOfEight_39 ?_
      refine r_cO (pc := 41) (rest := [.int i1]) (fun r9 hf => runV [.int r6, .int r8] hC (c_Cu_winnersOver (kl κ) (kW κ) hC.2.2.2.2.2.2.2.2.1 N r6 r8 s7 r9 hf) o_X0_winnersOver k_651 (q0 := 7) (ci := 0) rfl rfl (rm_ok hR rfl) rfl (Nat.le_of_ble_eq_true rfl) dX0_winnersOfEight_41) (fun r9 => ?_)
      refine r_aload_n (pc := 44) hC rfl dX0_winnersOfEight_44 ?_
      refine r_iload (pc := 45) hC rfl dX0_winnersOfEight_45 ?_
      refine r_iload (pc := 47) hC rfl dX0_winnersOfEight_47 ?_
      refine r_cO (pc := 49) (rest := [.int r9, .int i1]) (fun r10 hf => runV [.int r8, .int r6] hC (c_Cu_winnersOver (kl κ) (kW κ) hC.2.2.2.2.2.2.2.2.1 N r8 r6 s7 r10 hf) o_X0_winnersOver k_651 (q0 := 7) (ci := 0) rfl rfl (rm_ok hR rfl) rfl (Nat.le_of_ble_eq_true rfl) dX0_winnersOfEight_49) (fun r10 => ?_)
      refine r_ior (pc := 52) hC dX0_winnersOfEight_52 ?_
      refine r_ior (pc := 53) hC dX0_winnersOfEight_53 ?_
      refine r_let (fun x11 => ?_)
      refine r_istore_n (pc := 54) hC rfl rfl dX0_winnersOfEight_54 ?_
      refine r_iinc (pc := 55) hC (v := (2 : Int32)) rfl (by decide) rfl rfl dX0_winnersOfEight_55 ?_
      refine r_goto (pc := 58) (tgt := 4) hC dX0_winnersOfEight_58 (by decide) ?_
      exact r_wk [true, true, true, true, false, false] (ih4_4 x11 (i2 + (2 : Int32)) s7)
set_option maxRecDepth 100000 in
set_option maxHeartbeats 4000000 in
theorem c_Cu_winnersOfEight (l : Launch) (w : Wenv) (hw : okw w wC) (N : Nat) (a1 : Int32) (σ : Mem) (r : Int32) (τ : Mem) (hf : f_Cu_winnersOfEight N a1 σ = some (r, τ)) : Ctr l w wC yX0_winnersOfEight cX0_winnersOfEight 6 (some .int) 3 68 [.ref (w.2.2.1 7), .int a1] σ (cQi w wC r τ) := mk_ctr (Q := fun κ => qOM κ wC) (lv := [some (.ref (w.2.2.1 7)), some (.int a1), none, none, none, none]) (by decide) rfl hw (Nat.le_of_ble_eq_true rfl) rfl hf (fun κ h => by subst h; rfl) (fun κ hl h hR hC => by
    subst h
    exact w_Cu_winnersOfEight hR hC N a1 σ)
-- DuelRound$Cups.winners(I)I (7, None) kind OM
def f_Cu_winners (N : Nat) (a1 : Int32) (σ : Mem) : Option (Int32 × Mem) :=
  swc (t_J_bitCount a1) [((1 : Int32), some (a1, σ)),
  ((2 : Int32), ob2 (f_Cu_putIntoRow N a1 (0 : Int32) σ) fun r2 s1 =>
  ob (f_Du_winnerOfN (gI s1 21 (0 : Int32).toNatClampNeg) (gI s1 21 (1 : Int32).toNatClampNeg) s1) fun r3 =>
  some (((1 : Int32) <<< (r3 &&& 31)), s1)),
  ((3 : Int32), some ((0 : Int32), σ)),
  ((4 : Int32), ob2 (f_Cu_winnersOfFour N a1 σ) fun r5 s4 =>
  some (r5, s4)),
  ((5 : Int32), some ((0 : Int32), σ)),
  ((6 : Int32), some ((0 : Int32), σ)),
  ((7 : Int32), some ((0 : Int32), σ)),
  ((8 : Int32), ob2 (f_Cu_winnersOfEight N a1 σ) fun r7 s6 =>
  some (r7, s6))]
  (some ((0 : Int32), σ))
set_option maxRecDepth 100000 in
set_option maxHeartbeats 4000000 in
theorem w_Cu_winners {κ : Ctx} (hR : kR κ = { frames := 4, cells := 0, slots := 0, locals := 93 }) (hC : ok κ wC cX0_winners 2 RX0 (some .int)) (N : Nat) (a1 : Int32) (σ : Mem) : wF κ wC 2 (qOM κ wC) σ 0 [some (.ref (ad κ 7)), some (.int a1)] [] (f_Cu_winners N a1 σ) := by
  unfold f_Cu_winners
  refine r_iload_n (pc := 0) hC rfl dX0_winners_0 ?_
  refine r_cT (pc := 1) (rest := []) (runS [.int a1] hC (c_J_bitCount (kl κ) (kW κ) hC.2.2.2.2.2.2.2.2.1 a1 σ) o_J6_bitCount_0f7a4 k_632 (rm_ok hR rfl) rfl (Nat.le_of_ble_eq_true rfl) dX0_winners_1) ?_
  refine r_table (pc := 4) (tg := fun i => ([52, 54, 95, 83, 95, 95, 95, 89] : List Nat).getD i 0) (dt := 95) hC 8 dX0_winners_4 (by decide) (by decide) rfl (fun i hi => ?_) ?_
  · rcases (show i = 0 ∨ i = 1 ∨ i = 2 ∨ i = 3 ∨ i = 4 ∨ i = 5 ∨ i = 6 ∨ i = 7 by omega) with rfl | rfl | rfl | rfl | rfl | rfl | rfl | rfl
    · refine ⟨_, _, _, rfl, by decide, rfl, by decide, ?_⟩
      refine r_iload_n (pc := 52) hC rfl dX0_winners_52 ?_
      exact r_retOM hC rfl dX0_winners_53
    · refine ⟨_, _, _, rfl, by decide, rfl, by decide, ?_⟩
      refine r_aload_n (pc := 54) hC rfl dX0_winners_54 ?_
      refine r_iload_n (pc := 55) hC rfl dX0_winners_55 ?_
      refine r_iconst (pc := 56) hC (v := (0 : Int32)) (by decide) dX0_winners_56 ?_
      refine r_cOM (pc := 57) (rest := []) (fun r2 s1 hf => runV [.int a1, .int (0 : Int32)] hC (c_Cu_putIntoRow (kl κ) (kW κ) hC.2.2.2.2.2.2.2.2.1 N a1 (0 : Int32) σ r2 s1 hf) o_X0_putIntoRow k_633 (q0 := 7) (ci := 0) rfl rfl (rm_ok hR rfl) rfl (Nat.le_of_ble_eq_true rfl) dX0_winners_57) (fun r2 s1 => ?_)
      refine r_pop (pc := 60) hC rfl dX0_winners_60 ?_
      refine r_iconst (pc := 61) hC (v := (1 : Int32)) (by decide) dX0_winners_61 ?_
      refine r_aload_n (pc := 62) hC rfl dX0_winners_62 ?_
      refine gC_7_0 (pc := 63) hC k_211 dX0_winners_63 ?_
      refine r_aload_n (pc := 66) hC rfl dX0_winners_66 ?_
      refine gC_7_1 (pc := 67) hC k_212 dX0_winners_67 ?_
      refine r_iconst (pc := 70) hC (v := (0 : Int32)) (by decide) dX0_winners_70 ?_
      refine r_ung (b := inb (0 : Int32) 8) (by decide) ?_
      refine aC_21 (pc := 71) hC dX0_winners_71 ?_
      refine r_aload_n (pc := 72) hC rfl dX0_winners_72 ?_
      refine gC_7_1 (pc := 73) hC k_212 dX0_winners_73 ?_
      refine r_iconst (pc := 76) hC (v := (1 : Int32)) (by decide) dX0_winners_76 ?_
      refine r_ung (b := inb (1 : Int32) 8) (by decide) ?_
      refine aC_21 (pc := 77) hC dX0_winners_77 ?_
      refine r_cO (pc := 78) (rest := [.int (1 : Int32)]) (fun r3 hf => runV [.int (gI s1 21 (0 : Int32).toNatClampNeg), .int (gI s1 21 (1 : Int32).toNatClampNeg)] hC (c_Du_winnerOfN (kl κ) (kW κ) hC.2.2.2.2.2.2.2.2.1 (gI s1 21 (0 : Int32).toNatClampNeg) (gI s1 21 (1 : Int32).toNatClampNeg) s1 r3 hf) o_X1_winnerOf k_638 (q0 := 2) (ci := 1) rfl rfl (rm_ok hR rfl) rfl (Nat.le_of_ble_eq_true rfl) dX0_winners_78) (fun r3 => ?_)
      refine r_ishl (pc := 81) hC dX0_winners_81 ?_
      exact r_retOM hC rfl dX0_winners_82
    · refine ⟨_, _, _, rfl, by decide, rfl, by decide, ?_⟩
      refine r_iconst (pc := 95) hC (v := (0 : Int32)) (by decide) dX0_winners_95 ?_
      exact r_retOM hC rfl dX0_winners_96
    · refine ⟨_, _, _, rfl, by decide, rfl, by decide, ?_⟩
      refine r_aload_n (pc := 83) hC rfl dX0_winners_83 ?_
      refine r_iload_n (pc := 84) hC rfl dX0_winners_84 ?_
      refine r_cOM (pc := 85) (rest := []) (fun r5 s4 hf => runV [.int a1] hC (c_Cu_winnersOfFour (kl κ) (kW κ) hC.2.2.2.2.2.2.2.2.1 N a1 σ r5 s4 hf) o_X0_winnersOfFour k_639 (q0 := 7) (ci := 0) rfl rfl (rm_ok hR rfl) rfl (Nat.le_of_ble_eq_true rfl) dX0_winners_85) (fun r5 s4 => ?_)
      exact r_retOM hC rfl dX0_winners_88
    · refine ⟨_, _, _, rfl, by decide, rfl, by decide, ?_⟩
      refine r_iconst (pc := 95) hC (v := (0 : Int32)) (by decide) dX0_winners_95 ?_
      exact r_retOM hC rfl dX0_winners_96
    · refine ⟨_, _, _, rfl, by decide, rfl, by decide, ?_⟩
      refine r_iconst (pc := 95) hC (v := (0 : Int32)) (by decide) dX0_winners_95 ?_
      exact r_retOM hC rfl dX0_winners_96
    · refine ⟨_, _, _, rfl, by decide, rfl, by decide, ?_⟩
      refine r_iconst (pc := 95) hC (v := (0 : Int32)) (by decide) dX0_winners_95 ?_
      exact r_retOM hC rfl dX0_winners_96
    · refine ⟨_, _, _, rfl, by decide, rfl, by decide, ?_⟩
      refine r_aload_n (pc := 89) hC rfl dX0_winners_89 ?_
      refine r_iload_n (pc := 90) hC rfl dX0_winners_90 ?_
      refine r_cOM (pc := 91) (rest := []) (fun r7 s6 hf => runV [.int a1] hC (c_Cu_winnersOfEight (kl κ) (kW κ) hC.2.2.2.2.2.2.2.2.1 N a1 σ r7 s6 hf) o_X0_winnersOfEight k_647 (q0 := 7) (ci := 0) rfl rfl (rm_ok hR rfl) rfl (Nat.le_of_ble_eq_true rfl) dX0_winners_91) (fun r7 s6 => ?_)
      exact r_retOM hC rfl dX0_winners_94
  · refine r_iconst (pc := 95) hC (v := (0 : Int32)) (by decide) dX0_winners_95 ?_
    exact r_retOM hC rfl dX0_winners_96
set_option maxRecDepth 100000 in
set_option maxHeartbeats 4000000 in
theorem c_Cu_winners (l : Launch) (w : Wenv) (hw : okw w wC) (N : Nat) (a1 : Int32) (σ : Mem) (r : Int32) (τ : Mem) (hf : f_Cu_winners N a1 σ = some (r, τ)) : Ctr l w wC yX0_winners cX0_winners 2 (some .int) 4 93 [.ref (w.2.2.1 7), .int a1] σ (cQi w wC r τ) := mk_ctr (Q := fun κ => qOM κ wC) (lv := [some (.ref (w.2.2.1 7)), some (.int a1)]) (by decide) rfl hw (Nat.le_of_ble_eq_true rfl) rfl hf (fun κ h => by subst h; rfl) (fun κ hl h hR hC => by
    subst h
    exact w_Cu_winners hR hC N a1 σ)
-- DuelRound$Sets.closeNeeds(II)V (8, None, None) kind M
def Se_closeNeeds_B16 (a1 : Int32) (i1 : Int32) (a2 : Int32) (self3 : Int32 → Mem → Option Mem) (self6 : Int32 → Mem → Option Mem) (i4 : Int32) (s5 : Mem) : Option Mem :=
  if (gI s5 3 0) ≤ i4 then
  (self3 (i1 + (1 : Int32)) s5)
  else
  (if (t_D_bitOf a2 i4) = (1 : Int32) then
  (gd (inb (a1 + i4) 64) (if (t_D_bitOf (gI s5 23 (a1 + i4).toNatClampNeg) i1) = (1 : Int32) then
  (gd (inb (a1 + i4) 64) (gd (inb (a1 + i1) 64) (gd (inb (a1 + i4) 64) (bnd (sI s5 23 (a1 + i4).toNatClampNeg ((gI s5 23 (a1 + i4).toNatClampNeg) ||| (gI s5 23 (a1 + i1).toNatClampNeg))) fun s7 =>
  self6 (i4 + (1 : Int32)) s7))))
  else
  (self6 (i4 + (1 : Int32)) s5)))
  else
  (self6 (i4 + (1 : Int32)) s5))
def Se_closeNeeds_B2 (N : Nat) (a1 : Int32) (a2 : Int32) (self3 : Int32 → Mem → Option Mem) (i1 : Int32) (s2 : Mem) : Option Mem :=
  if (gI s2 3 0) ≤ i1 then
  (some s2)
  else
  (it2 (Se_closeNeeds_B16 a1 i1 a2 self3) N (0 : Int32) s2)
def f_Se_closeNeeds (N : Nat) (a1 : Int32) (a2 : Int32) (σ : Mem) : Option Mem :=
  it2 (Se_closeNeeds_B2 N a1 a2) N (0 : Int32) σ
set_option maxRecDepth 100000 in
set_option maxHeartbeats 4000000 in
theorem w_Se_closeNeeds {κ : Ctx} (hR : kR κ = { frames := 1, cells := 0, slots := 0, locals := 21 }) (hC : ok κ wC cX6_closeNeeds 5 RX6 none) (N : Nat) (a1 : Int32) (a2 : Int32) (σ : Mem) : wF κ wC 5 (qM κ wC) σ 0 [some (.ref (ad κ 8)), some (.int a1), some (.int a2), none, none] [] (f_Se_closeNeeds N a1 a2 σ) := by
  unfold f_Se_closeNeeds
  refine r_iconst (pc := 0) hC (v := (0 : Int32)) (by decide) dX6_closeNeeds_0 ?_
  refine r_istore_n (pc := 1) hC rfl rfl dX6_closeNeeds_1 ?_
  refine w_it2 (fun i1 s2 => s2) (fun i1 s2 => [some (.ref (ad κ 8)), some (.int a1), some (.int a2), some (.int i1), none]) (fun self3 ih2_3 i1 s2 => ?_) N (0 : Int32) σ
  unfold Se_closeNeeds_B2
  refine r_iload_n (pc := 2) hC rfl dX6_closeNeeds_2 ?_
  refine r_aload_n (pc := 3) hC rfl dX6_closeNeeds_3 ?_
  refine gC_8_0 (pc := 4) hC k_224 dX6_closeNeeds_4 ?_
  refine gC_2_1 (pc := 7) hC k_141 dX6_closeNeeds_7 ?_
  refine r_icmp_ge (pc := 10) (tgt := 87) hC dX6_closeNeeds_10 (by decide) ?_ ?_
  · exact r_retM hC dX6_closeNeeds_87
  · refine r_iconst (pc := 13) hC (v := (0 : Int32)) (by decide) dX6_closeNeeds_13 ?_
    refine r_istore (pc := 14) hC rfl rfl dX6_closeNeeds_14 ?_
    refine w_it2 (fun i4 s5 => s5) (fun i4 s5 => [some (.ref (ad κ 8)), some (.int a1), some (.int a2), some (.int i1), some (.int i4)]) (fun self6 ih16_6 i4 s5 => ?_) N (0 : Int32) s2
    unfold Se_closeNeeds_B16
    refine r_iload (pc := 16) hC rfl dX6_closeNeeds_16 ?_
    refine r_aload_n (pc := 18) hC rfl dX6_closeNeeds_18 ?_
    refine gC_8_0 (pc := 19) hC k_224 dX6_closeNeeds_19 ?_
    refine gC_2_1 (pc := 22) hC k_141 dX6_closeNeeds_22 ?_
    refine r_icmp_ge (pc := 25) (tgt := 81) hC dX6_closeNeeds_25 (by decide) ?_ ?_
    · refine r_iinc (pc := 81) hC (v := (1 : Int32)) rfl (by decide) rfl rfl dX6_closeNeeds_81 ?_
      refine r_goto (pc := 84) (tgt := 2) hC dX6_closeNeeds_84 (by decide) ?_
      exact r_wk [true, true, true, true, false] (ih2_3 (i1 + (1 : Int32)) s5)
    · refine r_iload_n (pc := 28) hC rfl dX6_closeNeeds_28 ?_
      refine r_iload (pc := 29) hC rfl dX6_closeNeeds_29 ?_
      refine r_cT (pc := 31) (rest := []) (runSN [.int a2, .int i4] hC (c_D_bitOf (kl κ) (kW κ) hC.2.2.2.2.2.2.2.2.1 a2 i4 s5) o_X9_bitOf (k_509 hC.2.2.2.2.2.2.2.2.2) (rm_ok hR rfl) rfl (Nat.le_of_ble_eq_true rfl) dX6_closeNeeds_31) ?_
      refine r_iconst (pc := 34) hC (v := (1 : Int32)) (by decide) dX6_closeNeeds_34 ?_
      refine r_icmp_ne (pc := 35) (tgt := 75) hC dX6_closeNeeds_35 (by decide) ?_ ?_
      · refine r_iinc (pc := 75) hC (v := (1 : Int32)) rfl (by decide) rfl rfl dX6_closeNeeds_75 ?_
        refine r_goto (pc := 78) (tgt := 16) hC dX6_closeNeeds_78 (by decide) ?_
        exact ih16_6 (i4 + (1 : Int32)) s5
      · refine r_aload_n (pc := 38) hC rfl dX6_closeNeeds_38 ?_
        refine gC_8_5 (pc := 39) hC k_230 dX6_closeNeeds_39 ?_
        refine r_iload_n (pc := 42) hC rfl dX6_closeNeeds_42 ?_
        refine r_iload (pc := 43) hC rfl dX6_closeNeeds_43 ?_
        refine r_iadd (pc := 45) hC dX6_closeNeeds_45 ?_
        refine aC_23 (pc := 46) hC dX6_closeNeeds_46 ?_
        refine r_iload_n (pc := 47) hC rfl dX6_closeNeeds_47 ?_
        refine r_cT (pc := 48) (rest := []) (runSN [.int (gI s5 23 (a1 + i4).toNatClampNeg), .int i1] hC (c_D_bitOf (kl κ) (kW κ) hC.2.2.2.2.2.2.2.2.1 (gI s5 23 (a1 + i4).toNatClampNeg) i1 s5) o_X9_bitOf (k_509 hC.2.2.2.2.2.2.2.2.2) (rm_ok hR rfl) rfl (Nat.le_of_ble_eq_true rfl) dX6_closeNeeds_48) ?_
        refine r_iconst (pc := 51) hC (v := (1 : Int32)) (by decide) dX6_closeNeeds_51 ?_
        refine r_icmp_ne (pc := 52) (tgt := 75) hC dX6_closeNeeds_52 (by decide) ?_ ?_
        · refine r_iinc (pc := 75) hC (v := (1 : Int32)) rfl (by decide) rfl rfl dX6_closeNeeds_75 ?_
          refine r_goto (pc := 78) (tgt := 16) hC dX6_closeNeeds_78 (by decide) ?_
          exact ih16_6 (i4 + (1 : Int32)) s5
        · refine r_aload_n (pc := 55) hC rfl dX6_closeNeeds_55 ?_
          refine gC_8_5 (pc := 56) hC k_230 dX6_closeNeeds_56 ?_
          refine r_iload_n (pc := 59) hC rfl dX6_closeNeeds_59 ?_
          refine r_iload (pc := 60) hC rfl dX6_closeNeeds_60 ?_
          refine r_iadd (pc := 62) hC dX6_closeNeeds_62 ?_
          refine r_dup2 (pc := 63) hC rfl rfl dX6_closeNeeds_63 ?_
          refine aC_23 (pc := 64) hC dX6_closeNeeds_64 ?_
          refine r_aload_n (pc := 65) hC rfl dX6_closeNeeds_65 ?_
          refine gC_8_5 (pc := 66) hC k_230 dX6_closeNeeds_66 ?_
          refine r_iload_n (pc := 69) hC rfl dX6_closeNeeds_69 ?_
          refine r_iload_n (pc := 70) hC rfl dX6_closeNeeds_70 ?_
          refine r_iadd (pc := 71) hC dX6_closeNeeds_71 ?_
          refine aC_23 (pc := 72) hC dX6_closeNeeds_72 ?_
          refine r_ior (pc := 73) hC dX6_closeNeeds_73 ?_
          refine bC_23 (pc := 74) hC dX6_closeNeeds_74 ?_
          refine r_letm (fun s7 => ?_)
          refine r_iinc (pc := 75) hC (v := (1 : Int32)) rfl (by decide) rfl rfl dX6_closeNeeds_75 ?_
          refine r_goto (pc := 78) (tgt := 16) hC dX6_closeNeeds_78 (by decide) ?_
          exact ih16_6 (i4 + (1 : Int32)) s7
set_option maxRecDepth 100000 in
set_option maxHeartbeats 4000000 in
theorem c_Se_closeNeeds (l : Launch) (w : Wenv) (hw : okw w wC) (N : Nat) (a1 : Int32) (a2 : Int32) (σ : Mem) (τ : Mem) (hf : f_Se_closeNeeds N a1 a2 σ = some τ) : Ctr l w wC yX6_closeNeeds cX6_closeNeeds 5 none 1 21 [.ref (w.2.2.1 8), .int a1, .int a2] σ (cQv w wC τ) := mk_ctr (Q := fun κ => qM κ wC) (lv := [some (.ref (w.2.2.1 8)), some (.int a1), some (.int a2), none, none]) (by decide) rfl hw (Nat.le_of_ble_eq_true rfl) rfl hf (fun κ h => by subst h; rfl) (fun κ hl h hR hC => by
    subst h
    exact w_Se_closeNeeds hR hC N a1 a2 σ)
-- DuelRound$Sets.leastClosed(II)I (8, None, None) kind O
def Se_leastClosed_B20 (σ : Mem) (a1 : Int32) (a2 : Int32) (i2 : Int32) (self3 : Int32 → Int32 → Option Int32) (self6 : Int32 → Int32 → Option Int32) (i4 : Int32) (i5 : Int32) : Option Int32 :=
  if (gI σ 3 0) ≤ i5 then
  (self3 i4 (i2 + (1 : Int32)))
  else
  (if (t_D_bitOf a2 i2) = (1 : Int32) then
  (gd (inb (a1 + i2) 64) (if (t_D_bitOf (gI σ 23 (a1 + i2).toNatClampNeg) i5) = (1 : Int32) then
  (gd (inb (a1 + i5) 64) (if (t_D_bitOf (gI σ 23 (a1 + i5).toNatClampNeg) i2) = (0 : Int32) then
  (bnd (i4 &&& (((1 : Int32) <<< (i2 &&& 31)) ^^^ (-1 : Int32))) fun x7 =>
  self6 x7 (i5 + (1 : Int32)))
  else
  (self6 i4 (i5 + (1 : Int32)))))
  else
  (self6 i4 (i5 + (1 : Int32)))))
  else
  (self6 i4 (i5 + (1 : Int32))))
def Se_leastClosed_B5 (N : Nat) (σ : Mem) (a1 : Int32) (a2 : Int32) (self3 : Int32 → Int32 → Option Int32) (i1 : Int32) (i2 : Int32) : Option Int32 :=
  if (gI σ 3 0) ≤ i2 then
  (some i1)
  else
  (it2 (Se_leastClosed_B20 σ a1 a2 i2 self3) N i1 (0 : Int32))
def f_Se_leastClosed (N : Nat) (a1 : Int32) (a2 : Int32) (σ : Mem) : Option Int32 :=
  it2 (Se_leastClosed_B5 N σ a1 a2) N a2 (0 : Int32)
set_option maxRecDepth 100000 in
set_option maxHeartbeats 4000000 in
theorem w_Se_leastClosed {κ : Ctx} (hR : kR κ = { frames := 1, cells := 0, slots := 0, locals := 21 }) (hC : ok κ wC cX6_leastClosed 6 RX6 (some .int)) (N : Nat) (a1 : Int32) (a2 : Int32) (σ : Mem) : wF κ wC 6 (qO κ wC σ) σ 0 [some (.ref (ad κ 8)), some (.int a1), some (.int a2), none, none, none] [] (f_Se_leastClosed N a1 a2 σ) := by
  unfold f_Se_leastClosed
  refine r_iload_n (pc := 0) hC rfl dX6_leastClosed_0 ?_
  refine r_istore_n (pc := 1) hC rfl rfl dX6_leastClosed_1 ?_
  refine r_iconst (pc := 2) hC (v := (0 : Int32)) (by decide) dX6_leastClosed_2 ?_
  refine r_istore (pc := 3) hC rfl rfl dX6_leastClosed_3 ?_
  refine w_it2 (fun i1 i2 => σ) (fun i1 i2 => [some (.ref (ad κ 8)), some (.int a1), some (.int a2), some (.int i1), some (.int i2), none]) (fun self3 ih5_3 i1 i2 => ?_) N a2 (0 : Int32)
  unfold Se_leastClosed_B5
  refine r_iload (pc := 5) hC rfl dX6_leastClosed_5 ?_
  refine r_aload_n (pc := 7) hC rfl dX6_leastClosed_7 ?_
  refine gC_8_0 (pc := 8) hC k_224 dX6_leastClosed_8 ?_
  refine gC_2_1 (pc := 11) hC k_141 dX6_leastClosed_11 ?_
  refine r_icmp_ge (pc := 14) (tgt := 98) hC dX6_leastClosed_14 (by decide) ?_ ?_
  · refine r_iload_n (pc := 98) hC rfl dX6_leastClosed_98 ?_
    exact r_retO hC rfl dX6_leastClosed_99
  · refine r_iconst (pc := 17) hC (v := (0 : Int32)) (by decide) dX6_leastClosed_17 ?_
    refine r_istore (pc := 18) hC rfl rfl dX6_leastClosed_18 ?_
    refine w_it2 (fun i4 i5 => σ) (fun i4 i5 => [some (.ref (ad κ 8)), some (.int a1), some (.int a2), some (.int i4), some (.int i2), some (.int i5)]) (fun self6 ih20_6 i4 i5 => ?_) N i1 (0 : Int32)
    unfold Se_leastClosed_B20
    refine r_iload (pc := 20) hC rfl dX6_leastClosed_20 ?_
    refine r_aload_n (pc := 22) hC rfl dX6_leastClosed_22 ?_
    refine gC_8_0 (pc := 23) hC k_224 dX6_leastClosed_23 ?_
    refine gC_2_1 (pc := 26) hC k_141 dX6_leastClosed_26 ?_
    refine r_icmp_ge (pc := 29) (tgt := 92) hC dX6_leastClosed_29 (by decide) ?_ ?_
    · refine r_iinc (pc := 92) hC (v := (1 : Int32)) rfl (by decide) rfl rfl dX6_leastClosed_92 ?_
      refine r_goto (pc := 95) (tgt := 5) hC dX6_leastClosed_95 (by decide) ?_
      exact r_wk [true, true, true, true, true, false] (ih5_3 i4 (i2 + (1 : Int32)))
    · refine r_iload_n (pc := 32) hC rfl dX6_leastClosed_32 ?_
      refine r_iload (pc := 33) hC rfl dX6_leastClosed_33 ?_
      refine r_cT (pc := 35) (rest := []) (runSN [.int a2, .int i2] hC (c_D_bitOf (kl κ) (kW κ) hC.2.2.2.2.2.2.2.2.1 a2 i2 σ) o_X9_bitOf (k_509 hC.2.2.2.2.2.2.2.2.2) (rm_ok hR rfl) rfl (Nat.le_of_ble_eq_true rfl) dX6_leastClosed_35) ?_
      refine r_iconst (pc := 38) hC (v := (1 : Int32)) (by decide) dX6_leastClosed_38 ?_
      refine r_icmp_ne (pc := 39) (tgt := 86) hC dX6_leastClosed_39 (by decide) ?_ ?_
      · refine r_iinc (pc := 86) hC (v := (1 : Int32)) rfl (by decide) rfl rfl dX6_leastClosed_86 ?_
        refine r_goto (pc := 89) (tgt := 20) hC dX6_leastClosed_89 (by decide) ?_
        exact ih20_6 i4 (i5 + (1 : Int32))
      · refine r_aload_n (pc := 42) hC rfl dX6_leastClosed_42 ?_
        refine gC_8_5 (pc := 43) hC k_230 dX6_leastClosed_43 ?_
        refine r_iload_n (pc := 46) hC rfl dX6_leastClosed_46 ?_
        refine r_iload (pc := 47) hC rfl dX6_leastClosed_47 ?_
        refine r_iadd (pc := 49) hC dX6_leastClosed_49 ?_
        refine aC_23 (pc := 50) hC dX6_leastClosed_50 ?_
        refine r_iload (pc := 51) hC rfl dX6_leastClosed_51 ?_
        refine r_cT (pc := 53) (rest := []) (runSN [.int (gI σ 23 (a1 + i2).toNatClampNeg), .int i5] hC (c_D_bitOf (kl κ) (kW κ) hC.2.2.2.2.2.2.2.2.1 (gI σ 23 (a1 + i2).toNatClampNeg) i5 σ) o_X9_bitOf (k_509 hC.2.2.2.2.2.2.2.2.2) (rm_ok hR rfl) rfl (Nat.le_of_ble_eq_true rfl) dX6_leastClosed_53) ?_
        refine r_iconst (pc := 56) hC (v := (1 : Int32)) (by decide) dX6_leastClosed_56 ?_
        refine r_icmp_ne (pc := 57) (tgt := 86) hC dX6_leastClosed_57 (by decide) ?_ ?_
        · refine r_iinc (pc := 86) hC (v := (1 : Int32)) rfl (by decide) rfl rfl dX6_leastClosed_86 ?_
          refine r_goto (pc := 89) (tgt := 20) hC dX6_leastClosed_89 (by decide) ?_
          exact ih20_6 i4 (i5 + (1 : Int32))
        · refine r_aload_n (pc := 60) hC rfl dX6_leastClosed_60 ?_
          refine gC_8_5 (pc := 61) hC k_230 dX6_leastClosed_61 ?_
          refine r_iload_n (pc := 64) hC rfl dX6_leastClosed_64 ?_
          refine r_iload (pc := 65) hC rfl dX6_leastClosed_65 ?_
          refine r_iadd (pc := 67) hC dX6_leastClosed_67 ?_
          refine aC_23 (pc := 68) hC dX6_leastClosed_68 ?_
          refine r_iload (pc := 69) hC rfl dX6_leastClosed_69 ?_
          refine r_cT (pc := 71) (rest := []) (runSN [.int (gI σ 23 (a1 + i5).toNatClampNeg), .int i2] hC (c_D_bitOf (kl κ) (kW κ) hC.2.2.2.2.2.2.2.2.1 (gI σ 23 (a1 + i5).toNatClampNeg) i2 σ) o_X9_bitOf (k_509 hC.2.2.2.2.2.2.2.2.2) (rm_ok hR rfl) rfl (Nat.le_of_ble_eq_true rfl) dX6_leastClosed_71) ?_
          refine r_if_ne (pc := 74) (tgt := 86) hC dX6_leastClosed_74 (by decide) ?_ ?_
          · refine r_iinc (pc := 86) hC (v := (1 : Int32)) rfl (by decide) rfl rfl dX6_leastClosed_86 ?_
            refine r_goto (pc := 89) (tgt := 20) hC dX6_leastClosed_89 (by decide) ?_
            exact ih20_6 i4 (i5 + (1 : Int32))
          · refine r_iload_n (pc := 77) hC rfl dX6_leastClosed_77 ?_
            refine r_iconst (pc := 78) hC (v := (1 : Int32)) (by decide) dX6_leastClosed_78 ?_
            refine r_iload (pc := 79) hC rfl dX6_leastClosed_79 ?_
            refine r_ishl (pc := 81) hC dX6_leastClosed_81 ?_
            refine r_iconst (pc := 82) hC (v := (-1 : Int32)) (by decide) dX6_leastClosed_82 ?_
            refine r_ixor (pc := 83) hC dX6_leastClosed_83 ?_
            refine r_iand (pc := 84) hC dX6_leastClosed_84 ?_
            refine r_let (fun x7 => ?_)
            refine r_istore_n (pc := 85) hC rfl rfl dX6_leastClosed_85 ?_
            refine r_iinc (pc := 86) hC (v := (1 : Int32)) rfl (by decide) rfl rfl dX6_leastClosed_86 ?_
            refine r_goto (pc := 89) (tgt := 20) hC dX6_leastClosed_89 (by decide) ?_
            exact ih20_6 x7 (i5 + (1 : Int32))
set_option maxRecDepth 100000 in
set_option maxHeartbeats 4000000 in
theorem c_Se_leastClosed (l : Launch) (w : Wenv) (hw : okw w wC) (N : Nat) (a1 : Int32) (a2 : Int32) (σ : Mem) (r : Int32) (hf : f_Se_leastClosed N a1 a2 σ = some r) : Ctr l w wC yX6_leastClosed cX6_leastClosed 6 (some .int) 1 21 [.ref (w.2.2.1 8), .int a1, .int a2] σ (cQi w wC r σ) := mk_ctr (Q := fun κ => qO κ wC σ) (lv := [some (.ref (w.2.2.1 8)), some (.int a1), some (.int a2), none, none, none]) (by decide) rfl hw (Nat.le_of_ble_eq_true rfl) rfl hf (fun κ h => by subst h; rfl) (fun κ hl h hR hC => by
    subst h
    exact w_Se_leastClosed hR hC N a1 a2 σ)
-- DuelRound$Sets.keeping(II)I (8, None, None) kind OM
def Se_keeping_K91 (N : Nat) (a1 : Int32) (x2 : Int32) (s3 : Mem) : Option (Int32 × Mem) :=
  ob (f_Se_closeNeeds N x2 a1 s3) fun s4 =>
  ob (f_Se_leastClosed N x2 a1 s4) fun r5 =>
  some (r5, s4)
def Se_keeping_B36 (N : Nat) (a1 : Int32) (a2 : Int32) (x2 : Int32) (self : Int32 → Int32 → Mem → Option (Int32 × Mem)) (self8 : Int32 → Mem → Option (Int32 × Mem)) (i6 : Int32) (s7 : Mem) : Option (Int32 × Mem) :=
  if (gI s7 3 0) ≤ i6 then
  (Se_keeping_K91 N a1 x2 s7)
  else
  (if (t_D_bitOf a1 i6) = (1 : Int32) then
  (ob (f_Du_beatersOfN i6 a1 s7) fun r9 =>
  ob2 (self r9 (a2 + (1 : Int32)) s7) fun r11 s10 =>
  gd (inb (x2 + i6) 64) (bnd (sI s10 23 (x2 + i6).toNatClampNeg r11) fun s12 =>
  self8 (i6 + (1 : Int32)) s12))
  else
  (self8 (i6 + (1 : Int32)) s7))
def Se_keeping_R (N : Nat) (self : Int32 → Int32 → Mem → Option (Int32 × Mem)) (a1 : Int32) (a2 : Int32) (σ : Mem) : Option (Int32 × Mem) :=
  if a1 = (0 : Int32) then
  (some ((0 : Int32), σ))
  else
  (if a2 < (8 : Int32) then
  (ob (f_Du_unbeatenOfN N a1 σ) fun r1 =>
  if r1 = (0 : Int32) then
  (bnd (a2 * (8 : Int32)) fun x2 =>
  it2 (Se_keeping_B36 N a1 a2 x2 self) N (0 : Int32) σ)
  else
  (some (r1, σ)))
  else
  (some ((0 : Int32), σ)))
def f_Se_keeping (N d : Nat) (a1 : Int32) (a2 : Int32) (σ : Mem) : Option (Int32 × Mem) := it3 (Se_keeping_R N) d a1 a2 σ
set_option maxRecDepth 100000 in
set_option maxHeartbeats 4000000 in
theorem w_Se_keeping {κ : Ctx} {d : Nat} (hR : kR κ = { frames := 2 + (d + 1), cells := 0, slots := 0, locals := 46 + (d + 1) * 25 }) (hC : ok κ wC cX6_keeping 6 RX6 (some .int)) (N : Nat) (self : Int32 → Int32 → Mem → Option (Int32 × Mem)) (hself : ∀ (a1 : Int32) (a2 : Int32) (σ : Mem) (r : Int32) (τ : Mem), self a1 a2 σ = some (r, τ) → Ctr (kl κ) (kW κ) wC yX6_keeping cX6_keeping 6 (some .int) (2 + d) (46 + d * 25) [.ref ((kW κ).2.2.1 8), .int a1, .int a2] σ (cQi (kW κ) wC r τ)) (a1 : Int32) (a2 : Int32) (σ : Mem) : wF κ wC 6 (qOM κ wC) σ 0 [some (.ref (ad κ 8)), some (.int a1), some (.int a2), none, none, none] [] (Se_keeping_R N self a1 a2 σ) := by
  have hRs : 2 + d + 1 ≤ (kR κ).frames ∧ 8 + (6 + 11) + (46 + d * 25) ≤ (kR κ).locals := by rw [hR]; exact ⟨by dsimp only; omega, by dsimp only; omega⟩
  have hRb : 2 ≤ (kR κ).frames ∧ 46 ≤ (kR κ).locals := by rw [hR]; exact ⟨by dsimp only; omega, by dsimp only; omega⟩
  unfold Se_keeping_R
  refine r_iload_n (pc := 0) hC rfl dX6_keeping_0 ?_
  refine r_if_eq (pc := 1) (tgt := 10) hC dX6_keeping_1 (by decide) ?_ ?_
  · refine r_iconst (pc := 10) hC (v := (0 : Int32)) (by decide) dX6_keeping_10 ?_
    exact r_retOM hC rfl dX6_keeping_11
  · refine r_iload_n (pc := 4) hC rfl dX6_keeping_4 ?_
    refine r_bipush (pc := 5) hC (v := (8 : Int32)) (by decide) dX6_keeping_5 ?_
    refine r_icmp_lt (pc := 7) (tgt := 12) hC dX6_keeping_7 (by decide) ?_ ?_
    · refine r_aload_n (pc := 12) hC rfl dX6_keeping_12 ?_
      refine gC_8_0 (pc := 13) hC k_224 dX6_keeping_13 ?_
      refine r_iload_n (pc := 16) hC rfl dX6_keeping_16 ?_
      refine r_cO (pc := 17) (rest := []) (fun r1 hf => runV [.int a1] hC (c_Du_unbeatenOfN (kl κ) (kW κ) hC.2.2.2.2.2.2.2.2.1 N a1 σ r1 hf) o_X1_unbeatenOf k_623 (q0 := 2) (ci := 1) rfl rfl (rm_le hRb rfl) rfl (Nat.le_of_ble_eq_true rfl) dX6_keeping_17) (fun r1 => ?_)
      refine r_istore_n (pc := 20) hC rfl rfl dX6_keeping_20 ?_
      refine r_iload_n (pc := 21) hC rfl dX6_keeping_21 ?_
      refine r_if_eq (pc := 22) (tgt := 27) hC dX6_keeping_22 (by decide) ?_ ?_
      · refine r_iload_n (pc := 27) hC rfl dX6_keeping_27 ?_
        refine r_bipush (pc := 28) hC (v := (8 : Int32)) (by decide) dX6_keeping_28 ?_
        refine r_imul (pc := 30) hC dX6_keeping_30 ?_
        refine r_let (fun x2 => ?_)
        refine r_istore (pc := 31) hC rfl rfl dX6_keeping_31 ?_
        refine r_iconst (pc := 33) hC (v := (0 : Int32)) (by decide) dX6_keeping_33 ?_
        refine r_istore (pc := 34) hC rfl rfl dX6_keeping_34 ?_
        have hK91_5 : ∀ (s3 : Mem), wF κ wC 6 (qOM κ wC) s3 91 [some (.ref (ad κ 8)), some (.int a1), none, none, some (.int x2), none] [] (Se_keeping_K91 N a1 x2 s3) := by
          intro s3
          unfold Se_keeping_K91
          refine r_aload_n (pc := 91) hC rfl dX6_keeping_91 ?_
          refine r_iload (pc := 92) hC rfl dX6_keeping_92 ?_
          refine r_iload_n (pc := 94) hC rfl dX6_keeping_94 ?_
          refine r_cM (pc := 95) (rest := []) (fun s4 hf => runV [.int x2, .int a1] hC (c_Se_closeNeeds (kl κ) (kW κ) hC.2.2.2.2.2.2.2.2.1 N x2 a1 s3 s4 hf) o_X6_closeNeeds k_514 (q0 := 8) (ci := 6) rfl rfl (rm_le hRb rfl) rfl (Nat.le_of_ble_eq_true rfl) dX6_keeping_95) (fun s4 => ?_)
          refine r_aload_n (pc := 98) hC rfl dX6_keeping_98 ?_
          refine r_iload (pc := 99) hC rfl dX6_keeping_99 ?_
          refine r_iload_n (pc := 101) hC rfl dX6_keeping_101 ?_
          refine r_cO (pc := 102) (rest := []) (fun r5 hf => runV [.int x2, .int a1] hC (c_Se_leastClosed (kl κ) (kW κ) hC.2.2.2.2.2.2.2.2.1 N x2 a1 s4 r5 hf) o_X6_leastClosed k_518 (q0 := 8) (ci := 6) rfl rfl (rm_le hRb rfl) rfl (Nat.le_of_ble_eq_true rfl) dX6_keeping_102) (fun r5 => ?_)
          exact r_retOM hC rfl dX6_keeping_105
        refine r_wk [true, true, true, false, true, true] (w_it2 (fun i6 s7 => s7) (fun i6 s7 => [some (.ref (ad κ 8)), some (.int a1), some (.int a2), none, some (.int x2), some (.int i6)]) (fun self8 ih36_8 i6 s7 => ?_) N (0 : Int32) σ)
        unfold Se_keeping_B36
        refine r_iload (pc := 36) hC rfl dX6_keeping_36 ?_
        refine r_aload_n (pc := 38) hC rfl dX6_keeping_38 ?_
        refine gC_8_0 (pc := 39) hC k_224 dX6_keeping_39 ?_
        refine gC_2_1 (pc := 42) hC k_141 dX6_keeping_42 ?_
        refine r_icmp_ge (pc := 45) (tgt := 91) hC dX6_keeping_45 (by decide) ?_ ?_
        · exact r_wk [true, true, false, false, true, false] (hK91_5 s7)
        · refine r_iload_n (pc := 48) hC rfl dX6_keeping_48 ?_
          refine r_iload (pc := 49) hC rfl dX6_keeping_49 ?_
          refine r_cT (pc := 51) (rest := []) (runSN [.int a1, .int i6] hC (c_D_bitOf (kl κ) (kW κ) hC.2.2.2.2.2.2.2.2.1 a1 i6 s7) o_X9_bitOf (k_509 hC.2.2.2.2.2.2.2.2.2) (rm_le hRb rfl) rfl (Nat.le_of_ble_eq_true rfl) dX6_keeping_51) ?_
          refine r_iconst (pc := 54) hC (v := (1 : Int32)) (by decide) dX6_keeping_54 ?_
          refine r_icmp_ne (pc := 55) (tgt := 85) hC dX6_keeping_55 (by decide) ?_ ?_
          · refine r_iinc (pc := 85) hC (v := (1 : Int32)) rfl (by decide) rfl rfl dX6_keeping_85 ?_
            refine r_goto (pc := 88) (tgt := 36) hC dX6_keeping_88 (by decide) ?_
            exact ih36_8 (i6 + (1 : Int32)) s7
          · refine r_aload_n (pc := 58) hC rfl dX6_keeping_58 ?_
            refine gC_8_5 (pc := 59) hC k_230 dX6_keeping_59 ?_
            refine r_iload (pc := 62) hC rfl dX6_keeping_62 ?_
            refine r_iload (pc := 64) hC rfl dX6_keeping_64 ?_
            refine r_iadd (pc := 66) hC dX6_keeping_66 ?_
            refine r_aload_n (pc := 67) hC rfl dX6_keeping_67 ?_
            refine r_aload_n (pc := 68) hC rfl dX6_keeping_68 ?_
            refine gC_8_0 (pc := 69) hC k_224 dX6_keeping_69 ?_
            refine r_iload (pc := 72) hC rfl dX6_keeping_72 ?_
            refine r_iload_n (pc := 74) hC rfl dX6_keeping_74 ?_
            refine r_cO (pc := 75) (rest := [.ref (ad κ 8), .int (x2 + i6), .ref (ad κ 23)]) (fun r9 hf => runV [.int i6, .int a1] hC (c_Du_beatersOfN (kl κ) (kW κ) hC.2.2.2.2.2.2.2.2.1 i6 a1 s7 r9 hf) o_X1_beatersOf k_510 (q0 := 2) (ci := 1) rfl rfl (rm_le hRb rfl) rfl (Nat.le_of_ble_eq_true rfl) dX6_keeping_75) (fun r9 => ?_)
            refine r_iload_n (pc := 78) hC rfl dX6_keeping_78 ?_
            refine r_iconst (pc := 79) hC (v := (1 : Int32)) (by decide) dX6_keeping_79 ?_
            refine r_iadd (pc := 80) hC dX6_keeping_80 ?_
            refine r_cOM (pc := 81) (rest := [.int (x2 + i6), .ref (ad κ 23)]) (fun r11 s10 hf => runV [.int r9, .int (a2 + (1 : Int32))] hC (hself r9 (a2 + (1 : Int32)) s7 r11 s10 hf) o_X6_keeping k_619 (q0 := 8) (ci := 6) rfl rfl hRs rfl (Nat.le_of_ble_eq_true rfl) dX6_keeping_81) (fun r11 s10 => ?_)
            refine bC_23 (pc := 84) hC dX6_keeping_84 ?_
            refine r_letm (fun s12 => ?_)
            refine r_iinc (pc := 85) hC (v := (1 : Int32)) rfl (by decide) rfl rfl dX6_keeping_85 ?_
            refine r_goto (pc := 88) (tgt := 36) hC dX6_keeping_88 (by decide) ?_
            exact ih36_8 (i6 + (1 : Int32)) s12
      · refine r_iload_n (pc := 25) hC rfl dX6_keeping_25 ?_
        exact r_retOM hC rfl dX6_keeping_26
    · refine r_iconst (pc := 10) hC (v := (0 : Int32)) (by decide) dX6_keeping_10 ?_
      exact r_retOM hC rfl dX6_keeping_11
set_option maxRecDepth 100000 in
set_option maxHeartbeats 4000000 in
theorem c_Se_keeping (l : Launch) (w : Wenv) (hw : okw w wC) (N : Nat) : ∀ (d : Nat) (a1 : Int32) (a2 : Int32) (σ : Mem) (r : Int32) (τ : Mem) (hf : f_Se_keeping N d a1 a2 σ = some (r, τ)), Ctr l w wC yX6_keeping cX6_keeping 6 (some .int) (2 + d) (46 + d * 25) [.ref (w.2.2.1 8), .int a1, .int a2] σ (cQi w wC r τ)
  | 0, a1, a2, σ, r, τ, hf => by cases hf
  | d + 1, a1, a2, σ, r, τ, hf => mk_ctr (Q := fun κ => qOM κ wC) (lv := [some (.ref (w.2.2.1 8)), some (.int a1), some (.int a2), none, none, none]) (by decide) rfl hw (Nat.le_of_ble_eq_true rfl) rfl hf (fun κ h => by subst h; rfl) (fun κ hl h hR hC => by
      subst h; subst hl
      exact w_Se_keeping hR hC N _ (fun a1 a2 σ r τ h => c_Se_keeping (kl κ) (kW κ) hw N d a1 a2 σ r τ h) a1 a2 σ)
-- DuelRound.lowestOf(I)I (None,) kind O
def D_lowestOf_B2 (a1 : Int32) (self2 : Int32 → Option Int32) (i1 : Int32) : Option Int32 :=
  if (8 : Int32) ≤ i1 then
  (some (-1 : Int32))
  else
  (if (t_D_bitOf a1 i1) = (1 : Int32) then
  (some i1)
  else
  (self2 (i1 + (1 : Int32))))
def f_D_lowestOf (N : Nat) (a1 : Int32) : Option Int32 :=
  it1 (D_lowestOf_B2 a1) N (0 : Int32)
set_option maxRecDepth 100000 in
set_option maxHeartbeats 4000000 in
theorem w_D_lowestOf {κ : Ctx} (hR : kR κ = { frames := 1, cells := 0, slots := 0, locals := 21 }) (hC : ok κ wC cX9_lowestOf 2 RX9 (some .int)) (N : Nat) (a1 : Int32) (σ : Mem) : wF κ wC 2 (qO κ wC σ) σ 0 [some (.int a1), none] [] (f_D_lowestOf N a1) := by
  unfold f_D_lowestOf
  refine r_iconst (pc := 0) hC (v := (0 : Int32)) (by decide) dX9_lowestOf_0 ?_
  refine r_istore_n (pc := 1) hC rfl rfl dX9_lowestOf_1 ?_
  refine w_it1 (fun i1 => σ) (fun i1 => [some (.int a1), some (.int i1)]) (fun self2 ih2_2 i1 => ?_) N (0 : Int32)
  unfold D_lowestOf_B2
  refine r_iload_n (pc := 2) hC rfl dX9_lowestOf_2 ?_
  refine r_bipush (pc := 3) hC (v := (8 : Int32)) (by decide) dX9_lowestOf_3 ?_
  refine r_icmp_ge (pc := 5) (tgt := 25) hC dX9_lowestOf_5 (by decide) ?_ ?_
  · refine r_iconst (pc := 25) hC (v := (-1 : Int32)) (by decide) dX9_lowestOf_25 ?_
    exact r_retO hC rfl dX9_lowestOf_26
  · refine r_iload_n (pc := 8) hC rfl dX9_lowestOf_8 ?_
    refine r_iload_n (pc := 9) hC rfl dX9_lowestOf_9 ?_
    refine r_cT (pc := 10) (rest := []) (runS [.int a1, .int i1] hC (c_D_bitOf (kl κ) (kW κ) hC.2.2.2.2.2.2.2.2.1 a1 i1 σ) o_X9_bitOf k_597 (rm_ok hR rfl) rfl (Nat.le_of_ble_eq_true rfl) dX9_lowestOf_10) ?_
    refine r_iconst (pc := 13) hC (v := (1 : Int32)) (by decide) dX9_lowestOf_13 ?_
    refine r_icmp_ne (pc := 14) (tgt := 19) hC dX9_lowestOf_14 (by decide) ?_ ?_
    · refine r_iinc (pc := 19) hC (v := (1 : Int32)) rfl (by decide) rfl rfl dX9_lowestOf_19 ?_
      refine r_goto (pc := 22) (tgt := 2) hC dX9_lowestOf_22 (by decide) ?_
      exact ih2_2 (i1 + (1 : Int32))
    · refine r_iload_n (pc := 17) hC rfl dX9_lowestOf_17 ?_
      exact r_retO hC rfl dX9_lowestOf_18
set_option maxRecDepth 100000 in
set_option maxHeartbeats 4000000 in
theorem c_D_lowestOf (l : Launch) (w : Wenv) (hw : okw w wC) (N : Nat) (a1 : Int32) (σ : Mem) (r : Int32) (hf : f_D_lowestOf N a1 = some r) : Ctr l w wC yX9_lowestOf cX9_lowestOf 2 (some .int) 1 21 [.int a1] σ (cQi w wC r σ) := mk_ctr (Q := fun κ => qO κ wC σ) (lv := [some (.int a1), none]) (by decide) rfl hw (Nat.le_of_ble_eq_true rfl) rfl hf (fun κ h => by subst h; rfl) (fun κ hl h hR hC => by
    subst h
    exact w_D_lowestOf hR hC N a1 σ)
-- DuelRound$Weights.pfaffianOf(I)I (6, None) kind O
def We_pfaffianOf_J94 (i4 : Int32) (i5 : Int32) (i6 : Int32) (self7 : Int32 → Int32 → Int32 → Option Int32) (v10 : Int32) : Option Int32 :=
  bnd (i4 + v10) fun x11 =>
  bnd (-i5) fun x12 =>
  self7 x11 x12 (i6 + (1 : Int32))
def We_pfaffianOf_B31 (σ : Mem) (r1 : Int32) (x2 : Int32) (self7 : Int32 → Int32 → Int32 → Option Int32) (i4 : Int32) (i5 : Int32) (i6 : Int32) : Option Int32 :=
  if (gI σ 3 0) ≤ i6 then
  (some i4)
  else
  (if (t_D_bitOf x2 i6) = (1 : Int32) then
  (gd (inb (x2 &&& (((1 : Int32) <<< (i6 &&& 31)) ^^^ (-1 : Int32))) 256) (bnd (i5 * (gI σ 20 (x2 &&& (((1 : Int32) <<< (i6 &&& 31)) ^^^ (-1 : Int32))).toNatClampNeg)) fun x8 =>
  ob (f_Du_isBeatingN r1 i6 σ) fun r9 =>
  if r9 = (0 : Int32) then
  (We_pfaffianOf_J94 i4 i5 i6 self7 (-x8))
  else
  (We_pfaffianOf_J94 i4 i5 i6 self7 x8)))
  else
  (self7 i4 i5 (i6 + (1 : Int32))))
def f_We_pfaffianOf (N : Nat) (a1 : Int32) (σ : Mem) : Option Int32 :=
  ob (f_D_lowestOf N a1) fun r1 =>
  if r1 = (-1 : Int32) then
  (some (1 : Int32))
  else
  (bnd (a1 &&& (((1 : Int32) <<< (r1 &&& 31)) ^^^ (-1 : Int32))) fun x2 =>
  bnd (r1 + (1 : Int32)) fun x3 =>
  it3 (We_pfaffianOf_B31 σ r1 x2) N (0 : Int32) (1 : Int32) x3)
set_option maxRecDepth 100000 in
set_option maxHeartbeats 4000000 in
theorem w_We_pfaffianOf {κ : Ctx} (hR : kR κ = { frames := 2, cells := 0, slots := 0, locals := 42 }) (hC : ok κ wC cX8_pfaffianOf 8 RX8 (some .int)) (N : Nat) (a1 : Int32) (σ : Mem) : wF κ wC 8 (qO κ wC σ) σ 0 [some (.ref (ad κ 6)), some (.int a1), none, none, none, none, none, none] [] (f_We_pfaffianOf N a1 σ) := by
  unfold f_We_pfaffianOf
  refine r_iload_n (pc := 0) hC rfl dX8_pfaffianOf_0 ?_
  refine r_cO (pc := 1) (rest := []) (fun r1 hf => runSN [.int a1] hC (c_D_lowestOf (kl κ) (kW κ) hC.2.2.2.2.2.2.2.2.1 N a1 σ r1 hf) o_X9_lowestOf (k_594 hC.2.2.2.2.2.2.2.2.2) (rm_ok hR rfl) rfl (Nat.le_of_ble_eq_true rfl) dX8_pfaffianOf_1) (fun r1 => ?_)
  refine r_istore_n (pc := 4) hC rfl rfl dX8_pfaffianOf_4 ?_
  refine r_iload_n (pc := 5) hC rfl dX8_pfaffianOf_5 ?_
  refine r_iconst (pc := 6) hC (v := (-1 : Int32)) (by decide) dX8_pfaffianOf_6 ?_
  refine r_icmp_ne (pc := 7) (tgt := 12) hC dX8_pfaffianOf_7 (by decide) ?_ ?_
  · refine r_iload_n (pc := 12) hC rfl dX8_pfaffianOf_12 ?_
    refine r_iconst (pc := 13) hC (v := (1 : Int32)) (by decide) dX8_pfaffianOf_13 ?_
    refine r_iload_n (pc := 14) hC rfl dX8_pfaffianOf_14 ?_
    refine r_ishl (pc := 15) hC dX8_pfaffianOf_15 ?_
    refine r_iconst (pc := 16) hC (v := (-1 : Int32)) (by decide) dX8_pfaffianOf_16 ?_
    refine r_ixor (pc := 17) hC dX8_pfaffianOf_17 ?_
    refine r_iand (pc := 18) hC dX8_pfaffianOf_18 ?_
    refine r_let (fun x2 => ?_)
    refine r_istore_n (pc := 19) hC rfl rfl dX8_pfaffianOf_19 ?_
    refine r_iconst (pc := 20) hC (v := (0 : Int32)) (by decide) dX8_pfaffianOf_20 ?_
    refine r_istore (pc := 21) hC rfl rfl dX8_pfaffianOf_21 ?_
    refine r_iconst (pc := 23) hC (v := (1 : Int32)) (by decide) dX8_pfaffianOf_23 ?_
    refine r_istore (pc := 24) hC rfl rfl dX8_pfaffianOf_24 ?_
    refine r_iload_n (pc := 26) hC rfl dX8_pfaffianOf_26 ?_
    refine r_iconst (pc := 27) hC (v := (1 : Int32)) (by decide) dX8_pfaffianOf_27 ?_
    refine r_iadd (pc := 28) hC dX8_pfaffianOf_28 ?_
    refine r_let (fun x3 => ?_)
    refine r_istore (pc := 29) hC rfl rfl dX8_pfaffianOf_29 ?_
    refine r_wk [true, false, true, true, true, true, true, false] (w_it3 (fun i4 i5 i6 => σ) (fun i4 i5 i6 => [some (.ref (ad κ 6)), none, some (.int r1), some (.int x2), some (.int i4), some (.int i5), some (.int i6), none]) (fun self7 ih31_7 i4 i5 i6 => ?_) N (0 : Int32) (1 : Int32) x3)
    unfold We_pfaffianOf_B31
    refine r_iload (pc := 31) hC rfl dX8_pfaffianOf_31 ?_
    refine r_aload_n (pc := 33) hC rfl dX8_pfaffianOf_33 ?_
    refine gC_6_0 (pc := 34) hC k_194 dX8_pfaffianOf_34 ?_
    refine gC_2_1 (pc := 37) hC k_143 dX8_pfaffianOf_37 ?_
    refine r_icmp_ge (pc := 40) (tgt := 108) hC dX8_pfaffianOf_40 (by decide) ?_ ?_
    · refine r_iload (pc := 108) hC rfl dX8_pfaffianOf_108 ?_
      exact r_retO hC rfl dX8_pfaffianOf_110
    · refine r_iload_n (pc := 43) hC rfl dX8_pfaffianOf_43 ?_
      refine r_iload (pc := 44) hC rfl dX8_pfaffianOf_44 ?_
      refine r_cT (pc := 46) (rest := []) (runSN [.int x2, .int i6] hC (c_D_bitOf (kl κ) (kW κ) hC.2.2.2.2.2.2.2.2.1 x2 i6 σ) o_X9_bitOf (k_598 hC.2.2.2.2.2.2.2.2.2) (rm_ok hR rfl) rfl (Nat.le_of_ble_eq_true rfl) dX8_pfaffianOf_46) ?_
      refine r_iconst (pc := 49) hC (v := (1 : Int32)) (by decide) dX8_pfaffianOf_49 ?_
      refine r_icmp_ne (pc := 50) (tgt := 102) hC dX8_pfaffianOf_50 (by decide) ?_ ?_
      · refine r_iinc (pc := 102) hC (v := (1 : Int32)) rfl (by decide) rfl rfl dX8_pfaffianOf_102 ?_
        refine r_goto (pc := 105) (tgt := 31) hC dX8_pfaffianOf_105 (by decide) ?_
        exact ih31_7 i4 i5 (i6 + (1 : Int32))
      · refine r_iload (pc := 53) hC rfl dX8_pfaffianOf_53 ?_
        refine r_aload_n (pc := 55) hC rfl dX8_pfaffianOf_55 ?_
        refine gC_6_2 (pc := 56) hC k_197 dX8_pfaffianOf_56 ?_
        refine r_iload_n (pc := 59) hC rfl dX8_pfaffianOf_59 ?_
        refine r_iconst (pc := 60) hC (v := (1 : Int32)) (by decide) dX8_pfaffianOf_60 ?_
        refine r_iload (pc := 61) hC rfl dX8_pfaffianOf_61 ?_
        refine r_ishl (pc := 63) hC dX8_pfaffianOf_63 ?_
        refine r_iconst (pc := 64) hC (v := (-1 : Int32)) (by decide) dX8_pfaffianOf_64 ?_
        refine r_ixor (pc := 65) hC dX8_pfaffianOf_65 ?_
        refine r_iand (pc := 66) hC dX8_pfaffianOf_66 ?_
        refine aC_20 (pc := 67) hC dX8_pfaffianOf_67 ?_
        refine r_imul (pc := 68) hC dX8_pfaffianOf_68 ?_
        refine r_let (fun x8 => ?_)
        refine r_istore (pc := 69) hC rfl rfl dX8_pfaffianOf_69 ?_
        refine r_iload (pc := 71) hC rfl dX8_pfaffianOf_71 ?_
        refine r_aload_n (pc := 73) hC rfl dX8_pfaffianOf_73 ?_
        refine gC_6_0 (pc := 74) hC k_194 dX8_pfaffianOf_74 ?_
        refine r_iload_n (pc := 77) hC rfl dX8_pfaffianOf_77 ?_
        refine r_iload (pc := 78) hC rfl dX8_pfaffianOf_78 ?_
        refine r_cO (pc := 80) (rest := [.int i4]) (fun r9 hf => runV [.int r1, .int i6] hC (c_Du_isBeatingN (kl κ) (kW κ) hC.2.2.2.2.2.2.2.2.1 r1 i6 σ r9 hf) o_X1_isBeating k_599 (q0 := 2) (ci := 1) rfl rfl (rm_ok hR rfl) rfl (Nat.le_of_ble_eq_true rfl) dX8_pfaffianOf_80) (fun r9 => ?_)
        have hJ94_12 : ∀ (v10 : Int32), wF κ wC 8 (qO κ wC σ) σ 94 [some (.ref (ad κ 6)), none, some (.int r1), some (.int x2), none, some (.int i5), some (.int i6), none] [.int v10, .int i4] (We_pfaffianOf_J94 i4 i5 i6 self7 v10) := by
          intro v10
          unfold We_pfaffianOf_J94
          refine r_iadd (pc := 94) hC dX8_pfaffianOf_94 ?_
          refine r_let (fun x11 => ?_)
          refine r_istore (pc := 95) hC rfl rfl dX8_pfaffianOf_95 ?_
          refine r_iload (pc := 97) hC rfl dX8_pfaffianOf_97 ?_
          refine r_ineg (pc := 99) hC dX8_pfaffianOf_99 ?_
          refine r_let (fun x12 => ?_)
          refine r_istore (pc := 100) hC rfl rfl dX8_pfaffianOf_100 ?_
          refine r_iinc (pc := 102) hC (v := (1 : Int32)) rfl (by decide) rfl rfl dX8_pfaffianOf_102 ?_
          refine r_goto (pc := 105) (tgt := 31) hC dX8_pfaffianOf_105 (by decide) ?_
          exact ih31_7 x11 x12 (i6 + (1 : Int32))
        refine r_if_eq (pc := 83) (tgt := 91) hC dX8_pfaffianOf_83 (by decide) ?_ ?_
        · refine r_iload (pc := 91) hC rfl dX8_pfaffianOf_91 ?_
          refine r_ineg (pc := 93) hC dX8_pfaffianOf_93 ?_
          exact r_wk [true, false, true, true, false, true, true, false] (hJ94_12 (-x8))
        · refine r_iload (pc := 86) hC rfl dX8_pfaffianOf_86 ?_
          refine r_goto (pc := 88) (tgt := 94) hC dX8_pfaffianOf_88 (by decide) ?_
          exact r_wk [true, false, true, true, false, true, true, false] (hJ94_12 x8)
  · refine r_iconst (pc := 10) hC (v := (1 : Int32)) (by decide) dX8_pfaffianOf_10 ?_
    exact r_retO hC rfl dX8_pfaffianOf_11
set_option maxRecDepth 100000 in
set_option maxHeartbeats 4000000 in
theorem c_We_pfaffianOf (l : Launch) (w : Wenv) (hw : okw w wC) (N : Nat) (a1 : Int32) (σ : Mem) (r : Int32) (hf : f_We_pfaffianOf N a1 σ = some r) : Ctr l w wC yX8_pfaffianOf cX8_pfaffianOf 8 (some .int) 2 42 [.ref (w.2.2.1 6), .int a1] σ (cQi w wC r σ) := mk_ctr (Q := fun κ => qO κ wC σ) (lv := [some (.ref (w.2.2.1 6)), some (.int a1), none, none, none, none, none, none]) (by decide) rfl hw (Nat.le_of_ble_eq_true rfl) rfl hf (fun κ h => by subst h; rfl) (fun κ hl h hR hC => by
    subst h
    exact w_We_pfaffianOf hR hC N a1 σ)
-- DuelRound$Weights.findPfaffians(I)V (6, None) kind M
def We_findPfaffians_B9 (N : Nat) (a1 : Int32) (self4 : Int32 → Mem → Option Mem) (i2 : Int32) (s3 : Mem) : Option Mem :=
  if a1 < i2 then
  (some s3)
  else
  (if (i2 &&& (a1 ^^^ (-1 : Int32))) = (0 : Int32) then
  (if ((t_J_bitCount i2) - (t_J_bitCount i2) / (2 : Int32) * (2 : Int32)) = (0 : Int32) then
  (ob (f_We_pfaffianOf N i2 s3) fun r5 =>
  gd (inb i2 256) (bnd (sI s3 20 i2.toNatClampNeg r5) fun s6 =>
  self4 (i2 + (1 : Int32)) s6))
  else
  (self4 (i2 + (1 : Int32)) s3))
  else
  (self4 (i2 + (1 : Int32)) s3))
def f_We_findPfaffians (N : Nat) (a1 : Int32) (σ : Mem) : Option Mem :=
  bnd (sI σ 20 (0 : Int32).toNatClampNeg (1 : Int32)) fun s1 =>
  it2 (We_findPfaffians_B9 N a1) N (1 : Int32) s1
set_option maxRecDepth 100000 in
set_option maxHeartbeats 4000000 in
theorem w_We_findPfaffians {κ : Ctx} (hR : kR κ = { frames := 3, cells := 0, slots := 0, locals := 69 }) (hC : ok κ wC cX8_findPfaffians 3 RX8 none) (N : Nat) (a1 : Int32) (σ : Mem) : wF κ wC 3 (qM κ wC) σ 0 [some (.ref (ad κ 6)), some (.int a1), none] [] (f_We_findPfaffians N a1 σ) := by
  unfold f_We_findPfaffians
  refine r_aload_n (pc := 0) hC rfl dX8_findPfaffians_0 ?_
  refine gC_6_2 (pc := 1) hC k_197 dX8_findPfaffians_1 ?_
  refine r_iconst (pc := 4) hC (v := (0 : Int32)) (by decide) dX8_findPfaffians_4 ?_
  refine r_iconst (pc := 5) hC (v := (1 : Int32)) (by decide) dX8_findPfaffians_5 ?_
  refine r_ung (b := inb (0 : Int32) 256) (by decide) ?_
  refine bC_20 (pc := 6) hC dX8_findPfaffians_6 ?_
  refine r_letm (fun s1 => ?_)
  refine r_iconst (pc := 7) hC (v := (1 : Int32)) (by decide) dX8_findPfaffians_7 ?_
  refine r_istore_n (pc := 8) hC rfl rfl dX8_findPfaffians_8 ?_
  refine w_it2 (fun i2 s3 => s3) (fun i2 s3 => [some (.ref (ad κ 6)), some (.int a1), some (.int i2)]) (fun self4 ih9_4 i2 s3 => ?_) N (1 : Int32) s1
  unfold We_findPfaffians_B9
  refine r_iload_n (pc := 9) hC rfl dX8_findPfaffians_9 ?_
  refine r_iload_n (pc := 10) hC rfl dX8_findPfaffians_10 ?_
  refine r_icmp_gt (pc := 11) (tgt := 48) hC dX8_findPfaffians_11 (by decide) ?_ ?_
  · exact r_retM hC dX8_findPfaffians_48
  · refine r_iload_n (pc := 14) hC rfl dX8_findPfaffians_14 ?_
    refine r_iload_n (pc := 15) hC rfl dX8_findPfaffians_15 ?_
    refine r_iconst (pc := 16) hC (v := (-1 : Int32)) (by decide) dX8_findPfaffians_16 ?_
    refine r_ixor (pc := 17) hC dX8_findPfaffians_17 ?_
    refine r_iand (pc := 18) hC dX8_findPfaffians_18 ?_
    refine r_if_ne (pc := 19) (tgt := 42) hC dX8_findPfaffians_19 (by decide) ?_ ?_
    · refine r_iinc (pc := 42) hC (v := (1 : Int32)) rfl (by decide) rfl rfl dX8_findPfaffians_42 ?_
      refine r_goto (pc := 45) (tgt := 9) hC dX8_findPfaffians_45 (by decide) ?_
      exact ih9_4 (i2 + (1 : Int32)) s3
    · refine r_iload_n (pc := 22) hC rfl dX8_findPfaffians_22 ?_
      refine r_cT (pc := 23) (rest := []) (runS [.int i2] hC (c_J_bitCount (kl κ) (kW κ) hC.2.2.2.2.2.2.2.2.1 i2 s3) o_J6_bitCount_0f7a4 k_589 (rm_ok hR rfl) rfl (Nat.le_of_ble_eq_true rfl) dX8_findPfaffians_23) ?_
      refine r_iconst (pc := 26) hC (v := (2 : Int32)) (by decide) dX8_findPfaffians_26 ?_
      refine r_irem (pc := 27) hC (by decide) dX8_findPfaffians_27 ?_
      refine r_if_ne (pc := 28) (tgt := 42) hC dX8_findPfaffians_28 (by decide) ?_ ?_
      · refine r_iinc (pc := 42) hC (v := (1 : Int32)) rfl (by decide) rfl rfl dX8_findPfaffians_42 ?_
        refine r_goto (pc := 45) (tgt := 9) hC dX8_findPfaffians_45 (by decide) ?_
        exact ih9_4 (i2 + (1 : Int32)) s3
      · refine r_aload_n (pc := 31) hC rfl dX8_findPfaffians_31 ?_
        refine gC_6_2 (pc := 32) hC k_197 dX8_findPfaffians_32 ?_
        refine r_iload_n (pc := 35) hC rfl dX8_findPfaffians_35 ?_
        refine r_aload_n (pc := 36) hC rfl dX8_findPfaffians_36 ?_
        refine r_iload_n (pc := 37) hC rfl dX8_findPfaffians_37 ?_
        refine r_cO (pc := 38) (rest := [.int i2, .ref (ad κ 20)]) (fun r5 hf => runV [.int i2] hC (c_We_pfaffianOf (kl κ) (kW κ) hC.2.2.2.2.2.2.2.2.1 N i2 s3 r5 hf) o_X8_pfaffianOf k_590 (q0 := 6) (ci := 8) rfl rfl (rm_ok hR rfl) rfl (Nat.le_of_ble_eq_true rfl) dX8_findPfaffians_38) (fun r5 => ?_)
        refine bC_20 (pc := 41) hC dX8_findPfaffians_41 ?_
        refine r_letm (fun s6 => ?_)
        refine r_iinc (pc := 42) hC (v := (1 : Int32)) rfl (by decide) rfl rfl dX8_findPfaffians_42 ?_
        refine r_goto (pc := 45) (tgt := 9) hC dX8_findPfaffians_45 (by decide) ?_
        exact ih9_4 (i2 + (1 : Int32)) s6
set_option maxRecDepth 100000 in
set_option maxHeartbeats 4000000 in
theorem c_We_findPfaffians (l : Launch) (w : Wenv) (hw : okw w wC) (N : Nat) (a1 : Int32) (σ : Mem) (τ : Mem) (hf : f_We_findPfaffians N a1 σ = some τ) : Ctr l w wC yX8_findPfaffians cX8_findPfaffians 3 none 3 69 [.ref (w.2.2.1 6), .int a1] σ (cQv w wC τ) := mk_ctr (Q := fun κ => qM κ wC) (lv := [some (.ref (w.2.2.1 6)), some (.int a1), none]) (by decide) rfl hw (Nat.le_of_ble_eq_true rfl) rfl hf (fun κ h => by subst h; rfl) (fun κ hl h hR hC => by
    subst h
    exact w_We_findPfaffians hR hC N a1 σ)
-- DuelRound$Weights.shareAmong(I)Z (6, None) kind OM
def We_shareAmong_J55 (s5 : Mem) (i2 : Int32) (x6 : Int32) (self4 : Int32 → Int32 → Mem → Option (Int32 × Mem)) (y7 : Int32) : Option (Int32 × Mem) :=
  gd (inb i2 8) (bnd (sI s5 19 i2.toNatClampNeg (y7 * x6)) fun s8 =>
  gd (inb i2 8) (if (0 : Int32) < (gI s8 19 i2.toNatClampNeg) then
  (bnd (-y7) fun x9 =>
  self4 x9 (i2 + (1 : Int32)) s8)
  else
  (some ((0 : Int32), s8))))
def We_shareAmong_B4 (a1 : Int32) (self4 : Int32 → Int32 → Mem → Option (Int32 × Mem)) (i1 : Int32) (i2 : Int32) (s3 : Mem) : Option (Int32 × Mem) :=
  if (8 : Int32) ≤ i2 then
  (some ((1 : Int32), s3))
  else
  (gd (inb i2 8) (bnd (sI s3 19 i2.toNatClampNeg (0 : Int32)) fun s5 =>
  if (t_D_bitOf a1 i2) = (1 : Int32) then
  (gd (inb (a1 &&& (((1 : Int32) <<< (i2 &&& 31)) ^^^ (-1 : Int32))) 256) (bnd (gI s5 20 (a1 &&& (((1 : Int32) <<< (i2 &&& 31)) ^^^ (-1 : Int32))).toNatClampNeg) fun x6 =>
  if i1 = (0 : Int32) then
  (if x6 ≤ (0 : Int32) then
  (We_shareAmong_J55 s5 i2 x6 self4 (-1 : Int32))
  else
  (We_shareAmong_J55 s5 i2 x6 self4 (1 : Int32)))
  else
  (We_shareAmong_J55 s5 i2 x6 self4 i1)))
  else
  (self4 i1 (i2 + (1 : Int32)) s5)))
def f_We_shareAmong (N : Nat) (a1 : Int32) (σ : Mem) : Option (Int32 × Mem) :=
  it3 (We_shareAmong_B4 a1) N (0 : Int32) (0 : Int32) σ
set_option maxRecDepth 100000 in
set_option maxHeartbeats 4000000 in
theorem w_We_shareAmong {κ : Ctx} (hR : kR κ = { frames := 1, cells := 0, slots := 0, locals := 21 }) (hC : ok κ wC cX8_shareAmong 5 RX8 (some .boolean)) (N : Nat) (a1 : Int32) (σ : Mem) : wF κ wC 5 (qOM κ wC) σ 0 [some (.ref (ad κ 6)), some (.int a1), none, none, none] [] (f_We_shareAmong N a1 σ) := by
  unfold f_We_shareAmong
  refine r_iconst (pc := 0) hC (v := (0 : Int32)) (by decide) dX8_shareAmong_0 ?_
  refine r_istore_n (pc := 1) hC rfl rfl dX8_shareAmong_1 ?_
  refine r_iconst (pc := 2) hC (v := (0 : Int32)) (by decide) dX8_shareAmong_2 ?_
  refine r_istore_n (pc := 3) hC rfl rfl dX8_shareAmong_3 ?_
  refine w_it3 (fun i1 i2 s3 => s3) (fun i1 i2 s3 => [some (.ref (ad κ 6)), some (.int a1), some (.int i1), some (.int i2), none]) (fun self4 ih4_4 i1 i2 s3 => ?_) N (0 : Int32) (0 : Int32) σ
  unfold We_shareAmong_B4
  refine r_iload_n (pc := 4) hC rfl dX8_shareAmong_4 ?_
  refine r_bipush (pc := 5) hC (v := (8 : Int32)) (by decide) dX8_shareAmong_5 ?_
  refine r_icmp_ge (pc := 7) (tgt := 85) hC dX8_shareAmong_7 (by decide) ?_ ?_
  · refine r_iconst (pc := 85) hC (v := (1 : Int32)) (by decide) dX8_shareAmong_85 ?_
    exact r_retOM hC rfl dX8_shareAmong_86
  · refine r_aload_n (pc := 10) hC rfl dX8_shareAmong_10 ?_
    refine gC_6_1 (pc := 11) hC k_195 dX8_shareAmong_11 ?_
    refine r_iload_n (pc := 14) hC rfl dX8_shareAmong_14 ?_
    refine r_iconst (pc := 15) hC (v := (0 : Int32)) (by decide) dX8_shareAmong_15 ?_
    refine bC_19 (pc := 16) hC dX8_shareAmong_16 ?_
    refine r_letm (fun s5 => ?_)
    refine r_iload_n (pc := 17) hC rfl dX8_shareAmong_17 ?_
    refine r_iload_n (pc := 18) hC rfl dX8_shareAmong_18 ?_
    refine r_cT (pc := 19) (rest := []) (runSN [.int a1, .int i2] hC (c_D_bitOf (kl κ) (kW κ) hC.2.2.2.2.2.2.2.2.1 a1 i2 s5) o_X9_bitOf (k_598 hC.2.2.2.2.2.2.2.2.2) (rm_ok hR rfl) rfl (Nat.le_of_ble_eq_true rfl) dX8_shareAmong_19) ?_
    refine r_iconst (pc := 22) hC (v := (1 : Int32)) (by decide) dX8_shareAmong_22 ?_
    refine r_icmp_ne (pc := 23) (tgt := 79) hC dX8_shareAmong_23 (by decide) ?_ ?_
    · refine r_iinc (pc := 79) hC (v := (1 : Int32)) rfl (by decide) rfl rfl dX8_shareAmong_79 ?_
      refine r_goto (pc := 82) (tgt := 4) hC dX8_shareAmong_82 (by decide) ?_
      exact ih4_4 i1 (i2 + (1 : Int32)) s5
    · refine r_aload_n (pc := 26) hC rfl dX8_shareAmong_26 ?_
      refine gC_6_2 (pc := 27) hC k_197 dX8_shareAmong_27 ?_
      refine r_iload_n (pc := 30) hC rfl dX8_shareAmong_30 ?_
      refine r_iconst (pc := 31) hC (v := (1 : Int32)) (by decide) dX8_shareAmong_31 ?_
      refine r_iload_n (pc := 32) hC rfl dX8_shareAmong_32 ?_
      refine r_ishl (pc := 33) hC dX8_shareAmong_33 ?_
      refine r_iconst (pc := 34) hC (v := (-1 : Int32)) (by decide) dX8_shareAmong_34 ?_
      refine r_ixor (pc := 35) hC dX8_shareAmong_35 ?_
      refine r_iand (pc := 36) hC dX8_shareAmong_36 ?_
      refine aC_20 (pc := 37) hC dX8_shareAmong_37 ?_
      refine r_let (fun x6 => ?_)
      refine r_istore (pc := 38) hC rfl rfl dX8_shareAmong_38 ?_
      refine r_iload_n (pc := 40) hC rfl dX8_shareAmong_40 ?_
      have hJ55_9 : ∀ (y7 : Int32), wF κ wC 5 (qOM κ wC) s5 55 [some (.ref (ad κ 6)), some (.int a1), some (.int y7), some (.int i2), some (.int x6)] [] (We_shareAmong_J55 s5 i2 x6 self4 y7) := by
        intro y7
        unfold We_shareAmong_J55
        refine r_aload_n (pc := 55) hC rfl dX8_shareAmong_55 ?_
        refine gC_6_1 (pc := 56) hC k_195 dX8_shareAmong_56 ?_
        refine r_iload_n (pc := 59) hC rfl dX8_shareAmong_59 ?_
        refine r_iload_n (pc := 60) hC rfl dX8_shareAmong_60 ?_
        refine r_iload (pc := 61) hC rfl dX8_shareAmong_61 ?_
        refine r_imul (pc := 63) hC dX8_shareAmong_63 ?_
        refine bC_19 (pc := 64) hC dX8_shareAmong_64 ?_
        refine r_letm (fun s8 => ?_)
        refine r_aload_n (pc := 65) hC rfl dX8_shareAmong_65 ?_
        refine gC_6_1 (pc := 66) hC k_195 dX8_shareAmong_66 ?_
        refine r_iload_n (pc := 69) hC rfl dX8_shareAmong_69 ?_
        refine aC_19 (pc := 70) hC dX8_shareAmong_70 ?_
        refine r_if_gt (pc := 71) (tgt := 76) hC dX8_shareAmong_71 (by decide) ?_ ?_
        · refine r_iload_n (pc := 76) hC rfl dX8_shareAmong_76 ?_
          refine r_ineg (pc := 77) hC dX8_shareAmong_77 ?_
          refine r_let (fun x9 => ?_)
          refine r_istore_n (pc := 78) hC rfl rfl dX8_shareAmong_78 ?_
          refine r_iinc (pc := 79) hC (v := (1 : Int32)) rfl (by decide) rfl rfl dX8_shareAmong_79 ?_
          refine r_goto (pc := 82) (tgt := 4) hC dX8_shareAmong_82 (by decide) ?_
          exact r_wk [true, true, true, true, false] (ih4_4 x9 (i2 + (1 : Int32)) s8)
        · refine r_iconst (pc := 74) hC (v := (0 : Int32)) (by decide) dX8_shareAmong_74 ?_
          exact r_retOM hC rfl dX8_shareAmong_75
      refine r_if_ne (pc := 41) (tgt := 55) hC dX8_shareAmong_41 (by decide) ?_ ?_
      · exact hJ55_9 i1
      · refine r_iload (pc := 44) hC rfl dX8_shareAmong_44 ?_
        refine r_if_le (pc := 46) (tgt := 53) hC dX8_shareAmong_46 (by decide) ?_ ?_
        · refine r_iconst (pc := 53) hC (v := (-1 : Int32)) (by decide) dX8_shareAmong_53 ?_
          refine r_istore_n (pc := 54) hC rfl rfl dX8_shareAmong_54 ?_
          exact hJ55_9 (-1 : Int32)
        · refine r_iconst (pc := 49) hC (v := (1 : Int32)) (by decide) dX8_shareAmong_49 ?_
          refine r_goto (pc := 50) (tgt := 54) hC dX8_shareAmong_50 (by decide) ?_
          refine r_istore_n (pc := 54) hC rfl rfl dX8_shareAmong_54 ?_
          exact hJ55_9 (1 : Int32)
set_option maxRecDepth 100000 in
set_option maxHeartbeats 4000000 in
theorem c_We_shareAmong (l : Launch) (w : Wenv) (hw : okw w wC) (N : Nat) (a1 : Int32) (σ : Mem) (r : Int32) (τ : Mem) (hf : f_We_shareAmong N a1 σ = some (r, τ)) : Ctr l w wC yX8_shareAmong cX8_shareAmong 5 (some .boolean) 1 21 [.ref (w.2.2.1 6), .int a1] σ (cQi w wC r τ) := mk_ctr (Q := fun κ => qOM κ wC) (lv := [some (.ref (w.2.2.1 6)), some (.int a1), none, none, none]) (by decide) rfl hw (Nat.le_of_ble_eq_true rfl) rfl hf (fun κ h => by subst h; rfl) (fun κ hl h hR hC => by
    subst h
    exact w_We_shareAmong hR hC N a1 σ)
-- DuelRound$Weights.gainOf(I[I)I (6, None, 19) kind O
def We_gainOfS_B5 (σ : Mem) (a1 : Int32) (self3 : Int32 → Int32 → Option Int32) (i1 : Int32) (i2 : Int32) : Option Int32 :=
  if (gI σ 3 0) ≤ i2 then
  (some i1)
  else
  (if i2 = a1 then
  (self3 i1 (i2 + (1 : Int32)))
  else
  (ob (f_Du_isBeatingN a1 i2 σ) fun r4 =>
  if r4 = (0 : Int32) then
  (gd (inb i2 8) (bnd (i1 + (-(gI σ 19 i2.toNatClampNeg))) fun x5 =>
  self3 x5 (i2 + (1 : Int32))))
  else
  (gd (inb i2 8) (bnd (i1 + (gI σ 19 i2.toNatClampNeg)) fun x6 =>
  self3 x6 (i2 + (1 : Int32))))))
def f_We_gainOfS (N : Nat) (a1 : Int32) (σ : Mem) : Option Int32 :=
  it2 (We_gainOfS_B5 σ a1) N (0 : Int32) (0 : Int32)
set_option maxRecDepth 100000 in
set_option maxHeartbeats 4000000 in
theorem w_We_gainOfS {κ : Ctx} (hR : kR κ = { frames := 1, cells := 0, slots := 0, locals := 22 }) (hC : ok κ wC cX8_gainOf 5 RX8 (some .int)) (N : Nat) (a1 : Int32) (σ : Mem) : wF κ wC 5 (qO κ wC σ) σ 0 [some (.ref (ad κ 6)), some (.int a1), some (.ref (ad κ 19)), none, none] [] (f_We_gainOfS N a1 σ) := by
  unfold f_We_gainOfS
  refine r_iconst (pc := 0) hC (v := (0 : Int32)) (by decide) dX8_gainOf_0 ?_
  refine r_istore_n (pc := 1) hC rfl rfl dX8_gainOf_1 ?_
  refine r_iconst (pc := 2) hC (v := (0 : Int32)) (by decide) dX8_gainOf_2 ?_
  refine r_istore (pc := 3) hC rfl rfl dX8_gainOf_3 ?_
  refine w_it2 (fun i1 i2 => σ) (fun i1 i2 => [some (.ref (ad κ 6)), some (.int a1), some (.ref (ad κ 19)), some (.int i1), some (.int i2)]) (fun self3 ih5_3 i1 i2 => ?_) N (0 : Int32) (0 : Int32)
  unfold We_gainOfS_B5
  refine r_iload (pc := 5) hC rfl dX8_gainOf_5 ?_
  refine r_aload_n (pc := 7) hC rfl dX8_gainOf_7 ?_
  refine gC_6_0 (pc := 8) hC k_194 dX8_gainOf_8 ?_
  refine gC_2_1 (pc := 11) hC k_143 dX8_gainOf_11 ?_
  refine r_icmp_ge (pc := 14) (tgt := 57) hC dX8_gainOf_14 (by decide) ?_ ?_
  · refine r_iload_n (pc := 57) hC rfl dX8_gainOf_57 ?_
    exact r_retO hC rfl dX8_gainOf_58
  · refine r_iload (pc := 17) hC rfl dX8_gainOf_17 ?_
    refine r_iload_n (pc := 19) hC rfl dX8_gainOf_19 ?_
    refine r_icmp_eq (pc := 20) (tgt := 51) hC dX8_gainOf_20 (by decide) ?_ ?_
    · refine r_iinc (pc := 51) hC (v := (1 : Int32)) rfl (by decide) rfl rfl dX8_gainOf_51 ?_
      refine r_goto (pc := 54) (tgt := 5) hC dX8_gainOf_54 (by decide) ?_
      exact ih5_3 i1 (i2 + (1 : Int32))
    · refine r_iload_n (pc := 23) hC rfl dX8_gainOf_23 ?_
      refine r_aload_n (pc := 24) hC rfl dX8_gainOf_24 ?_
      refine gC_6_0 (pc := 25) hC k_194 dX8_gainOf_25 ?_
      refine r_iload_n (pc := 28) hC rfl dX8_gainOf_28 ?_
      refine r_iload (pc := 29) hC rfl dX8_gainOf_29 ?_
      refine r_cO (pc := 31) (rest := [.int i1]) (fun r4 hf => runV [.int a1, .int i2] hC (c_Du_isBeatingN (kl κ) (kW κ) hC.2.2.2.2.2.2.2.2.1 a1 i2 σ r4 hf) o_X1_isBeating k_599 (q0 := 2) (ci := 1) rfl rfl (rm_ok hR rfl) rfl (Nat.le_of_ble_eq_true rfl) dX8_gainOf_31) (fun r4 => ?_)
      refine r_if_eq (pc := 34) (tgt := 44) hC dX8_gainOf_34 (by decide) ?_ ?_
      · refine r_aload_n (pc := 44) hC rfl dX8_gainOf_44 ?_
        refine r_iload (pc := 45) hC rfl dX8_gainOf_45 ?_
        refine aC_19 (pc := 47) hC dX8_gainOf_47 ?_
        refine r_ineg (pc := 48) hC dX8_gainOf_48 ?_
        refine r_iadd (pc := 49) hC dX8_gainOf_49 ?_
        refine r_let (fun x5 => ?_)
        refine r_istore_n (pc := 50) hC rfl rfl dX8_gainOf_50 ?_
        refine r_iinc (pc := 51) hC (v := (1 : Int32)) rfl (by decide) rfl rfl dX8_gainOf_51 ?_
        refine r_goto (pc := 54) (tgt := 5) hC dX8_gainOf_54 (by decide) ?_
        exact ih5_3 x5 (i2 + (1 : Int32))
      · refine r_aload_n (pc := 37) hC rfl dX8_gainOf_37 ?_
        refine r_iload (pc := 38) hC rfl dX8_gainOf_38 ?_
        refine aC_19 (pc := 40) hC dX8_gainOf_40 ?_
        refine r_goto (pc := 41) (tgt := 49) hC dX8_gainOf_41 (by decide) ?_
        refine r_iadd (pc := 49) hC dX8_gainOf_49 ?_
        refine r_let (fun x6 => ?_)
        refine r_istore_n (pc := 50) hC rfl rfl dX8_gainOf_50 ?_
        refine r_iinc (pc := 51) hC (v := (1 : Int32)) rfl (by decide) rfl rfl dX8_gainOf_51 ?_
        refine r_goto (pc := 54) (tgt := 5) hC dX8_gainOf_54 (by decide) ?_
        exact ih5_3 x6 (i2 + (1 : Int32))
set_option maxRecDepth 100000 in
set_option maxHeartbeats 4000000 in
theorem c_We_gainOfS (l : Launch) (w : Wenv) (hw : okw w wC) (N : Nat) (a1 : Int32) (σ : Mem) (r : Int32) (hf : f_We_gainOfS N a1 σ = some r) : Ctr l w wC yX8_gainOf cX8_gainOf 5 (some .int) 1 22 [.ref (w.2.2.1 6), .int a1, .ref (w.2.2.1 19)] σ (cQi w wC r σ) := mk_ctr (Q := fun κ => qO κ wC σ) (lv := [some (.ref (w.2.2.1 6)), some (.int a1), some (.ref (w.2.2.1 19)), none, none]) (by decide) rfl hw (Nat.le_of_ble_eq_true rfl) rfl hf (fun κ h => by subst h; rfl) (fun κ hl h hR hC => by
    subst h
    exact w_We_gainOfS hR hC N a1 σ)
-- DuelRound$Weights.nobodyGains(I[I)Z (6, None, 19) kind O
def We_nobodyGainsS_B2 (N : Nat) (σ : Mem) (a1 : Int32) (self2 : Int32 → Option Int32) (i1 : Int32) : Option Int32 :=
  if (gI σ 3 0) ≤ i1 then
  (some (1 : Int32))
  else
  (if (t_D_bitOf a1 i1) = (1 : Int32) then
  (ob (f_We_gainOfS N i1 σ) fun r3 =>
  if r3 ≤ (0 : Int32) then
  (self2 (i1 + (1 : Int32)))
  else
  (some (0 : Int32)))
  else
  (self2 (i1 + (1 : Int32))))
def f_We_nobodyGainsS (N : Nat) (a1 : Int32) (σ : Mem) : Option Int32 :=
  it1 (We_nobodyGainsS_B2 N σ a1) N (0 : Int32)
set_option maxRecDepth 100000 in
set_option maxHeartbeats 4000000 in
theorem w_We_nobodyGainsS {κ : Ctx} (hR : kR κ = { frames := 2, cells := 0, slots := 0, locals := 46 }) (hC : ok κ wC cX8_nobodyGains 4 RX8 (some .boolean)) (N : Nat) (a1 : Int32) (σ : Mem) : wF κ wC 4 (qO κ wC σ) σ 0 [some (.ref (ad κ 6)), some (.int a1), some (.ref (ad κ 19)), none] [] (f_We_nobodyGainsS N a1 σ) := by
  unfold f_We_nobodyGainsS
  refine r_iconst (pc := 0) hC (v := (0 : Int32)) (by decide) dX8_nobodyGains_0 ?_
  refine r_istore_n (pc := 1) hC rfl rfl dX8_nobodyGains_1 ?_
  refine w_it1 (fun i1 => σ) (fun i1 => [some (.ref (ad κ 6)), some (.int a1), some (.ref (ad κ 19)), some (.int i1)]) (fun self2 ih2_2 i1 => ?_) N (0 : Int32)
  unfold We_nobodyGainsS_B2
  refine r_iload_n (pc := 2) hC rfl dX8_nobodyGains_2 ?_
  refine r_aload_n (pc := 3) hC rfl dX8_nobodyGains_3 ?_
  refine gC_6_0 (pc := 4) hC k_194 dX8_nobodyGains_4 ?_
  refine gC_2_1 (pc := 7) hC k_143 dX8_nobodyGains_7 ?_
  refine r_icmp_ge (pc := 10) (tgt := 39) hC dX8_nobodyGains_10 (by decide) ?_ ?_
  · refine r_iconst (pc := 39) hC (v := (1 : Int32)) (by decide) dX8_nobodyGains_39 ?_
    exact r_retO hC rfl dX8_nobodyGains_40
  · refine r_iload_n (pc := 13) hC rfl dX8_nobodyGains_13 ?_
    refine r_iload_n (pc := 14) hC rfl dX8_nobodyGains_14 ?_
    refine r_cT (pc := 15) (rest := []) (runSN [.int a1, .int i1] hC (c_D_bitOf (kl κ) (kW κ) hC.2.2.2.2.2.2.2.2.1 a1 i1 σ) o_X9_bitOf (k_598 hC.2.2.2.2.2.2.2.2.2) (rm_ok hR rfl) rfl (Nat.le_of_ble_eq_true rfl) dX8_nobodyGains_15) ?_
    refine r_iconst (pc := 18) hC (v := (1 : Int32)) (by decide) dX8_nobodyGains_18 ?_
    refine r_icmp_ne (pc := 19) (tgt := 33) hC dX8_nobodyGains_19 (by decide) ?_ ?_
    · refine r_iinc (pc := 33) hC (v := (1 : Int32)) rfl (by decide) rfl rfl dX8_nobodyGains_33 ?_
      refine r_goto (pc := 36) (tgt := 2) hC dX8_nobodyGains_36 (by decide) ?_
      exact ih2_2 (i1 + (1 : Int32))
    · refine r_aload_n (pc := 22) hC rfl dX8_nobodyGains_22 ?_
      refine r_iload_n (pc := 23) hC rfl dX8_nobodyGains_23 ?_
      refine r_aload_n (pc := 24) hC rfl dX8_nobodyGains_24 ?_
      refine r_cO (pc := 25) (rest := []) (fun r3 hf => runV [.int i1, .ref (ad κ 19)] hC (c_We_gainOfS (kl κ) (kW κ) hC.2.2.2.2.2.2.2.2.1 N i1 σ r3 hf) o_X8_gainOf k_608 (q0 := 6) (ci := 8) rfl rfl (rm_ok hR rfl) rfl (Nat.le_of_ble_eq_true rfl) dX8_nobodyGains_25) (fun r3 => ?_)
      refine r_if_le (pc := 28) (tgt := 33) hC dX8_nobodyGains_28 (by decide) ?_ ?_
      · refine r_iinc (pc := 33) hC (v := (1 : Int32)) rfl (by decide) rfl rfl dX8_nobodyGains_33 ?_
        refine r_goto (pc := 36) (tgt := 2) hC dX8_nobodyGains_36 (by decide) ?_
        exact ih2_2 (i1 + (1 : Int32))
      · refine r_iconst (pc := 31) hC (v := (0 : Int32)) (by decide) dX8_nobodyGains_31 ?_
        exact r_retO hC rfl dX8_nobodyGains_32
set_option maxRecDepth 100000 in
set_option maxHeartbeats 4000000 in
theorem c_We_nobodyGainsS (l : Launch) (w : Wenv) (hw : okw w wC) (N : Nat) (a1 : Int32) (σ : Mem) (r : Int32) (hf : f_We_nobodyGainsS N a1 σ = some r) : Ctr l w wC yX8_nobodyGains cX8_nobodyGains 4 (some .boolean) 2 46 [.ref (w.2.2.1 6), .int a1, .ref (w.2.2.1 19)] σ (cQi w wC r σ) := mk_ctr (Q := fun κ => qO κ wC σ) (lv := [some (.ref (w.2.2.1 6)), some (.int a1), some (.ref (w.2.2.1 19)), none]) (by decide) rfl hw (Nat.le_of_ble_eq_true rfl) rfl hf (fun κ h => by subst h; rfl) (fun κ hl h hR hC => by
    subst h
    exact w_We_nobodyGainsS hR hC N a1 σ)
-- DuelRound$Weights.commonDivisor(II)I (None, None) kind O
def We_commonDivisor_B7 (self4 : Int32 → Int32 → Int32 → Option Int32) (i1 : Int32) (i2 : Int32) (i3 : Int32) : Option Int32 :=
  if (100 : Int32) ≤ i3 then
  (some i1)
  else
  (if i2 ≤ (0 : Int32) then
  (some i1)
  else
  (gd (nz i2) (bnd (i1 - i1 / i2 * i2) fun x5 =>
  self4 i2 x5 (i3 + (1 : Int32)))))
def f_We_commonDivisor (N : Nat) (a1 : Int32) (a2 : Int32) : Option Int32 :=
  it3 (We_commonDivisor_B7) N a1 a2 (0 : Int32)
set_option maxRecDepth 100000 in
set_option maxHeartbeats 4000000 in
theorem w_We_commonDivisor {κ : Ctx} (hR : kR κ = { frames := 0, cells := 0, slots := 0, locals := 0 }) (hC : ok κ wC cX8_commonDivisor 6 RX8 (some .int)) (N : Nat) (a1 : Int32) (a2 : Int32) (σ : Mem) : wF κ wC 6 (qO κ wC σ) σ 0 [some (.int a1), some (.int a2), none, none, none, none] [] (f_We_commonDivisor N a1 a2) := by
  unfold f_We_commonDivisor
  refine r_iload_n (pc := 0) hC rfl dX8_commonDivisor_0 ?_
  refine r_istore_n (pc := 1) hC rfl rfl dX8_commonDivisor_1 ?_
  refine r_iload_n (pc := 2) hC rfl dX8_commonDivisor_2 ?_
  refine r_istore_n (pc := 3) hC rfl rfl dX8_commonDivisor_3 ?_
  refine r_iconst (pc := 4) hC (v := (0 : Int32)) (by decide) dX8_commonDivisor_4 ?_
  refine r_istore (pc := 5) hC rfl rfl dX8_commonDivisor_5 ?_
  refine r_wk [false, false, true, true, true, false] (w_it3 (fun i1 i2 i3 => σ) (fun i1 i2 i3 => [none, none, some (.int i1), some (.int i2), some (.int i3), none]) (fun self4 ih7_4 i1 i2 i3 => ?_) N a1 a2 (0 : Int32))
  unfold We_commonDivisor_B7
  refine r_iload (pc := 7) hC rfl dX8_commonDivisor_7 ?_
  refine r_bipush (pc := 9) hC (v := (100 : Int32)) (by decide) dX8_commonDivisor_9 ?_
  refine r_icmp_ge (pc := 11) (tgt := 34) hC dX8_commonDivisor_11 (by decide) ?_ ?_
  · refine r_iload_n (pc := 34) hC rfl dX8_commonDivisor_34 ?_
    exact r_retO hC rfl dX8_commonDivisor_35
  · refine r_iload_n (pc := 14) hC rfl dX8_commonDivisor_14 ?_
    refine r_if_le (pc := 15) (tgt := 34) hC dX8_commonDivisor_15 (by decide) ?_ ?_
    · refine r_iload_n (pc := 34) hC rfl dX8_commonDivisor_34 ?_
      exact r_retO hC rfl dX8_commonDivisor_35
    · refine r_iload_n (pc := 18) hC rfl dX8_commonDivisor_18 ?_
      refine r_iload_n (pc := 19) hC rfl dX8_commonDivisor_19 ?_
      refine r_iremG (pc := 20) hC dX8_commonDivisor_20 ?_
      refine r_let (fun x5 => ?_)
      refine r_istore (pc := 21) hC rfl rfl dX8_commonDivisor_21 ?_
      refine r_iload_n (pc := 23) hC rfl dX8_commonDivisor_23 ?_
      refine r_istore_n (pc := 24) hC rfl rfl dX8_commonDivisor_24 ?_
      refine r_iload (pc := 25) hC rfl dX8_commonDivisor_25 ?_
      refine r_istore_n (pc := 27) hC rfl rfl dX8_commonDivisor_27 ?_
      refine r_iinc (pc := 28) hC (v := (1 : Int32)) rfl (by decide) rfl rfl dX8_commonDivisor_28 ?_
      refine r_goto (pc := 31) (tgt := 7) hC dX8_commonDivisor_31 (by decide) ?_
      exact r_wk [false, false, true, true, true, false] (ih7_4 i2 x5 (i3 + (1 : Int32)))
set_option maxRecDepth 100000 in
set_option maxHeartbeats 4000000 in
theorem c_We_commonDivisor (l : Launch) (w : Wenv) (hw : okw w wC) (N : Nat) (a1 : Int32) (a2 : Int32) (σ : Mem) (r : Int32) (hf : f_We_commonDivisor N a1 a2 = some r) : Ctr l w wC yX8_commonDivisor cX8_commonDivisor 6 (some .int) 0 0 [.int a1, .int a2] σ (cQi w wC r σ) := mk_ctr (Q := fun κ => qO κ wC σ) (lv := [some (.int a1), some (.int a2), none, none, none, none]) (by decide) rfl hw (Nat.le_of_ble_eq_true rfl) rfl hf (fun κ h => by subst h; rfl) (fun κ hl h hR hC => by
    subst h
    exact w_We_commonDivisor hR hC N a1 a2 σ)
-- DuelRound$Weights.divideShares()V (6,) kind M
def We_divideShares_B35 (y1 : Int32) (self4 : Int32 → Mem → Option Mem) (i2 : Int32) (s3 : Mem) : Option Mem :=
  if (8 : Int32) ≤ i2 then
  (some s3)
  else
  (gd (inb i2 8) (gd (nz y1) (gd (inb i2 8) (bnd (sI s3 19 i2.toNatClampNeg ((gI s3 19 i2.toNatClampNeg) / y1)) fun s5 =>
  self4 (i2 + (1 : Int32)) s5))))
def We_divideShares_K27 (N : Nat) (σ : Mem) (y1 : Int32) : Option Mem :=
  if (1 : Int32) < y1 then
  (it2 (We_divideShares_B35 y1) N (0 : Int32) σ)
  else
  (some σ)
def We_divideShares_B4 (N : Nat) (σ : Mem) (self8 : Int32 → Int32 → Option Mem) (i6 : Int32) (i7 : Int32) : Option Mem :=
  if (8 : Int32) ≤ i7 then
  (We_divideShares_K27 N σ i6)
  else
  (gd (inb i7 8) (ob (f_We_commonDivisor N i6 (gI σ 19 i7.toNatClampNeg)) fun r9 =>
  self8 r9 (i7 + (1 : Int32))))
def f_We_divideShares (N : Nat) (σ : Mem) : Option Mem :=
  it2 (We_divideShares_B4 N σ) N (0 : Int32) (0 : Int32)
set_option maxRecDepth 100000 in
set_option maxHeartbeats 4000000 in
theorem w_We_divideShares {κ : Ctx} (hR : kR κ = { frames := 1, cells := 0, slots := 0, locals := 25 }) (hC : ok κ wC cX8_divideShares 3 RX8 none) (N : Nat) (σ : Mem) : wF κ wC 3 (qM κ wC) σ 0 [some (.ref (ad κ 6)), none, none] [] (f_We_divideShares N  σ) := by
  unfold f_We_divideShares
  refine r_iconst (pc := 0) hC (v := (0 : Int32)) (by decide) dX8_divideShares_0 ?_
  refine r_istore_n (pc := 1) hC rfl rfl dX8_divideShares_1 ?_
  refine r_iconst (pc := 2) hC (v := (0 : Int32)) (by decide) dX8_divideShares_2 ?_
  refine r_istore_n (pc := 3) hC rfl rfl dX8_divideShares_3 ?_
  have hK27_5 : ∀ (y1 : Int32), wF κ wC 3 (qM κ wC) σ 27 [some (.ref (ad κ 6)), some (.int y1), none] [] (We_divideShares_K27 N σ y1) := by
    intro y1
    unfold We_divideShares_K27
    refine r_iload_n (pc := 27) hC rfl dX8_divideShares_27 ?_
    refine r_iconst (pc := 28) hC (v := (1 : Int32)) (by decide) dX8_divideShares_28 ?_
    refine r_icmp_gt (pc := 29) (tgt := 33) hC dX8_divideShares_29 (by decide) ?_ ?_
    · refine r_iconst (pc := 33) hC (v := (0 : Int32)) (by decide) dX8_divideShares_33 ?_
      refine r_istore_n (pc := 34) hC rfl rfl dX8_divideShares_34 ?_
      refine w_it2 (fun i2 s3 => s3) (fun i2 s3 => [some (.ref (ad κ 6)), some (.int y1), some (.int i2)]) (fun self4 ih35_4 i2 s3 => ?_) N (0 : Int32) σ
      unfold We_divideShares_B35
      refine r_iload_n (pc := 35) hC rfl dX8_divideShares_35 ?_
      refine r_bipush (pc := 36) hC (v := (8 : Int32)) (by decide) dX8_divideShares_36 ?_
      refine r_icmp_ge (pc := 38) (tgt := 57) hC dX8_divideShares_38 (by decide) ?_ ?_
      · exact r_retM hC dX8_divideShares_57
      · refine r_aload_n (pc := 41) hC rfl dX8_divideShares_41 ?_
        refine gC_6_1 (pc := 42) hC k_195 dX8_divideShares_42 ?_
        refine r_iload_n (pc := 45) hC rfl dX8_divideShares_45 ?_
        refine r_dup2 (pc := 46) hC rfl rfl dX8_divideShares_46 ?_
        refine aC_19 (pc := 47) hC dX8_divideShares_47 ?_
        refine r_iload_n (pc := 48) hC rfl dX8_divideShares_48 ?_
        refine r_idivG (pc := 49) hC dX8_divideShares_49 ?_
        refine bC_19 (pc := 50) hC dX8_divideShares_50 ?_
        refine r_letm (fun s5 => ?_)
        refine r_iinc (pc := 51) hC (v := (1 : Int32)) rfl (by decide) rfl rfl dX8_divideShares_51 ?_
        refine r_goto (pc := 54) (tgt := 35) hC dX8_divideShares_54 (by decide) ?_
        exact ih35_4 (i2 + (1 : Int32)) s5
    · exact r_retM hC dX8_divideShares_32
  refine w_it2 (fun i6 i7 => σ) (fun i6 i7 => [some (.ref (ad κ 6)), some (.int i6), some (.int i7)]) (fun self8 ih4_8 i6 i7 => ?_) N (0 : Int32) (0 : Int32)
  unfold We_divideShares_B4
  refine r_iload_n (pc := 4) hC rfl dX8_divideShares_4 ?_
  refine r_bipush (pc := 5) hC (v := (8 : Int32)) (by decide) dX8_divideShares_5 ?_
  refine r_icmp_ge (pc := 7) (tgt := 27) hC dX8_divideShares_7 (by decide) ?_ ?_
  · exact r_wk [true, true, false] (hK27_5 i6)
  · refine r_iload_n (pc := 10) hC rfl dX8_divideShares_10 ?_
    refine r_aload_n (pc := 11) hC rfl dX8_divideShares_11 ?_
    refine gC_6_1 (pc := 12) hC k_195 dX8_divideShares_12 ?_
    refine r_iload_n (pc := 15) hC rfl dX8_divideShares_15 ?_
    refine aC_19 (pc := 16) hC dX8_divideShares_16 ?_
    refine r_cO (pc := 17) (rest := []) (fun r9 hf => runS [.int i6, .int (gI σ 19 i7.toNatClampNeg)] hC (c_We_commonDivisor (kl κ) (kW κ) hC.2.2.2.2.2.2.2.2.1 N i6 (gI σ 19 i7.toNatClampNeg) σ r9 hf) o_X8_commonDivisor k_616 (rm_ok hR rfl) rfl (Nat.le_of_ble_eq_true rfl) dX8_divideShares_17) (fun r9 => ?_)
    refine r_istore_n (pc := 20) hC rfl rfl dX8_divideShares_20 ?_
    refine r_iinc (pc := 21) hC (v := (1 : Int32)) rfl (by decide) rfl rfl dX8_divideShares_21 ?_
    refine r_goto (pc := 24) (tgt := 4) hC dX8_divideShares_24 (by decide) ?_
    exact ih4_8 r9 (i7 + (1 : Int32))
set_option maxRecDepth 100000 in
set_option maxHeartbeats 4000000 in
theorem c_We_divideShares (l : Launch) (w : Wenv) (hw : okw w wC) (N : Nat) (σ : Mem) (τ : Mem) (hf : f_We_divideShares N  σ = some τ) : Ctr l w wC yX8_divideShares cX8_divideShares 3 none 1 25 [.ref (w.2.2.1 6)] σ (cQv w wC τ) := mk_ctr (Q := fun κ => qM κ wC) (lv := [some (.ref (w.2.2.1 6)), none, none]) (by decide) rfl hw (Nat.le_of_ble_eq_true rfl) rfl hf (fun κ h => by subst h; rfl) (fun κ hl h hR hC => by
    subst h
    exact w_We_divideShares hR hC N  σ)
-- DuelRound$Weights.balance(I)I (6, None) kind OM
def We_balance_K50 (N : Nat) (y2 : Int32) (s3 : Mem) : Option (Int32 × Mem) :=
  ob (f_We_divideShares N s3) fun s4 =>
  some (y2, s4)
def We_balance_B7 (N : Nat) (a1 : Int32) (self7 : Int32 → Mem → Option (Int32 × Mem)) (i5 : Int32) (s6 : Mem) : Option (Int32 × Mem) :=
  if a1 < i5 then
  (some ((0 : Int32), s6))
  else
  (if (i5 &&& (a1 ^^^ (-1 : Int32))) = (0 : Int32) then
  (if ((t_J_bitCount i5) - (t_J_bitCount i5) / (2 : Int32) * (2 : Int32)) = (1 : Int32) then
  (ob2 (f_We_shareAmong N i5 s6) fun r9 s8 =>
  if r9 = (0 : Int32) then
  (self7 (i5 + (1 : Int32)) s8)
  else
  (ob (f_We_nobodyGainsS N a1 s8) fun r10 =>
  if r10 = (0 : Int32) then
  (self7 (i5 + (1 : Int32)) s8)
  else
  (We_balance_K50 N i5 s8)))
  else
  (self7 (i5 + (1 : Int32)) s6))
  else
  (self7 (i5 + (1 : Int32)) s6))
def f_We_balance (N : Nat) (a1 : Int32) (σ : Mem) : Option (Int32 × Mem) :=
  ob (f_We_findPfaffians N a1 σ) fun s1 =>
  it2 (We_balance_B7 N a1) N (1 : Int32) s1
set_option maxRecDepth 100000 in
set_option maxHeartbeats 4000000 in
theorem w_We_balance {κ : Ctx} (hR : kR κ = { frames := 4, cells := 0, slots := 0, locals := 91 }) (hC : ok κ wC cX8_balance 3 RX8 (some .int)) (N : Nat) (a1 : Int32) (σ : Mem) : wF κ wC 3 (qOM κ wC) σ 0 [some (.ref (ad κ 6)), some (.int a1), none] [] (f_We_balance N a1 σ) := by
  unfold f_We_balance
  refine r_aload_n (pc := 0) hC rfl dX8_balance_0 ?_
  refine r_iload_n (pc := 1) hC rfl dX8_balance_1 ?_
  refine r_cM (pc := 2) (rest := []) (fun s1 hf => runV [.int a1] hC (c_We_findPfaffians (kl κ) (kW κ) hC.2.2.2.2.2.2.2.2.1 N a1 σ s1 hf) o_X8_findPfaffians k_585 (q0 := 6) (ci := 8) rfl rfl (rm_ok hR rfl) rfl (Nat.le_of_ble_eq_true rfl) dX8_balance_2) (fun s1 => ?_)
  refine r_iconst (pc := 5) hC (v := (1 : Int32)) (by decide) dX8_balance_5 ?_
  refine r_istore_n (pc := 6) hC rfl rfl dX8_balance_6 ?_
  have hK50_4 : ∀ (y2 : Int32) (s3 : Mem), wF κ wC 3 (qOM κ wC) s3 50 [some (.ref (ad κ 6)), none, some (.int y2)] [] (We_balance_K50 N y2 s3) := by
    intro y2 s3
    unfold We_balance_K50
    refine r_aload_n (pc := 50) hC rfl dX8_balance_50 ?_
    refine r_cM (pc := 51) (rest := []) (fun s4 hf => runV [] hC (c_We_divideShares (kl κ) (kW κ) hC.2.2.2.2.2.2.2.2.1 N s3 s4 hf) o_X8_divideShares k_612 (q0 := 6) (ci := 8) rfl rfl (rm_ok hR rfl) rfl (Nat.le_of_ble_eq_true rfl) dX8_balance_51) (fun s4 => ?_)
    refine r_iload_n (pc := 54) hC rfl dX8_balance_54 ?_
    exact r_retOM hC rfl dX8_balance_55
  refine w_it2 (fun i5 s6 => s6) (fun i5 s6 => [some (.ref (ad κ 6)), some (.int a1), some (.int i5)]) (fun self7 ih7_7 i5 s6 => ?_) N (1 : Int32) s1
  unfold We_balance_B7
  refine r_iload_n (pc := 7) hC rfl dX8_balance_7 ?_
  refine r_iload_n (pc := 8) hC rfl dX8_balance_8 ?_
  refine r_icmp_gt (pc := 9) (tgt := 62) hC dX8_balance_9 (by decide) ?_ ?_
  · refine r_iconst (pc := 62) hC (v := (0 : Int32)) (by decide) dX8_balance_62 ?_
    exact r_retOM hC rfl dX8_balance_63
  · refine r_iload_n (pc := 12) hC rfl dX8_balance_12 ?_
    refine r_iload_n (pc := 13) hC rfl dX8_balance_13 ?_
    refine r_iconst (pc := 14) hC (v := (-1 : Int32)) (by decide) dX8_balance_14 ?_
    refine r_ixor (pc := 15) hC dX8_balance_15 ?_
    refine r_iand (pc := 16) hC dX8_balance_16 ?_
    refine r_if_ne (pc := 17) (tgt := 56) hC dX8_balance_17 (by decide) ?_ ?_
    · refine r_iinc (pc := 56) hC (v := (1 : Int32)) rfl (by decide) rfl rfl dX8_balance_56 ?_
      refine r_goto (pc := 59) (tgt := 7) hC dX8_balance_59 (by decide) ?_
      exact ih7_7 (i5 + (1 : Int32)) s6
    · refine r_iload_n (pc := 20) hC rfl dX8_balance_20 ?_
      refine r_cT (pc := 21) (rest := []) (runS [.int i5] hC (c_J_bitCount (kl κ) (kW κ) hC.2.2.2.2.2.2.2.2.1 i5 s6) o_J6_bitCount_0f7a4 k_589 (rm_ok hR rfl) rfl (Nat.le_of_ble_eq_true rfl) dX8_balance_21) ?_
      refine r_iconst (pc := 24) hC (v := (2 : Int32)) (by decide) dX8_balance_24 ?_
      refine r_irem (pc := 25) hC (by decide) dX8_balance_25 ?_
      refine r_iconst (pc := 26) hC (v := (1 : Int32)) (by decide) dX8_balance_26 ?_
      refine r_icmp_ne (pc := 27) (tgt := 56) hC dX8_balance_27 (by decide) ?_ ?_
      · refine r_iinc (pc := 56) hC (v := (1 : Int32)) rfl (by decide) rfl rfl dX8_balance_56 ?_
        refine r_goto (pc := 59) (tgt := 7) hC dX8_balance_59 (by decide) ?_
        exact ih7_7 (i5 + (1 : Int32)) s6
      · refine r_aload_n (pc := 30) hC rfl dX8_balance_30 ?_
        refine r_iload_n (pc := 31) hC rfl dX8_balance_31 ?_
        refine r_cOM (pc := 32) (rest := []) (fun r9 s8 hf => runV [.int i5] hC (c_We_shareAmong (kl κ) (kW κ) hC.2.2.2.2.2.2.2.2.1 N i5 s6 r9 s8 hf) o_X8_shareAmong k_600 (q0 := 6) (ci := 8) rfl rfl (rm_ok hR rfl) rfl (Nat.le_of_ble_eq_true rfl) dX8_balance_32) (fun r9 s8 => ?_)
        refine r_if_eq (pc := 35) (tgt := 56) hC dX8_balance_35 (by decide) ?_ ?_
        · refine r_iinc (pc := 56) hC (v := (1 : Int32)) rfl (by decide) rfl rfl dX8_balance_56 ?_
          refine r_goto (pc := 59) (tgt := 7) hC dX8_balance_59 (by decide) ?_
          exact ih7_7 (i5 + (1 : Int32)) s8
        · refine r_aload_n (pc := 38) hC rfl dX8_balance_38 ?_
          refine r_iload_n (pc := 39) hC rfl dX8_balance_39 ?_
          refine r_aload_n (pc := 40) hC rfl dX8_balance_40 ?_
          refine gC_6_1 (pc := 41) hC k_195 dX8_balance_41 ?_
          refine r_cO (pc := 44) (rest := []) (fun r10 hf => runV [.int a1, .ref (ad κ 19)] hC (c_We_nobodyGainsS (kl κ) (kW κ) hC.2.2.2.2.2.2.2.2.1 N a1 s8 r10 hf) o_X8_nobodyGains k_604 (q0 := 6) (ci := 8) rfl rfl (rm_ok hR rfl) rfl (Nat.le_of_ble_eq_true rfl) dX8_balance_44) (fun r10 => ?_)
          refine r_if_eq (pc := 47) (tgt := 56) hC dX8_balance_47 (by decide) ?_ ?_
          · refine r_iinc (pc := 56) hC (v := (1 : Int32)) rfl (by decide) rfl rfl dX8_balance_56 ?_
            refine r_goto (pc := 59) (tgt := 7) hC dX8_balance_59 (by decide) ?_
            exact ih7_7 (i5 + (1 : Int32)) s8
          · exact r_wk [true, false, true] (hK50_4 i5 s8)
set_option maxRecDepth 100000 in
set_option maxHeartbeats 4000000 in
theorem c_We_balance (l : Launch) (w : Wenv) (hw : okw w wC) (N : Nat) (a1 : Int32) (σ : Mem) (r : Int32) (τ : Mem) (hf : f_We_balance N a1 σ = some (r, τ)) : Ctr l w wC yX8_balance cX8_balance 3 (some .int) 4 91 [.ref (w.2.2.1 6), .int a1] σ (cQi w wC r τ) := mk_ctr (Q := fun κ => qOM κ wC) (lv := [some (.ref (w.2.2.1 6)), some (.int a1), none]) (by decide) rfl hw (Nat.le_of_ble_eq_true rfl) rfl hf (fun κ h => by subst h; rfl) (fun κ hl h hR hC => by
    subst h
    exact w_We_balance hR hC N a1 σ)
-- DuelRound$Sets.isCoveringSet(II)Z (8, None, None) kind O
def Se_isCoveringSet_B8 (N : Nat) (σ : Mem) (a1 : Int32) (a2 : Int32) (self2 : Int32 → Option Int32) (i1 : Int32) : Option Int32 :=
  if (gI σ 3 0) ≤ i1 then
  (some (1 : Int32))
  else
  (if (t_D_bitOf (a2 &&& (a1 ^^^ (-1 : Int32))) i1) = (1 : Int32) then
  (ob (f_Se_isCovered N i1 a1 σ) fun r3 =>
  if r3 = (0 : Int32) then
  (some (0 : Int32))
  else
  (self2 (i1 + (1 : Int32))))
  else
  (self2 (i1 + (1 : Int32))))
def f_Se_isCoveringSet (N : Nat) (a1 : Int32) (a2 : Int32) (σ : Mem) : Option Int32 :=
  if a1 = (0 : Int32) then
  (some (0 : Int32))
  else
  (it1 (Se_isCoveringSet_B8 N σ a1 a2) N (0 : Int32))
set_option maxRecDepth 100000 in
set_option maxHeartbeats 4000000 in
theorem w_Se_isCoveringSet {κ : Ctx} (hR : kR κ = { frames := 2, cells := 0, slots := 0, locals := 47 }) (hC : ok κ wC cX6_isCoveringSet 4 RX6 (some .boolean)) (N : Nat) (a1 : Int32) (a2 : Int32) (σ : Mem) : wF κ wC 4 (qO κ wC σ) σ 0 [some (.ref (ad κ 8)), some (.int a1), some (.int a2), none] [] (f_Se_isCoveringSet N a1 a2 σ) := by
  unfold f_Se_isCoveringSet
  refine r_iload_n (pc := 0) hC rfl dX6_isCoveringSet_0 ?_
  refine r_if_ne (pc := 1) (tgt := 6) hC dX6_isCoveringSet_1 (by decide) ?_ ?_
  · refine r_iconst (pc := 6) hC (v := (0 : Int32)) (by decide) dX6_isCoveringSet_6 ?_
    refine r_istore_n (pc := 7) hC rfl rfl dX6_isCoveringSet_7 ?_
    refine w_it1 (fun i1 => σ) (fun i1 => [some (.ref (ad κ 8)), some (.int a1), some (.int a2), some (.int i1)]) (fun self2 ih8_2 i1 => ?_) N (0 : Int32)
    unfold Se_isCoveringSet_B8
    refine r_iload_n (pc := 8) hC rfl dX6_isCoveringSet_8 ?_
    refine r_aload_n (pc := 9) hC rfl dX6_isCoveringSet_9 ?_
    refine gC_8_0 (pc := 10) hC k_224 dX6_isCoveringSet_10 ?_
    refine gC_2_1 (pc := 13) hC k_141 dX6_isCoveringSet_13 ?_
    refine r_icmp_ge (pc := 16) (tgt := 49) hC dX6_isCoveringSet_16 (by decide) ?_ ?_
    · refine r_iconst (pc := 49) hC (v := (1 : Int32)) (by decide) dX6_isCoveringSet_49 ?_
      exact r_retO hC rfl dX6_isCoveringSet_50
    · refine r_iload_n (pc := 19) hC rfl dX6_isCoveringSet_19 ?_
      refine r_iload_n (pc := 20) hC rfl dX6_isCoveringSet_20 ?_
      refine r_iconst (pc := 21) hC (v := (-1 : Int32)) (by decide) dX6_isCoveringSet_21 ?_
      refine r_ixor (pc := 22) hC dX6_isCoveringSet_22 ?_
      refine r_iand (pc := 23) hC dX6_isCoveringSet_23 ?_
      refine r_iload_n (pc := 24) hC rfl dX6_isCoveringSet_24 ?_
      refine r_cT (pc := 25) (rest := []) (runSN [.int (a2 &&& (a1 ^^^ (-1 : Int32))), .int i1] hC (c_D_bitOf (kl κ) (kW κ) hC.2.2.2.2.2.2.2.2.1 (a2 &&& (a1 ^^^ (-1 : Int32))) i1 σ) o_X9_bitOf (k_509 hC.2.2.2.2.2.2.2.2.2) (rm_ok hR rfl) rfl (Nat.le_of_ble_eq_true rfl) dX6_isCoveringSet_25) ?_
      refine r_iconst (pc := 28) hC (v := (1 : Int32)) (by decide) dX6_isCoveringSet_28 ?_
      refine r_icmp_ne (pc := 29) (tgt := 43) hC dX6_isCoveringSet_29 (by decide) ?_ ?_
      · refine r_iinc (pc := 43) hC (v := (1 : Int32)) rfl (by decide) rfl rfl dX6_isCoveringSet_43 ?_
        refine r_goto (pc := 46) (tgt := 8) hC dX6_isCoveringSet_46 (by decide) ?_
        exact ih8_2 (i1 + (1 : Int32))
      · refine r_aload_n (pc := 32) hC rfl dX6_isCoveringSet_32 ?_
        refine r_iload_n (pc := 33) hC rfl dX6_isCoveringSet_33 ?_
        refine r_iload_n (pc := 34) hC rfl dX6_isCoveringSet_34 ?_
        refine r_cO (pc := 35) (rest := []) (fun r3 hf => runV [.int i1, .int a1] hC (c_Se_isCovered (kl κ) (kW κ) hC.2.2.2.2.2.2.2.2.1 N i1 a1 σ r3 hf) o_X6_isCovered k_531 (q0 := 8) (ci := 6) rfl rfl (rm_ok hR rfl) rfl (Nat.le_of_ble_eq_true rfl) dX6_isCoveringSet_35) (fun r3 => ?_)
        refine r_if_ne (pc := 38) (tgt := 43) hC dX6_isCoveringSet_38 (by decide) ?_ ?_
        · refine r_iinc (pc := 43) hC (v := (1 : Int32)) rfl (by decide) rfl rfl dX6_isCoveringSet_43 ?_
          refine r_goto (pc := 46) (tgt := 8) hC dX6_isCoveringSet_46 (by decide) ?_
          exact ih8_2 (i1 + (1 : Int32))
        · refine r_iconst (pc := 41) hC (v := (0 : Int32)) (by decide) dX6_isCoveringSet_41 ?_
          exact r_retO hC rfl dX6_isCoveringSet_42
  · refine r_iconst (pc := 4) hC (v := (0 : Int32)) (by decide) dX6_isCoveringSet_4 ?_
    exact r_retO hC rfl dX6_isCoveringSet_5
set_option maxRecDepth 100000 in
set_option maxHeartbeats 4000000 in
theorem c_Se_isCoveringSet (l : Launch) (w : Wenv) (hw : okw w wC) (N : Nat) (a1 : Int32) (a2 : Int32) (σ : Mem) (r : Int32) (hf : f_Se_isCoveringSet N a1 a2 σ = some r) : Ctr l w wC yX6_isCoveringSet cX6_isCoveringSet 4 (some .boolean) 2 47 [.ref (w.2.2.1 8), .int a1, .int a2] σ (cQi w wC r σ) := mk_ctr (Q := fun κ => qO κ wC σ) (lv := [some (.ref (w.2.2.1 8)), some (.int a1), some (.int a2), none]) (by decide) rfl hw (Nat.le_of_ble_eq_true rfl) rfl hf (fun κ h => by subst h; rfl) (fun κ hl h hR hC => by
    subst h
    exact w_Se_isCoveringSet hR hC N a1 a2 σ)
-- DuelRound$Sets.leastCovering(I)I (8, None) kind O
def Se_leastCovering_B10 (N : Nat) (σ : Mem) (a1 : Int32) (self5 : Int32 → Int32 → Int32 → Option Int32) (i2 : Int32) (i3 : Int32) (i4 : Int32) : Option Int32 :=
  if a1 ≤ i4 then
  (some i2)
  else
  (if (i4 &&& (a1 ^^^ (-1 : Int32))) = (0 : Int32) then
  (if i3 ≤ (t_J_bitCount i4) then
  (self5 i2 i3 (i4 + (1 : Int32)))
  else
  (ob (f_Se_isCoveringSet N i4 a1 σ) fun r6 =>
  if r6 = (0 : Int32) then
  (self5 i2 i3 (i4 + (1 : Int32)))
  else
  (bnd (t_J_bitCount i4) fun x7 =>
  self5 i4 x7 (i4 + (1 : Int32)))))
  else
  (self5 i2 i3 (i4 + (1 : Int32))))
def f_Se_leastCovering (N : Nat) (a1 : Int32) (σ : Mem) : Option Int32 :=
  bnd (t_J_bitCount a1) fun x1 =>
  it3 (Se_leastCovering_B10 N σ a1) N a1 x1 (1 : Int32)
set_option maxRecDepth 100000 in
set_option maxHeartbeats 4000000 in
theorem w_Se_leastCovering {κ : Ctx} (hR : kR κ = { frames := 3, cells := 0, slots := 0, locals := 70 }) (hC : ok κ wC cX6_leastCovering 5 RX6 (some .int)) (N : Nat) (a1 : Int32) (σ : Mem) : wF κ wC 5 (qO κ wC σ) σ 0 [some (.ref (ad κ 8)), some (.int a1), none, none, none] [] (f_Se_leastCovering N a1 σ) := by
  unfold f_Se_leastCovering
  refine r_iload_n (pc := 0) hC rfl dX6_leastCovering_0 ?_
  refine r_istore_n (pc := 1) hC rfl rfl dX6_leastCovering_1 ?_
  refine r_iload_n (pc := 2) hC rfl dX6_leastCovering_2 ?_
  refine r_cT (pc := 3) (rest := []) (runS [.int a1] hC (c_J_bitCount (kl κ) (kW κ) hC.2.2.2.2.2.2.2.2.1 a1 σ) o_J6_bitCount_0f7a4 k_526 (rm_ok hR rfl) rfl (Nat.le_of_ble_eq_true rfl) dX6_leastCovering_3) ?_
  refine r_let (fun x1 => ?_)
  refine r_istore_n (pc := 6) hC rfl rfl dX6_leastCovering_6 ?_
  refine r_iconst (pc := 7) hC (v := (1 : Int32)) (by decide) dX6_leastCovering_7 ?_
  refine r_istore (pc := 8) hC rfl rfl dX6_leastCovering_8 ?_
  refine w_it3 (fun i2 i3 i4 => σ) (fun i2 i3 i4 => [some (.ref (ad κ 8)), some (.int a1), some (.int i2), some (.int i3), some (.int i4)]) (fun self5 ih10_5 i2 i3 i4 => ?_) N a1 x1 (1 : Int32)
  unfold Se_leastCovering_B10
  refine r_iload (pc := 10) hC rfl dX6_leastCovering_10 ?_
  refine r_iload_n (pc := 12) hC rfl dX6_leastCovering_12 ?_
  refine r_icmp_ge (pc := 13) (tgt := 59) hC dX6_leastCovering_13 (by decide) ?_ ?_
  · refine r_iload_n (pc := 59) hC rfl dX6_leastCovering_59 ?_
    exact r_retO hC rfl dX6_leastCovering_60
  · refine r_iload (pc := 16) hC rfl dX6_leastCovering_16 ?_
    refine r_iload_n (pc := 18) hC rfl dX6_leastCovering_18 ?_
    refine r_iconst (pc := 19) hC (v := (-1 : Int32)) (by decide) dX6_leastCovering_19 ?_
    refine r_ixor (pc := 20) hC dX6_leastCovering_20 ?_
    refine r_iand (pc := 21) hC dX6_leastCovering_21 ?_
    refine r_if_ne (pc := 22) (tgt := 53) hC dX6_leastCovering_22 (by decide) ?_ ?_
    · refine r_iinc (pc := 53) hC (v := (1 : Int32)) rfl (by decide) rfl rfl dX6_leastCovering_53 ?_
      refine r_goto (pc := 56) (tgt := 10) hC dX6_leastCovering_56 (by decide) ?_
      exact ih10_5 i2 i3 (i4 + (1 : Int32))
    · refine r_iload (pc := 25) hC rfl dX6_leastCovering_25 ?_
      refine r_cT (pc := 27) (rest := []) (runS [.int i4] hC (c_J_bitCount (kl κ) (kW κ) hC.2.2.2.2.2.2.2.2.1 i4 σ) o_J6_bitCount_0f7a4 k_526 (rm_ok hR rfl) rfl (Nat.le_of_ble_eq_true rfl) dX6_leastCovering_27) ?_
      refine r_iload_n (pc := 30) hC rfl dX6_leastCovering_30 ?_
      refine r_icmp_ge (pc := 31) (tgt := 53) hC dX6_leastCovering_31 (by decide) ?_ ?_
      · refine r_iinc (pc := 53) hC (v := (1 : Int32)) rfl (by decide) rfl rfl dX6_leastCovering_53 ?_
        refine r_goto (pc := 56) (tgt := 10) hC dX6_leastCovering_56 (by decide) ?_
        exact ih10_5 i2 i3 (i4 + (1 : Int32))
      · refine r_aload_n (pc := 34) hC rfl dX6_leastCovering_34 ?_
        refine r_iload (pc := 35) hC rfl dX6_leastCovering_35 ?_
        refine r_iload_n (pc := 37) hC rfl dX6_leastCovering_37 ?_
        refine r_cO (pc := 38) (rest := []) (fun r6 hf => runV [.int i4, .int a1] hC (c_Se_isCoveringSet (kl κ) (kW κ) hC.2.2.2.2.2.2.2.2.1 N i4 a1 σ r6 hf) o_X6_isCoveringSet k_577 (q0 := 8) (ci := 6) rfl rfl (rm_ok hR rfl) rfl (Nat.le_of_ble_eq_true rfl) dX6_leastCovering_38) (fun r6 => ?_)
        refine r_if_eq (pc := 41) (tgt := 53) hC dX6_leastCovering_41 (by decide) ?_ ?_
        · refine r_iinc (pc := 53) hC (v := (1 : Int32)) rfl (by decide) rfl rfl dX6_leastCovering_53 ?_
          refine r_goto (pc := 56) (tgt := 10) hC dX6_leastCovering_56 (by decide) ?_
          exact ih10_5 i2 i3 (i4 + (1 : Int32))
        · refine r_iload (pc := 44) hC rfl dX6_leastCovering_44 ?_
          refine r_istore_n (pc := 46) hC rfl rfl dX6_leastCovering_46 ?_
          refine r_iload (pc := 47) hC rfl dX6_leastCovering_47 ?_
          refine r_cT (pc := 49) (rest := []) (runS [.int i4] hC (c_J_bitCount (kl κ) (kW κ) hC.2.2.2.2.2.2.2.2.1 i4 σ) o_J6_bitCount_0f7a4 k_526 (rm_ok hR rfl) rfl (Nat.le_of_ble_eq_true rfl) dX6_leastCovering_49) ?_
          refine r_let (fun x7 => ?_)
          refine r_istore_n (pc := 52) hC rfl rfl dX6_leastCovering_52 ?_
          refine r_iinc (pc := 53) hC (v := (1 : Int32)) rfl (by decide) rfl rfl dX6_leastCovering_53 ?_
          refine r_goto (pc := 56) (tgt := 10) hC dX6_leastCovering_56 (by decide) ?_
          exact ih10_5 i4 x7 (i4 + (1 : Int32))
set_option maxRecDepth 100000 in
set_option maxHeartbeats 4000000 in
theorem c_Se_leastCovering (l : Launch) (w : Wenv) (hw : okw w wC) (N : Nat) (a1 : Int32) (σ : Mem) (r : Int32) (hf : f_Se_leastCovering N a1 σ = some r) : Ctr l w wC yX6_leastCovering cX6_leastCovering 5 (some .int) 3 70 [.ref (w.2.2.1 8), .int a1] σ (cQi w wC r σ) := mk_ctr (Q := fun κ => qO κ wC σ) (lv := [some (.ref (w.2.2.1 8)), some (.int a1), none, none, none]) (by decide) rfl hw (Nat.le_of_ble_eq_true rfl) rfl hf (fun κ h => by subst h; rfl) (fun κ hl h hR hC => by
    subst h
    exact w_Se_leastCovering hR hC N a1 σ)
