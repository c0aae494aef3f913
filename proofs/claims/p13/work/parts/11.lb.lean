/-! the reference: chains -/
theorem M_first_s {N : Nat} (hN : 8589934592 ≤ N) (a : Int32) : tot (f_M_first N a) (fun r => r = -1 ∨ ∃ j, j < 8 ∧ r = nI j ∧ bt a j = true) := by
  unfold f_M_first
  refine t_it1 (fun i => ∃ k, k ≤ 8 ∧ i = nI k) (fun i => 8 - i.toNatClampNeg) ?_ _ _ ⟨0, by decide, rfl⟩ (by rw [n0]; omega)
  rintro self _ ⟨k, hk, rfl⟩ ih
  unfold M_first_B2
  refine t_if (fun h => ?_) (fun h => ?_)
  · unfold M_first_K22
    rw [if_pos h]
    exact t_some (Or.inl rfl)
  · have hk8 : k < 8 := by
      rw [l8, nle (by decide) (by omega)] at h
      omega
    rw [has_bt (by omega)]
    refine t_if (fun h2 => ?_) (fun h2 => ?_)
    · rw [nadd1]
      refine ih _ ⟨k + 1, by omega, rfl⟩ ?_
      rw [nI_clamp (by omega), nI_clamp (by omega)]
      omega
    · unfold M_first_K22
      rw [if_neg h]
      refine t_some (Or.inr ⟨k, hk8, rfl, ?_⟩)
      cases e : bt a k
      · rw [e] at h2
        exact absurd rfl h2
      · rfl
theorem nI_rg {k : Nat} {b : Int} (h : (k : Int) ≤ b) (hk : k < 2147483648) : rg 0 b (nI k) := by
  unfold rg
  rw [nI_toInt (by omega)]
  omega
def cm (f : Nat → Nat) : Nat → Nat
  | 0 => 0
  | c + 1 => cm f c + f c * 10 ^ (9 - c)
theorem cm_c {f g : Nat → Nat} : ∀ {c : Nat}, (∀ i, i < c → f i = g i) → cm f c = cm g c
  | 0, _ => rfl
  | c + 1, h => by
    unfold cm
    rw [cm_c (fun i hi => h i (by omega)), h c (by omega)]
/-- what the chain's rows are like at c links -/
def chn (s : Mem) (c : Nat) : Prop := gI s 17 0 = nI c ∧ c ≤ 8 ∧ ∀ i, i < c → (∀ j, j < 8 → bt (gI s 14 i) j = true → bt (gI s 16 i) j = true) ∧ pc (gI s 16 i) + i ≤ 7
theorem M_hasChain_t {N : Nat} (hN : 8589934592 ≤ N) {a1 a2 : Int32} (h_a1 : rg 0 7 a1) (h_a2 : rg 0 255 a2) {σ : Mem} (hm : InvM σ) : tot (f_M_hasChain N a1 a2 σ) (fun q => rg 0 1 q.1 ∧ KM [13, 14, 15, 16, 17] [] σ q.2) := by
  unfold f_M_hasChain
  refine t_lm (KM [13, 14, 15, 16, 17] [] σ) (km_s (km_r hm) (by decide) (mS17 hm (by decide))) (fun s1 e1 k1 => ?_)
  refine t_lm (KM [13, 14, 15, 16, 17] [] σ) (km_s k1 (by decide) (mS13 k1.1 h_a1)) (fun s2 e2 k2 => ?_)
  obtain ⟨p, rfl, hp0, hp1, -⟩ := rg_ex h_a1 (by decide)
  have hp : p < 8 := by omega
  have hb : f_M_beats (nI p) s2 = some (gI s2 1 (1 + p)) := by
    unfold f_M_beats
    rw [n1add, gd_t (inb_nI (by omega) (by decide)), nI_clamp (by omega)]
  rw [hb, ob_s]
  have hr : rg 0 255 (gI s2 1 (1 + p) &&& a2) := rg_andr _ h_a2 (by decide)
  refine t_lm (KM [13, 14, 15, 16, 17] [] σ) (km_s k2 (by decide) (mS14 k2.1 hr)) (fun s4 e4 k4 => ?_)
  refine t_lm (KM [13, 14, 15, 16, 17] [] σ) (km_s k4 (by decide) (mS16 k4.1 (k4.1.r14 _))) (fun s5 e5 k5 => ?_)
  refine t_ob _ (M_over_t h_a1 k5.1) (fun r6 f6 => ?_)
  refine t_lm (KM [13, 14, 15, 16, 17] [] σ) (km_s k5 (by decide) (mS15 k5.1 (rg_andr _ h_a2 (by decide)))) (fun s7 e7 k7 => ?_)
  have h7 : pc (gI s2 1 (1 + p) &&& a2) ≤ 7 := by
    have := pc_lt (x := gI s2 1 (1 + p) &&& a2) (y := (255 : Int32)) (fun i hi _ => by
      have : i = 0 ∨ i = 1 ∨ i = 2 ∨ i = 3 ∨ i = 4 ∨ i = 5 ∨ i = 6 ∨ i = 7 := by omega
      rcases this with rfl | rfl | rfl | rfl | rfl | rfl | rfl | rfl <;> decide) hp (by rw [bt_and, show bt (gI s2 1 (1 + p)) p = false from k2.1.ir p hp, Bool.false_and]) (by
      have : p = 0 ∨ p = 1 ∨ p = 2 ∨ p = 3 ∨ p = 4 ∨ p = 5 ∨ p = 6 ∨ p = 7 := by omega
      rcases this with rfl | rfl | rfl | rfl | rfl | rfl | rfl | rfl <;> decide)
    have e8 : pc (255 : Int32) = 8 := by decide
    omega
  refine t_it1 (fun s => KM [13, 14, 15, 16, 17] [] σ s ∧ ∃ c, chn s c) (fun s => cm (fun i => pc (gI s 14 i) + 1) (gI s 17 0).toNatClampNeg) ?_ _ _ ⟨k7, 1, ?_⟩ ?_
  · rintro self s ⟨ks, c, hc1, hc8, hc⟩ ih
    unfold M_hasChain_B50
    have hK : ∀ t, KM [13, 14, 15, 16, 17] [] σ t → tot (M_hasChain_K216 t) (fun q => rg 0 1 q.1 ∧ KM [13, 14, 15, 16, 17] [] σ q.2) := fun t kt => by
      unfold M_hasChain_K216
      exact t_if (fun _ => t_some ⟨(by decide : rg 0 1 (0 : Int32)), kt⟩) (fun _ => t_some ⟨(by decide : rg 0 1 (1 : Int32)), kt⟩)
    rw [hc1] at ih ⊢
    refine t_if (fun h => hK s ks) (fun h => ?_)
    have hc0 : 0 < c := by
      rw [l0, nle (by omega) (by decide)] at h
      omega
    have hs1 : nI c - 1 = nI (c - 1) := nsub1' (by omega)
    simp only [hs1]
    have g1 : inb (nI (c - 1)) 9 = true := inb_nI (by omega) (by decide)
    refine t_gd g1 (t_if (fun h2 => hK s ks) (fun h2 => t_gd g1 ?_))
    refine t_ob _ (M_first_s hN _) (fun r hr => ?_)
    rw [nI_clamp (by omega)] at hr ⊢
    rw [nI_clamp (by omega)] at ih
    obtain ⟨h14, h16⟩ := hc (c - 1) (by omega)
    rcases hr with rfl | ⟨j, hj, rfl, hbj⟩
    · rw [if_pos rfl]
      refine t_lm (KM [13, 14, 15, 16, 17] [] σ) (km_s ks (by decide) (mS17 ks.1 (nI_rg (by omega) (by omega)))) (fun t et kt => ?_)
      have q17 : gI t 17 0 = nI (c - 1) := by rw [et, gI_sI, if_pos rfl, upd_ap, if_pos rfl]
      have q14 : gI t 14 = gI s 14 := by rw [et, gI_sI, if_neg (by decide)]
      have q16 : gI t 16 = gI s 16 := by rw [et, gI_sI, if_neg (by decide)]
      refine ih _ ⟨kt, c - 1, q17, by omega, fun i hi => ?_⟩ ?_
      · rw [q14, q16]
        exact hc i (by omega)
      · rw [q17, nI_clamp (by omega), q14]
        obtain ⟨d, rfl⟩ : ∃ d, c = d + 1 := ⟨c - 1, by omega⟩
        have e : d + 1 - 1 = d := by omega
        rw [e]
        show _ < cm _ d + (pc (gI s 14 d) + 1) * 10 ^ (9 - d)
        have : 0 < (pc (gI s 14 d) + 1) * 10 ^ (9 - d) := Nat.mul_pos (by omega) (Nat.pow_pos (by decide))
        omega
    · have hne : ¬ nI j = -1 := fun e => by
        have e2 : (nI j).toInt = (-1 : Int32).toInt := by rw [e]
        rw [nI_toInt (by omega)] at e2
        have : (-1 : Int32).toInt = -1 := by decide
        omega
      rw [if_neg hne]
      have hc7 : c ≤ 7 := by
        have h1 : bt (gI s 16 (c - 1)) j = true := h14 j hj hbj
        have h2 : 0 < pc (gI s 16 (c - 1)) := by
          have := pc_lt (x := 0) (y := gI s 16 (c - 1)) (fun i _ h => by rw [bt_0] at h; cases h) hj (bt_0 j) h1
          omega
        omega
      refine t_gd g1 (t_gd g1 ?_)
      have hjr : rg 0 7 (nI j) := nI_rg (by omega) (by omega)
      refine t_lm (KM [13, 14, 15, 16, 17] [] σ) (km_s ks (by decide) (mS14 ks.1 (rg_andl _ (ks.1.r14 _) (by decide)))) (fun t1 et1 kt1 => ?_)
      have w17 : gI t1 17 0 = nI c := by rw [et1, gI_sI, if_neg (by decide)]; exact hc1
      have gc : inb (nI c) 9 = true := inb_nI (by omega) (by decide)
      rw [w17]
      refine t_gd gc ?_
      refine t_lm (KM [13, 14, 15, 16, 17] [] σ) (km_s kt1 (by decide) (mS13 kt1.1 hjr)) (fun t2 et2 kt2 => ?_)
      have w17b : gI t2 17 0 = nI c := by rw [et2, gI_sI, if_neg (by decide)]; exact w17
      rw [w17b, hs1]
      refine t_gd g1 ?_
      have hb2 : f_M_beats (nI j) t2 = some (gI t2 1 (1 + j)) := by
        unfold f_M_beats
        rw [n1add, gd_t (inb_nI (by omega) (by decide)), nI_clamp (by omega)]
      rw [hb2, ob_s]
      refine t_gd gc ?_
      refine t_lm (KM [13, 14, 15, 16, 17] [] σ) (km_s kt2 (by decide) (mS16 kt2.1 (rg_andl _ (kt2.1.r16 _) (by decide)))) (fun t3 et3 kt3 => ?_)
      have w17c : gI t3 17 0 = nI c := by rw [et3, gI_sI, if_neg (by decide)]; exact w17b
      rw [w17c]
      refine t_gd gc (t_gd gc ?_)
      refine t_lm (KM [13, 14, 15, 16, 17] [] σ) (km_s kt3 (by decide) (mS14 kt3.1 (kt3.1.r16 _))) (fun t4 et4 kt4 => ?_)
      have w17d : gI t4 17 0 = nI c := by rw [et4, gI_sI, if_neg (by decide)]; exact w17c
      rw [w17d, hs1]
      refine t_gd g1 ?_
      refine t_ob _ (M_over_t hjr kt4.1) (fun r17 f17 => t_gd gc ?_)
      refine t_lm (KM [13, 14, 15, 16, 17] [] σ) (km_s kt4 (by decide) (mS15 kt4.1 (rg_andl _ (kt4.1.r15 _) (by decide)))) (fun t5 et5 kt5 => ?_)
      have w17e : gI t5 17 0 = nI c := by rw [et5, gI_sI, if_neg (by decide)]; exact w17d
      rw [w17e, nadd1]
      refine t_lm (KM [13, 14, 15, 16, 17] [] σ) (km_s kt5 (by decide) (mS17 kt5.1 (nI_rg (by omega) (by omega)))) (fun t6 et6 kt6 => ?_)
      rw [nI_clamp (by omega), nI_clamp (by omega)] at et3
      rw [nI_clamp (by omega)] at et4
      -- the rows afterwards
      have q17 : gI t6 17 0 = nI (c + 1) := by rw [et6, gI_sI, if_pos rfl, upd_ap, if_pos rfl]
      have f16 : gI t2 16 = gI s 16 := by rw [et2, gI_sI, if_neg (by decide), et1, gI_sI, if_neg (by decide)]
      have q16 : ∀ i, gI t6 16 i = if i = c then gI s 16 (c - 1) &&& gI t2 1 (1 + j) else gI s 16 i := fun i => by
        rw [et6, gI_sI, if_neg (by decide), et5, gI_sI, if_neg (by decide), et4, gI_sI, if_neg (by decide), et3, gI_sI, if_pos rfl, upd_ap, f16]
      have q14 : ∀ i, gI t6 14 i = if i = c then gI s 16 (c - 1) &&& gI t2 1 (1 + j) else if i = c - 1 then gI s 14 (c - 1) &&& (((1 : Int32) <<< (nI j &&& 31)) ^^^ (-1 : Int32)) else gI s 14 i := fun i => by
        have e16 : gI t3 16 c = gI s 16 (c - 1) &&& gI t2 1 (1 + j) := by
          rw [et3, gI_sI, if_pos rfl, upd_ap, if_pos rfl, f16]
        rw [et6, gI_sI, if_neg (by decide), et5, gI_sI, if_neg (by decide), et4, gI_sI, if_pos rfl, upd_ap, e16]
        by_cases h : i = c
        · rw [if_pos h, if_pos h]
        · rw [if_neg h, if_neg h, et3, gI_sI, if_neg (by decide), et2, gI_sI, if_neg (by decide), et1, gI_sI, if_pos rfl, upd_ap]
      have nob : bt (gI t2 1 (1 + j)) j = false := kt2.1.ir j hj
      have p16 : pc (gI s 16 (c - 1) &&& gI t2 1 (1 + j)) < pc (gI s 16 (c - 1)) := by
        refine pc_lt (fun i _ h => ?_) hj ?_ (h14 j hj hbj)
        · rw [bt_and] at h
          exact (Bool.and_eq_true_iff.mp h).1
        · rw [bt_and, nob, Bool.and_false]
      have p14 : pc (gI s 14 (c - 1) &&& (((1 : Int32) <<< (nI j &&& 31)) ^^^ (-1 : Int32))) < pc (gI s 14 (c - 1)) := by
        refine pc_lt (fun i _ h => ?_) hj ?_ hbj
        · rw [bt_and] at h
          exact (Bool.and_eq_true_iff.mp h).1
        · rw [bt_and, bt_not _ (by omega), bt_one (by omega) (by omega)]
          simp
      refine ih _ ⟨kt6, c + 1, q17, by omega, fun i hi => ?_⟩ ?_
      · rw [q14, q16]
        by_cases h : i = c
        · rw [if_pos h, if_pos h]
          refine ⟨fun _ _ h => h, ?_⟩
          have := (hc (c - 1) (by omega)).2
          omega
        · rw [if_neg h, if_neg h]
          by_cases h3 : i = c - 1
          · rw [if_pos h3]
            subst h3
            refine ⟨fun b hb h => ?_, (hc (c - 1) (by omega)).2⟩
            rw [bt_and] at h
            exact h14 b hb (Bool.and_eq_true_iff.mp h).1
          · rw [if_neg h3]
            exact hc i (by omega)
      · rw [q17, nI_clamp (by omega)]
        obtain ⟨d, rfl⟩ : ∃ d, c = d + 1 := ⟨c - 1, by omega⟩
        have e : d + 1 - 1 = d := by omega
        rw [e] at q14 p14 p16
        show cm _ d + (pc (gI t6 14 d) + 1) * 10 ^ (9 - d) + (pc (gI t6 14 (d + 1)) + 1) * 10 ^ (9 - (d + 1)) < cm _ d + (pc (gI s 14 d) + 1) * 10 ^ (9 - d)
        have e1 : cm (fun i => pc (gI t6 14 i) + 1) d = cm (fun i => pc (gI s 14 i) + 1) d := cm_c (fun i hi => by
          show pc (gI t6 14 i) + 1 = pc (gI s 14 i) + 1
          rw [q14, if_neg (by omega), if_neg (by omega)])
        rw [e1, q14 d, if_neg (by omega), if_pos rfl, q14 (d + 1), if_pos rfl]
        have e2 : (10 : Nat) ^ (9 - d) = 10 * 10 ^ (9 - (d + 1)) := by
          have : 9 - d = (9 - (d + 1)) + 1 := by omega
          rw [this, Nat.pow_succ, Nat.mul_comm]
        have e3 := pc_8 (gI s 16 d &&& gI t2 1 (1 + j))
        generalize hA : pc (gI s 14 d &&& (((1 : Int32) <<< (nI j &&& 31)) ^^^ (-1 : Int32))) = A at *
        generalize hB : pc (gI s 16 d &&& gI t2 1 (1 + j)) = B at *
        generalize hC : pc (gI s 14 d) = C at *
        generalize hT : (10 : Nat) ^ (9 - (d + 1)) = T at *
        have hT0 : 0 < T := by rw [← hT]; exact Nat.pow_pos (by decide)
        rw [e2]
        have m1 : (A + 1) * (10 * T) + (10 * T) ≤ (C + 1) * (10 * T) := by
          have : (A + 1 + 1) * (10 * T) ≤ (C + 1) * (10 * T) := Nat.mul_le_mul_right _ (by omega)
          rw [Nat.add_mul (A + 1) 1] at this
          omega
        have m2 : (B + 1) * T ≤ 9 * T := Nat.mul_le_mul_right _ (by omega)
        omega
  · have z17 : gI s7 17 0 = nI 1 := by rw [e7, gI_sI, if_neg (by decide), e5, gI_sI, if_neg (by decide), e4, gI_sI, if_neg (by decide), e2, gI_sI, if_neg (by decide), e1, gI_sI, if_pos rfl, upd_ap, if_pos rfl]; rfl
    have z14 : gI s7 14 0 = gI s2 1 (1 + p) &&& a2 := by rw [e7, gI_sI, if_neg (by decide), e5, gI_sI, if_neg (by decide), e4, gI_sI, if_pos rfl, upd_ap, if_pos (by rw [n0])]
    have z16 : gI s7 16 0 = gI s2 1 (1 + p) &&& a2 := by
      rw [e7, gI_sI, if_neg (by decide), e5, gI_sI, if_pos rfl, upd_ap, if_pos (by rw [n0]), e4, gI_sI, if_pos rfl, upd_ap, if_pos rfl]
    refine ⟨z17, by decide, fun i hi => ?_⟩
    have : i = 0 := by omega
    subst this
    rw [z14, z16]
    refine ⟨fun _ _ h => h, ?_⟩
    omega
  · have z17 : gI s7 17 0 = nI 1 := by rw [e7, gI_sI, if_neg (by decide), e5, gI_sI, if_neg (by decide), e4, gI_sI, if_neg (by decide), e2, gI_sI, if_neg (by decide), e1, gI_sI, if_pos rfl, upd_ap, if_pos rfl]; rfl
    rw [z17, nI_clamp (by decide)]
    show 0 + (pc (gI s7 14 0) + 1) * 10 ^ 9 < N
    have z14 : gI s7 14 0 = gI s2 1 (1 + p) &&& a2 := by rw [e7, gI_sI, if_neg (by decide), e5, gI_sI, if_neg (by decide), e4, gI_sI, if_pos rfl, upd_ap, if_pos (by rw [n0])]
    rw [z14]
    have : (pc (gI s2 1 (1 + p) &&& a2) + 1) * 10 ^ 9 ≤ 8 * 10 ^ 9 := Nat.mul_le_mul_right _ (by omega)
    omega
