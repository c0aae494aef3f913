/-! the reference: best orders -/
theorem pcm : ∀ k, k < 256 → k ≠ 0 → pc (nI k &&& (nI k - 1)) + 1 = pc (nI k) := by decide +kernel
theorem M_sizeOf_s {N : Nat} (hN : 8589934592 ≤ N) {x : Int32} (hx : rg 0 255 x) : tot (f_M_sizeOf N x) (fun r => r = nI (pc x)) := by
  unfold f_M_sizeOf
  refine t_it2 (fun i1 i2 => rg 0 255 i2 ∧ ∃ c, i1 = nI c ∧ c + pc i2 = pc x) (fun _ x => x.toBitVec.toNat) ?_ _ _ _ ⟨hx, 0, rfl, by omega⟩ (by have := x.toBitVec.isLt; omega)
  rintro self _ i2 ⟨f2, c, rfl, hc⟩ ih
  unfold M_sizeOf_B4
  refine t_if (fun h => t_some ?_) (fun h => t_bnd ?_)
  · rw [h] at hc
    have : pc 0 = 0 := by decide
    rw [this] at hc
    rw [← hc]
    rfl
  · obtain ⟨k, rfl, -, hk, -⟩ := rg_ex f2 (by decide)
    have hk0 : k ≠ 0 := fun e => h (by rw [e]; rfl)
    have := pcm k (by omega) hk0
    rw [nadd1]
    exact ih _ _ ⟨rg_andl _ f2 (by decide), c + 1, rfl, by omega⟩ (and_m1 h)
def ov (s : Mem) (i : Nat) : Int32 := (t_M_all s &&& (gI s 1 (1 + i) ^^^ (-1 : Int32))) &&& (((1 : Int32) <<< (nI i &&& 31)) ^^^ (-1 : Int32))
def clr (S : Int32) (i : Nat) : Int32 := S &&& (((1 : Int32) <<< (nI i &&& 31)) ^^^ (-1 : Int32))
def tv (s : Mem) (i : Nat) (S : Int32) : Int32 := nI (pc (ov s i &&& S)) + gI s 18 (clr S i).toNatClampNeg
theorem over_e {s : Mem} {i : Nat} (hi : i < 8) : f_M_over (nI i) s = some (ov s i) := by
  unfold f_M_over
  rw [n1add, gd_t (inb_nI (by omega) (by decide)), nI_clamp (by omega)]
  rfl
theorem beats_e {s : Mem} {i : Nat} (hi : i < 8) : f_M_beats (nI i) s = some (gI s 1 (1 + i)) := by
  unfold f_M_beats
  rw [n1add, gd_t (inb_nI (by omega) (by decide)), nI_clamp (by omega)]
theorem M_turnedBy_s {N : Nat} (hN : 8589934592 ≤ N) {i : Nat} (hi : i < 8) {S : Int32} (hS : rg 0 255 S) {s : Mem} (hm : InvM s) : tot (f_M_turnedBy N (nI i) S s) (fun r => r = tv s i S) := by
  unfold f_M_turnedBy
  rw [over_e hi, ob_s]
  refine t_ob _ (M_sizeOf_s hN (rg_andr _ hS (by decide))) (fun r2 h2 => ?_)
  refine t_gd (inb_rg (rg_andl (lo := 0) (hi := 255) _ hS (by decide)) (by decide)) (t_some ?_)
  rw [h2]
  rfl
theorem clr_f : ∀ m, m < 256 → ∀ i, i < 8 → (clr (nI m) i).toNatClampNeg ≤ m ∧ clr (nI m) i = nI (clr (nI m) i).toNatClampNeg ∧ (bt (nI m) i = true → (clr (nI m) i).toNatClampNeg < m ∧ pc (clr (nI m) i) + 1 = pc (nI m)) := by decide +kernel
theorem tv_c {s t : Mem} {i : Nat} {S : Int32} (h1 : gI t 1 = gI s 1) (h2 : gI t 18 (clr S i).toNatClampNeg = gI s 18 (clr S i).toNatClampNeg) : tv t i S = tv s i S := by
  unfold tv ov t_M_all
  rw [h1, h2]
def okT (s : Mem) (m : Nat) : Prop := rg 0 (8 * (pc (nI m) : Int)) (gI s 18 m) ∧ (m = 0 ∨ ∃ i, i < 8 ∧ bt (nI m) i = true ∧ tv s i (nI m) = gI s 18 m)
theorem okT_c {s t : Mem} {m : Nat} (hm : m < 256) (h1 : gI t 1 = gI s 1) (h2 : ∀ j, j ≤ m → gI t 18 j = gI s 18 j) (h : okT s m) : okT t m := by
  obtain ⟨h3, h4⟩ := h
  refine ⟨by rw [h2 m (Nat.le_refl _)]; exact h3, ?_⟩
  rcases h4 with e | ⟨i, hi, hb, e⟩
  · exact Or.inl e
  · refine Or.inr ⟨i, hi, hb, ?_⟩
    rw [tv_c h1 (h2 _ (clr_f m hm i hi).1), h2 m (Nat.le_refl _)]
    exact e
theorem mask_e : ∀ n, n ≤ 8 → ((1 : Int32) <<< (nI n &&& 31)) - 1 = nI (2 ^ n - 1) := by decide +kernel
theorem lowbits : ∀ n, n ≤ 8 → ∀ m, m < 2 ^ n → m ≠ 0 → ∃ j, j < n ∧ bt (nI m) j = true := by decide +kernel
theorem M_layOrders_s {N : Nat} (hN : 8589934592 ≤ N) {n : Nat} (hn : n ≤ 8) {σ : Mem} (hm : InvM σ) (h0 : gI σ 1 0 = nI n) : tot (f_M_layOrders N σ) (fun s => KM [18, 19] [] σ s ∧ ∀ m, m < 2 ^ n → okT s m) := by
  have hp : (2 : Nat) ^ n ≤ 256 := Nat.pow_le_pow_right (n := 2) (by decide) hn
  have hp0 : 0 < (2 : Nat) ^ n := Nat.pow_pos (by decide)
  unfold f_M_layOrders
  refine t_lm (KM [18, 19] [] σ) (km_s (km_r hm) (by decide) (mS18 hm)) (fun s1 e1 k1 => ?_)
  refine t_lm (KM [18, 19] [] σ) (km_s k1 (by decide) (mS19 k1.1)) (fun s2 e2 k2 => ?_)
  have q1 : ∀ {s : Mem}, KM [18, 19] [] σ s → gI s 1 = gI σ 1 := fun {s} h => h.2.1 1 (by decide)
  have qa : ∀ {s : Mem}, KM [18, 19] [] σ s → t_M_all s = nI (2 ^ n - 1) := fun {s} h => by
    rw [all_e (by rw [q1 h]; exact h0), mask_e n hn]
  have qm : ∀ {s : Mem}, KM [18, 19] [] σ s → t_M_many s = nI n := fun {s} h => many_e (by rw [q1 h]; exact h0)
  refine t_it2 (fun i s => (∃ m, 1 ≤ m ∧ m ≤ 2 ^ n ∧ i = nI m ∧ ∀ m', m' < m → okT s m') ∧ KM [18, 19] [] σ s) (fun i _ => 256 - i.toNatClampNeg) ?_ _ _ _ ⟨⟨1, by decide, by omega, rfl, fun m' hm' => ?_⟩, k2⟩ (Nat.lt_of_le_of_lt (Nat.sub_le _ _) (by omega))
  · rintro self _ s ⟨⟨m, hm1, hm2, rfl, hok⟩, ks⟩ ih
    unfold M_layOrders_B16
    rw [qa ks]
    refine t_if (fun h => ?_) (fun h => ?_)
    · have : m = 2 ^ n := by
        rw [nlt (by omega) (by omega)] at h
        omega
      rw [← this]
      exact t_some ⟨ks, hok⟩
    · have hmn : m < 2 ^ n := by
        rw [nlt (by omega) (by omega)] at h
        omega
      have gm : inb (nI m) 256 = true := inb_nI (by omega) (by decide)
      have cm' : (nI m).toNatClampNeg = m := nI_clamp (by omega)
      have fm : rg 0 255 (nI m) := nI_rg (by omega) (by omega)
      rw [cm']
      refine t_gd gm ?_
      refine t_lm (KM [18, 19] [] σ) (km_s ks (by decide) (mS18 ks.1)) (fun s6 e6 k6 => t_gd gm ?_)
      refine t_lm (KM [18, 19] [] σ) (km_s k6 (by decide) (mS19 k6.1)) (fun s7 e7 k7 => ?_)
      have w18 : ∀ j, gI s7 18 j = if j = m then 99 else gI s 18 j := fun j => by
        rw [e7, gI_sI, if_neg (by decide), e6, gI_sI, if_pos rfl, upd_ap]
      refine t_it2 (fun i t => (∃ k, k ≤ n ∧ i = nI k ∧ (∀ m', m' < m → okT t m') ∧ ((gI t 18 m = 99 ∧ ∀ j, j < k → bt (nI m) j = false) ∨ okT t m)) ∧ KM [18, 19] [] σ t) (fun i _ => 8 - i.toNatClampNeg) ?_ _ _ _ ⟨⟨0, by omega, rfl, fun m' hm' => ?_, Or.inl ⟨by rw [w18, if_pos rfl], fun j hj => by omega⟩⟩, k7⟩ (by rw [n0]; omega)
      · rintro self2 _ t ⟨⟨k, hk, rfl, hok2, hcur⟩, kt⟩ ih2
        unfold M_layOrders_B41
        rw [qm kt]
        refine t_if (fun h2 => ?_) (fun h2 => ?_)
        · have hkn : k = n := by
            rw [nle (by omega) (by omega)] at h2
            omega
          rw [nadd1]
          refine ih _ _ ⟨⟨m + 1, by omega, by omega, rfl, fun m' hm' => ?_⟩, kt⟩ ?_
          · by_cases e : m' = m
            · subst e
              rcases hcur with ⟨-, hz⟩ | ho
              · obtain ⟨j, hj, hb⟩ := lowbits n hn m' hmn (by omega)
                rw [hz j (by omega)] at hb
                cases hb
              · exact ho
            · exact hok2 m' (by omega)
          · rw [nI_clamp (by omega), cm']
            omega
        · have hkn : k < n := by
            rw [nle (by omega) (by omega)] at h2
            omega
          have dec : 8 - (nI (k + 1)).toNatClampNeg < 8 - (nI k).toNatClampNeg := by
            rw [nI_clamp (by omega), nI_clamp (by omega)]
            omega
          rw [has_bt (by omega), nadd1]
          refine t_if (fun h3 => ?_) (fun h3 => ?_)
          · have hb : bt (nI m) k = false := by
              cases e : bt (nI m) k
              · rfl
              · rw [e] at h3; exact absurd h3 (by decide)
            refine ih2 _ _ ⟨⟨k + 1, by omega, rfl, hok2, ?_⟩, kt⟩ dec
            rcases hcur with ⟨h99, hz⟩ | ho
            · refine Or.inl ⟨h99, fun j hj => ?_⟩
              by_cases e : j = k
              · rw [e]; exact hb
              · exact hz j (by omega)
            · exact Or.inr ho
          · have hb : bt (nI m) k = true := by
              cases e : bt (nI m) k
              · rw [e] at h3; exact absurd rfl h3
              · rfl
            obtain ⟨c1', c2', c3'⟩ := clr_f m (by omega) k (by omega)
            obtain ⟨c4', c5'⟩ := c3' hb
            have okc := (hok2 _ c4').1
            have p8 := pc_8 (ov t k &&& nI m)
            have pm8 := pc_8 (nI m)
            rw [← c2'] at okc
            have rv : rg 0 (8 * (pc (nI m) : Int)) (tv t k (nI m)) := by
              unfold tv
              refine rg_add (b := 8) (nI_rg (by omega) (by omega)) okc ⟨⟨by omega, by omega⟩, by omega, by omega⟩
            refine t_ob _ (M_turnedBy_s hN (by omega) fm kt.1) (fun r11 h11 => t_gd gm ?_)
            rw [cm', h11]
            refine t_if (fun h4 => ?_) (fun h4 => ?_)
            · refine ih2 _ _ ⟨⟨k + 1, by omega, rfl, hok2, Or.inr ?_⟩, kt⟩ dec
              rcases hcur with ⟨h99, hz⟩ | ho
              · exfalso
                rw [h99, i_lt] at h4
                have : (99 : Int32).toInt = 99 := by decide
                have := rv.2
                omega
              · exact ho
            · have hJ : ∀ v, tot (M_layOrders_J102 N t (nI m) (nI k) self2 v) (fun s => KM [18, 19] [] σ s ∧ ∀ m, m < 2 ^ n → okT s m) := by
                intro v
                unfold M_layOrders_J102
                rw [cm']
                refine t_gd gm ?_
                refine t_lm (KM [18, 19] [] σ) (km_s kt (by decide) (mS19 kt.1)) (fun t1 et1 kt1 => ?_)
                refine t_ob _ (M_turnedBy_s hN (by omega) fm kt1.1) (fun r15 h15 => t_gd gm ?_)
                have y18 : gI t1 18 = gI t 18 := by rw [et1, gI_sI, if_neg (by decide)]
                have y1 : gI t1 1 = gI t 1 := by rw [et1, gI_sI, if_neg (by decide)]
                have h15' : r15 = tv t k (nI m) := by rw [h15]; exact tv_c y1 (by rw [y18])
                refine t_lm (KM [18, 19] [] σ) (km_s kt1 (by decide) (mS18 kt1.1)) (fun t2 et2 kt2 => t_gd gm ?_)
                refine t_gd (inb_rg (rg_andl (lo := 0) (hi := 255) _ fm (by decide)) (by decide)) (t_gd gm ?_)
                refine t_lm (KM [18, 19] [] σ) (km_s kt2 (by decide) (mS19 kt2.1)) (fun t3 et3 kt3 => ?_)
                rw [nadd1]
                have z1 : gI t3 1 = gI t 1 := by rw [q1 kt3, q1 kt]
                have z18 : ∀ j, gI t3 18 j = if j = m then tv t k (nI m) else gI t 18 j := fun j => by
                  rw [et3, gI_sI, if_neg (by decide), et2, gI_sI, if_pos rfl, upd_ap, h15', y18]
                refine ih2 _ _ ⟨⟨k + 1, by omega, rfl, fun m' hm' => ?_, Or.inr ⟨?_, Or.inr ⟨k, by omega, hb, ?_⟩⟩⟩, kt3⟩ dec
                · exact okT_c (by omega) z1 (fun j hj => by rw [z18, if_neg (by omega)]) (hok2 m' hm')
                · rw [z18, if_pos rfl]
                  exact rv
                · rw [tv_c z1 (by rw [z18, if_neg (by omega)]), z18, if_pos rfl]
              refine t_ob _ (M_turnedBy_s hN (by omega) fm kt.1) (fun r12 h12 => t_gd gm ?_)
              exact t_if (fun _ => t_gd gm (hJ _)) (fun _ => hJ _)
      · exact okT_c (by omega) (by rw [q1 k7, q1 ks]) (fun j hj => by rw [w18, if_neg (by omega)]) (hok m' hm')
  · have : m' = 0 := by omega
    subst this
    refine ⟨?_, Or.inl rfl⟩
    have : gI s2 18 0 = 0 := by rw [e2, gI_sI, if_neg (by decide), e1, gI_sI, if_pos rfl, upd_ap, if_pos n0.symm]
    rw [this]
    decide
theorem M_bestAt_t {N : Nat} (hN : 8589934592 ≤ N) {a n : Nat} (ha : a < n) (hn : n ≤ 8) {σ : Mem} (hm : InvM σ) (h0 : gI σ 1 0 = nI n) (hok : ∀ m, m < 2 ^ n → okT σ m) : tot (f_M_bestAt N (nI a) σ) (fun _ => True) := by
  have hp : (2 : Nat) ^ n ≤ 256 := Nat.pow_le_pow_right (n := 2) (by decide) hn
  have hp0 : 0 < (2 : Nat) ^ n := Nat.pow_pos (by decide)
  unfold f_M_bestAt
  rw [all_e h0, mask_e n hn]
  refine t_bnd ?_
  have pcall : ∀ n, n ≤ 8 → pc (nI (2 ^ n - 1)) = n := by decide +kernel
  refine t_it3 (fun i2 _ i4 => ∃ m c, m < 2 ^ n ∧ i2 = nI m ∧ i4 = nI c ∧ c ≤ a + 1 ∧ pc (nI m) + c = n) (fun _ _ i4 => 9 - i4.toNatClampNeg) ?_ _ _ _ _ ⟨2 ^ n - 1, 0, by omega, rfl, rfl, by omega, by rw [pcall n hn]; rfl⟩ (by rw [n0]; omega)
  rintro self _ i3 _ ⟨m, c, hm', rfl, rfl, hc, hpc⟩ ih
  unfold M_bestAt_B10
  refine t_if (fun _ => t_some trivial) (fun h => ?_)
  have hca : c ≤ a := by
    rw [nlt (by omega) (by omega)] at h
    omega
  have hm0 : m ≠ 0 := fun e => by
    rw [e] at hpc
    have : pc (nI 0) = 0 := by decide
    omega
  have fm : rg 0 255 (nI m) := nI_rg (by omega) (by omega)
  obtain ⟨i, hi, hb, hti⟩ : ∃ i, i < 8 ∧ bt (nI m) i = true ∧ tv σ i (nI m) = gI σ 18 m := by
    rcases (hok m hm').2 with e | e
    · exact absurd e hm0
    · exact e
  refine t_it1 (fun i8 => ∃ k, k ≤ i ∧ i8 = nI k) (fun i8 => 8 - i8.toNatClampNeg) ?_ _ _ ⟨0, by omega, rfl⟩ (by rw [n0]; omega)
  rintro self2 _ ⟨k, hk, rfl⟩ ih2
  unfold M_bestAt_B18
  rw [has_bt (by omega)]
  have nxt : k ≠ i → tot (self2 (nI k + 1)) (fun _ => True) := fun e => by
    rw [nadd1]
    refine ih2 _ ⟨k + 1, by omega, rfl⟩ ?_
    rw [nI_clamp (by omega), nI_clamp (by omega)]
    omega
  refine t_if (fun h2 => nxt (fun e => ?_)) (fun h2 => ?_)
  · subst e
    rw [hb] at h2
    exact absurd h2 (by decide)
  · have hbk : bt (nI m) k = true := by
      cases e : bt (nI m) k
      · rw [e] at h2; exact absurd rfl h2
      · rfl
    refine t_ob _ (M_turnedBy_s hN (by omega) fm hm) (fun r10 h10 => t_gd (inb_nI (by omega) (by decide)) ?_)
    rw [nI_clamp (by omega), h10]
    refine t_if (fun h3 => ?_) (fun h3 => nxt (fun e => ?_))
    · unfold M_bestAt_K47
      refine t_bnd ?_
      obtain ⟨c1', c2', c3'⟩ := clr_f m (by omega) k (by omega)
      obtain ⟨c4', c5'⟩ := c3' hbk
      rw [nadd1]
      refine ih _ _ _ ⟨(clr (nI m) k).toNatClampNeg, c + 1, by omega, c2', rfl, by omega, ?_⟩ ?_
      · rw [← c2']
        omega
      · rw [nI_clamp (by omega), nI_clamp (by omega)]
        omega
    · subst e
      exact h3 hti
theorem M_best_t {N : Nat} (hN : 8589934592 ≤ N) {a1 : Int32} {σ : Mem} (hm : InvM σ) : tot (f_M_best N a1 σ) (fun q => KM [0, 18, 19] [] σ q.2) := by
  unfold f_M_best
  refine t_lm (KM [0, 18, 19] [] σ) (km_s (km_r hm) (by decide) (mS0 hm)) (fun s1 e1 k1 => ?_)
  obtain ⟨n, hn, -, hn8, -⟩ := rg_ex k1.1.n1 (by decide)
  have hJ : (a1 = 0 ∨ a1 = 1 ∨ ∃ a, a < n ∧ a1 - 10 = nI a) → tot (M_best_J44 N s1 a1) (fun q => KM [0, 18, 19] [] σ q.2) := by
    intro hc
    unfold M_best_J44
    refine t_ob _ (M_layOrders_s hN (by omega) k1.1 hn) (fun s2 ⟨k2, h2⟩ => ?_)
    have k2' := km_t (S := [0, 18, 19]) (J := []) k1 k2 (by decide) (by decide)
    have ga := inb_rg (n := 256) (al_rg k2.1) (by decide)
    refine t_if (fun _ => t_gd ga (t_some k2')) (fun h3 => t_if (fun _ => t_gd ga (t_some k2')) (fun h4 => ?_))
    rcases hc with e | e | ⟨a, ha, e⟩
    · exact absurd e h3
    · exact absurd e h4
    · rw [e]
      have q0 : gI s2 1 0 = nI n := by rw [k2.2.1 1 (by decide)]; exact hn
      exact t_ob _ (M_bestAt_t hN ha (by omega) k2.1 q0 h2) (fun r _ => t_some k2')
  refine t_if (fun _ => t_some k1) (fun h1 => t_if (fun _ => t_if (fun _ => t_some k1) (fun h2 => hJ ?_)) (fun h2 => hJ ?_))
  · rw [many_e hn] at h2
    have e9 : (9 : Int64).toInt = 9 := by decide
    have := c_inp (lo := 10) (hi := 9 + (n : Int)) (b := n) h2 (nI_rg (by omega) (by omega)) ⟨by decide, by decide, by omega⟩
    have f := rg_sub (lo := 0) (hi := (n : Int) - 1) this (by decide : rg 10 10 (10 : Int32)) ⟨⟨by omega, by omega⟩, by omega, by omega⟩
    obtain ⟨a, e, -, ha, -⟩ := rg_ex f (by decide)
    exact Or.inr (Or.inr ⟨a, by omega, e⟩)
  · have f := c_in (lo := 0) (hi := 1) h2 (by decide)
    obtain ⟨a, e, -, ha, -⟩ := rg_ex f (by decide)
    have : a = 0 ∨ a = 1 := by omega
    rcases this with h | h
    · left; rw [e, h]; rfl
    · right; left; rw [e, h]; rfl
