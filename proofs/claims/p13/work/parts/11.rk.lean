/-! cups: by how many rows one wins, for each set: the reference's table -/
theorem nmulA (a b : Nat) : nI a * nI b = nI (a * b) := (Int32.ofNat_mul a b).symm
def dfs (m h : Nat) : Nat := (nI m &&& (nI h ^^^ (-1 : Int32))).toNatClampNeg
theorem dfs_e {m h : Nat} (hm : m < 256) : (nI m &&& (nI h ^^^ (-1 : Int32))) = nI (dfs m h) ∧ dfs m h ≤ m := by
  have r : rg 0 (m : Int) (nI m &&& (nI h ^^^ (-1 : Int32))) := rg_andl _ (nI_rg (Int.le_refl _) (by omega)) ⟨Int.le_refl _, Int.le_refl _⟩
  obtain ⟨k, e, -, k2, k3⟩ := rg_ex r (by decide)
  unfold dfs
  rw [e, nI_clamp k3]
  exact ⟨rfl, by omega⟩
theorem dfs_bt {m h j : Nat} (hm : m < 256) (hj : j < 32) : bt (nI (dfs m h)) j = (bt (nI m) j && !bt (nI h) j) := by
  rw [← (dfs_e hm).1, bt_and, bt_not _ hj]
theorem b1_sub {p q : Bool} (h : q = true → p = true) : b1 (p && !q) + b1 q = b1 p := by
  cases p <;> cases q
  · rfl
  · exact absurd (h rfl) (by decide)
  · rfl
  · rfl
theorem dfs_pc {m h : Nat} (hm : m < 256) (hw : (nI h &&& (nI m ^^^ (-1 : Int32))) = 0) : pc (nI (dfs m h)) + pc (nI h) = pc (nI m) := by
  rw [wi_iff] at hw
  unfold pc
  rw [dfs_bt hm (by decide), dfs_bt hm (by decide), dfs_bt hm (by decide), dfs_bt hm (by decide), dfs_bt hm (by decide), dfs_bt hm (by decide), dfs_bt hm (by decide), dfs_bt hm (by decide)]
  have h0 := b1_sub (hw 0 (by decide)); have h1 := b1_sub (hw 1 (by decide)); have h2 := b1_sub (hw 2 (by decide)); have h3 := b1_sub (hw 3 (by decide))
  have h4 := b1_sub (hw 4 (by decide)); have h5 := b1_sub (hw 5 (by decide)); have h6 := b1_sub (hw 6 (by decide)); have h7 := b1_sub (hw 7 (by decide))
  omega
/-- what one half gives to one player -/
def cps (f : Nat → Int32) (n : Nat) (c : Nat → Nat → Nat) (m h x : Nat) : Nat := if (nI h &&& (nI m ^^^ (-1 : Int32))) = 0 ∧ 2 * pc (nI h) = pc (nI m) then (if bt (nI h) x = true then 2 * c h x * sm (fun y => if bt (f x) y = true then c (dfs m h) y else 0) n else 0) else 0
def cpn (f : Nat → Int32) (n : Nat) (c : Nat → Nat → Nat) (m x : Nat) : Nat := sm (fun h => cps f n c m h x) m
def cA (m x : Nat) : Nat := if bt (nI m) x = true then 1 else 0
def cB (f : Nat → Int32) (n : Nat) : Nat → Nat → Nat := cpn f n cA
def cC (f : Nat → Int32) (n : Nat) : Nat → Nat → Nat := cpn f n (cB f n)
def cD (f : Nat → Int32) (n : Nat) : Nat → Nat → Nat := cpn f n (cC f n)
def cc (f : Nat → Int32) (n : Nat) (m x : Nat) : Nat := if pc (nI m) = 1 then cA m x else if pc (nI m) = 2 then cB f n m x else if pc (nI m) = 4 then cC f n m x else if pc (nI m) = 8 then cD f n m x else 0
theorem cps_c {f : Nat → Int32} {n : Nat} {c c' : Nat → Nat → Nat} {m h x : Nat} (hm : m < 256) (hc : ∀ t, 2 * pc (nI t) = pc (nI m) → ∀ y, c t y = c' t y) : cps f n c m h x = cps f n c' m h x := by
  unfold cps
  by_cases q : (nI h &&& (nI m ^^^ (-1 : Int32))) = 0 ∧ 2 * pc (nI h) = pc (nI m)
  · rw [if_pos q, if_pos q, hc h q.2 x]
    have e := dfs_pc hm q.1
    have : ∀ y, c (dfs m h) y = c' (dfs m h) y := hc _ (by have := q.2; omega)
    rw [sm_c (g := fun y => if bt (f x) y = true then c' (dfs m h) y else 0) n (fun y _ => by rw [this y])]
  · rw [if_neg q, if_neg q]
theorem cc_e {f : Nat → Int32} {n m x : Nat} (hm : m < 256) (h : pc (nI m) = 2 ∨ pc (nI m) = 4 ∨ pc (nI m) = 8) : cc f n m x = sm (fun h => cps f n (cc f n) m h x) m := by
  unfold cc
  rcases h with h | h | h
  · rw [if_neg (by omega), if_pos h]
    refine sm_c m (fun i _ => cps_c hm (fun t ht y => ?_))
    rw [if_pos (by omega)]
  · rw [if_neg (by omega), if_neg (by omega), if_pos h]
    refine sm_c m (fun i _ => cps_c hm (fun t ht y => ?_))
    rw [if_neg (by omega), if_pos (by omega)]
  · rw [if_neg (by omega), if_neg (by omega), if_neg (by omega), if_pos h]
    refine sm_c m (fun i _ => cps_c hm (fun t ht y => ?_))
    rw [if_neg (by omega), if_neg (by omega), if_pos (by omega)]
theorem cix {m x : Nat} (hm : m < 256) (hx : x < 8) : ((8 : Int32) * nI m) + nI x = nI (8 * m + x) := by
  rw [l8, nmulA, nI_add]
/-- the table up to a set, and the row of that set -/
def ctb (f : Nat → Int32) (n : Nat) (μ s : Mem) (m : Nat) (v : Nat → Nat) : Prop := fr [24] [] μ s ∧ (∀ t x, 1 ≤ t → t < m → x < 8 → gI s 24 (8 * t + x) = nI (cc f n t x)) ∧ ∀ x, x < 8 → gI s 24 (8 * m + x) = nI (v x)
theorem ctb_u {f : Nat → Int32} {n m x w : Nat} {μ s : Mem} {v : Nat → Nat} (hx : x < 8) (h : ctb f n μ s m v) : ctb f n μ (sI s 24 (8 * m + x) (nI w)) m (fun y => if y = x then w else v y) := by
  obtain ⟨h1, h2, h3⟩ := h
  refine ⟨fr_t h1 (fr_sI (by decide)), fun t y t1 t2 hy => ?_, fun y hy => ?_⟩
  · rw [gI_sI, if_pos rfl, upd_ap, if_neg (by omega)]
    exact h2 t y t1 t2 hy
  · rw [gI_sI, if_pos rfl, upd_ap]
    show _ = nI (if y = x then w else v y)
    by_cases c : y = x
    · rw [if_pos (by omega), if_pos c]
    · rw [if_neg (by omega), if_neg c]
      exact h3 y hy
theorem ctb_v {f : Nat → Int32} {n m : Nat} {μ s : Mem} {v w : Nat → Nat} (h : ctb f n μ s m v) (hv : ∀ x, x < 8 → v x = w x) : ctb f n μ s m w := ⟨h.1, h.2.1, fun x hx => by rw [h.2.2 x hx, hv x hx]⟩
theorem lh_M {N : Nat} {μ s : Mem} {f : Nat → Int32} {n m h : Nat} (h8 : n ≤ 8) (h1 : gI μ 1 0 = nI n) (h13 : ∀ a, a < 8 → gI μ 1 (1 + a) = f a) (hm : m < 2 ^ n) (hh1 : 1 ≤ h) (hh : h < m) (hw : (nI h &&& (nI m ^^^ (-1 : Int32))) = 0) (h2 : 2 * pc (nI h) = pc (nI m)) {v : Nat → Nat} (ht : ctb f n μ s m v) : par (f_M_layHalves N (nI m) (nI h) s) (fun s => ctb f n μ s m (fun x => v x + cps f n (cc f n) m h x)) := by
  have hp : (2 : Nat) ^ n ≤ 256 := Nat.pow_le_pow_right (n := 2) (by decide) h8
  have hS : ∀ j, bt (nI h) j = true → j < n := fun j hj => bt_lo h8 (by omega : h < 2 ^ n) hj
  have ed := dfs_e (h := h) (by omega : m < 256)
  have ep := dfs_pc (by omega : m < 256) hw
  have hd1 : 1 ≤ dfs m h := by
    by_cases q : dfs m h = 0
    · rw [q] at ep
      have z : pc (nI 0) = 0 := by decide
      have : ∃ j, j < n ∧ bt (nI h) j = true := lowbits n h8 h (by omega) (by omega)
      obtain ⟨j, j1, j2⟩ := this
      have := pc_lt (x := 0) (y := nI h) (fun i _ hb => by rw [bt_0] at hb; cases hb) (show j < 8 by omega) (bt_0 j) j2
      omega
    · omega
  have hd2 : dfs m h < m := by
    by_cases q : dfs m h = m
    · rw [q] at ep
      have : ∃ j, j < n ∧ bt (nI h) j = true := lowbits n h8 h (by omega) (by omega)
      obtain ⟨j, j1, j2⟩ := this
      have := pc_lt (x := 0) (y := nI h) (fun i _ hb => by rw [bt_0] at hb; cases hb) (show j < 8 by omega) (bt_0 j) j2
      omega
    · have := ed.2
      omega
  have hcs : ∀ x, cps f n (cc f n) m h x = if bt (nI h) x = true then 2 * cc f n h x * sm (fun y => if bt (f x) y = true then cc f n (dfs m h) y else 0) n else 0 := fun x => by
    unfold cps
    rw [if_pos ⟨hw, h2⟩]
  unfold f_M_layHalves
  refine p_it2 (fun i s => ∃ x, x ≤ n ∧ i = nI x ∧ ctb f n μ s m (fun y => if y < x then v y + cps f n (cc f n) m h y else v y)) ?_ N _ _ ⟨0, by omega, rfl, ctb_v ht (fun y hy => by rw [if_neg (by omega)])⟩
  rintro self _ s ⟨x, hx, rfl, hs⟩ ih
  obtain ⟨hf, hold, hrow⟩ := hs
  have hrow2 : ∀ y, y < 8 → gI s 24 (8 * m + y) = nI (if y < x then v y + cps f n (cc f n) m h y else v y) := hrow
  unfold M_layHalves_B2
  rw [many_e (by rw [hf.1 1 (by decide)]; exact h1)]
  refine p_if (fun c => ?_) (fun c => ?_)
  · rw [nle (by omega) (by omega)] at c
    have : x = n := by omega
    subst this
    refine p_some (ctb_v ⟨hf, hold, hrow⟩ (fun y hy => ?_))
    show (if y < x then v y + cps f x (cc f x) m h y else v y) = v y + cps f x (cc f x) m h y
    by_cases q : y < x
    · rw [if_pos q]
    · rw [if_neg q, hcs y]
      cases e : bt (nI h) y
      · rw [if_neg (by decide), Nat.add_zero]
      · exact absurd (hS y e) q
  · rw [nle (by omega) (by omega)] at c
    have k77 : ∀ y4 : Nat, (2 * cc f n h x * y4 = cps f n (cc f n) m h x) → par (M_layHalves_K77 s (nI m) (nI x) (nI h) self (nI y4)) (fun s => ctb f n μ s m (fun x => v x + cps f n (cc f n) m h x)) := fun y4 hy => by
      unfold M_layHalves_K77
      rw [cix (by omega) (by omega), cix (by omega) (by omega), nI_clamp (by omega), nI_clamp (by omega), hrow2 x (by omega), if_neg (by omega), hold h x hh1 hh (by omega), l2, nmulA, nmulA, nI_add, hy, nadd1]
      refine p_gd (fun _ => p_gd (fun _ => p_gd (fun _ => p_bnd ?_)))
      refine ih _ _ ⟨x + 1, by omega, rfl, ctb_v (ctb_u (by omega) ⟨hf, hold, hrow⟩) (fun y hy => ?_)⟩
      show (if y = x then v x + cps f n (cc f n) m h x else (if y < x then v y + cps f n (cc f n) m h y else v y)) = if y < x + 1 then v y + cps f n (cc f n) m h y else v y
      by_cases q : y = x
      · rw [if_pos q, if_pos (by omega), q]
      · rw [if_neg q]
        by_cases q2 : y < x
        · rw [if_pos q2, if_pos (by omega)]
        · rw [if_neg q2, if_neg (by omega)]
    refine p_it2 (fun i6 i7 => ∃ y, y ≤ n ∧ i7 = nI y ∧ ((bt (nI h) x = true ∧ i6 = nI (sm (fun y => if bt (f x) y = true then cc f n (dfs m h) y else 0) y)) ∨ (bt (nI h) x = false ∧ i6 = nI 0))) ?_ N _ _ ⟨0, by omega, rfl, ?_⟩
    · rintro self8 i6 _ ⟨y, hy, rfl, h6⟩ ih8
      unfold M_layHalves_B16
      rw [many_e (by rw [hf.1 1 (by decide)]; exact h1), has_bt (by omega)]
      rcases h6 with ⟨hb, h6⟩ | ⟨hb, h6⟩
      · rw [hb]
        refine p_if (fun c2 => ?_) (fun c2 => ?_)
        · rw [nle (by omega) (by omega)] at c2
          have : y = n := by omega
          subst this
          rw [h6]
          refine k77 _ ?_
          rw [hcs x, hb, if_pos rfl]
        · rw [nle (by omega) (by omega)] at c2
          rw [if_neg (by decide), beats_e (by omega), ob_s, hf.1 1 (by decide), h13 x (by omega), has_bt (by omega), nadd1]
          have hsm : sm (fun y => if bt (f x) y = true then cc f n (dfs m h) y else 0) (y + 1) = sm (fun y => if bt (f x) y = true then cc f n (dfs m h) y else 0) y + (if bt (f x) y = true then cc f n (dfs m h) y else 0) := rfl
          cases hb2 : bt (f x) y
          · rw [if_pos (by decide)]
            rw [hb2, if_neg (by decide)] at hsm
            refine p_bnd (ih8 _ _ ⟨y + 1, by omega, rfl, Or.inl ⟨hb, ?_⟩⟩)
            rw [h6, Int32.add_zero, hsm]
            rfl
          · rw [if_neg (by decide)]
            rw [hb2, if_pos rfl] at hsm
            rw [ed.1, cix (by omega) (by omega), nI_clamp (by omega), hold (dfs m h) y hd1 hd2 (by omega)]
            refine p_gd (fun _ => p_bnd (ih8 _ _ ⟨y + 1, by omega, rfl, Or.inl ⟨hb, ?_⟩⟩))
            rw [h6, nI_add, hsm]
      · rw [hb, h6]
        have k0 := k77 0 (by rw [hcs x, hb, if_neg (by decide), Nat.mul_zero])
        exact p_if (fun _ => k0) (fun _ => p_if (fun _ => k0) (fun q => absurd (by decide) q))
    · cases e : bt (nI h) x
      · exact Or.inr ⟨rfl, rfl⟩
      · exact Or.inl ⟨rfl, rfl⟩
theorem lcu_M {N : Nat} (hN : 8589934592 ≤ N) {μ : Mem} {f : Nat → Int32} {n : Nat} (h8 : n ≤ 8) (h1 : gI μ 1 0 = nI n) (h13 : ∀ a, a < 8 → gI μ 1 (1 + a) = f a) : par (f_M_layCups N μ) (fun s => fr [24] [] μ s ∧ ∀ t x, 1 ≤ t → t < 2 ^ n → x < 8 → gI s 24 (8 * t + x) = nI (cc f n t x)) := by
  have hp : (2 : Nat) ^ n ≤ 256 := Nat.pow_le_pow_right (n := 2) (by decide) h8
  have hp0 : 0 < (2 : Nat) ^ n := Nat.pow_pos (by decide)
  unfold f_M_layCups
  refine p_it2 (fun i s => ∃ m, 1 ≤ m ∧ m ≤ 2 ^ n ∧ i = nI m ∧ fr [24] [] μ s ∧ ∀ t x, 1 ≤ t → t < m → x < 8 → gI s 24 (8 * t + x) = nI (cc f n t x)) ?_ N _ _ ⟨1, by omega, by omega, rfl, fr_r _ _ _, fun t x t1 t2 => by omega⟩
  rintro self _ s0 ⟨m, hm1, hma, rfl, hf0, hold0⟩ ih
  unfold M_layCups_B2
  rw [all_e (by rw [hf0.1 1 (by decide)]; exact h1), mask_e n h8]
  refine p_if (fun c => ?_) (fun c => ?_)
  · rw [nlt (by omega) (by omega)] at c
    exact p_some ⟨hf0, fun t x t1 t2 hx => hold0 t x t1 (by omega) hx⟩
  · rw [nlt (by omega) (by omega)] at c
    have p8 := pc_8 (nI m)
    have nx : ∀ {s : Mem}, ctb f n μ s m (fun x => cc f n m x) → par (self (nI m + 1) s) (fun s => fr [24] [] μ s ∧ ∀ t x, 1 ≤ t → t < 2 ^ n → x < 8 → gI s 24 (8 * t + x) = nI (cc f n t x)) := fun {s} h => by
      rw [nadd1]
      refine ih _ _ ⟨m + 1, by omega, by omega, rfl, h.1, fun t x t1 t2 hx => ?_⟩
      by_cases q : t = m
      · rw [q]; exact h.2.2 x hx
      · exact h.2.1 t x t1 (by omega) hx
    refine p_ob _ (p_tot (M_sizeOf_s hN (nI_rg (b := 255) (by omega) (by omega)))) (fun r4 h4 => ?_)
    rw [h4]
    obtain ⟨b0, eb0⟩ : ∃ b0 : Nat → Nat, b0 = fun x => if pc (nI m) = 1 ∧ bt (nI m) x = true then 1 else 0 := ⟨_, rfl⟩
    have k58 : ∀ {s : Mem}, ctb f n μ s m b0 → par (M_layCups_K58 N (nI m) (nI (pc (nI m))) self s) (fun s => fr [24] [] μ s ∧ ∀ t x, 1 ≤ t → t < 2 ^ n → x < 8 → gI s 24 (8 * t + x) = nI (cc f n t x)) := fun {s} hs => by
      unfold M_layCups_K58
      by_cases hc : pc (nI m) = 2 ∨ pc (nI m) = 4 ∨ pc (nI m) = 8
      · have hb : ∀ x, b0 x = 0 := fun x => by
          rw [eb0]
          show (if pc (nI m) = 1 ∧ bt (nI m) x = true then 1 else 0) = 0
          rw [if_neg (fun q => by have := q.1; omega)]
        have h00 : ∀ x, cps f n (cc f n) m 0 x = 0 := fun x => by
          unfold cps
          rw [if_neg]
          intro q
          have z : pc (nI 0) = 0 := by decide
          have := q.2
          omega
        refine p_it2 (fun i s => ∃ h, 1 ≤ h ∧ h ≤ m ∧ i = nI h ∧ ctb f n μ s m (fun x => sm (fun h => cps f n (cc f n) m h x) h)) ?_ N _ _ ⟨1, by omega, by omega, rfl, ctb_v hs (fun x _ => ?_)⟩
        · rintro self8 _ s ⟨h, hh1, hhm, rfl, ht⟩ ih8
          unfold M_layCups_B60
          refine p_if (fun c2 => ?_) (fun c2 => ?_)
          · rw [nle (by omega) (by omega)] at c2
            have : h = m := by omega
            subst this
            exact nx (ctb_v ht (fun x _ => (cc_e (by omega) hc).symm))
          · rw [nle (by omega) (by omega)] at c2
            have j81 : par (M_layCups_J81 N s (nI m) (nI (pc (nI m))) (nI h) self8) (fun s => fr [24] [] μ s ∧ ∀ t x, 1 ≤ t → t < 2 ^ n → x < 8 → gI s 24 (8 * t + x) = nI (cc f n t x)) := by
              have stay : ¬ ((nI h &&& (nI m ^^^ (-1 : Int32))) = 0 ∧ 2 * pc (nI h) = pc (nI m)) → par (self8 (nI (h + 1)) s) (fun s => fr [24] [] μ s ∧ ∀ t x, 1 ≤ t → t < 2 ^ n → x < 8 → gI s 24 (8 * t + x) = nI (cc f n t x)) := fun q => by
                refine ih8 _ _ ⟨h + 1, by omega, by omega, rfl, ctb_v ht (fun x _ => ?_)⟩
                have z : cps f n (cc f n) m h x = 0 := by
                  unfold cps
                  rw [if_neg q]
                show sm (fun h => cps f n (cc f n) m h x) h = sm (fun h => cps f n (cc f n) m h x) h + cps f n (cc f n) m h x
                rw [z, Nat.add_zero]
              unfold M_layCups_J81
              have ew : t_M_isWithin (nI h) (nI m) = if (nI h &&& (nI m ^^^ (-1 : Int32))) = 0 then 1 else 0 := rfl
              rw [ew, nadd1]
              by_cases q : (nI h &&& (nI m ^^^ (-1 : Int32))) = 0
              · rw [if_pos q, if_neg n10]
                refine p_ob _ (p_tot (M_sizeOf_s hN (nI_rg (b := 255) (by omega) (by omega)))) (fun r9 h9 => ?_)
                have p9 := pc_8 (nI h)
                rw [h9, l2, nmulA]
                refine p_if (fun c3 => ?_) (fun c3 => stay (fun z => c3 (by rw [z.2])))
                have q2 : 2 * pc (nI h) = pc (nI m) := nI_inj (by omega) (by omega) c3
                refine p_ob _ (lh_M h8 h1 h13 (by omega) hh1 (by omega) q q2 ht) (fun s10 h10 => ?_)
                exact ih8 _ _ ⟨h + 1, by omega, by omega, rfl, h10⟩
              · rw [if_neg q, if_pos rfl]
                exact stay (fun z => q z.1)
            by_cases e2 : pc (nI m) = 2
            · rw [if_pos (by rw [e2]; rfl)]
              exact j81
            · rw [if_neg (show ¬ nI (pc (nI m)) = (2 : Int32) from fun q => e2 (nI_inj (by omega) (by decide) (show nI (pc (nI m)) = nI 2 from q)))]
              by_cases e4 : pc (nI m) = 4
              · rw [if_pos (by rw [e4]; rfl)]
                exact j81
              · have e8 : pc (nI m) = 8 := by omega
                rw [if_neg (show ¬ nI (pc (nI m)) = (4 : Int32) from fun q => e4 (nI_inj (by omega) (by decide) (show nI (pc (nI m)) = nI 4 from q))), if_pos (by rw [e8]; rfl)]
                exact j81
        · show b0 x = 0 + cps f n (cc f n) m 0 x
          rw [h00 x, hb x]
      · cases N with
        | zero => exact fun x e => by cases e
        | succ N' =>
          show par (M_layCups_B60 (N' + 1) (nI m) (nI (pc (nI m))) self _ (1 : Int32) s) _
          have fin : ctb f n μ s m (fun x => cc f n m x) := ctb_v hs (fun x _ => by
            rw [eb0]
            show (if pc (nI m) = 1 ∧ bt (nI m) x = true then 1 else 0) = _
            unfold cc
            by_cases e1 : pc (nI m) = 1
            · rw [if_pos e1]
              unfold cA
              cases bt (nI m) x
              · rw [if_neg (fun q => by cases q.2), if_neg (by decide)]
              · rw [if_pos ⟨e1, rfl⟩, if_pos rfl]
            · rw [if_neg (fun q => e1 q.1), if_neg e1, if_neg (fun q => hc (Or.inl q)), if_neg (fun q => hc (Or.inr (Or.inl q))), if_neg (fun q => hc (Or.inr (Or.inr q)))])
          unfold M_layCups_B60
          rw [if_neg (show ¬ nI (pc (nI m)) = (2 : Int32) from fun q => hc (Or.inl (nI_inj (by omega) (by decide) (show nI (pc (nI m)) = nI 2 from q)))), if_neg (show ¬ nI (pc (nI m)) = (4 : Int32) from fun q => hc (Or.inr (Or.inl (nI_inj (by omega) (by decide) (show nI (pc (nI m)) = nI 4 from q))))), if_neg (show ¬ nI (pc (nI m)) = (8 : Int32) from fun q => hc (Or.inr (Or.inr (nI_inj (by omega) (by decide) (show nI (pc (nI m)) = nI 8 from q)))))]
          exact p_if (fun _ => nx fin) (fun _ => nx fin)
    refine p_it2 (fun i s => ∃ x, x ≤ 8 ∧ i = nI x ∧ fr [24] [] μ s ∧ (∀ t x, 1 ≤ t → t < m → x < 8 → gI s 24 (8 * t + x) = nI (cc f n t x)) ∧ ∀ y, y < x → gI s 24 (8 * m + y) = nI (b0 y)) ?_ N _ _ ⟨0, by omega, rfl, hf0, hold0, fun y hy => by omega⟩
    rintro self13 _ s ⟨x, hx, rfl, hf, hold, hrow⟩ ih13
    unfold M_layCups_B17
    refine p_if (fun c2 => ?_) (fun c2 => ?_)
    · rw [l8, nle (by omega) (by omega)] at c2
      have : x = 8 := by omega
      subst this
      exact k58 ⟨hf, hold, hrow⟩
    · rw [l8, nle (by omega) (by omega)] at c2
      have j51 : ∀ w : Nat, w = b0 x → par (M_layCups_J51 s (nI m) (nI x) self13 (nI w)) (fun s => fr [24] [] μ s ∧ ∀ t x, 1 ≤ t → t < 2 ^ n → x < 8 → gI s 24 (8 * t + x) = nI (cc f n t x)) := fun w hw => by
        unfold M_layCups_J51
        rw [cix (by omega) (by omega), nI_clamp (by omega), nadd1]
        refine p_gd (fun _ => p_bnd (ih13 _ _ ⟨x + 1, by omega, rfl, fr_t hf (fr_sI (by decide)), fun t y t1 t2 hy => ?_, fun y hy => ?_⟩))
        · rw [gI_sI, if_pos rfl, upd_ap, if_neg (by omega)]
          exact hold t y t1 t2 hy
        · rw [gI_sI, if_pos rfl, upd_ap]
          by_cases q : y = x
          · rw [if_pos (by omega), q, hw]
          · rw [if_neg (by omega)]
            exact hrow y (by omega)
      have eb : b0 x = if pc (nI m) = 1 ∧ bt (nI m) x = true then 1 else 0 := by rw [eb0]
      have z50 : b0 x = 0 → par (M_layCups_J50 s (nI m) (nI x) self13) (fun s => fr [24] [] μ s ∧ ∀ t x, 1 ≤ t → t < 2 ^ n → x < 8 → gI s 24 (8 * t + x) = nI (cc f n t x)) := fun h => j51 0 h.symm
      by_cases e1 : pc (nI m) = 1
      · rw [if_pos (by rw [e1]; rfl), has_bt (by omega)]
        cases hb : bt (nI m) x
        · rw [if_pos (by decide)]
          exact z50 (by rw [eb, hb, if_neg (fun q => by cases q.2)])
        · rw [if_neg (by decide)]
          exact j51 1 (by rw [eb, hb, if_pos ⟨e1, rfl⟩])
      · rw [if_neg (show ¬ nI (pc (nI m)) = (1 : Int32) from fun q => e1 (nI_inj (by omega) (by decide) (show nI (pc (nI m)) = nI 1 from q)))]
        exact z50 (by rw [eb, if_neg (fun q => e1 q.1)])
