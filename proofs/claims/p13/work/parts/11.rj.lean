/-! the balanced set, in both -/
def okb (f P : Nat → Int32) (n a m : Nat) : Prop := (nI m &&& (nI a ^^^ (-1 : Int32))) = 0 ∧ pc (nI m) % 2 = 1 ∧ (∀ j, j < 8 → bt (nI m) j = true → 0 < vv P m j) ∧ ∀ x, x < n → bt (nI a) x = true → gF f (vv P m) x n ≤ 0
/-- a set without one of its own: even, within -/
theorem clr_ev {m k a : Nat} (hm : m < 256) (hk : k < 8) (hw : (nI m &&& (nI a ^^^ (-1 : Int32))) = 0) (ho : pc (nI m) % 2 = 1) (hb : bt (nI m) k = true) : (clr (nI m) k).toNatClampNeg < m ∧ (nI (clr (nI m) k).toNatClampNeg &&& (nI a ^^^ (-1 : Int32))) = 0 ∧ pc (nI (clr (nI m) k).toNatClampNeg) % 2 = 0 ∧ pc (nI (clr (nI m) k).toNatClampNeg) + 1 = pc (nI m) := by
  obtain ⟨c1', c2', c3'⟩ := clr_f m hm k hk
  obtain ⟨c4, c5⟩ := c3' hb
  rw [← c2']
  refine ⟨c4, ?_, by omega, c5⟩
  rw [wi_iff] at hw ⊢
  intro j hj h
  rw [clr_bt hk hj] at h
  exact hw j hj (Bool.and_eq_true_iff.mp h).1
theorem okb_c {f P P' : Nat → Int32} {n a m : Nat} (h8 : n ≤ 8) (hm : m < 256) (h : ∀ t, t < m → (nI t &&& (nI a ^^^ (-1 : Int32))) = 0 → pc (nI t) % 2 = 0 → P t = P' t) (hk : okb f P n a m) : okb f P' n a m := by
  obtain ⟨k1, k2, k3, k4⟩ := hk
  have hv : ∀ k, k < 8 → vv P m k = vv P' m k := fun k hk => vv_c (fun k hk hb => by
    obtain ⟨a1, a2, a3, -⟩ := clr_ev hm hk k1 k2 hb
    exact h _ a1 a2 a3) hk
  refine ⟨k1, k2, fun j hj hb => by rw [← hv j hj]; exact k3 j hj hb, fun x hx hb => ?_⟩
  rw [gF_c (w := vv P m) n (fun j hj => (hv j (by omega)).symm)]
  exact k4 x hx hb
theorem vv_15 {f P : Nat → Int32} {n a m : Nat} (h8 : n ≤ 8) (ha : a < 2 ^ n) (h0 : P 0 = 1) (hE : ∀ m, 0 < m → m ≤ a → (nI m &&& (nI a ^^^ (-1 : Int32))) = 0 → pc (nI m) % 2 = 0 → pfe f n P m) (hm : m < 2 ^ n) (hw : (nI m &&& (nI a ^^^ (-1 : Int32))) = 0) (ho : pc (nI m) % 2 = 1) : ∀ k, k < 8 → rg (-((15 : Nat) : Int)) ((15 : Nat) : Int) (vv P m k) := by
  have hp : (2 : Nat) ^ n ≤ 256 := Nat.pow_le_pow_right (n := 2) (by decide) h8
  have d15 : ∀ k, k ≤ 6 → dfa k ≤ 15 := by decide
  have hma : m ≤ a := wi_le (by omega) (by omega) hw
  intro k hk
  refine vv_b (by decide) (fun k hk hb => ?_) hk
  obtain ⟨a1, a2, a3, a4⟩ := clr_ev (by omega : m < 256) hk hw ho hb
  have p8 := pc_8 (nI m)
  have r := pf_b h8 ha h0 hE _ _ (Nat.le_refl _) (by omega) a2 a3
  have := d15 (pc (nI (clr (nI m) k).toNatClampNeg)) (by omega)
  exact rg_w r ⟨by omega, by omega⟩
def bal (f P : Nat → Int32) (n a : Nat) (top : Nat) (r : Int32) (Q : Nat → Prop) : Prop := (∃ m, 1 ≤ m ∧ m ≤ top ∧ okb f P n a m ∧ (∀ j, 1 ≤ j → j < m → ¬ okb f P n a j) ∧ r = nI m ∧ Q m) ∨ ((∀ j, 1 ≤ j → j ≤ top → ¬ okb f P n a j) ∧ r = 0)
theorem ba_D {N : Nat} {σ : Mem} {n a : Nat} (h8 : n ≤ 8) (h3 : gI σ 3 0 = nI n) (ha : a < 2 ^ n) : par (f_We_balance N (nI a) σ) (fun q => fr [19, 20] [] σ q.2 ∧ ∃ P : Nat → Int32, P 0 = 1 ∧ (∀ m, 0 < m → m ≤ a → (nI m &&& (nI a ^^^ (-1 : Int32))) = 0 → pc (nI m) % 2 = 0 → pfe (gI σ 13) n P m) ∧ bal (gI σ 13) P n a a q.1 (fun m => ∀ j, j < 8 → gI q.2 19 j = nI (vN P m j / gk (vN P m) 8))) := by
  have hp : (2 : Nat) ^ n ≤ 256 := Nat.pow_le_pow_right (n := 2) (by decide) h8
  unfold f_We_balance
  refine p_ob _ (fp_D h8 h3 ha) (fun s1 h1 => ?_)
  obtain ⟨f1, p0, hE⟩ := h1
  obtain ⟨P, eP⟩ : ∃ P, P = gI s1 20 := ⟨_, rfl⟩
  rw [← eP] at p0 hE
  refine p_it2 (fun i s => ∃ m, 1 ≤ m ∧ m ≤ a + 1 ∧ i = nI m ∧ fr [19] [] s1 s ∧ ∀ j, 1 ≤ j → j < m → ¬ okb (gI σ 13) P n a j) ?_ N _ _ ⟨1, by omega, by omega, rfl, fr_r _ _ _, fun j j1 j2 => by omega⟩
  rintro self _ s ⟨m, hm1, hma, rfl, hf, hn⟩ ih
  have F : ∀ {s}, fr [19] [] s1 s → fr [19, 20] [] σ s := fun h => fr_t (fr_m f1 (by decide) (by decide)) (fr_m h (by decide) (by decide))
  unfold We_balance_B7
  refine p_if (fun c => ?_) (fun c => ?_)
  · rw [nlt (by omega) (by omega)] at c
    exact p_some ⟨F hf, P, p0, hE, Or.inr ⟨fun j j1 j2 => hn j j1 (by omega), rfl⟩⟩
  · rw [nlt (by omega) (by omega)] at c
    have next : ∀ {s}, fr [19] [] s1 s → ¬ okb (gI σ 13) P n a m → par (self (nI (m + 1)) s) (fun q => fr [19, 20] [] σ q.2 ∧ ∃ P : Nat → Int32, P 0 = 1 ∧ (∀ m, 0 < m → m ≤ a → (nI m &&& (nI a ^^^ (-1 : Int32))) = 0 → pc (nI m) % 2 = 0 → pfe (gI σ 13) n P m) ∧ bal (gI σ 13) P n a a q.1 (fun m => ∀ j, j < 8 → gI q.2 19 j = nI (vN P m j / gk (vN P m) 8))) := fun {s} h hno => by
      refine ih _ _ ⟨m + 1, by omega, by omega, rfl, h, fun j j1 j2 => ?_⟩
      by_cases cj : j = m
      · rw [cj]; exact hno
      · exact hn j j1 (by omega)
    rw [nadd1, cnt_v (nI_rg (by omega) (by omega)), par2 _ (by have := pc_8 (nI m); omega)]
    refine p_if (fun c2 => ?_) (fun c2 => next hf (fun q => c2 q.1))
    refine p_if (fun c3 => ?_) (fun c3 => next hf (fun q => c3 (by rw [q.2.1]; rfl)))
    have od : pc (nI m) % 2 = 1 := nI_inj (by omega) (by decide) (show nI (pc (nI m) % 2) = nI 1 from c3)
    have g20 : gI s 20 = P := by rw [hf.1 20 (by decide), eP]
    refine p_obq _ (sa_D (by omega : m < 256)) (fun r9 s8 h9 => ?_)
    obtain ⟨f8, h9⟩ := h9
    have f8' : fr [19] [] s1 s8 := fr_t hf f8
    rw [g20] at h9
    rcases h9 with ⟨r1, r2, r3⟩ | ⟨r1, j, j1, j2, j3⟩
    · have r1' : r9 = 1 := r1
      rw [if_neg (by rw [r1']; decide)]
      have g3 : gI s8 3 0 = nI n := by rw [f8'.1 3 (by decide), f1.1 3 (by decide)]; exact h3
      have g13 : gI s8 13 = gI σ 13 := by rw [f8'.1 13 (by decide), f1.1 13 (by decide)]
      have eg : ∀ x, gF (gI σ 13) (gI s8 19) x n = gF (gI σ 13) (vv P m) x n := fun x => gF_c n (fun j hj => r2 j (by omega))
      refine p_ob _ (ng_D h8 g3 (nI a)) (fun r10 h10 => ?_)
      rw [g13] at h10
      rcases h10 with ⟨t1, t2⟩ | ⟨t1, t2⟩
      · rw [if_neg (by rw [t1]; decide)]
        have ok : okb (gI σ 13) P n a m := ⟨c2, od, r3, fun x hx hb => by rw [← eg x]; exact t2 x hx hb⟩
        have v15 := vv_15 h8 ha p0 hE (by omega : m < 2 ^ n) c2 od
        have hA : ∀ j, j < 8 → vv P m j = nI (vN P m j) ∧ vN P m j ≤ 15 ∧ (bt (nI m) j = true → 1 ≤ vN P m j) := fun j hj => vN_e (by decide) (v15 j hj) (r3 j hj)
        unfold We_balance_K50
        refine p_ob _ (ds_D (A := vN P m) (fun j hj => by have := (hA j hj).2.1; omega) (fun j hj => (r2 j hj).trans (hA j hj).1)) (fun s4 h4 => p_some ⟨F (fr_t f8' h4.1), P, p0, hE, Or.inl ⟨m, hm1, by omega, ok, hn, rfl, h4.2⟩⟩)
      · rw [if_pos t1]
        refine next f8' (fun q => t2 (fun x hx hb => ?_))
        rw [eg x]
        exact q.2.2.2 x hx hb
    · have r1' : r9 = 0 := r1
      rw [if_pos r1']
      exact next f8' (fun q => j3 (q.2.2.1 j j1 j2))
theorem ba_M {N : Nat} (hN : 8589934592 ≤ N) {μ : Mem} {f : Nat → Int32} {n a : Nat} (h8 : n ≤ 8) (h1 : gI μ 1 0 = nI n) (h13 : ∀ a, a < 8 → gI μ 1 (1 + a) = f a) (ha : a < 2 ^ n) : par (f_M_balanced N (nI a) μ) (fun q => fr [20, 21] [] μ q.2 ∧ ∃ P : Nat → Int32, P 0 = 1 ∧ (∀ m, 0 < m → m < 2 ^ n → pc (nI m) % 2 = 0 → pfe f n P m) ∧ bal f P n a (2 ^ n - 1) q.1 (fun m => ∀ j, j < 8 → gI q.2 21 j = nI (vN P m j / gk (vN P m) 8))) := by
  have hp : (2 : Nat) ^ n ≤ 256 := Nat.pow_le_pow_right (n := 2) (by decide) h8
  have hp0 : 0 < (2 : Nat) ^ n := Nat.pow_pos (by decide)
  unfold f_M_balanced
  refine p_ob _ (lp_M hN h8 h1 h13) (fun s1 h1' => ?_)
  obtain ⟨f1, p0, hE⟩ := h1'
  obtain ⟨P, eP⟩ : ∃ P, P = gI s1 20 := ⟨_, rfl⟩
  rw [← eP] at p0 hE
  refine p_it2 (fun i s => ∃ m, 1 ≤ m ∧ m ≤ 2 ^ n ∧ i = nI m ∧ fr [21] [] s1 s ∧ ∀ j, 1 ≤ j → j < m → ¬ okb f P n a j) ?_ N _ _ ⟨1, by omega, by omega, rfl, fr_r _ _ _, fun j j1 j2 => by omega⟩
  rintro self _ s ⟨m, hm1, hma, rfl, hf, hn⟩ ih
  have F : ∀ {s}, fr [21] [] s1 s → fr [20, 21] [] μ s := fun h => fr_t (fr_m f1 (by decide) (by decide)) (fr_m h (by decide) (by decide))
  have G1 : ∀ {s}, fr [21] [] s1 s → gI s 1 = gI μ 1 := fun h => by rw [h.1 1 (by decide), f1.1 1 (by decide)]
  unfold M_balanced_B6
  rw [all_e (by rw [G1 hf]; exact h1), mask_e n h8]
  refine p_if (fun c => ?_) (fun c => ?_)
  · rw [nlt (by omega) (by omega)] at c
    exact p_some ⟨F hf, P, p0, hE, Or.inr ⟨fun j j1 j2 => hn j j1 (by omega), rfl⟩⟩
  · rw [nlt (by omega) (by omega)] at c
    have next : ∀ {s}, fr [21] [] s1 s → ¬ okb f P n a m → par (self (nI (m + 1)) s) (fun q => fr [20, 21] [] μ q.2 ∧ ∃ P : Nat → Int32, P 0 = 1 ∧ (∀ m, 0 < m → m < 2 ^ n → pc (nI m) % 2 = 0 → pfe f n P m) ∧ bal f P n a (2 ^ n - 1) q.1 (fun m => ∀ j, j < 8 → gI q.2 21 j = nI (vN P m j / gk (vN P m) 8))) := fun {s} h hno => by
      refine ih _ _ ⟨m + 1, by omega, by omega, rfl, h, fun j j1 j2 => ?_⟩
      by_cases cj : j = m
      · rw [cj]; exact hno
      · exact hn j j1 (by omega)
    rw [nadd1]
    have ew : t_M_isWithin (nI m) (nI a) = if (nI m &&& (nI a ^^^ (-1 : Int32))) = 0 then 1 else 0 := rfl
    rw [ew]
    by_cases c2 : (nI m &&& (nI a ^^^ (-1 : Int32))) = 0
    · rw [if_pos c2, if_neg n10]
      refine p_ob _ (p_tot (M_sizeOf_s hN (nI_rg (b := 255) (by omega) (by omega)))) (fun r5 h5 => ?_)
      rw [h5, par2 _ (by have := pc_8 (nI m); omega)]
      refine p_if (fun c3 => ?_) (fun c3 => next hf (fun q => c3 (by rw [q.2.1]; rfl)))
      have od : pc (nI m) % 2 = 1 := nI_inj (by omega) (by decide) (show nI (pc (nI m) % 2) = nI 1 from c3)
      have g20 : gI s 20 = P := by rw [hf.1 20 (by decide), eP]
      have v15 := vv_15 (f := f) (P := P) h8 ha p0 (fun m m1 m2 _ m4 => hE m m1 (by omega) m4) (by omega : m < 2 ^ n) c2 od
      have hw := wg_M (N := N) (μ := s) (m := m) (B := 15) (by omega) hm1 (by decide) (by rw [g20]; exact v15)
      refine p_obq _ hw (fun r7 s6 h7 => ?_)
      obtain ⟨f6, h7⟩ := h7
      have f6' : fr [21] [] s1 s6 := fr_t hf f6
      rw [g20] at h7
      rcases h7 with ⟨r1, r3, r2⟩ | ⟨r1, j, j1, j2, j3⟩
      · have r1' : r7 = 1 := r1
        have r2' : ∀ j, j < 8 → gI s6 21 j = nI (vN P m j / gk (vN P m) 8) := r2
        rw [if_neg (by rw [r1']; decide)]
        have hA : ∀ j, j < 8 → vv P m j = nI (vN P m j) ∧ vN P m j ≤ 15 ∧ (bt (nI m) j = true → 1 ≤ vN P m j) := fun j hj => vN_e (by decide) (v15 j hj) (r3 j hj)
        have gp : 1 ≤ gk (vN P m) 8 := by
          obtain ⟨j, hj, hb⟩ := lowbits n h8 m (by omega) (by omega)
          exact gk_p (vN P m) (j := j) (by have := (hA j (by omega)).2.2 hb; omega) 8 (by omega)
        have sc : ∀ x, (gF f (vv P m) x n).toInt = (gk (vN P m) 8 : Int) * (gF f (gI s6 21) x n).toInt := fun x => (gF_s (f := f) (v := vv P m) (w := gI s6 21) (x := x) (n := n) gp (fun k hk => rg_w (v15 k (by omega)) (by decide)) (fun k hk => by
          have d := gk_d (vN P m) 8 k (by omega)
          have e := Nat.div_mul_cancel d
          have le := Nat.div_le_self (vN P m k) (gk (vN P m) 8)
          have b15 := (hA k (by omega)).2.1
          rw [(hA k (by omega)).1, r2' k (by omega), nI_toInt (by omega), nI_toInt (by omega), ← Int.natCast_mul, Nat.mul_comm, e]) n (Nat.le_refl _) h8).1
        have sg : ∀ x, gF f (vv P m) x n ≤ 0 ↔ gF f (gI s6 21) x n ≤ 0 := fun x => by
          have z : (0 : Int32).toInt = 0 := by decide
          rw [i_le, i_le, z, sc x]
          constructor
          · intro h
            by_cases q : 0 < (gF f (gI s6 21) x n).toInt
            · have := Int.mul_pos (show (0 : Int) < (gk (vN P m) 8 : Int) by omega) q
              omega
            · omega
          · intro h
            have := Int.mul_nonpos_of_nonneg_of_nonpos (show (0 : Int) ≤ (gk (vN P m) 8 : Int) by omega) h
            omega
        refine p_ob _ (ng_M (f := f) h8 (by rw [G1 f6']; exact h1) (fun a ha => by rw [G1 f6']; exact h13 a ha) (nI a)) (fun r10 h10 => ?_)
        rcases h10 with ⟨t1, t2⟩ | ⟨t1, t2⟩
        · rw [if_neg (by rw [t1]; decide)]
          have ok : okb f P n a m := ⟨c2, od, r3, fun x hx hb => (sg x).mpr (t2 x hx hb)⟩
          exact p_some ⟨F f6', P, p0, hE, Or.inl ⟨m, hm1, by omega, ok, hn, rfl, r2'⟩⟩
        · rw [if_pos t1]
          exact next f6' (fun q => t2 (fun x hx hb => (sg x).mp (q.2.2.2 x hx hb)))
      · have r1' : r7 = 0 := r1
        rw [if_pos r1']
        exact next f6' (fun q => j3 (q.2.2.1 j j1 j2))
    · rw [if_neg c2, if_pos rfl]
      exact next hf (fun q => c2 q.1)
/-- both find the same -/
theorem ba_b {f P P' : Nat → Int32} {n a : Nat} {r r' : Int32} {Q Q' : Nat → Prop} (h8 : n ≤ 8) (ha : a < 2 ^ n) (p0 : P 0 = 1) (hE : ∀ m, 0 < m → m ≤ a → (nI m &&& (nI a ^^^ (-1 : Int32))) = 0 → pc (nI m) % 2 = 0 → pfe f n P m) (p0' : P' 0 = 1) (hE' : ∀ m, 0 < m → m < 2 ^ n → pc (nI m) % 2 = 0 → pfe f n P' m) (h : bal f P n a a r Q) (h' : bal f P' n a (2 ^ n - 1) r' Q') : r = r' ∧ ((∃ m, 1 ≤ m ∧ m ≤ a ∧ okb f P n a m ∧ r = nI m ∧ Q m ∧ Q' m ∧ ∀ j, j < 8 → vv P m j = vv P' m j) ∨ ((∀ j, 1 ≤ j → j ≤ a → ¬ okb f P n a j) ∧ r = 0)) := by
  have hp : (2 : Nat) ^ n ≤ 256 := Nat.pow_le_pow_right (n := 2) (by decide) h8
  have pe := pf_e h8 ha p0 p0' hE hE'
  have wl : ∀ t, t < 256 → (nI t &&& (nI a ^^^ (-1 : Int32))) = 0 → t ≤ a := fun t ht hw => wi_le (by omega) (by omega) hw
  have go : ∀ m, m < 256 → okb f P n a m → okb f P' n a m := fun m hm => okb_c h8 hm (fun t t1 t2 t3 => pe t t (Nat.le_refl _) (wl t (by omega) t2) t2 t3)
  have go' : ∀ m, m < 256 → okb f P' n a m → okb f P n a m := fun m hm => okb_c h8 hm (fun t t1 t2 t3 => (pe t t (Nat.le_refl _) (wl t (by omega) t2) t2 t3).symm)
  rcases h with ⟨m, m1, m2, m3, m4, m5, m6⟩ | ⟨m4, m5⟩
  · rcases h' with ⟨k, k1, k2, k3, k4, k5, k6⟩ | ⟨k4, k5⟩
    · have : m = k := by
        by_cases c : m < k
        · exact absurd (go m (by omega) m3) (k4 m m1 c)
        · by_cases d : k < m
          · exact absurd (go' k (by omega) k3) (m4 k k1 d)
          · omega
      subst this
      refine ⟨by rw [m5, k5], Or.inl ⟨m, m1, m2, m3, m5, m6, k6, fun j hj => vv_c (fun k hk hb => ?_) hj⟩⟩
      obtain ⟨a1, a2, a3, -⟩ := clr_ev (by omega : m < 256) hk m3.1 m3.2.1 hb
      exact pe _ _ (Nat.le_refl _) (wl _ (by omega) a2) a2 a3
    · exact absurd (go m (by omega) m3) (k4 m m1 (by omega))
  · rcases h' with ⟨k, k1, k2, k3, k4, k5, k6⟩ | ⟨k4, k5⟩
    · exact absurd (go' k (by omega) k3) (m4 k k1 (wl k (by omega) k3.1))
    · exact ⟨by rw [m5, k5], Or.inr ⟨m4, m5⟩⟩
