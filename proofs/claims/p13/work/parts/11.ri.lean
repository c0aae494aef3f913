/-! weighs of the reference, the division of the other, the balanced set in both -/
theorem pos_n {x : Int32} {B : Nat} (hB : B < 2147483648) (h : rg (-(B : Int)) B x) (hp : 0 < x) : ∃ a, 1 ≤ a ∧ a ≤ B ∧ x = nI a := by
  rw [i_lt] at hp
  have z : (0 : Int32).toInt = 0 := by decide
  obtain ⟨k, e, h1, h2, h3⟩ := rg_ex (a := 1) (b := B) (x := x) ⟨by omega, h.2⟩ (by decide)
  exact ⟨k, by omega, by omega, e⟩
/-- shares as numbers -/
def vN (P : Nat → Int32) (m : Nat) : Nat → Nat := fun k => (vv P m k).toNatClampNeg
theorem vN_e {P : Nat → Int32} {m B k : Nat} (hB : B < 2147483648) (h : rg (-(B : Int)) B (vv P m k)) (hp : bt (nI m) k = true → 0 < vv P m k) : vv P m k = nI (vN P m k) ∧ vN P m k ≤ B ∧ (bt (nI m) k = true → 1 ≤ vN P m k) := by
  unfold vN
  cases hb : bt (nI m) k
  · have : vv P m k = 0 := by
      unfold vv
      rw [hb]
      rfl
    rw [this]
    exact ⟨rfl, Nat.zero_le _, fun q => by cases q⟩
  · obtain ⟨a, a1, a2, a3⟩ := pos_n hB h (hp hb)
    rw [a3, nI_clamp (by omega)]
    exact ⟨rfl, a2, fun _ => a1⟩
theorem wd_M {y j0 : Nat} {N : Nat} {μ s0 : Mem} (hy : 0 < y) (hy2 : y < 30000) (hf : fr [21] [] μ s0) {A : Nat → Nat} (hA : ∀ j, A j < 30000) (h : ∀ j, j < 8 → gI s0 21 j = nI (A j)) : par (it2 (M_weighs_B142 (nI y) (1 : Int32)) N (0 : Int32) s0) (fun q => q.1 = 1 ∧ fr [21] [] μ q.2 ∧ ∀ j, j < 8 → gI q.2 21 j = nI (A j / y)) := by
  refine p_it2 (fun i s => ∃ k, k ≤ 8 ∧ i = nI k ∧ fr [21] [] μ s ∧ (∀ j, j < k → gI s 21 j = nI (A j / y)) ∧ ∀ j, k ≤ j → j < 8 → gI s 21 j = nI (A j)) ?_ N _ _ ⟨0, by omega, rfl, hf, fun j hj => by omega, fun j _ hj => h j hj⟩
  rintro self _ s ⟨k, hk, rfl, hf, h1, h2⟩ ih
  unfold M_weighs_B142
  refine p_if (fun c => ?_) (fun c => ?_)
  · rw [l8, nle (by omega) (by omega)] at c
    exact p_gd (fun _ => p_some ⟨rfl, hf, fun j hj => h1 j (by omega)⟩)
  · rw [l8, nle (by omega) (by omega)] at c
    rw [if_neg n10]
    refine p_gd (fun _ => p_gd (fun _ => p_gd (fun _ => p_bnd ?_)))
    rw [nI_clamp (by omega), h2 k (by omega) (by omega), ndiv (by have := hA k; omega) (by omega) hy, nadd1]
    refine ih _ _ ⟨k + 1, by omega, rfl, fr_t hf (fr_sI (by decide)), fun j hj => ?_, fun j j1 j2 => ?_⟩
    · rw [gI_sI, if_pos rfl, upd_ap]
      by_cases cj : j = k
      · rw [if_pos cj, cj]
      · rw [if_neg cj]; exact h1 j (by omega)
    · rw [gI_sI, if_pos rfl, upd_ap, if_neg (by omega)]
      exact h2 j (by omega) j2
theorem fc_0 {P : Nat → Int32} {m : Nat} : ∀ k, fc P m k = 0 → ∀ j, j < k → bt (nI m) j = false
  | 0, _, j, hj => absurd hj (Nat.not_lt_zero _)
  | k + 1, h, j, hj => by
    unfold fc at h
    cases c : bt (nI m) k
    · rw [c, if_neg (by decide)] at h
      by_cases cj : j = k
      · rw [cj]; exact c
      · exact fc_0 k h j (by omega)
    · rw [c, if_pos rfl] at h
      rcases fx_pm (P := P) (m := m) (k := k) (fc_pm (P := P) (m := m) k) with q | q
      · rw [q] at h; exact absurd h (by decide)
      · rw [q] at h; exact absurd h (by decide)
theorem wg_M {N : Nat} {μ : Mem} {m B : Nat} (hm : m < 256) (hm1 : 1 ≤ m) (hB : B ≤ 1000) (hv : ∀ k, k < 8 → rg (-(B : Int)) B (vv (gI μ 20) m k)) : par (f_M_weighs N (nI m) μ) (fun q => fr [21] [] μ q.2 ∧ ((q.1 = 1 ∧ (∀ j, j < 8 → bt (nI m) j = true → 0 < vv (gI μ 20) m j) ∧ ∀ j, j < 8 → gI q.2 21 j = nI (vN (gI μ 20) m j / gk (vN (gI μ 20) m) 8)) ∨ (q.1 = 0 ∧ ∃ j, j < 8 ∧ bt (nI m) j = true ∧ ¬ 0 < vv (gI μ 20) m j))) := by
  obtain ⟨P, eP⟩ : ∃ P, P = gI μ 20 := ⟨_, rfl⟩
  rw [← eP] at hv ⊢
  have hmb : ∃ j, j < 8 ∧ bt (nI m) j = true := by
    obtain ⟨j, h1, h2⟩ := bt_ne0 (x := nI m) (nI_rg (by omega) (by omega)) (fun q => by
      have := nI_inj (by omega) (by decide) (show nI m = nI 0 from q)
      omega)
    exact ⟨j, h1, h2⟩
  unfold f_M_weighs
  refine p_ob _ (fst_M (nI m)) (fun r hr => p_gd (fun _ => ?_))
  rcases hr with ⟨-, r2⟩ | ⟨x0, x8, r1, r2, r3⟩
  · obtain ⟨j, h1, h2⟩ := hmb
    rw [r2 j h1] at h2
    cases h2
  · have e0 : gI μ 20 (nI m &&& (((1 : Int32) <<< (r &&& 31)) ^^^ (-1 : Int32))).toNatClampNeg = P (clr (nI m) x0).toNatClampNeg := by
      rw [r1, eP]
      rfl
    rw [e0]
    have key : ∀ v2 : Int32, ((v2 = 0 ∧ 0 ≤ P (clr (nI m) x0).toNatClampNeg) ∨ (v2 = 1 ∧ ¬ 0 ≤ P (clr (nI m) x0).toNatClampNeg)) → par (M_weighs_J30 N μ (nI m) v2) (fun q => fr [21] [] μ q.2 ∧ ((q.1 = 1 ∧ (∀ j, j < 8 → bt (nI m) j = true → 0 < vv P m j) ∧ ∀ j, j < 8 → gI q.2 21 j = nI (vN P m j / gk (vN P m) 8)) ∨ (q.1 = 0 ∧ ∃ j, j < 8 ∧ bt (nI m) j = true ∧ ¬ 0 < vv P m j))) := fun v2 h2 => by
      unfold M_weighs_J30
      refine p_it5 (fun i10 i11 i12 i13 s => ∃ k, k ≤ 8 ∧ i13 = nI k ∧ fr [21] [] μ s ∧ ((i12 = 0 ∧ ∃ j, j < 8 ∧ bt (nI m) j = true ∧ ¬ 0 < vv P m j) ∨ (i12 = 1 ∧ (∀ j, j < k → bt (nI m) j = true → 0 < vv P m j) ∧ (∀ j, j < k → gI s 21 j = vv P m j) ∧ i11 = nI (gk (vN P m) k) ∧ ((fc P m k = 0 ∧ i10 = 1) ∨ (¬ fc P m k = 0 ∧ (if v2 = 0 then i10 else -i10) = fc P m k))))) ?_ N _ _ _ _ _ ⟨0, by omega, rfl, fr_r _ _ _, Or.inr ⟨rfl, fun j hj => by omega, fun j hj => by omega, rfl, Or.inl ⟨rfl, rfl⟩⟩⟩
      rintro self i10 i11 i12 _ s ⟨k, hk, rfl, hf, h⟩ ih
      unfold M_weighs_B35
      refine p_if (fun c => ?_) (fun c => ?_)
      · rw [l8, nle (by omega) (by omega)] at c
        have : k = 8 := by omega
        subst this
        unfold M_weighs_K139
        rcases h with ⟨e12, h⟩ | ⟨e12, h3, h4, h5, -⟩
        · rw [e12]
          cases N with
          | zero => exact fun x e => by cases e
          | succ N' =>
            show par (M_weighs_B142 i11 (0 : Int32) _ (0 : Int32) s) _
            unfold M_weighs_B142
            rw [if_neg (by decide), if_pos rfl]
            exact p_gd (fun _ => p_some ⟨hf, Or.inr ⟨rfl, h⟩⟩)
        · rw [e12, h5]
          have hA : ∀ j, j < 8 → vv P m j = nI (vN P m j) ∧ vN P m j ≤ B ∧ (bt (nI m) j = true → 1 ≤ vN P m j) := fun j hj => vN_e (by omega) (hv j hj) (h3 j hj)
          have hA2 : ∀ j, vN P m j < 30000 := fun j => by
            by_cases q : j < 8
            · have := (hA j q).2.1; omega
            · have : vv P m j = 0 := by
                unfold vv
                rw [bt_hi (nI_rg (b := 255) (by omega) (by omega)) 8 (by decide) (by omega)]
                rfl
              unfold vN
              rw [this, n0]
              decide
          obtain ⟨j0, j1, j2⟩ := hmb
          have gp := gk_p (vN P m) (j := j0) (by have := (hA j0 j1).2.2 j2; omega) 8 j1
          have gb := gk_b (vN P m) (B := 29999) (fun j => by have := hA2 j; omega) 8
          refine p_mono (wd_M (j0 := 0) gp (by omega) hf hA2 (fun j hj => (h4 j hj).trans (hA j hj).1)) (fun q hq => ⟨hq.2.1, Or.inl ⟨hq.1, h3, hq.2.2⟩⟩)
      · rw [l8, nle (by omega) (by omega)] at c
        refine p_gd (fun _ => p_let (fun s16 e16 => ?_))
        rw [nI_clamp (by omega)] at e16
        have f16 : fr [21] [] μ s16 := by rw [e16]; exact fr_t hf (fr_sI (by decide))
        have hfc : fc P m (k + 1) = if bt (nI m) k = true then -(fx P m k (fc P m k)) else fc P m k := rfl
        have hvv : vv P m k = if bt (nI m) k = true then fx P m k (fc P m k) * P (clr (nI m) k).toNatClampNeg else 0 := rfl
        have hgk : gk (vN P m) (k + 1) = Nat.gcd (vN P m k) (gk (vN P m) k) := rfl
        rw [has_bt (by omega), nadd1]
        cases hb : bt (nI m) k
        · rw [if_pos (by decide)]
          rw [hb, if_neg (by decide)] at hfc hvv
          refine ih _ _ _ _ _ ⟨k + 1, by omega, rfl, f16, ?_⟩
          rcases h with h | ⟨e12, h3, h4, h5, h6⟩
          · exact Or.inl h
          · refine Or.inr ⟨e12, fun j hj hb2 => ?_, fun j hj => ?_, ?_, by rw [hfc]; exact h6⟩
            · by_cases cj : j = k
              · rw [cj, hb] at hb2; cases hb2
              · exact h3 j (by omega) hb2
            · rw [e16, gI_sI, if_pos rfl, upd_ap]
              by_cases cj : j = k
              · rw [if_pos cj, cj, hvv]
              · rw [if_neg cj]; exact h4 j (by omega)
            · have : vN P m k = 0 := by
                unfold vN
                rw [hvv]
                rfl
              rw [h5, hgk, this, Nat.gcd_zero_left]
        · rw [if_neg (by decide)]
          rw [hb, if_pos rfl] at hfc hvv
          -- one is wrong already, or gets wrong here
          have bad : ∀ (v17 : Int32), (∃ j, j < 8 ∧ bt (nI m) j = true ∧ ¬ 0 < vv P m j) → (i12 = 0 ∨ ¬ 0 < v17 * P (clr (nI m) k).toNatClampNeg) → par (M_weighs_J70 N s16 (nI m) i10 i11 i12 (nI k) self v17) (fun q => fr [21] [] μ q.2 ∧ ((q.1 = 1 ∧ (∀ j, j < 8 → bt (nI m) j = true → 0 < vv P m j) ∧ ∀ j, j < 8 → gI q.2 21 j = nI (vN P m j / gk (vN P m) 8)) ∨ (q.1 = 0 ∧ ∃ j, j < 8 ∧ bt (nI m) j = true ∧ ¬ 0 < vv P m j))) := fun v17 hw hc => by
            have go : ∀ x18, par (M_weighs_J100 N s16 i10 i11 (nI k) x18 self) (fun q => fr [21] [] μ q.2 ∧ ((q.1 = 1 ∧ (∀ j, j < 8 → bt (nI m) j = true → 0 < vv P m j) ∧ ∀ j, j < 8 → gI q.2 21 j = nI (vN P m j / gk (vN P m) 8)) ∨ (q.1 = 0 ∧ ∃ j, j < 8 ∧ bt (nI m) j = true ∧ ¬ 0 < vv P m j))) := fun x18 => by
              unfold M_weighs_J100 M_weighs_J101
              refine p_gd (fun _ => p_let (fun s20 e20 => ?_))
              have f20 : fr [21] [] μ s20 := by rw [e20]; exact fr_t f16 (fr_sI (by decide))
              have j125 : ∀ v21, par (M_weighs_J125 N s20 i10 i11 (nI k) (0 : Int32) self v21) (fun q => fr [21] [] μ q.2 ∧ ((q.1 = 1 ∧ (∀ j, j < 8 → bt (nI m) j = true → 0 < vv P m j) ∧ ∀ j, j < 8 → gI q.2 21 j = nI (vN P m j / gk (vN P m) 8)) ∨ (q.1 = 0 ∧ ∃ j, j < 8 ∧ bt (nI m) j = true ∧ ¬ 0 < vv P m j))) := fun v21 => by
                unfold M_weighs_J125
                refine p_ob (fun _ => True) (fun _ _ => trivial) (fun r22 _ => p_bnd ?_)
                rw [nadd1]
                exact ih _ _ _ _ _ ⟨k + 1, by omega, rfl, f20, Or.inl ⟨rfl, hw⟩⟩
              exact p_if (fun _ => j125 _) (fun _ => j125 _)
            unfold M_weighs_J70
            refine p_gd (fun _ => p_bnd ?_)
            have e20 : gI s16 20 (nI m &&& (((1 : Int32) <<< (nI k &&& 31)) ^^^ (-1 : Int32))).toNatClampNeg = P (clr (nI m) k).toNatClampNeg := by
              rw [f16.1 20 (by decide), eP]
              rfl
            rw [e20]
            refine p_if (fun _ => go _) (fun c12 => p_if (fun _ => go _) (fun c18 => ?_))
            rcases hc with hc | hc
            · exact absurd hc c12
            · exact absurd (i_nle c18) hc
          have e17 : ∀ v17, (v17 = if v2 = 0 then i10 else -i10) → par (M_weighs_J70 N s16 (nI m) i10 i11 i12 (nI k) self v17) (fun q => fr [21] [] μ q.2 ∧ ((q.1 = 1 ∧ (∀ j, j < 8 → bt (nI m) j = true → 0 < vv P m j) ∧ ∀ j, j < 8 → gI q.2 21 j = nI (vN P m j / gk (vN P m) 8)) ∨ (q.1 = 0 ∧ ∃ j, j < 8 ∧ bt (nI m) j = true ∧ ¬ 0 < vv P m j))) := fun v17 hv17 => by
            rcases h with ⟨e12, h⟩ | ⟨e12, h3, h4, h5, h6⟩
            · exact bad v17 h (Or.inl e12)
            · by_cases cz : P (clr (nI m) k).toNatClampNeg = 0
              · have vz : vv P m k = 0 := by rw [hvv, cz, Int32.mul_zero]
                refine bad v17 ⟨k, by omega, hb, by rw [vz]; decide⟩ (Or.inr ?_)
                rw [cz, Int32.mul_zero]
                decide
              · have ef : v17 = fx P m k (fc P m k) := by
                  unfold fx
                  rcases h6 with ⟨h6, h7⟩ | ⟨h6, h7⟩
                  · rw [if_pos h6]
                    have : k = x0 := by
                      have z := fc_0 k h6
                      by_cases q : x0 < k
                      · rw [z x0 q] at r2; cases r2
                      · by_cases q2 : k < x0
                        · rw [r3 k q2] at hb; cases hb
                        · omega
                    rw [this] at cz ⊢
                    rcases h2 with ⟨h2, h8'⟩ | ⟨h2, h8'⟩
                    · have np : ¬ P (clr (nI m) x0).toNatClampNeg ≤ 0 := fun q => by
                        rw [i_le] at q h8'
                        exact cz (Int32.toInt_inj.mp (by omega))
                      rw [if_neg np, hv17, if_pos h2, h7]
                    · have np : P (clr (nI m) x0).toNatClampNeg ≤ 0 := by
                        have := i_nle h8'
                        rw [i_lt] at this
                        rw [i_le]
                        omega
                      rw [if_pos np, hv17, if_neg (by rw [h2]; decide), h7]
                  · rw [if_neg h6, hv17, h7]
                by_cases cv : 0 < vv P m k
                · unfold M_weighs_J70
                  refine p_gd (fun _ => p_bnd ?_)
                  have e20 : gI s16 20 (nI m &&& (((1 : Int32) <<< (nI k &&& 31)) ^^^ (-1 : Int32))).toNatClampNeg = P (clr (nI m) k).toNatClampNeg := by
                    rw [f16.1 20 (by decide), eP]
                    rfl
                  rw [e20, ef, ← hvv, e12, if_neg n10, if_neg (fun q => by rw [i_le] at q; rw [i_lt] at cv; omega)]
                  unfold M_weighs_J101
                  refine p_gd (fun _ => p_let (fun s20 e20 => ?_))
                  rw [nI_clamp (by omega)] at e20
                  have f20 : fr [21] [] μ s20 := by rw [e20]; exact fr_t f16 (fr_sI (by decide))
                  rw [if_pos (by rw [i_lt] at cv; rw [i_le]; omega)]
                  unfold M_weighs_J125
                  obtain ⟨q1, q2, q3⟩ := vN_e (P := P) (m := m) (k := k) (by omega : B < 2147483648) (hv k (by omega)) (fun _ => cv)
                  have gb : gk (vN P m) k < 30000 := by
                    have : ∀ i, i ≤ k → gk (vN P m) i < 30000 := fun i => by
                      induction i with
                      | zero => intro _; show 0 < 30000; decide
                      | succ i ih2 =>
                        intro hi
                        have := ih2 (by omega)
                        show Nat.gcd (vN P m i) (gk (vN P m) i) < 30000
                        have vi := (vN_e (P := P) (m := m) (k := i) (by omega : B < 2147483648) (hv i (by omega)) (fun hb2 => h3 i (by omega) hb2)).2.1
                        by_cases z : vN P m i = 0
                        · rw [z, Nat.gcd_zero_left]; exact this
                        · have := Nat.gcd_le_left (gk (vN P m) i) (show 0 < vN P m i by omega)
                          omega
                    exact this k (Nat.le_refl _)
                  rw [h5, q1]
                  refine p_ob _ (cof_M (by omega) gb) (fun r22 h22 => p_bnd ?_)
                  rw [nadd1]
                  refine ih _ _ _ _ _ ⟨k + 1, by omega, rfl, f20, Or.inr ⟨rfl, fun j hj hb2 => ?_, fun j hj => ?_, by rw [h22, hgk], Or.inr ⟨?_, ?_⟩⟩⟩
                  · by_cases cj : j = k
                    · rw [cj]; exact cv
                    · exact h3 j (by omega) hb2
                  · rw [e20, gI_sI, if_pos rfl, upd_ap]
                    by_cases cj : j = k
                    · rw [if_pos cj, cj]
                    · rw [if_neg cj, e16, gI_sI, if_pos rfl, upd_ap, if_neg cj]; exact h4 j (by omega)
                  · rw [hfc]
                    rcases fx_pm (P := P) (m := m) (k := k) (fc_pm (P := P) (m := m) k) with q | q <;> rw [q] <;> decide
                  · rw [hfc, ← ef, hv17]
                    by_cases q : v2 = 0
                    · rw [if_pos q, if_pos q]
                    · rw [if_neg q, if_neg q]
                · refine bad v17 ⟨k, by omega, hb, cv⟩ (Or.inr ?_)
                  rw [ef, ← hvv]
                  exact cv
          refine p_if (fun c2 => ?_) (fun c2 => ?_)
          · exact e17 _ (by rw [if_pos c2])
          · exact e17 _ (by rw [if_neg c2])
    refine p_if (fun c => key _ (Or.inl ⟨rfl, c⟩)) (fun c => key _ (Or.inr ⟨rfl, c⟩))
theorem ds_D {N : Nat} {σ : Mem} {A : Nat → Nat} (hA : ∀ j, j < 8 → A j ≤ 60) (h : ∀ j, j < 8 → gI σ 19 j = nI (A j)) : par (f_We_divideShares N σ) (fun s => fr [19] [] σ s ∧ ∀ j, j < 8 → gI s 19 j = nI (A j / gk A 8)) := by
  have gb : ∀ k, k ≤ 8 → gk A k ≤ 60 := fun k => by
    induction k with
    | zero => intro _; exact Nat.zero_le _
    | succ k ih =>
      intro hk
      have := ih (by omega)
      show Nat.gcd (A k) (gk A k) ≤ 60
      by_cases z : A k = 0
      · rw [z, Nat.gcd_zero_left]; exact this
      · have := Nat.gcd_le_left (gk A k) (show 0 < A k by omega)
        have := hA k (by omega)
        omega
  unfold f_We_divideShares
  refine p_it2 (fun i6 i7 => ∃ k, k ≤ 8 ∧ i7 = nI k ∧ i6 = nI (gk A k)) ?_ N _ _ ⟨0, by omega, rfl, rfl⟩
  rintro self _ _ ⟨k, hk, rfl, rfl⟩ ih
  unfold We_divideShares_B4
  refine p_if (fun c => ?_) (fun c => ?_)
  · rw [l8, nle (by omega) (by omega)] at c
    have : k = 8 := by omega
    subst this
    unfold We_divideShares_K27
    have g8 := gb 8 (Nat.le_refl _)
    refine p_if (fun c2 => ?_) (fun c2 => p_some ⟨fr_r _ _ _, fun j hj => ?_⟩)
    · rw [l1, nlt (by decide) (by omega)] at c2
      refine p_it2 (fun i s => ∃ k, k ≤ 8 ∧ i = nI k ∧ fr [19] [] σ s ∧ (∀ j, j < k → gI s 19 j = nI (A j / gk A 8)) ∧ ∀ j, k ≤ j → j < 8 → gI s 19 j = nI (A j)) ?_ N _ _ ⟨0, by omega, rfl, fr_r _ _ _, fun j hj => by omega, fun j _ hj => h j hj⟩
      rintro self2 _ s ⟨k, hk, rfl, hf, h1, h2⟩ ih2
      unfold We_divideShares_B35
      refine p_if (fun c3 => ?_) (fun c3 => ?_)
      · rw [l8, nle (by omega) (by omega)] at c3
        exact p_some ⟨hf, fun j hj => h1 j (by omega)⟩
      · rw [l8, nle (by omega) (by omega)] at c3
        refine p_gd (fun _ => p_gd (fun _ => p_gd (fun _ => p_bnd ?_)))
        rw [nI_clamp (by omega), h2 k (by omega) (by omega), ndiv (by have := hA k (by omega); omega) (by omega) (by omega), nadd1]
        refine ih2 _ _ ⟨k + 1, by omega, rfl, fr_t hf (fr_sI (by decide)), fun j hj => ?_, fun j j1 j2 => ?_⟩
        · rw [gI_sI, if_pos rfl, upd_ap]
          by_cases cj : j = k
          · rw [if_pos cj, cj]
          · rw [if_neg cj]; exact h1 j (by omega)
        · rw [gI_sI, if_pos rfl, upd_ap, if_neg (by omega)]
          exact h2 j (by omega) j2
    · rw [l1, nlt (by decide) (by omega)] at c2
      rw [h j hj]
      have d := gk_d A 8 j hj
      rcases (show gk A 8 = 0 ∨ gk A 8 = 1 by omega) with q | q
      · rw [q] at d ⊢
        rw [Nat.zero_dvd.mp d]
      · rw [q, Nat.div_one]
  · rw [l8, nle (by omega) (by omega)] at c
    refine p_gd (fun _ => ?_)
    rw [nI_clamp (by omega), h k (by omega), nadd1]
    refine p_ob _ (cod_D (by have := gb k hk; omega) (hA k (by omega))) (fun r hr => ?_)
    refine ih _ _ ⟨k + 1, by omega, rfl, ?_⟩
    rw [hr, Nat.gcd_comm]
    rfl
