/-! best orders: both tables keep one rule -/
def vl (f T : Nat → Int32) (m x : Nat) : Int32 := nI (pc (clr (nI m) x &&& (f x ^^^ (-1 : Int32)))) + T (clr (nI m) x).toNatClampNeg
def stp (p : Int32 × Int32) (v w : Int32) : Int32 × Int32 := if v < p.1 then (v, 0 + w) else if v = p.1 then (p.1, p.2 + w) else p
def fo (z : Int32) (f T W : Nat → Int32) (m : Nat) : Nat → Int32 × Int32
  | 0 => (z, 0)
  | k + 1 => if bt (nI m) k = true then stp (fo z f T W m k) (vl f T m k) (W (clr (nI m) k).toNatClampNeg) else fo z f T W m k
def eqn (z : Int32) (f : Nat → Int32) (n : Nat) (T W : Nat → Int32) (m : Nat) : Prop := T m = (fo z f T W m n).1 ∧ W m = (fo z f T W m n).2
theorem vl_c {f T T' : Nat → Int32} {m x : Nat} (hm : m < 256) (hx : x < 8) (hb : bt (nI m) x = true) (h : ∀ j, j < m → T j = T' j) : vl f T m x = vl f T' m x := by
  unfold vl
  rw [h _ ((clr_f m hm x hx).2.2 hb).1]
theorem fo_c {z : Int32} {f T T' W W' : Nat → Int32} {m : Nat} (hm : m < 256) (h : ∀ j, j < m → T j = T' j) (h' : ∀ j, j < m → W j = W' j) : ∀ k, k ≤ 8 → fo z f T W m k = fo z f T' W' m k
  | 0, _ => rfl
  | k + 1, hk => by
    have ih := fo_c (z := z) (f := f) hm h h' k (by omega)
    unfold fo
    by_cases hb : bt (nI m) k = true
    · rw [if_pos hb, if_pos hb, ih, vl_c hm (by omega) hb h, h' _ ((clr_f m hm k (by omega)).2.2 hb).1]
    · rw [if_neg hb, if_neg hb, ih]
theorem eqn_c {z : Int32} {f T T' W W' : Nat → Int32} {n m : Nat} (h8 : n ≤ 8) (hm : m < 256) (h : ∀ j, j ≤ m → T' j = T j) (h' : ∀ j, j ≤ m → W' j = W j) (e : eqn z f n T W m) : eqn z f n T' W' m := by
  unfold eqn
  rw [h m (Nat.le_refl _), h' m (Nat.le_refl _), fo_c hm (fun j hj => h j (by omega)) (fun j hj => h' j (by omega)) n h8]
  exact e
theorem fo_64 {f T W : Nat → Int32} {m : Nat} (hv : ∀ x, x < 8 → bt (nI m) x = true → rg 0 63 (vl f T m x)) : ∀ k, k ≤ 8 → ((∀ j, j < k → bt (nI m) j = false) ∧ fo 64 f T W m k = (64, 0) ∧ fo 99 f T W m k = (99, 0)) ∨ fo 64 f T W m k = fo 99 f T W m k
  | 0, _ => Or.inl ⟨fun j hj => by omega, rfl, rfl⟩
  | k + 1, hk => by
    have ih := fo_64 (W := W) hv k (by omega)
    unfold fo
    by_cases hb : bt (nI m) k = true
    · rw [if_pos hb, if_pos hb]
      rcases ih with ⟨-, e1, e2⟩ | e
      · refine Or.inr ?_
        rw [e1, e2]
        have r := hv k (by omega) hb
        unfold stp
        rw [if_pos (rg_yeL r (by decide : rg 64 64 (64 : Int32)) (by decide)), if_pos (rg_yeL r (by decide : rg 99 99 (99 : Int32)) (by decide))]
      · rw [e]
        exact Or.inr rfl
    · rw [if_neg hb, if_neg hb]
      rcases ih with ⟨h, e1, e2⟩ | e
      · refine Or.inl ⟨fun j hj => ?_, e1, e2⟩
        by_cases c : j = k
        · rw [c]
          cases q : bt (nI m) k
          · rfl
          · exact absurd q hb
        · exact h j (by omega)
      · exact Or.inr e
theorem bt_lo {n m j : Nat} (h8 : n ≤ 8) (hm : m < 2 ^ n) (hb : bt (nI m) j = true) : j < n := by
  refine Classical.byContradiction (fun c => ?_)
  have hp : (2 : Nat) ^ n ≤ 256 := Nat.pow_le_pow_right (n := 2) (by decide) h8
  have e : ((2 : Nat) ^ n : Nat) = ((2 : Int) ^ n : Int) := by rw [Int.natCast_pow]; rfl
  have := bt_hi (nI_rg (b := (m : Int)) (Int.le_refl _) (by omega)) n (by rw [← e]; exact Int.ofNat_lt.mpr hm) (j := j) (by omega)
  rw [this] at hb
  cases hb
theorem tv_vl {s : Mem} {f : Nat → Int32} {n m x : Nat} (h8 : n ≤ 8) (hm : m < 2 ^ n) (hx : x < 8) (h1 : gI s 1 0 = nI n) (hf : gI s 1 (1 + x) = f x) : tv s x (nI m) = vl f (gI s 18) m x := by
  unfold tv vl
  have e : ov s x &&& nI m = clr (nI m) x &&& (f x ^^^ (-1 : Int32)) := by
    refine bt_ext (fun j hj => ?_)
    unfold ov clr
    rw [hf, bt_and, bt_and, bt_and, bt_and, bt_and, bt_not (f x) hj, bt_not _ hj, all_e h1, bt_mask h8 hj]
    cases hb : bt (nI m) j
    · simp
    · rw [decide_eq_true (bt_lo h8 hm hb)]
      cases bt (f x) j <;> cases bt ((1 : Int32) <<< (nI x &&& 31)) j <;> rfl
  rw [e]
theorem twf_D {σ : Mem} {m x : Nat} (hm : m < 256) (hx : x < 8) : par (f_Or_turnedWithFirst (nI x) (nI m) σ) (fun r => r = vl (gI σ 13) (gI σ 17) m x) := by
  unfold f_Or_turnedWithFirst
  refine p_bnd (p_gd (fun _ => p_gd (fun _ => p_some ?_)))
  have e : (nI m &&& (((1 : Int32) <<< (nI x &&& 31)) ^^^ (-1 : Int32))) = clr (nI m) x := rfl
  have rc : rg 0 255 (clr (nI m) x) := rg_andl _ (nI_rg (b := 255) (by omega) (by omega)) (by decide)
  rw [e, nI_clamp (by omega), cnt_v (rg_andl _ rc (by decide)), Int32.add_comm]
  rfl
theorem stp_j {p : Int32 × Int32} {v w t u : Int32} (h : (p.1 ≤ v ∧ t = p.1 ∧ u = p.2) ∨ (¬ p.1 ≤ v ∧ t = v ∧ u = 0)) : (v = t → stp p v w = (t, u + w)) ∧ (¬ v = t → stp p v w = (t, u)) := by
  unfold stp
  rcases h with ⟨h1, rfl, rfl⟩ | ⟨h1, rfl, rfl⟩
  · have : ¬ v < p.1 := fun q => by rw [i_lt] at q; rw [i_le] at h1; omega
    rw [if_neg this]
    exact ⟨fun e => if_pos e, fun e => if_neg e⟩
  · rw [if_pos (i_nle h1)]
    exact ⟨fun e => rfl, fun e => absurd rfl e⟩
theorem two_ne {s : Mem} {k1 k2 m j : Nat} {v w : Int32} (hk : k1 ≠ k2) (hj : j ≠ m) : gI (sI (sI s k1 m v) k2 m w) k1 j = gI s k1 j ∧ gI (sI (sI s k1 m v) k2 m w) k2 j = gI s k2 j := by
  constructor
  · rw [gI_sI, if_neg hk, gI_sI, if_pos rfl, upd_ap, if_neg hj]
  · rw [gI_sI, if_pos rfl, upd_ap, if_neg hj, gI_sI, if_neg hk.symm]
theorem meas_D {N : Nat} {σ : Mem} {n a : Nat} (h8 : n ≤ 8) (h3 : gI σ 3 0 = nI n) (ha : a < 2 ^ n) : par (f_Or_measure N (nI a) σ) (fun s => fr [17, 18] [] σ s ∧ gI s 17 0 = 0 ∧ gI s 18 0 = 1 ∧ ∀ m, 0 < m → m ≤ a → (nI m &&& (nI a ^^^ (-1 : Int32))) = 0 → eqn 64 (gI σ 13) n (gI s 17) (gI s 18) m) := by
  have hp : (2 : Nat) ^ n ≤ 256 := Nat.pow_le_pow_right (n := 2) (by decide) h8
  unfold f_Or_measure
  refine p_let (fun s1 e1 => p_let (fun s2 e2 => ?_))
  rw [n0] at e1 e2
  refine p_it2 (fun i s => ∃ m, 0 < m ∧ m ≤ a + 1 ∧ i = nI m ∧ fr [17, 18] [] σ s ∧ gI s 17 0 = 0 ∧ gI s 18 0 = 1 ∧ ∀ j, 0 < j → j < m → (nI j &&& (nI a ^^^ (-1 : Int32))) = 0 → eqn 64 (gI σ 13) n (gI s 17) (gI s 18) j) ?_ N _ _ ⟨1, by omega, by omega, rfl, ?_, ?_, ?_, fun j h1 h2 => by omega⟩
  · rintro self _ s0 ⟨m, hm0, hma, rfl, hf, hT0, hW0, hE⟩ ih
    unfold Or_measure_B16
    refine p_if (fun h => ?_) (fun h => ?_)
    · rw [nlt (by omega) (by omega)] at h
      exact p_some ⟨hf, hT0, hW0, fun j h1 h2 => hE j h1 (by omega)⟩
    · rw [nlt (by omega) (by omega)] at h
      refine p_if (fun hin => ?_) (fun hin => ?_)
      · refine p_gd (fun _ => p_let (fun s6 e6 => p_gd (fun _ => p_let (fun s7 e7 => ?_))))
        rw [nI_clamp (by omega)] at e6 e7
        refine p_it2 (fun i s => ∃ k, k ≤ n ∧ i = nI k ∧ fr [17, 18] [] σ s ∧ (∀ j, j ≠ m → gI s 17 j = gI s0 17 j ∧ gI s 18 j = gI s0 18 j) ∧ gI s 17 m = (fo 64 (gI σ 13) (gI s0 17) (gI s0 18) m k).1 ∧ gI s 18 m = (fo 64 (gI σ 13) (gI s0 17) (gI s0 18) m k).2) ?_ N _ _ ⟨0, by omega, rfl, ?_, ?_, ?_, ?_⟩
        · rintro self2 _ s ⟨k, hk, rfl, hf2, ho, hT, hW⟩ ih2
          unfold Or_measure_B49
          rw [hf2.1 3 (by decide), h3]
          refine p_if (fun h2 => ?_) (fun h2 => ?_)
          · rw [nle (by omega) (by omega)] at h2
            have : k = n := by omega
            subst this
            rw [nadd1]
            refine ih _ _ ⟨m + 1, by omega, by omega, rfl, hf2, by rw [(ho 0 (by omega)).1, hT0], by rw [(ho 0 (by omega)).2, hW0], fun j j1 j2 j3 => ?_⟩
            by_cases c : j = m
            · subst c
              unfold eqn
              rw [hT, hW, fo_c (T' := gI s0 17) (W' := gI s0 18) (by omega) (fun i hi => (ho i (by omega)).1) (fun i hi => (ho i (by omega)).2) k h8]
              exact ⟨rfl, rfl⟩
            · exact eqn_c h8 (by omega) (fun i hi => (ho i (by omega)).1) (fun i hi => (ho i (by omega)).2) (hE j j1 (by omega) j3)
          · rw [nle (by omega) (by omega)] at h2
            rw [bit_bt (by omega), nadd1]
            have hfo : fo 64 (gI σ 13) (gI s0 17) (gI s0 18) m (k + 1) = if bt (nI m) k = true then stp (fo 64 (gI σ 13) (gI s0 17) (gI s0 18) m k) (vl (gI σ 13) (gI s0 17) m k) (gI s0 18 (clr (nI m) k).toNatClampNeg) else fo 64 (gI σ 13) (gI s0 17) (gI s0 18) m k := rfl
            cases hb : bt (nI m) k
            · rw [if_pos (by decide)]
              rw [hb, if_neg (by decide)] at hfo
              exact ih2 _ _ ⟨k + 1, by omega, rfl, hf2, ho, by rw [hfo]; exact hT, by rw [hfo]; exact hW⟩
            · rw [if_neg (by decide)]
              rw [hb, if_pos rfl] at hfo
              have hcl := ((clr_f m (by omega) k (by omega)).2.2 hb).1
              refine p_ob _ (twf_D (by omega) (by omega)) (fun v hv => ?_)
              rw [hf2.1 13 (by decide), vl_c (T' := gI s0 17) (by omega) (by omega) hb (fun j hj => (ho j (by omega)).1)] at hv
              have key : ∀ s12, fr [17, 18] [] σ s12 → (∀ j, j ≠ m → gI s12 17 j = gI s0 17 j ∧ gI s12 18 j = gI s0 18 j) → (((fo 64 (gI σ 13) (gI s0 17) (gI s0 18) m k).1 ≤ v ∧ gI s12 17 m = (fo 64 (gI σ 13) (gI s0 17) (gI s0 18) m k).1 ∧ gI s12 18 m = (fo 64 (gI σ 13) (gI s0 17) (gI s0 18) m k).2) ∨ (¬ (fo 64 (gI σ 13) (gI s0 17) (gI s0 18) m k).1 ≤ v ∧ gI s12 17 m = v ∧ gI s12 18 m = 0)) → par (Or_measure_J105 (nI m) (nI k) v self2 s12) (fun s => fr [17, 18] [] σ s ∧ gI s 17 0 = 0 ∧ gI s 18 0 = 1 ∧ ∀ m, 0 < m → m ≤ a → (nI m &&& (nI a ^^^ (-1 : Int32))) = 0 → eqn 64 (gI σ 13) n (gI s 17) (gI s 18) m) := fun s12 f12 o12 h12 => by
                obtain ⟨j1, j2⟩ := stp_j (w := gI s0 18 (clr (nI m) k).toNatClampNeg) h12
                unfold Or_measure_J105
                rw [nI_clamp (by omega), nadd1]
                refine p_gd (fun _ => p_if (fun c => ?_) (fun c => ?_))
                · refine p_gd (fun _ => p_gd (fun _ => p_gd (fun _ => p_bnd ?_)))
                  have j := j1 c
                  rw [← hv] at hfo
                  refine ih2 _ _ ⟨k + 1, by omega, rfl, fr_t f12 (fr_sI (by decide)), fun i hi => ?_, ?_, ?_⟩
                  · rw [gI_sI, if_neg (by decide), gI_sI, if_pos rfl, upd_ap, if_neg hi]
                    exact o12 i hi
                  · rw [gI_sI, if_neg (by decide), hfo, j]
                  · rw [gI_sI, if_pos rfl, upd_ap, if_pos rfl, hfo, j]
                    show _ + gI s12 18 (clr (nI m) k).toNatClampNeg = _
                    rw [(o12 (clr (nI m) k).toNatClampNeg (by omega)).2]
                · have j := j2 c
                  rw [← hv] at hfo
                  exact ih2 _ _ ⟨k + 1, by omega, rfl, f12, o12, by rw [hfo, j], by rw [hfo, j]⟩
              rw [nI_clamp (by omega), hT]
              refine p_gd (fun _ => p_if (fun c => ?_) (fun c => ?_))
              · exact key s hf2 ho (Or.inl ⟨c, hT, hW⟩)
              · refine p_gd (fun _ => p_bnd (p_gd (fun _ => p_bnd ?_)))
                refine key _ (fr_t hf2 (fr_t (fr_sI (by decide)) (fr_sI (by decide)))) (fun j hj => ?_) (Or.inr ⟨c, ?_, ?_⟩)
                · have t2 := two_ne (s := s) (k1 := 17) (k2 := 18) (v := v) (w := 0) (by decide) hj
                  exact ⟨t2.1.trans (ho j hj).1, t2.2.trans (ho j hj).2⟩
                · rw [gI_sI, if_neg (by decide), gI_sI, if_pos rfl, upd_ap, if_pos rfl]
                · rw [gI_sI, if_pos rfl, upd_ap, if_pos rfl]
        · rw [e7, e6]
          exact fr_t hf (fr_t (fr_sI (by decide)) (fr_sI (by decide)))
        · intro j hj
          rw [e7, e6]
          exact two_ne (by decide) hj
        · rw [e7, e6, gI_sI, if_neg (by decide), gI_sI, if_pos rfl, upd_ap, if_pos rfl]
          rfl
        · rw [e7, gI_sI, if_pos rfl, upd_ap, if_pos rfl]
          rfl
      · rw [nadd1]
        refine ih _ _ ⟨m + 1, by omega, by omega, rfl, hf, hT0, hW0, fun j j1 j2 j3 => ?_⟩
        by_cases c : j = m
        · rw [c] at j3
          exact absurd j3 hin
        · exact hE j j1 (by omega) j3
  · rw [e2, e1]
    exact fr_t (fr_sI (by decide)) (fr_sI (by decide))
  · rw [e2, e1, gI_sI, if_neg (by decide), gI_sI, if_pos rfl, upd_ap, if_pos rfl]
  · rw [e2, gI_sI, if_pos rfl, upd_ap, if_pos rfl]
theorem lay_M {N : Nat} (hN : 8589934592 ≤ N) {σ : Mem} {f : Nat → Int32} {n : Nat} (h8 : n ≤ 8) (hI : InvM σ) (h1 : gI σ 1 0 = nI n) (h13 : ∀ a, a < 8 → gI σ 1 (1 + a) = f a) : par (f_M_layOrders N σ) (fun s => gI s 18 0 = 0 ∧ gI s 19 0 = 1 ∧ ∀ m, 0 < m → m < 2 ^ n → eqn 99 f n (gI s 18) (gI s 19) m) := by
  have hp : (2 : Nat) ^ n ≤ 256 := Nat.pow_le_pow_right (n := 2) (by decide) h8
  have hp0 : 0 < (2 : Nat) ^ n := Nat.pow_pos (by decide)
  unfold f_M_layOrders
  refine p_let (fun s1 e1 => p_let (fun s2 e2 => ?_))
  rw [n0] at e1 e2
  have k1 : KM [18, 19] [] σ s1 := by rw [e1]; exact km_s (km_r hI) (by decide) (mS18 hI)
  have k2 : KM [18, 19] [] σ s2 := by rw [e2]; exact km_s k1 (by decide) (mS19 k1.1)
  have q1 : ∀ {s : Mem}, KM [18, 19] [] σ s → gI s 1 = gI σ 1 := fun {s} h => h.2.1 1 (by decide)
  have qa : ∀ {s : Mem}, KM [18, 19] [] σ s → t_M_all s = nI (2 ^ n - 1) := fun {s} h => by
    rw [all_e (by rw [q1 h]; exact h1), mask_e n h8]
  have qm : ∀ {s : Mem}, KM [18, 19] [] σ s → t_M_many s = nI n := fun {s} h => many_e (by rw [q1 h]; exact h1)
  have qv : ∀ {s : Mem} {m x : Nat}, KM [18, 19] [] σ s → m < 2 ^ n → x < 8 → tv s x (nI m) = vl f (gI s 18) m x := fun {s m x} h hm hx => tv_vl h8 hm hx (by rw [q1 h]; exact h1) (by rw [q1 h]; exact h13 x hx)
  refine p_it2 (fun i s => ∃ m, 0 < m ∧ m ≤ 2 ^ n ∧ i = nI m ∧ KM [18, 19] [] σ s ∧ gI s 18 0 = 0 ∧ gI s 19 0 = 1 ∧ ∀ j, 0 < j → j < m → eqn 99 f n (gI s 18) (gI s 19) j) ?_ N _ _ ⟨1, by omega, by omega, rfl, k2, ?_, ?_, fun j h1 h2 => by omega⟩
  · rintro self _ s0 ⟨m, hm0, hma, rfl, hf, hT0, hW0, hE⟩ ih
    unfold M_layOrders_B16
    rw [qa hf]
    refine p_if (fun h => ?_) (fun h => ?_)
    · rw [nlt (by omega) (by omega)] at h
      exact p_some ⟨hT0, hW0, fun j h1 h2 => hE j h1 (by omega)⟩
    · rw [nlt (by omega) (by omega)] at h
      refine p_gd (fun _ => p_let (fun s6 e6 => p_gd (fun _ => p_let (fun s7 e7 => ?_))))
      rw [nI_clamp (by omega)] at e6 e7
      have k6 : KM [18, 19] [] σ s6 := by rw [e6]; exact km_s hf (by decide) (mS18 hf.1)
      have k7 : KM [18, 19] [] σ s7 := by rw [e7]; exact km_s k6 (by decide) (mS19 k6.1)
      refine p_it2 (fun i s => ∃ k, k ≤ n ∧ i = nI k ∧ KM [18, 19] [] σ s ∧ (∀ j, j ≠ m → gI s 18 j = gI s0 18 j ∧ gI s 19 j = gI s0 19 j) ∧ gI s 18 m = (fo 99 f (gI s0 18) (gI s0 19) m k).1 ∧ gI s 19 m = (fo 99 f (gI s0 18) (gI s0 19) m k).2) ?_ N _ _ ⟨0, by omega, rfl, k7, ?_, ?_, ?_⟩
      · rintro self2 _ s ⟨k, hk, rfl, hf2, ho, hT, hW⟩ ih2
        unfold M_layOrders_B41
        rw [qm hf2]
        refine p_if (fun h2 => ?_) (fun h2 => ?_)
        · rw [nle (by omega) (by omega)] at h2
          have : k = n := by omega
          subst this
          rw [nadd1]
          refine ih _ _ ⟨m + 1, by omega, by omega, rfl, hf2, by rw [(ho 0 (by omega)).1, hT0], by rw [(ho 0 (by omega)).2, hW0], fun j j1 j2 => ?_⟩
          by_cases c : j = m
          · subst c
            unfold eqn
            rw [hT, hW, fo_c (T' := gI s0 18) (W' := gI s0 19) (by omega) (fun i hi => (ho i (by omega)).1) (fun i hi => (ho i (by omega)).2) k h8]
            exact ⟨rfl, rfl⟩
          · exact eqn_c h8 (by omega) (fun i hi => (ho i (by omega)).1) (fun i hi => (ho i (by omega)).2) (hE j j1 (by omega))
        · rw [nle (by omega) (by omega)] at h2
          rw [has_bt (by omega), nadd1]
          have hfo : fo 99 f (gI s0 18) (gI s0 19) m (k + 1) = if bt (nI m) k = true then stp (fo 99 f (gI s0 18) (gI s0 19) m k) (vl f (gI s0 18) m k) (gI s0 19 (clr (nI m) k).toNatClampNeg) else fo 99 f (gI s0 18) (gI s0 19) m k := rfl
          cases hb : bt (nI m) k
          · rw [if_pos (by decide)]
            rw [hb, if_neg (by decide)] at hfo
            exact ih2 _ _ ⟨k + 1, by omega, rfl, hf2, ho, by rw [hfo]; exact hT, by rw [hfo]; exact hW⟩
          · rw [if_neg (by decide)]
            rw [hb, if_pos rfl] at hfo
            have hcl := ((clr_f m (by omega) k (by omega)).2.2 hb).1
            have rm : rg 0 255 (nI m) := nI_rg (by omega) (by omega)
            obtain ⟨v, hv⟩ : ∃ v, v = vl f (gI s0 18) m k := ⟨_, rfl⟩
            have hvv : ∀ {s : Mem}, KM [18, 19] [] σ s → (∀ j, j ≠ m → gI s 18 j = gI s0 18 j) → tv s k (nI m) = v := fun {s} h h' => by
              rw [qv h (by omega) (by omega), hv, vl_c (T' := gI s0 18) (by omega) (by omega) hb (fun j hj => h' j (by omega))]
            rw [← hv] at hfo
            refine p_ob _ (p_tot (M_turnedBy_s hN (by omega) rm hf2.1)) (fun r11 h11 => ?_)
            rw [hvv hf2 (fun j hj => (ho j hj).1)] at h11
            have key : ∀ u, (((fo 99 f (gI s0 18) (gI s0 19) m k).1 ≤ v ∧ v = (fo 99 f (gI s0 18) (gI s0 19) m k).1 ∧ u = (fo 99 f (gI s0 18) (gI s0 19) m k).2) ∨ (¬ (fo 99 f (gI s0 18) (gI s0 19) m k).1 ≤ v ∧ v = v ∧ u = 0)) → par (M_layOrders_J102 N s (nI m) (nI k) self2 u) (fun s => gI s 18 0 = 0 ∧ gI s 19 0 = 1 ∧ ∀ m, 0 < m → m < 2 ^ n → eqn 99 f n (gI s 18) (gI s 19) m) := fun u hu => by
              obtain ⟨j1, -⟩ := stp_j (w := gI s0 19 (clr (nI m) k).toNatClampNeg) hu
              have j := j1 rfl
              unfold M_layOrders_J102
              rw [nI_clamp (by omega), nadd1]
              refine p_gd (fun _ => p_let (fun s14 e14 => ?_))
              have k14 : KM [18, 19] [] σ s14 := by rw [e14]; exact km_s hf2 (by decide) (mS19 hf2.1)
              refine p_ob _ (p_tot (M_turnedBy_s hN (by omega) rm k14.1)) (fun r15 h15 => ?_)
              rw [hvv k14 (fun j hj => by rw [e14, gI_sI, if_neg (by decide)]; exact (ho j hj).1)] at h15
              refine p_gd (fun _ => p_let (fun s16 e16 => ?_))
              have k16 : KM [18, 19] [] σ s16 := by rw [e16]; exact km_s k14 (by decide) (mS18 k14.1)
              refine p_gd (fun _ => p_gd (fun _ => p_gd (fun _ => p_let (fun s17 e17 => ?_))))
              have k17 : KM [18, 19] [] σ s17 := by rw [e17]; exact km_s k16 (by decide) (mS19 k16.1)
              have c1 : gI s16 19 m = u := by rw [e16, e14, gI_sI, if_neg (by decide), gI_sI, if_pos rfl, upd_ap, if_pos rfl]
              have c2 : ∀ j, j ≠ m → gI s16 19 j = gI s0 19 j := fun j hj => by
                rw [e16, e14, gI_sI, if_neg (by decide), gI_sI, if_pos rfl, upd_ap, if_neg hj]
                exact (ho j hj).2
              refine ih2 _ _ ⟨k + 1, by omega, rfl, k17, fun i hi => ⟨?_, ?_⟩, ?_, ?_⟩
              · rw [e17, gI_sI, if_neg (by decide), e16, gI_sI, if_pos rfl, upd_ap, if_neg hi, e14, gI_sI, if_neg (by decide)]
                exact (ho i hi).1
              · rw [e17, gI_sI, if_pos rfl, upd_ap, if_neg hi]
                exact c2 i hi
              · rw [e17, gI_sI, if_neg (by decide), e16, gI_sI, if_pos rfl, upd_ap, if_pos rfl, hfo, j, h15]
              · rw [e17, gI_sI, if_pos rfl, upd_ap, if_pos rfl, hfo, j, c1]
                show _ + gI s16 19 (clr (nI m) k).toNatClampNeg = _
                rw [c2 (clr (nI m) k).toNatClampNeg (by omega)]
            rw [nI_clamp (by omega), hT, h11]
            refine p_gd (fun _ => p_if (fun c => ?_) (fun c => ?_))
            · have e : stp (fo 99 f (gI s0 18) (gI s0 19) m k) v (gI s0 19 (clr (nI m) k).toNatClampNeg) = fo 99 f (gI s0 18) (gI s0 19) m k := by
                unfold stp
                rw [if_neg (fun q => by rw [i_lt] at q c; omega), if_neg (fun q => by rw [i_lt, q] at c; omega)]
              exact ih2 _ _ ⟨k + 1, by omega, rfl, hf2, ho, by rw [hfo, e]; exact hT, by rw [hfo, e]; exact hW⟩
            · refine p_ob _ (p_tot (M_turnedBy_s hN (by omega) rm hf2.1)) (fun r12 h12 => ?_)
              rw [hvv hf2 (fun j hj => (ho j hj).1)] at h12
              rw [h12]
              refine p_gd (fun _ => p_if (fun c2 => p_gd (fun _ => key _ (Or.inl ⟨c2, ?_, hW⟩))) (fun c2 => key _ (Or.inr ⟨c2, rfl, rfl⟩)))
              have c3 := i_nlt c
              rw [i_le] at c2 c3
              exact Int32.toInt_inj.mp (by omega)
      · intro j hj
        rw [e7, e6]
        exact two_ne (by decide) hj
      · rw [e7, e6, gI_sI, if_neg (by decide), gI_sI, if_pos rfl, upd_ap, if_pos rfl]
        rfl
      · rw [e7, gI_sI, if_pos rfl, upd_ap, if_pos rfl]
        rfl
  · rw [e2, e1, gI_sI, if_neg (by decide), gI_sI, if_pos rfl, upd_ap, if_pos rfl]
  · rw [e2, gI_sI, if_pos rfl, upd_ap, if_pos rfl]
