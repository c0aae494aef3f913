/-! keeping: the reference's table -/
def bs (f : Nat → Int32) (S : Int32) (x : Nat) : Int32 := (S &&& (f x ^^^ (-1 : Int32))) &&& (((1 : Int32) <<< (nI x &&& 31)) ^^^ (-1 : Int32))
theorem bs_bt {f : Nat → Int32} {S : Int32} {x j : Nat} (hx : x < 8) (hj : j < 32) : bt (bs f S x) j = (bt S j && !bt (f x) j && !decide (j = x)) := by
  unfold bs
  rw [bt_and, bt_and, bt_not _ hj, bt_not _ hj, bt_one (by omega) hj]
theorem bs_S {f : Nat → Int32} {S : Int32} {x j : Nat} (h : bt (bs f S x) j = true) : bt S j = true := by
  unfold bs at h
  rw [bt_and, bt_and] at h
  cases q : bt S j
  · rw [q] at h; cases h
  · rfl
theorem bs_cl {f : Nat → Int32} {m x : Nat} : bs f (nI m) x = clr (nI m) x &&& (f x ^^^ (-1 : Int32)) := by
  unfold bs clr
  rw [Int32.and_assoc, Int32.and_assoc, Int32.and_comm (f x ^^^ (-1 : Int32))]
theorem bs_lt {f : Nat → Int32} {m x : Nat} (hm : m < 256) (hx : x < 8) : (bs f (nI m) x).toNatClampNeg ≤ m ∧ bs f (nI m) x = nI (bs f (nI m) x).toNatClampNeg ∧ (bt (nI m) x = true → (bs f (nI m) x).toNatClampNeg < m ∧ pc (bs f (nI m) x) < pc (nI m)) := by
  obtain ⟨c1, c2, c3⟩ := clr_f m hm x hx
  have r : rg 0 ((clr (nI m) x).toNatClampNeg : Int) (clr (nI m) x) := by
    have := nI_rg (k := (clr (nI m) x).toNatClampNeg) (Int.le_refl _) (by omega)
    rw [← c2] at this
    exact this
  have r2 : rg 0 ((clr (nI m) x).toNatClampNeg : Int) (bs f (nI m) x) := by
    rw [bs_cl]
    exact rg_andl _ r ⟨Int.le_refl _, Int.le_refl _⟩
  obtain ⟨k, e, -, h2, h3⟩ := rg_ex r2 (by decide)
  have e2 : (bs f (nI m) x).toNatClampNeg = k := by rw [e, nI_clamp (by omega)]
  refine ⟨by omega, by rw [e2]; exact e, fun hb => ?_⟩
  have := (c3 hb).1
  refine ⟨by omega, pc_lt (fun j hj h => bs_S h) hx ?_ hb⟩
  rw [bs_bt hx (by omega), decide_eq_true rfl]
  simp
theorem ov_bs {s : Mem} {f : Nat → Int32} {n m x : Nat} (h8 : n ≤ 8) (hm : m < 2 ^ n) (hx : x < 8) (h1 : gI s 1 0 = nI n) (hf : gI s 1 (1 + x) = f x) : ov s x &&& nI m = bs f (nI m) x := by
  refine bt_ext (fun j hj => ?_)
  rw [bs_bt hx hj]
  unfold ov
  rw [hf, bt_and, bt_and, bt_and, bt_not (f x) hj, bt_not _ hj, all_e h1, bt_mask h8 hj, bt_one (by omega) hj]
  cases hb : bt (nI m) j
  · simp
  · rw [decide_eq_true (bt_lo h8 hm hb)]
    simp
def rr (f T : Nat → Int32) (S : Int32) (u v : Nat) : Prop := bt S u = true ∧ bt (T (bs f S u).toNatClampNeg) v = true
/-- reached in any number of steps -/
def Rs (r : Nat → Nat → Prop) (x y : Nat) : Prop := ∀ C : Nat → Prop, C x → (∀ u v, C u → r u v → C v) → C y
theorem Rs_r {r : Nat → Nat → Prop} (x : Nat) : Rs r x x := fun _ h _ => h
theorem Rs_s {r : Nat → Nat → Prop} {x y z : Nat} (h : Rs r x y) (h2 : r y z) : Rs r x z := fun C h3 h4 => h4 y z (h C h3 h4) h2
theorem Rs_t {r : Nat → Nat → Prop} {x y z : Nat} (h : Rs r x y) (h2 : Rs r y z) : Rs r x z := fun C h3 h4 => h2 C (h C h3 h4) h4
theorem Rs_c {r r' : Nat → Nat → Prop} (h : ∀ u v, r u v ↔ r' u v) {x y : Nat} : Rs r x y ↔ Rs r' x y :=
  ⟨fun q C h1 h2 => q C h1 (fun u v a b => h2 u v a ((h u v).mp b)), fun q C h1 h2 => q C h1 (fun u v a b => h2 u v a ((h u v).mpr b))⟩
def kpq (f T : Nat → Int32) (S : Int32) : Prop := ∀ j, bt (T S.toNatClampNeg) j = true ↔ (bt S j = true ∧ ∀ y, Rs (rr f T S) j y → Rs (rr f T S) y j)
theorem rr_c {f T T' : Nat → Int32} {n m : Nat} (h8 : n ≤ 8) (hm : m < 2 ^ n) (h : ∀ i, i < m → T i = T' i) (u v : Nat) : rr f T (nI m) u v ↔ rr f T' (nI m) u v := by
  have hp : (2 : Nat) ^ n ≤ 256 := Nat.pow_le_pow_right (n := 2) (by decide) h8
  unfold rr
  by_cases hb : bt (nI m) u = true
  · have hu := bt_lo h8 hm hb
    rw [h _ ((bs_lt (f := f) (by omega : m < 256) (by omega : u < 8)).2.2 hb).1]
  · exact ⟨fun q => absurd q.1 hb, fun q => absurd q.1 hb⟩
theorem kpq_c {f T T' : Nat → Int32} {n m : Nat} (h8 : n ≤ 8) (hm : m < 2 ^ n) (h : ∀ i, i ≤ m → T i = T' i) (hk : kpq f T (nI m)) : kpq f T' (nI m) := by
  have hp : (2 : Nat) ^ n ≤ 256 := Nat.pow_le_pow_right (n := 2) (by decide) h8
  intro j
  have e := hk j
  rw [nI_clamp (by omega)] at e ⊢
  rw [← h m (Nat.le_refl _), e]
  have c := fun u v => rr_c (f := f) h8 hm (fun i hi => h i (by omega)) u v
  refine ⟨fun q => ⟨q.1, fun y hy => ?_⟩, fun q => ⟨q.1, fun y hy => ?_⟩⟩
  · exact (Rs_c c).mp (q.2 y ((Rs_c c).mpr hy))
  · exact (Rs_c c).mpr (q.2 y ((Rs_c c).mp hy))
theorem clo_M {N : Nat} {μ : Mem} {f : Nat → Int32} {n m x : Nat} (h8 : n ≤ 8) (hm : m < 2 ^ n) (h1 : gI μ 1 0 = nI n) (h13 : ∀ a, a < 8 → gI μ 1 (1 + a) = f a) (hx : bt (nI m) x = true) (hsub : ∀ u, u < 8 → bt (nI m) u = true → ∀ v, bt (gI μ 22 (bs f (nI m) u).toNatClampNeg) v = true → bt (nI m) v = true) : par (f_M_closed N (nI x) (nI m) μ) (fun r => ∀ j, bt r j = true ↔ Rs (rr f (gI μ 22) (nI m)) x j) := by
  have hp : (2 : Nat) ^ n ≤ 256 := Nat.pow_le_pow_right (n := 2) (by decide) h8
  have hxn := bt_lo h8 hm hx
  unfold f_M_closed
  refine p_bnd ?_
  have one : ∀ j, bt ((1 : Int32) <<< (nI x &&& 31)) j = true ↔ j = x := fun j => by
    by_cases hj : j < 32
    · rw [bt_one (by omega) hj]
      exact decide_eq_true_iff
    · rw [bt_ge (by omega)]
      exact ⟨fun q => absurd q (by decide), fun q => by omega⟩
  refine p_it2 (fun i2 i3 => bt i2 x = true ∧ (∀ j, bt i2 j = true → Rs (rr f (gI μ 22) (nI m)) x j ∧ bt (nI m) j = true) ∧ (i3 = 0 ∨ ∀ u v, bt i3 u = true → rr f (gI μ 22) (nI m) u v → bt i2 v = true)) ?_ N _ _ ⟨(one x).mpr rfl, fun j hj => by rw [(one j).mp hj]; exact ⟨Rs_r x, hx⟩, Or.inl rfl⟩
  rintro self i2 i3 ⟨hc1, hc2, hc3⟩ ih
  unfold M_closed_B7
  refine p_if (fun h => p_some (fun j => ⟨fun q => (hc2 j q).1, fun q => ?_⟩)) (fun h => ?_)
  · rw [h] at hc3
    rcases hc3 with e | hc3
    · rw [e, bt_0] at hc1
      cases hc1
    · exact q (fun u => bt i2 u = true) hc1 hc3
  · refine p_it2 (fun i5 i6 => ∃ k, k ≤ n ∧ i6 = nI k ∧ (∀ j, bt i5 j = true ↔ (bt i2 j = true ∨ ∃ u, u < k ∧ bt i2 u = true ∧ bt (gI μ 22 (bs f (nI m) u).toNatClampNeg) j = true))) ?_ N _ _ ⟨0, by omega, rfl, fun j => ⟨Or.inl, fun q => by rcases q with q | ⟨u, hu, -⟩; exact q; omega⟩⟩
    rintro self2 i5 _ ⟨k, hk, rfl, h5⟩ ih2
    unfold M_closed_B19
    rw [many_e h1]
    refine p_if (fun h2 => ?_) (fun h2 => ?_)
    · rw [nle (by omega) (by omega)] at h2
      refine ih _ _ ⟨(h5 x).mpr (Or.inl hc1), fun j hj => ?_, Or.inr (fun u v hu hr => (h5 v).mpr (Or.inr ⟨u, ?_, hu, hr.2⟩))⟩
      · rcases (h5 j).mp hj with q | ⟨u, hu, hu2, hu3⟩
        · exact hc2 j q
        · have hu4 := hc2 u hu2
          exact ⟨Rs_s hu4.1 ⟨hu4.2, hu3⟩, hsub u (by omega) hu4.2 j hu3⟩
      · have := bt_lo h8 hm (hc2 u hu).2
        omega
    · rw [nle (by omega) (by omega)] at h2
      rw [has_bt (by omega), nadd1]
      cases hb : bt i2 k
      · rw [if_pos (by decide)]
        refine p_bnd ?_
        rw [Int32.or_zero]
        refine ih2 _ _ ⟨k + 1, by omega, rfl, fun j => ?_⟩
        rw [h5 j]
        refine ⟨fun q => ?_, fun q => ?_⟩
        · rcases q with q | ⟨u, hu, q⟩
          · exact Or.inl q
          · exact Or.inr ⟨u, by omega, q⟩
        · rcases q with q | ⟨u, hu, q1, q2⟩
          · exact Or.inl q
          · by_cases c : u = k
            · rw [c, hb] at q1; cases q1
            · exact Or.inr ⟨u, by omega, q1, q2⟩
      · rw [if_neg (by decide), over_e (by omega), ob_s, ov_bs h8 hm (by omega) h1 (h13 k (by omega))]
        refine p_gd (fun _ => p_bnd ?_)
        refine ih2 _ _ ⟨k + 1, by omega, rfl, fun j => ?_⟩
        rw [bt_or]
        refine ⟨fun q => ?_, fun q => ?_⟩
        · cases q5 : bt i5 j
          · rw [q5] at q
            exact Or.inr ⟨k, by omega, hb, by simpa using q⟩
          · rcases (h5 j).mp q5 with q | ⟨u, hu, q⟩
            · exact Or.inl q
            · exact Or.inr ⟨u, by omega, q⟩
        · rcases q with q | ⟨u, hu, q1, q2⟩
          · rw [(h5 j).mpr (Or.inl q)]; rfl
          · by_cases c : u = k
            · rw [c] at q2
              rw [q2]
              simp
            · rw [(h5 j).mpr (Or.inr ⟨u, by omega, q1, q2⟩)]; rfl
theorem lk_M {N : Nat} {μ : Mem} {f : Nat → Int32} {n : Nat} (h8 : n ≤ 8) (h1 : gI μ 1 0 = nI n) (h13 : ∀ a, a < 8 → gI μ 1 (1 + a) = f a) : par (f_M_layKeeping N μ) (fun s => fr [22, 23] [] μ s ∧ gI s 22 0 = 0 ∧ ∀ m, 0 < m → m < 2 ^ n → kpq f (gI s 22) (nI m)) := by
  have hp : (2 : Nat) ^ n ≤ 256 := Nat.pow_le_pow_right (n := 2) (by decide) h8
  have hp0 : 0 < (2 : Nat) ^ n := Nat.pow_pos (by decide)
  unfold f_M_layKeeping
  refine p_let (fun s1 e1 => ?_)
  rw [n0] at e1
  have f1 : fr [22, 23] [] μ s1 := by rw [e1]; exact fr_sI (by decide)
  refine p_it2 (fun i s => ∃ m, 0 < m ∧ m ≤ 2 ^ n ∧ i = nI m ∧ fr [22, 23] [] μ s ∧ gI s 22 0 = 0 ∧ ∀ j, 0 < j → j < m → kpq f (gI s 22) (nI j)) ?_ N _ _ ⟨1, by omega, by omega, rfl, f1, by rw [e1, gI_sI, if_pos rfl, upd_ap, if_pos rfl], fun j h1 h2 => by omega⟩
  rintro self _ s0 ⟨m, hm0, hm, rfl, hf, h0, hK⟩ ih
  have g1 : gI s0 1 = gI μ 1 := hf.1 1 (by decide)
  unfold M_layKeeping_B9
  rw [all_e (by rw [g1]; exact h1), mask_e n h8]
  refine p_if (fun h => p_some ?_) (fun h => ?_)
  · rw [nlt (by omega) (by omega)] at h
    exact ⟨hf, h0, fun j j1 j2 => hK j j1 (by omega)⟩
  · rw [nlt (by omega) (by omega)] at h
    have hm' : m < 2 ^ n := by omega
    have hsub : ∀ u, u < 8 → bt (nI m) u = true → ∀ v, bt (gI s0 22 (bs f (nI m) u).toNatClampNeg) v = true → bt (nI m) v = true := fun u hu hb v hv => by
      obtain ⟨b1', b2', b3'⟩ := bs_lt (f := f) (by omega : m < 256) hu
      by_cases c : (bs f (nI m) u).toNatClampNeg = 0
      · rw [c, h0, bt_0] at hv
        cases hv
      · have q := hK _ (by omega) (b3' hb).1 v
        rw [← b2'] at q
        exact bs_S (q.mp hv).1
    obtain ⟨Q, hQ⟩ : ∃ Q, Q = Rs (rr f (gI s0 22) (nI m)) := ⟨_, rfl⟩
    refine p_it2 (fun i s => ∃ k, k ≤ n ∧ i = nI k ∧ fr [23] [] s0 s ∧ ∀ j, j < k → (bt (nI m) j = true → ∀ y, bt (gI s 23 j) y = true ↔ Q j y) ∧ (bt (nI m) j = false → gI s 23 j = 0)) ?_ N _ _ ⟨0, by omega, rfl, fr_r _ _ _, fun j hj => by omega⟩
    rintro self2 _ s ⟨k, hk, rfl, hf2, hrow⟩ ih2
    have g2 : gI s 1 = gI μ 1 := (hf2.1 1 (by decide)).trans g1
    have g22 : gI s 22 = gI s0 22 := hf2.1 22 (by decide)
    unfold M_layKeeping_B19
    rw [many_e (by rw [g2]; exact h1)]
    refine p_if (fun h2 => ?_) (fun h2 => ?_)
    · rw [nle (by omega) (by omega)] at h2
      have hkn : k = n := by omega
      subst hkn
      unfold M_layKeeping_K57
      have rowS : ∀ x, x < k → ∀ y, bt (gI s 23 x) y = true → bt (nI m) x = true ∧ Q x y := fun x hx y hy => by
        cases q : bt (nI m) x
        · rw [(hrow x hx).2 q, bt_0] at hy
          cases hy
        · exact ⟨rfl, ((hrow x hx).1 q y).mp hy⟩
      have QS : ∀ x y, bt (nI m) x = true → Q x y → bt (nI m) y = true := fun x y hx hq => by
        rw [hQ] at hq
        exact hq (fun u => bt (nI m) u = true) hx (fun u v hu hr => hsub u (by have := bt_lo h8 hm' hu; omega) hu v hr.2)
      refine p_it2 (fun i8 i9 => ∃ p, p ≤ k ∧ i9 = nI p ∧ ∀ j, bt i8 j = true ↔ ∃ x, x < p ∧ (∀ y, y < k → bt (gI s 23 x) y = true → gI s 23 y = gI s 23 x) ∧ bt (gI s 23 x) j = true) ?_ N _ _ ⟨0, by omega, rfl, fun j => ⟨fun q => absurd q (by rw [bt_0]; decide), fun ⟨x, hx, _⟩ => absurd hx (Nat.not_lt_zero x)⟩⟩
      rintro self3 i8 _ ⟨p, hp', rfl, h8'⟩ ih3
      unfold M_layKeeping_B61
      rw [many_e (by rw [g2]; exact h1)]
      refine p_if (fun h3 => ?_) (fun h3 => ?_)
      · rw [nle (by omega) (by omega)] at h3
        have hpk : p = k := by omega
        subst hpk
        unfold M_layKeeping_K156
        refine p_gd (fun _ => p_bnd ?_)
        rw [nI_clamp (by omega), nadd1]
        have low : ∀ i, i ≠ m → gI (sI s 22 m i8) 22 i = gI s0 22 i := fun i hi => by
          rw [gI_sI, if_pos rfl, upd_ap, if_neg hi, g22]
        refine ih _ _ ⟨m + 1, by omega, by omega, rfl, fr_t hf (fr_t (fr_m hf2 (by decide) (by decide)) (fr_sI (by decide))), by rw [low 0 (by omega)]; exact h0, fun j j1 j2 => ?_⟩
        by_cases c : j = m
        · rw [c]
          intro j
          rw [nI_clamp (by omega), gI_sI, if_pos rfl, upd_ap, if_pos rfl]
          have cc := fun u v => rr_c (f := f) (T := upd (gI s 22) m i8) (T' := gI s0 22) h8 hm' (fun i hi => by rw [upd_ap, if_neg (by omega), g22]) u v
          have cQ : ∀ x y, Rs (rr f (upd (gI s 22) m i8) (nI m)) x y ↔ Q x y := fun x y => by rw [hQ]; exact Rs_c cc
          rw [h8' j]
          constructor
          · rintro ⟨x, hx, hall, hj⟩
            obtain ⟨hxS, hxj⟩ := rowS x hx j hj
            have hjS := QS x j hxS hxj
            have hjn := bt_lo h8 hm' hjS
            have ej := hall j hjn hj
            refine ⟨hjS, fun y hy => ?_⟩
            rw [cQ] at hy ⊢
            have hy2 := ((hrow j hjn).1 hjS y).mpr hy
            have hyS := QS j y hjS hy
            have hyn := bt_lo h8 hm' hyS
            rw [ej] at hy2
            have ey := hall y hyn hy2
            refine ((hrow y hyn).1 hyS j).mp ?_
            rw [ey]
            exact hj
          · rintro ⟨hjS, hall⟩
            have hjn := bt_lo h8 hm' hjS
            have jj : bt (gI s 23 j) j = true := ((hrow j hjn).1 hjS j).mpr (by rw [hQ]; exact Rs_r j)
            refine ⟨j, hjn, fun y hy hy2 => ?_, jj⟩
            have q1 := ((hrow j hjn).1 hjS y).mp hy2
            have q2 := (cQ y j).mp (hall y ((cQ j y).mpr q1))
            have hyS := QS j y hjS q1
            refine bt_ext (fun z hz => ?_)
            have r1 := (hrow y hy).1 hyS z
            have r2 := (hrow j hjn).1 hjS z
            have r3 : Q y z ↔ Q j z := by
              rw [hQ] at q1 q2 ⊢
              exact ⟨fun q => Rs_t q1 q, fun q => Rs_t q2 q⟩
            cases b1' : bt (gI s 23 y) z <;> cases b2' : bt (gI s 23 j) z
            · rfl
            · rw [r1.mpr (r3.mpr (r2.mp b2'))] at b1'; cases b1'
            · rw [r2.mpr (r3.mp (r1.mp b1'))] at b2'; cases b2'
            · rfl
        · exact kpq_c h8 (by omega) (fun i hi => (low i (by omega)).symm) (hK j j1 (by omega))
      · rw [nle (by omega) (by omega)] at h3
        refine p_it2 (fun i14 i15 => ∃ q, q ≤ k ∧ i15 = nI q ∧ ((i14 = 1 ∧ ∀ y, y < q → bt (gI s 23 p) y = true → gI s 23 y = gI s 23 p) ∨ (i14 = 0 ∧ ∃ y, y < q ∧ bt (gI s 23 p) y = true ∧ ¬ gI s 23 y = gI s 23 p))) ?_ N _ _ ⟨0, by omega, rfl, Or.inl ⟨rfl, fun y hy => by omega⟩⟩
        rintro self4 i14 _ ⟨q, hq, rfl, h14⟩ ih4
        unfold M_layKeeping_B75
        rw [many_e (by rw [g2]; exact h1)]
        refine p_if (fun h4 => ?_) (fun h4 => ?_)
        · rw [nle (by omega) (by omega)] at h4
          have hqk : q = k := by omega
          subst hqk
          unfold M_layKeeping_K132
          rw [nadd1]
          rcases h14 with ⟨e, hall⟩ | ⟨e, y, hy, hy2, hy3⟩
          · rw [if_neg (by rw [e]; decide)]
            refine p_gd (fun _ => p_bnd ?_)
            rw [nI_clamp (by omega)]
            refine ih3 _ _ ⟨p + 1, by omega, rfl, fun j => ?_⟩
            rw [bt_or]
            constructor
            · intro w
              cases w8 : bt i8 j
              · rw [w8] at w
                exact ⟨p, by omega, hall, by simpa using w⟩
              · obtain ⟨x, hx, w2⟩ := (h8' j).mp w8
                exact ⟨x, by omega, w2⟩
            · rintro ⟨x, hx, w1, w2⟩
              by_cases c : x = p
              · rw [c] at w2
                rw [w2]
                simp
              · rw [(h8' j).mpr ⟨x, by omega, w1, w2⟩]
                rfl
          · rw [if_pos e]
            refine p_bnd ?_
            rw [Int32.or_zero]
            refine ih3 _ _ ⟨p + 1, by omega, rfl, fun j => ?_⟩
            rw [h8' j]
            constructor
            · rintro ⟨x, hx, w⟩
              exact ⟨x, by omega, w⟩
            · rintro ⟨x, hx, w1, w2⟩
              by_cases c : x = p
              · rw [c] at w1
                exact absurd (w1 y hy hy2) hy3
              · exact ⟨x, by omega, w1, w2⟩
        · rw [nle (by omega) (by omega)] at h4
          rw [nadd1]
          rcases h14 with ⟨e, hall⟩ | ⟨e, y, hy, hy2⟩
          · rw [if_neg (by rw [e]; decide), nI_clamp (by omega), nI_clamp (by omega), has_bt (by omega)]
            refine p_gd (fun _ => ?_)
            cases hb : bt (gI s 23 p) q
            · rw [if_pos (by decide)]
              refine ih4 _ _ ⟨q + 1, by omega, rfl, Or.inl ⟨rfl, fun y hy hy2 => ?_⟩⟩
              by_cases c : y = q
              · rw [c, hb] at hy2; cases hy2
              · exact hall y (by omega) hy2
            · rw [if_neg (by decide)]
              refine p_gd (fun _ => p_gd (fun _ => p_if (fun c => ?_) (fun c => ?_)))
              · refine ih4 _ _ ⟨q + 1, by omega, rfl, Or.inl ⟨rfl, fun y hy hy2 => ?_⟩⟩
                by_cases c2 : y = q
                · rw [c2]; exact c
                · exact hall y (by omega) hy2
              · exact ih4 _ _ ⟨q + 1, by omega, rfl, Or.inr ⟨rfl, q, by omega, hb, c⟩⟩
          · rw [if_pos e]
            exact ih4 _ _ ⟨q + 1, by omega, rfl, Or.inr ⟨rfl, y, by omega, hy2⟩⟩
    · rw [nle (by omega) (by omega)] at h2
      rw [has_bt (by omega)]
      have key : ∀ v, (bt (nI m) k = true → ∀ y, bt v y = true ↔ Q k y) → (bt (nI m) k = false → v = 0) → par (M_layKeeping_J50 s (nI k) self2 v) (fun s => fr [22, 23] [] μ s ∧ gI s 22 0 = 0 ∧ ∀ m, 0 < m → m < 2 ^ n → kpq f (gI s 22) (nI m)) := fun v v1 v2 => by
        unfold M_layKeeping_J50
        refine p_gd (fun _ => p_bnd ?_)
        rw [nI_clamp (by omega), nadd1]
        refine ih2 _ _ ⟨k + 1, by omega, rfl, fr_t hf2 (fr_sI (by decide)), fun j hj => ?_⟩
        rw [gI_sI, if_pos rfl, upd_ap]
        by_cases c : j = k
        · rw [if_pos c, c]
          exact ⟨v1, v2⟩
        · rw [if_neg c]
          exact hrow j (by omega)
      cases hb : bt (nI m) k
      · rw [if_pos (by decide)]
        exact key _ (fun q => by rw [hb] at q; cases q) (fun _ => rfl)
      · rw [if_neg (by decide)]
        refine p_ob _ (clo_M (f := f) h8 hm' (by rw [g2]; exact h1) (fun a ha => by rw [g2]; exact h13 a ha) hb (by rw [g22]; exact hsub)) (fun r hr => key r (fun _ y => ?_) (fun q => by rw [hb] at q; cases q))
        rw [hQ, ← g22]
        exact hr y
