/-! top: the least set that beats all others, in both -/
def tpr (f : Nat → Int32) (S : Int32) (u v : Nat) : Prop := bt S u = true ∧ bt (bs f S u) v = true
/-- those reached back by all they reach -/
def tpc (f : Nat → Int32) (S : Int32) (x : Nat) : Prop := bt S x = true ∧ ∀ y, Rs (tpr f S) x y → Rs (tpr f S) y x
def dmn (f : Nat → Int32) (n : Nat) (S T : Int32) : Prop := ∀ x, x < n → bt T x = true → ((S &&& (T ^^^ (-1 : Int32))) &&& (f x ^^^ (-1 : Int32))) = 0
theorem to_D {N : Nat} {σ : Mem} {n m : Nat} (h8 : n ≤ 8) (h3 : gI σ 3 0 = nI n) (hm : m < 2 ^ n) : par (f_Se_top N (nI m) σ) (fun q => ∀ j, bt q.1 j = true ↔ tpc (gI σ 13) (nI m) j) := by
  have hp : (2 : Nat) ^ n ≤ 256 := Nat.pow_le_pow_right (n := 2) (by decide) h8
  have hS : ∀ j, bt (nI m) j = true → j < n := fun j h => bt_lo h8 hm h
  unfold f_Se_top
  refine p_it2 (fun i s => ∃ k, k ≤ n ∧ i = nI k ∧ fr [23] [] σ s ∧ ∀ x, x < k → bt (nI m) x = true → gI s 23 x = bs (gI σ 13) (nI m) x) ?_ N _ _ ⟨0, by omega, rfl, fr_r _ _ _, fun x hx => by omega⟩
  rintro self _ s ⟨k, hk, rfl, hf, hn⟩ ih
  unfold Se_top_B2
  rw [hf.1 3 (by decide), h3]
  refine p_if (fun c => ?_) (fun c => ?_)
  · rw [nle (by omega) (by omega)] at c
    have : k = n := by omega
    subst this
    unfold Se_top_K43
    refine p_ob _ (cn_D (b := 0) h8 (by rw [hf.1 3 (by decide)]; exact h3) hm (by decide)) (fun s2 h2 => ?_)
    obtain ⟨f2, -, h2⟩ := h2
    refine p_ob _ (lc_D (b := 0) h8 (by rw [f2.1 3 (by decide), hf.1 3 (by decide)]; exact h3) hm (by decide)) (fun r hr => p_some (fun j => ?_))
    show bt r j = true ↔ _
    rw [hr j]
    unfold tpc
    have hA : ∀ x y, bt (nI m) x = true → bt (gI s 23 (0 + x)) y = true → bt (nI m) y = true := fun x y hx hy => by
      rw [Nat.zero_add, hn x (hS x hx) hx] at hy
      exact bs_S hy
    have hr2 : ∀ x y, tpr (gI σ 13) (nI m) x y ↔ (bt (nI m) x = true ∧ bt (gI s 23 (0 + x)) y = true) := fun x y => by
      unfold tpr
      constructor
      · rintro ⟨a1, a2⟩
        refine ⟨a1, ?_⟩
        rw [Nat.zero_add, hn x (hS x a1) a1]
        exact a2
      · rintro ⟨a1, a2⟩
        rw [Nat.zero_add, hn x (hS x a1) a1] at a2
        exact ⟨a1, a2⟩
    constructor
    · rintro ⟨a1, a2⟩
      refine ⟨a1, (ws_rs hS hr2 hA a1).mp (fun y hy hb => ?_)⟩
      rw [← h2 y (by omega)]
      refine a2 y hy ?_
      rw [h2 j (by have := hS j a1; omega)]
      exact hb
    · rintro ⟨a1, a2⟩
      refine ⟨a1, fun y hy hb => ?_⟩
      rw [h2 y (by omega)]
      refine (ws_rs hS hr2 hA a1).mpr a2 y hy ?_
      rw [← h2 j (by have := hS j a1; omega)]
      exact hb
  · rw [nle (by omega) (by omega)] at c
    rw [bit_bt (by omega), nadd1]
    cases hb : bt (nI m) k
    · rw [if_neg (by decide)]
      refine ih _ _ ⟨k + 1, by omega, rfl, hf, fun x hx h => ?_⟩
      by_cases cx : x = k
      · rw [cx, hb] at h
        cases h
      · exact hn x (by omega) h
    · rw [if_pos (by rfl), beaters_e (by omega), ob_s]
      refine p_gd (fun _ => p_bnd ?_)
      rw [nI_clamp (by omega), hf.1 13 (by decide)]
      refine ih _ _ ⟨k + 1, by omega, rfl, fr_t hf (fr_sI (by decide)), fun x hx h => ?_⟩
      rw [gI_sI, if_pos rfl, upd_ap]
      by_cases cx : x = k
      · rw [if_pos cx, cx]
        rfl
      · rw [if_neg cx]
        exact hn x (by omega) h
/-- the reference: the least of all dominant ones, by size, then by number -/
noncomputable def tof (f : Nat → Int32) (n : Nat) (S : Int32) : Nat → Int32
  | 0 => S
  | k + 1 => @ite _ ((nI (k + 1) &&& (S ^^^ (-1 : Int32))) = 0 ∧ pc (nI (k + 1)) < pc (tof f n S k) ∧ dmn f n S (nI (k + 1))) (Classical.propDecidable _) (nI (k + 1)) (tof f n S k)
theorem tof_y {f : Nat → Int32} {n : Nat} {S : Int32} {k : Nat} (h : (nI (k + 1) &&& (S ^^^ (-1 : Int32))) = 0 ∧ pc (nI (k + 1)) < pc (tof f n S k) ∧ dmn f n S (nI (k + 1))) : tof f n S (k + 1) = nI (k + 1) := @if_pos _ (Classical.propDecidable _) h _ _ _
theorem tof_n {f : Nat → Int32} {n : Nat} {S : Int32} {k : Nat} (h : ¬ ((nI (k + 1) &&& (S ^^^ (-1 : Int32))) = 0 ∧ pc (nI (k + 1)) < pc (tof f n S k) ∧ dmn f n S (nI (k + 1)))) : tof f n S (k + 1) = tof f n S k := @if_neg _ (Classical.propDecidable _) h _ _ _
theorem tof_p {f : Nat → Int32} {n m : Nat} (h8 : n ≤ 8) (hm : m < 2 ^ n) (hm1 : 1 ≤ m) : ∀ k, k < 256 → (∃ t, 1 ≤ t ∧ t < 2 ^ n ∧ tof f n (nI m) k = nI t ∧ (nI t &&& (nI m ^^^ (-1 : Int32))) = 0 ∧ dmn f n (nI m) (nI t)) ∧ ∀ j, 1 ≤ j → j ≤ k → (nI j &&& (nI m ^^^ (-1 : Int32))) = 0 → dmn f n (nI m) (nI j) → pc (tof f n (nI m) k) ≤ pc (nI j)
  | 0, _ => by
    refine ⟨⟨m, hm1, hm, rfl, wi_iff.mpr (fun _ _ h => h), fun x _ _ => ?_⟩, fun j h1 h2 => by omega⟩
    apply bt_ext
    intro j hj
    rw [bt_and, bt_and, bt_not _ hj, bt_0]
    cases bt (nI m) j <;> rfl
  | k + 1, hk => by
    have hp : (2 : Nat) ^ n ≤ 256 := Nat.pow_le_pow_right (n := 2) (by decide) h8
    obtain ⟨⟨t, t1, t2, t3, t4, t5⟩, ih⟩ := tof_p (f := f) h8 hm hm1 k (by omega)
    by_cases c : (nI (k + 1) &&& (nI m ^^^ (-1 : Int32))) = 0 ∧ pc (nI (k + 1)) < pc (tof f n (nI m) k) ∧ dmn f n (nI m) (nI (k + 1))
    · rw [tof_y c]
      refine ⟨⟨k + 1, by omega, ?_, rfl, c.1, c.2.2⟩, fun j h1 h2 h3 h4 => ?_⟩
      · have := wi_le (by omega) (by omega) c.1
        omega
      · by_cases cj : j = k + 1
        · rw [cj]; exact Nat.le_refl _
        · have := ih j h1 (by omega) h3 h4
          have := c.2.1
          omega
    · rw [tof_n c]
      refine ⟨⟨t, t1, t2, t3, t4, t5⟩, fun j h1 h2 h3 h4 => ?_⟩
      by_cases cj : j = k + 1
      · rw [cj] at h3 h4
        rw [cj]
        by_cases cp : pc (nI (k + 1)) < pc (tof f n (nI m) k)
        · exact absurd ⟨h3, cp, h4⟩ c
        · omega
      · exact ih j h1 (by omega) h3 h4
theorem to_M {N : Nat} (hN : 8589934592 ≤ N) {μ : Mem} {f : Nat → Int32} {n m : Nat} (h8 : n ≤ 8) (h1 : gI μ 1 0 = nI n) (h13 : ∀ a, a < 8 → gI μ 1 (1 + a) = f a) (hm : m < 2 ^ n) (hm1 : 1 ≤ m) : par (f_M_top N (nI m) μ) (fun r => r = tof f n (nI m) 255) := by
  have hp : (2 : Nat) ^ n ≤ 256 := Nat.pow_le_pow_right (n := 2) (by decide) h8
  have l256 : (256 : Int32) = nI 256 := rfl
  unfold f_M_top
  refine p_it2 (fun i1 i2 => ∃ k, k ≤ 255 ∧ i2 = nI (k + 1) ∧ i1 = tof f n (nI m) k) ?_ N _ _ ⟨0, by omega, rfl, rfl⟩
  rintro self _ _ ⟨k, hk, rfl, rfl⟩ ih
  have p8 := pc_8 (tof f n (nI m) k)
  have p9 := pc_8 (nI (k + 1))
  unfold M_top_B4
  refine p_if (fun c => ?_) (fun c => ?_)
  · rw [l256, nle (by omega) (by omega)] at c
    have : k = 255 := by omega
    subst this
    exact p_some rfl
  · rw [l256, nle (by omega) (by omega)] at c
    have stay : ¬ ((nI (k + 1) &&& (nI m ^^^ (-1 : Int32))) = 0 ∧ pc (nI (k + 1)) < pc (tof f n (nI m) k) ∧ dmn f n (nI m) (nI (k + 1))) → par (self (tof f n (nI m) k) (nI (k + 1 + 1))) (fun r => r = tof f n (nI m) 255) := fun h =>
      ih _ _ ⟨k + 1, by omega, rfl, (tof_n h).symm⟩
    have no : ¬ ((nI (k + 1) &&& (nI m ^^^ (-1 : Int32))) = 0 ∧ pc (nI (k + 1)) < pc (tof f n (nI m) k)) → par (M_top_J34 N μ (nI m) (tof f n (nI m) k) (nI (k + 1)) self) (fun r => r = tof f n (nI m) 255) := fun h => by
      unfold M_top_J34 M_top_J35
      cases N with
      | zero => exact absurd hN (by decide)
      | succ N' =>
        show par (M_top_B40 μ (nI m) (tof f n (nI m) k) (nI (k + 1)) self _ (0 : Int32) (0 : Int32)) _
        unfold M_top_B40 M_top_K93
        rw [nadd1]
        refine p_if (fun _ => ?_) (fun _ => ?_)
        · rw [if_pos rfl]
          exact stay (fun q => h ⟨q.1, q.2.1⟩)
        · rw [if_pos rfl, if_pos rfl]
          exact stay (fun q => h ⟨q.1, q.2.1⟩)
    have ew : t_M_isWithin (nI (k + 1)) (nI m) = if (nI (k + 1) &&& (nI m ^^^ (-1 : Int32))) = 0 then 1 else 0 := rfl
    rw [ew]
    by_cases c2 : (nI (k + 1) &&& (nI m ^^^ (-1 : Int32))) = 0
    · rw [if_pos c2, if_neg n10]
      refine p_ob _ (p_tot (M_sizeOf_s hN (nI_rg (b := 255) (by omega) (by omega)))) (fun r4 h4 => ?_)
      obtain ⟨⟨t, t1, t2, t3, -, -⟩, -⟩ := tof_p (f := f) h8 hm hm1 k (by omega)
      have rt : rg 0 255 (tof f n (nI m) k) := by rw [t3]; exact nI_rg (by omega) (by omega)
      refine p_ob _ (p_tot (M_sizeOf_s hN rt)) (fun r5 h5 => ?_)
      rw [h4, h5]
      refine p_if (fun c3 => ?_) (fun c3 => ?_)
      · rw [nle (by omega) (by omega)] at c3
        exact no (fun q => by have := q.2; omega)
      · rw [nle (by omega) (by omega)] at c3
        unfold M_top_J35
        refine p_it2 (fun i6 i7 => ∃ x, x ≤ n ∧ i7 = nI x ∧ ((i6 = 1 ∧ ∀ y, y < x → bt (nI (k + 1)) y = true → ((nI m &&& (nI (k + 1) ^^^ (-1 : Int32))) &&& (f y ^^^ (-1 : Int32))) = 0) ∨ (i6 = 0 ∧ ¬ dmn f n (nI m) (nI (k + 1))))) ?_ N _ _ ⟨0, by omega, rfl, Or.inl ⟨rfl, fun y hy => by omega⟩⟩
        rintro self8 i6 _ ⟨x, hx, rfl, h6⟩ ih8
        unfold M_top_B40 M_top_K93
        rw [many_e h1, nadd1, nadd1]
        have bad : ¬ dmn f n (nI m) (nI (k + 1)) → par (self (tof f n (nI m) k) (nI (k + 1 + 1))) (fun r => r = tof f n (nI m) 255) := fun h => stay (fun q => h q.2.2)
        rcases h6 with ⟨e6, h6⟩ | ⟨e6, h6⟩
        · rw [e6, if_neg n10]
          refine p_if (fun c4 => ?_) (fun c4 => ?_)
          · rw [nle (by omega) (by omega)] at c4
            have y : (nI (k + 1) &&& (nI m ^^^ (-1 : Int32))) = 0 ∧ pc (nI (k + 1)) < pc (tof f n (nI m) k) ∧ dmn f n (nI m) (nI (k + 1)) := ⟨c2, by omega, fun y hy => h6 y (by omega)⟩
            exact ih _ _ ⟨k + 1, by omega, rfl, (tof_y y).symm⟩
          · rw [nle (by omega) (by omega)] at c4
            rw [if_neg n10, has_bt (by omega)]
            cases hb : bt (nI (k + 1)) x
            · rw [if_pos (by decide)]
              refine ih8 _ _ ⟨x + 1, by omega, rfl, Or.inl ⟨rfl, fun y hy h => ?_⟩⟩
              by_cases cy : y = x
              · rw [cy, hb] at h
                cases h
              · exact h6 y (by omega) h
            · rw [if_neg (by decide), beats_e (by omega), ob_s, h13 x (by omega)]
              have ew2 : t_M_isWithin (nI m &&& (nI (k + 1) ^^^ (-1 : Int32))) (f x) = if ((nI m &&& (nI (k + 1) ^^^ (-1 : Int32))) &&& (f x ^^^ (-1 : Int32))) = 0 then 1 else 0 := rfl
              rw [ew2]
              by_cases c5 : ((nI m &&& (nI (k + 1) ^^^ (-1 : Int32))) &&& (f x ^^^ (-1 : Int32))) = 0
              · rw [if_pos c5, if_neg n10]
                refine ih8 _ _ ⟨x + 1, by omega, rfl, Or.inl ⟨rfl, fun y hy h => ?_⟩⟩
                by_cases cy : y = x
                · rw [cy]; exact c5
                · exact h6 y (by omega) h
              · rw [if_neg c5, if_pos rfl]
                exact ih8 _ _ ⟨x + 1, by omega, rfl, Or.inr ⟨rfl, fun q => c5 (q x (by omega) hb)⟩⟩
        · rw [e6]
          refine p_if (fun _ => ?_) (fun _ => ?_)
          · rw [if_pos rfl]
            exact bad h6
          · rw [if_pos rfl, if_pos rfl]
            exact bad h6
    · rw [if_neg c2, if_pos rfl]
      exact no (fun q => c2 q.1)
/-- a number for each set of players -/
theorem mk_set {n : Nat} (h8 : n ≤ 8) (P : Nat → Prop) (hP : ∀ j, P j → j < n) : ∃ t, t < 2 ^ n ∧ ∀ j, bt (nI t) j = true ↔ P j := by
  have hb : ∀ j, bt (bsf (fun j => @decide (P j) (Classical.propDecidable _)) n) j = true ↔ P j := fun j => by
    rw [bsf_bt n h8 j, Bool.and_eq_true, decide_eq_true_iff, @decide_eq_true_iff (P j) (Classical.propDecidable _)]
    exact ⟨fun h => h.2, fun h => ⟨hP j h, h⟩⟩
  obtain ⟨t, t1, t2⟩ := sub_nI (n := n) h8 (a := bsf (fun j => @decide (P j) (Classical.propDecidable _)) n) (fun j _ h => hP j ((hb j).mp h))
  refine ⟨t, t1, fun j => ?_⟩
  rw [← t2]
  exact hb j
theorem pc_eq {x y : Int32} (hx : rg 0 255 x) (hy : rg 0 255 y) (h : ∀ j, bt x j = true → bt y j = true) (hp : pc y ≤ pc x) : x = y := by
  refine bt_e8 hx hy (fun j hj => ?_)
  cases e : bt x j
  · cases e2 : bt y j
    · rfl
    · have := pc_lt (fun i _ hi => h i hi) hj e e2
      omega
  · rw [h j e]
theorem to_b {f : Nat → Int32} {n m : Nat} (h8 : n ≤ 8) (hT : Tn n f) (hm : m < 2 ^ n) (hm1 : 1 ≤ m) : ∀ j, bt (tof f n (nI m) 255) j = true ↔ tpc f (nI m) j := by
  have hp : (2 : Nat) ^ n ≤ 256 := Nat.pow_le_pow_right (n := 2) (by decide) h8
  have hS : ∀ j, bt (nI m) j = true → j < n := fun j h => bt_lo h8 hm h
  obtain ⟨⟨t, t1, t2, t3, t4, t5⟩, hmin⟩ := tof_p (f := f) h8 hm hm1 255 (by decide)
  rw [t3] at hmin ⊢
  have r4 := wi_iff.mp t4
  have tS : ∀ j, bt (nI t) j = true → bt (nI m) j = true := fun j h => r4 j (by have := bt_lo h8 t2 h; omega) h
  have bsb : ∀ x v, x < 8 → (bt (bs f (nI m) x) v = true ↔ (bt (nI m) v = true ∧ bt (f x) v = false ∧ v ≠ x)) := fun x v hx => by
    by_cases hv : v < 32
    · rw [bs_bt hx hv, Bool.and_eq_true, Bool.and_eq_true, Bool.not_eq_true', Bool.not_eq_true', decide_eq_false_iff_not]
      exact ⟨fun h => ⟨h.1.1, h.1.2, h.2⟩, fun h => ⟨⟨h.1, h.2.1⟩, h.2.2⟩⟩
    · rw [bt_ge (by omega)]
      exact ⟨fun h => (by cases h), fun h => (by have := hS v h.1; omega)⟩
  have trn : ∀ u v, bt (nI m) u = true → bt (nI m) v = true → u ≠ v → (tpr f (nI m) u v ∨ tpr f (nI m) v u) := fun u v hu hv huv => by
    have u1 := hS u hu
    have v1 := hS v hv
    have := hT.2.2 u v u1 v1 huv
    cases e : bt (f u) v
    · exact Or.inl ⟨hu, (bsb u v (by omega)).mpr ⟨hv, e, fun q => huv q.symm⟩⟩
    · rw [e] at this
      refine Or.inr ⟨hv, (bsb v u (by omega)).mpr ⟨hu, ?_, huv⟩⟩
      cases e2 : bt (f v) u
      · rfl
      · rw [e2] at this; cases this
  have rS : ∀ x y, bt (nI m) x = true → Rs (tpr f (nI m)) x y → bt (nI m) y = true := fun x y hx h => h (fun z => bt (nI m) z = true) hx (fun u v _ h2 => bs_S h2.2)
  -- a set that dominates is closed
  have dcl : ∀ d, d < 2 ^ n → (∀ j, bt (nI d) j = true → bt (nI m) j = true) → dmn f n (nI m) (nI d) → ∀ x y, bt (nI d) x = true → Rs (tpr f (nI m)) x y → bt (nI d) y = true := fun d hd hdS hdm x y hx h => by
    refine h (fun z => bt (nI d) z = true) hx (fun u v hu hr => ?_)
    have u1 := hS u (hdS u hu)
    have b := (bsb u v (by omega)).mp hr.2
    have v1 := hS v b.1
    cases e : bt (nI d) v
    · have z := hdm u u1 hu
      have z2 := congrArg (fun w => bt w v) z
      have z3 : bt ((nI m &&& (nI d ^^^ (-1 : Int32))) &&& (f u ^^^ (-1 : Int32))) v = bt 0 v := z2
      rw [bt_and, bt_and, bt_not _ (by omega), bt_not _ (by omega), bt_0, b.1, e, b.2.1] at z3
      cases z3
    · rfl
  -- a closed one dominates
  have cld : ∀ d, (∀ x y, bt (nI d) x = true → tpr f (nI m) x y → bt (nI d) y = true) → (∀ j, bt (nI d) j = true → bt (nI m) j = true) → dmn f n (nI m) (nI d) := fun d hc hdS x hx hb => by
    apply bt_ext
    intro j hj
    rw [bt_and, bt_and, bt_not _ hj, bt_not _ hj, bt_0]
    cases e1 : bt (nI m) j
    · rfl
    · cases e2 : bt (nI d) j
      · cases e3 : bt (f x) j
        · have hxj : x ≠ j := fun q => by rw [q, e2] at hb; cases hb
          have := hc x j hb ⟨hdS x hb, (bsb x j (by omega)).mpr ⟨e1, e3, fun q => hxj q.symm⟩⟩
          rw [e2] at this
          cases this
        · rfl
      · rfl
  -- everything in the least one reaches all of it
  have all : ∀ x, bt (nI t) x = true → ∀ y, bt (nI t) y = true → Rs (tpr f (nI m)) x y := fun x hx => by
    obtain ⟨d, d1, d2⟩ := mk_set (n := n) h8 (fun y => Rs (tpr f (nI m)) x y) (fun y hy => hS y (rS x y (tS x hx) hy))
    have dS' : ∀ j, bt (nI d) j = true → bt (nI m) j = true := fun j hj => rS x j (tS x hx) ((d2 j).mp hj)
    have dT : ∀ j, bt (nI d) j = true → bt (nI t) j = true := fun j hj => dcl t t2 tS t5 x j hx ((d2 j).mp hj)
    have dx : bt (nI d) x = true := (d2 x).mpr (Rs_r x)
    have d0 : 1 ≤ d := by
      by_cases c : d = 0
      · rw [c] at dx
        have : bt (nI 0) x = false := bt_0 x
        rw [this] at dx
        cases dx
      · omega
    have dd := cld d (fun u v hu hr => (d2 v).mpr (Rs_s ((d2 u).mp hu) hr)) dS'
    have hle := hmin d d0 (by omega) (wi_iff.mpr (fun j _ h => dS' j h)) dd
    have e : nI d = nI t := pc_eq (nI_rg (by omega) (by omega)) (nI_rg (by omega) (by omega)) dT hle
    intro y hy
    rw [← e] at hy
    exact (d2 y).mp hy
  intro j
  constructor
  · intro hj
    exact ⟨tS j hj, fun y hy => all y (dcl t t2 tS t5 j y hj hy) j hj⟩
  · rintro ⟨j1, j2⟩
    obtain ⟨x, hx, hxb⟩ := lowbits n h8 t t2 (by omega)
    by_cases c : j = x
    · rw [c]; exact hxb
    · rcases trn j x j1 (tS x hxb) c with h | h
      · exact dcl t t2 tS t5 x j hxb (j2 x (Rs_s (Rs_r j) h))
      · exact dcl t t2 tS t5 x j hxb (Rs_s (Rs_r x) h)
