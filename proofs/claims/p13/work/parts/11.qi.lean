/-! keeping: those who need each other -/
theorem kpq_u {f T : Nat → Int32} {n : Nat} (h8 : n ≤ 8) (hT : Tn n f) (h0 : T 0 = 0) (hK : ∀ m, 0 < m → m < 2 ^ n → kpq f T (nI m)) : ∀ b m, m ≤ b → m < 2 ^ n → ∀ x, bt (nI m) x = true → bs f (nI m) x = 0 → ∀ j, bt (T m) j = true ↔ j = x := by
  have hp : (2 : Nat) ^ n ≤ 256 := Nat.pow_le_pow_right (n := 2) (by decide) h8
  intro b
  induction b with
  | zero =>
    intro m h1 _ x hx
    have : m = 0 := by omega
    rw [this] at hx
    have e : bt (nI 0) x = false := bt_0 x
    rw [e] at hx
    cases hx
  | succ b ih =>
    intro m h1 h2 x hx hz j
    by_cases c : m = 0
    · rw [c] at hx
      have e : bt (nI 0) x = false := bt_0 x
      rw [e] at hx
      cases hx
    · have hxn := bt_lo h8 h2 hx
      have q := hK m (by omega) h2 j
      rw [nI_clamp (by omega)] at q
      rw [q]
      have r1 : ∀ u v, rr f T (nI m) u v ↔ (bt (nI m) u = true ∧ u ≠ x ∧ v = x) := fun u v => by
        unfold rr
        refine ⟨fun ⟨a1, a2⟩ => ⟨a1, ?_⟩, fun ⟨a1, a2, a3⟩ => ⟨a1, ?_⟩⟩
        all_goals
          have hun := bt_lo h8 h2 a1
          obtain ⟨b1', b2', b3'⟩ := bs_lt (f := f) (by omega : m < 256) (by omega : u < 8)
          obtain ⟨b4', -⟩ := b3' a1
        · by_cases e : u = x
          · rw [e, hz, n0, h0, bt_0] at a2
            cases a2
          · refine ⟨e, ?_⟩
            have hxu : bt (bs f (nI m) u) x = true := by
              have z := congrArg (fun w => bt w u) hz
              have z2 : bt (bs f (nI m) x) u = bt 0 u := z
              rw [bs_bt (by omega) (by omega), bt_0, a1, decide_eq_false e] at z2
              have anti := hT.2.2 u x (by omega) (by omega) e
              rw [bs_bt (by omega) (by omega), hx, decide_eq_false (fun w => e w.symm)]
              cases w : bt (f x) u
              · rw [w] at z2; cases z2
              · rw [anti, w]; rfl
            have hzz : bs f (nI (bs f (nI m) u).toNatClampNeg) x = 0 := by
              refine bt_ext (fun i hi => ?_)
              rw [← b2', bs_bt (by omega) hi, bt_0]
              have z := congrArg (fun w => bt w i) hz
              have z2 : bt (bs f (nI m) x) i = bt 0 i := z
              rw [bs_bt (by omega) hi, bt_0] at z2
              cases w : bt (bs f (nI m) u) i
              · rfl
              · rw [bs_S w] at z2
                exact z2
            exact (ih _ (by omega) (by omega) x (by rw [← b2']; exact hxu) hzz v).mp a2
        · have hxu : bt (bs f (nI m) u) x = true := by
              have z := congrArg (fun w => bt w u) hz
              have z2 : bt (bs f (nI m) x) u = bt 0 u := z
              rw [bs_bt (by omega) (by omega), bt_0, a1, decide_eq_false a2] at z2
              have anti := hT.2.2 u x (by omega) (by omega) a2
              rw [bs_bt (by omega) (by omega), hx, decide_eq_false (fun w => a2 w.symm)]
              cases w : bt (f x) u
              · rw [w] at z2; cases z2
              · rw [anti, w]; rfl
          have hzz : bs f (nI (bs f (nI m) u).toNatClampNeg) x = 0 := by
              refine bt_ext (fun i hi => ?_)
              rw [← b2', bs_bt (by omega) hi, bt_0]
              have z := congrArg (fun w => bt w i) hz
              have z2 : bt (bs f (nI m) x) i = bt 0 i := z
              rw [bs_bt (by omega) hi, bt_0] at z2
              cases w : bt (bs f (nI m) u) i
              · rfl
              · rw [bs_S w] at z2
                exact z2
          exact (ih _ (by omega) (by omega) x (by rw [← b2']; exact hxu) hzz v).mpr a3
      constructor
      · rintro ⟨hj, hall⟩
        refine Classical.byContradiction (fun e => ?_)
        have s1 : Rs (rr f T (nI m)) j x := Rs_s (Rs_r j) ((r1 j x).mpr ⟨hj, e, rfl⟩)
        have s2 := hall x s1 (fun w => w = x) rfl (fun u v hu hr => by
          have := (r1 u v).mp hr
          exact this.2.2)
        exact e s2
      · rintro rfl
        refine ⟨hx, fun y hy => ?_⟩
        have s2 := hy (fun w => w = j) rfl (fun u v hu hr => by
          have := (r1 u v).mp hr
          exact this.2.2)
        rw [s2]
        exact Rs_r j
/-- stages of closing -/
def ws (S : Int32) (A : Nat → Int32) : Nat → Nat → Int32
  | 0, x => A x
  | k + 1, x => if (bt S x && bt (ws S A k x) k) = true then ws S A k x ||| ws S A k k else ws S A k x
theorem ws_k {S : Int32} {A : Nat → Int32} (k : Nat) : ws S A (k + 1) k = ws S A k k := by
  show (if (bt S k && bt (ws S A k k) k) = true then ws S A k k ||| ws S A k k else ws S A k k) = _
  rw [Int32.or_self]
  exact ite_self _
theorem ws_i {S : Int32} {A : Nat → Int32} {k x y : Nat} : bt (ws S A (k + 1) x) y = true ↔ (bt (ws S A k x) y = true ∨ (bt S x = true ∧ bt (ws S A k x) k = true ∧ bt (ws S A k k) y = true)) := by
  show bt (if (bt S x && bt (ws S A k x) k) = true then ws S A k x ||| ws S A k k else ws S A k x) y = true ↔ _
  by_cases c : (bt S x && bt (ws S A k x) k) = true
  · rw [if_pos c, bt_or]
    rw [Bool.and_eq_true] at c
    rw [Bool.or_eq_true]
    exact ⟨fun q => q.elim Or.inl (fun q => Or.inr ⟨c.1, c.2, q⟩), fun q => q.elim Or.inl (fun q => Or.inr q.2.2)⟩
  · rw [if_neg c]
    rw [Bool.and_eq_true] at c
    exact ⟨Or.inl, fun q => q.elim id (fun q => absurd ⟨q.1, q.2.1⟩ c)⟩
theorem ws_S {S : Int32} {A : Nat → Int32} (hA : ∀ x y, bt S x = true → bt (A x) y = true → bt S y = true) : ∀ k x y, bt S x = true → bt (ws S A k x) y = true → bt S y = true
  | 0, x, y, h1, h2 => hA x y h1 h2
  | k + 1, x, y, h1, h2 => by
    rcases ws_i.mp h2 with q | ⟨q1, q2, q3⟩
    · exact ws_S hA k x y h1 q
    · exact ws_S hA k k y (ws_S hA k x k h1 q2) q3
theorem ws_m {S : Int32} {A : Nat → Int32} : ∀ k x y, bt (A x) y = true → bt (ws S A k x) y = true
  | 0, _, _, h => h
  | k + 1, x, y, h => ws_i.mpr (Or.inl (ws_m k x y h))
theorem ws_tr {S : Int32} {A : Nat → Int32} (hA : ∀ x y, bt S x = true → bt (A x) y = true → bt S y = true) : ∀ k v, v < k → ∀ x y, bt S x = true → bt (ws S A k x) v = true → bt (ws S A k v) y = true → bt (ws S A k x) y = true
  | 0, v, h => by omega
  | k + 1, v, h => by
    intro x y hx h1 h2
    have hk : bt (ws S A k x) k = true → bt (ws S A k k) y = true → bt (ws S A (k + 1) x) y = true := fun a b => ws_i.mpr (Or.inr ⟨hx, a, b⟩)
    by_cases c : v = k
    · subst c
      rw [ws_k] at h2
      rcases ws_i.mp h1 with q | ⟨-, q, -⟩
      · exact hk q h2
      · exact hk q h2
    · have ih := ws_tr hA k v (by omega)
      rcases ws_i.mp h1 with q | ⟨-, q1, q2⟩
      · rcases ws_i.mp h2 with p | ⟨p0, p1, p2⟩
        · exact ws_i.mpr (Or.inl (ih x y hx q p))
        · exact hk (ih x k hx q p1) p2
      · have hkS := ws_S hA k x k hx q1
        rcases ws_i.mp h2 with p | ⟨p0, p1, p2⟩
        · exact hk q1 (ih k y hkS q2 p)
        · exact hk q1 p2
theorem ws_so {S : Int32} {A : Nat → Int32} {r : Nat → Nat → Prop} (hr : ∀ x y, bt S x = true → bt (A x) y = true → r x y) (hA : ∀ x y, bt S x = true → bt (A x) y = true → bt S y = true) : ∀ k x y, bt S x = true → bt (ws S A k x) y = true → ∃ z, r x z ∧ Rs r z y
  | 0, x, y, h1, h2 => ⟨y, hr x y h1 h2, Rs_r y⟩
  | k + 1, x, y, h1, h2 => by
    rcases ws_i.mp h2 with q | ⟨q1, q2, q3⟩
    · exact ws_so hr hA k x y h1 q
    · obtain ⟨z, a1, a2⟩ := ws_so hr hA k x k h1 q2
      obtain ⟨w, b1', b2'⟩ := ws_so hr hA k k y (ws_S hA k x k h1 q2) q3
      exact ⟨z, a1, Rs_t (Rs_s a2 b1') b2'⟩
/-- after all stages: reached in one step or more -/
theorem ws_e {S : Int32} {A : Nat → Int32} {r : Nat → Nat → Prop} {n : Nat} (hS : ∀ j, bt S j = true → j < n) (hr : ∀ x y, r x y ↔ (bt S x = true ∧ bt (A x) y = true)) (hA : ∀ x y, bt S x = true → bt (A x) y = true → bt S y = true) {x y : Nat} (hx : bt S x = true) : bt (ws S A n x) y = true ↔ ∃ z, r x z ∧ Rs r z y := by
  constructor
  · exact ws_so (fun x y a b => (hr x y).mpr ⟨a, b⟩) hA n x y hx
  · rintro ⟨z, h1, h2⟩
    refine h2 (fun w => bt (ws S A n x) w = true) (ws_m n x z ((hr x z).mp h1).2) (fun u v hu huv => ?_)
    obtain ⟨a, b⟩ := (hr u v).mp huv
    exact ws_tr hA n u (hS u a) x v hx hu (ws_m n u v b)
theorem ws_rs {S : Int32} {A : Nat → Int32} {r : Nat → Nat → Prop} {n : Nat} (hS : ∀ j, bt S j = true → j < n) (hr : ∀ x y, r x y ↔ (bt S x = true ∧ bt (A x) y = true)) (hA : ∀ x y, bt S x = true → bt (A x) y = true → bt S y = true) {x : Nat} (hx : bt S x = true) : (∀ y, y < n → bt (ws S A n x) y = true → bt (ws S A n y) x = true) ↔ ∀ y, Rs r x y → Rs r y x := by
  have cS : ∀ y, Rs r x y → bt S y = true := fun y hy => hy (fun u => bt S u = true) hx (fun u v hu huv => hA u v hu ((hr u v).mp huv).2)
  have split : ∀ u y, Rs r u y → y = u ∨ ∃ z, r u z ∧ Rs r z y := fun u y hy => hy (fun w => w = u ∨ ∃ z, r u z ∧ Rs r z w) (Or.inl rfl) (fun a b ha hab => by
    rcases ha with rfl | ⟨z, z1, z2⟩
    · exact Or.inr ⟨b, hab, Rs_r b⟩
    · exact Or.inr ⟨z, z1, Rs_s z2 hab⟩)
  have ofp : ∀ u y, (∃ z, r u z ∧ Rs r z y) → Rs r u y := fun u y ⟨z, z1, z2⟩ => Rs_t (Rs_s (Rs_r u) z1) z2
  constructor
  · intro h y hy
    have hyS := cS y hy
    rcases split x y hy with rfl | q
    · exact Rs_r y
    · exact ofp y x ((ws_e hS hr hA hyS).mp (h y (hS y hyS) ((ws_e hS hr hA hx).mpr q)))
  · intro h y _ hy
    have q := (ws_e hS hr hA hx).mp hy
    have q2 := ofp x y q
    have hyS := cS y q2
    refine (ws_e hS hr hA hyS).mpr ?_
    rcases split y x (h y q2) with e | p
    · rw [e] at q
      rw [e]
      exact q
    · exact p
theorem cn_D {N : Nat} {σ : Mem} {n m b : Nat} (h8 : n ≤ 8) (h3 : gI σ 3 0 = nI n) (hm : m < 2 ^ n) (hb : b ≤ 56) : par (f_Se_closeNeeds N (nI b) (nI m) σ) (fun s => fr [23] [] σ s ∧ (∀ i, i < b → gI s 23 i = gI σ 23 i) ∧ ∀ j, j < 8 → gI s 23 (b + j) = ws (nI m) (fun j => gI σ 23 (b + j)) n j) := by
  have hp : (2 : Nat) ^ n ≤ 256 := Nat.pow_le_pow_right (n := 2) (by decide) h8
  unfold f_Se_closeNeeds
  refine p_it2 (fun i s => ∃ k, k ≤ n ∧ i = nI k ∧ fr [23] [] σ s ∧ (∀ i, i < b → gI s 23 i = gI σ 23 i) ∧ ∀ j, j < 8 → gI s 23 (b + j) = ws (nI m) (fun j => gI σ 23 (b + j)) k j) ?_ N _ _ ⟨0, by omega, rfl, fr_r _ _ _, fun _ _ => rfl, fun _ _ => rfl⟩
  rintro self _ s ⟨k, hk, rfl, hf, hlo, hr⟩ ih
  unfold Se_closeNeeds_B2
  rw [hf.1 3 (by decide), h3]
  refine p_if (fun h => p_some ?_) (fun h => ?_)
  · rw [nle (by omega) (by omega)] at h
    have : k = n := by omega
    subst this
    exact ⟨hf, hlo, hr⟩
  · rw [nle (by omega) (by omega)] at h
    refine p_it2 (fun i s => ∃ x, x ≤ n ∧ i = nI x ∧ fr [23] [] σ s ∧ (∀ i, i < b → gI s 23 i = gI σ 23 i) ∧ ∀ j, j < 8 → gI s 23 (b + j) = if j < x then ws (nI m) (fun j => gI σ 23 (b + j)) (k + 1) j else ws (nI m) (fun j => gI σ 23 (b + j)) k j) ?_ N _ _ ⟨0, by omega, rfl, hf, hlo, fun j hj => by rw [if_neg (by omega)]; exact hr j hj⟩
    rintro self2 _ s ⟨x, hx, rfl, hf2, hlo2, hr2⟩ ih2
    unfold Se_closeNeeds_B16
    rw [hf2.1 3 (by decide), h3]
    refine p_if (fun h2 => ?_) (fun h2 => ?_)
    · rw [nle (by omega) (by omega)] at h2
      rw [nadd1]
      refine ih _ _ ⟨k + 1, by omega, rfl, hf2, hlo2, fun j hj => ?_⟩
      rw [hr2 j hj]
      by_cases c : j < x
      · rw [if_pos c]
      · rw [if_neg c]
        have : bt (nI m) j = false := by
          cases q : bt (nI m) j
          · rfl
          · have := bt_lo h8 hm q
            omega
        show _ = if (bt (nI m) j && bt (ws (nI m) (fun j => gI σ 23 (b + j)) k j) k) = true then _ else _
        rw [this, if_neg (by simp)]
    · rw [nle (by omega) (by omega)] at h2
      rw [nI_add, nI_add, nI_clamp (by omega), nI_clamp (by omega), bit_bt (by omega), bit_bt (by omega), nadd1]
      have rx : gI s 23 (b + x) = ws (nI m) (fun j => gI σ 23 (b + j)) k x := by rw [hr2 x (by omega), if_neg (by omega)]
      have rk : gI s 23 (b + k) = ws (nI m) (fun j => gI σ 23 (b + j)) k k := by
        rw [hr2 k (by omega)]
        by_cases c : k < x
        · rw [if_pos c, ws_k]
        · rw [if_neg c]
      have wk : ws (nI m) (fun j => gI σ 23 (b + j)) (k + 1) x = if (bt (nI m) x && bt (ws (nI m) (fun j => gI σ 23 (b + j)) k x) k) = true then ws (nI m) (fun j => gI σ 23 (b + j)) k x ||| ws (nI m) (fun j => gI σ 23 (b + j)) k k else ws (nI m) (fun j => gI σ 23 (b + j)) k x := rfl
      have same : ws (nI m) (fun j => gI σ 23 (b + j)) (k + 1) x = ws (nI m) (fun j => gI σ 23 (b + j)) k x → ∀ j, j < 8 → gI s 23 (b + j) = if j < x + 1 then ws (nI m) (fun j => gI σ 23 (b + j)) (k + 1) j else ws (nI m) (fun j => gI σ 23 (b + j)) k j := fun e j hj => by
        rw [hr2 j hj]
        by_cases c : j < x
        · rw [if_pos c, if_pos (by omega)]
        · rw [if_neg c]
          by_cases c2 : j = x
          · rw [if_pos (by omega), c2, e]
          · rw [if_neg (by omega)]
      cases q1 : bt (nI m) x
      · rw [if_neg (by decide)]
        refine ih2 _ _ ⟨x + 1, by omega, rfl, hf2, hlo2, same ?_⟩
        rw [wk, q1, if_neg (by simp)]
      · rw [if_pos (by rfl)]
        refine p_gd (fun _ => ?_)
        rw [rx, rk]
        cases q2 : bt (ws (nI m) (fun j => gI σ 23 (b + j)) k x) k
        · rw [if_neg (by decide)]
          refine ih2 _ _ ⟨x + 1, by omega, rfl, hf2, hlo2, same ?_⟩
          rw [wk, q1, q2, if_neg (by simp)]
        · rw [if_pos (by rfl)]
          refine p_gd (fun _ => p_gd (fun _ => p_gd (fun _ => p_bnd ?_)))
          refine ih2 _ _ ⟨x + 1, by omega, rfl, fr_t hf2 (fr_sI (by decide)), fun i hi => ?_, fun j hj => ?_⟩
          · rw [gI_sI, if_pos rfl, upd_ap, if_neg (by omega)]
            exact hlo2 i hi
          · rw [gI_sI, if_pos rfl, upd_ap]
            by_cases c : j = x
            · rw [if_pos (by omega), if_pos (by omega), c, wk, q1, q2, if_pos (by rfl)]
            · rw [if_neg (by omega), hr2 j hj]
              by_cases c2 : j < x
              · rw [if_pos c2, if_pos (by omega)]
              · rw [if_neg c2, if_neg (by omega)]
theorem lc_D {N : Nat} {σ : Mem} {n m b : Nat} (h8 : n ≤ 8) (h3 : gI σ 3 0 = nI n) (hm : m < 2 ^ n) (hb : b ≤ 56) : par (f_Se_leastClosed N (nI b) (nI m) σ) (fun r => ∀ j, bt r j = true ↔ (bt (nI m) j = true ∧ ∀ y, y < n → bt (gI σ 23 (b + j)) y = true → bt (gI σ 23 (b + y)) j = true)) := by
  have hp : (2 : Nat) ^ n ≤ 256 := Nat.pow_le_pow_right (n := 2) (by decide) h8
  unfold f_Se_leastClosed
  refine p_it2 (fun i1 i2 => ∃ k, k ≤ n ∧ i2 = nI k ∧ ∀ j, bt i1 j = true ↔ (bt (nI m) j = true ∧ (j < k → ∀ y, y < n → bt (gI σ 23 (b + j)) y = true → bt (gI σ 23 (b + y)) j = true))) ?_ N _ _ ⟨0, by omega, rfl, fun j => ⟨fun q => ⟨q, fun h => by omega⟩, fun q => q.1⟩⟩
  rintro self i1 _ ⟨k, hk, rfl, hi⟩ ih
  unfold Se_leastClosed_B5
  rw [h3]
  refine p_if (fun h => p_some (fun j => ?_)) (fun h => ?_)
  · rw [nle (by omega) (by omega)] at h
    rw [hi j]
    refine ⟨fun q => ⟨q.1, q.2 (by have := bt_lo h8 hm q.1; omega)⟩, fun q => ⟨q.1, fun _ => q.2⟩⟩
  · rw [nle (by omega) (by omega)] at h
    refine p_it2 (fun i4 i5 => ∃ y, y ≤ n ∧ i5 = nI y ∧ ∀ j, bt i4 j = true ↔ (bt i1 j = true ∧ (j = k → ∀ z, z < y → bt (gI σ 23 (b + k)) z = true → bt (gI σ 23 (b + z)) k = true))) ?_ N _ _ ⟨0, by omega, rfl, fun j => ⟨fun q => ⟨q, fun _ z hz => by omega⟩, fun q => q.1⟩⟩
    rintro self2 i4 _ ⟨y, hy, rfl, h4⟩ ih2
    unfold Se_leastClosed_B20
    rw [h3]
    refine p_if (fun h2 => ?_) (fun h2 => ?_)
    · rw [nle (by omega) (by omega)] at h2
      have : y = n := by omega
      subst this
      rw [nadd1]
      refine ih _ _ ⟨k + 1, by omega, rfl, fun j => ?_⟩
      rw [h4 j, hi j]
      constructor
      · rintro ⟨⟨q1, q2⟩, q3⟩
        refine ⟨q1, fun hj => ?_⟩
        by_cases c : j = k
        · rw [c]; exact q3 c
        · exact q2 (by omega)
      · rintro ⟨q1, q2⟩
        refine ⟨⟨q1, fun hj => q2 (by omega)⟩, fun c => ?_⟩
        have := q2 (by omega)
        rw [c] at this
        exact this
    · rw [nle (by omega) (by omega)] at h2
      rw [nI_add, nI_add, nI_clamp (by omega), nI_clamp (by omega), bit_bt (by omega), bit_bt (by omega), bit_bt (by omega), nadd1]
      have skip : (bt (nI m) k = true → bt (gI σ 23 (b + k)) y = true → bt (gI σ 23 (b + y)) k = true) → ∀ j, bt i4 j = true ↔ (bt i1 j = true ∧ (j = k → ∀ z, z < y + 1 → bt (gI σ 23 (b + k)) z = true → bt (gI σ 23 (b + z)) k = true)) := fun e j => by
        rw [h4 j]
        refine ⟨fun ⟨q1, q2⟩ => ⟨q1, fun c z hz h => ?_⟩, fun ⟨q1, q2⟩ => ⟨q1, fun c z hz => q2 c z (by omega)⟩⟩
        by_cases c2 : z = y
        · rw [c2] at h ⊢
          rw [c] at q1
          exact e ((hi k).mp q1).1 h
        · exact q2 c z (by omega) h
      cases q1 : bt (nI m) k
      · rw [if_neg (by decide)]
        exact ih2 _ _ ⟨y + 1, by omega, rfl, skip (fun q => by rw [q1] at q; cases q)⟩
      · rw [if_pos (by rfl)]
        refine p_gd (fun _ => ?_)
        cases q2 : bt (gI σ 23 (b + k)) y
        · rw [if_neg (by decide)]
          exact ih2 _ _ ⟨y + 1, by omega, rfl, skip (fun _ q => by rw [q2] at q; cases q)⟩
        · rw [if_pos (by rfl)]
          refine p_gd (fun _ => ?_)
          cases q3 : bt (gI σ 23 (b + y)) k
          · rw [if_pos (by decide)]
            refine p_bnd (ih2 _ _ ⟨y + 1, by omega, rfl, fun j => ?_⟩)
            by_cases hj : j < 32
            · rw [bt_and, bt_not _ hj, bt_one (by omega) hj]
              by_cases c : j = k
              · rw [decide_eq_true c, Bool.not_true, Bool.and_false]
                refine ⟨fun q => absurd q (by decide), fun ⟨_, q⟩ => ?_⟩
                have := q c y (by omega) q2
                rw [q3] at this
                cases this
              · rw [decide_eq_false c, Bool.not_false, Bool.and_true, h4 j]
                exact ⟨fun ⟨w1, _⟩ => ⟨w1, fun w => absurd w c⟩, fun ⟨w1, _⟩ => ⟨w1, fun w => absurd w c⟩⟩
            · rw [bt_ge (by omega)]
              refine ⟨fun q => absurd q (by decide), fun ⟨q, _⟩ => ?_⟩
              have := ((hi j).mp q).1
              rw [bt_ge (by omega)] at this
              exact this
          · rw [if_neg (by decide)]
            exact ih2 _ _ ⟨y + 1, by omega, rfl, skip (fun _ _ => q3)⟩
theorem unb_S {N : Nat} {σ : Mem} {n m : Nat} (h8 : n ≤ 8) (h3 : gI σ 3 0 = nI n) (hm : m < 2 ^ n) : par (f_Du_unbeatenOfN N (nI m) σ) (fun r => r = 0 ∨ ∃ x, x < n ∧ r = (1 : Int32) <<< (nI x &&& 31) ∧ bt (nI m) x = true ∧ bs (gI σ 13) (nI m) x = 0) := by
  unfold f_Du_unbeatenOfN
  refine p_it1 (fun i => ∃ k, k ≤ n ∧ i = nI k) ?_ N _ ⟨0, by omega, rfl⟩
  rintro self _ ⟨k, hk, rfl⟩ ih
  unfold Du_unbeatenOfN_B2
  rw [h3]
  refine p_if (fun h => p_some (Or.inl rfl)) (fun h => ?_)
  rw [nle (by omega) (by omega)] at h
  rw [bit_bt (by omega), nadd1]
  cases hb : bt (nI m) k
  · rw [if_neg (by decide)]
    exact ih _ ⟨k + 1, by omega, rfl⟩
  · rw [if_pos (by rfl), beaters_e (by omega), ob_s]
    refine p_if (fun c => p_some (Or.inr ⟨k, by omega, rfl, hb, c⟩)) (fun c => ih _ ⟨k + 1, by omega, rfl⟩)
theorem one_bt {x j : Nat} (hx : x < 8) : bt ((1 : Int32) <<< (nI x &&& 31)) j = true ↔ j = x := by
  by_cases hj : j < 32
  · rw [bt_one (by omega) hj]
    exact decide_eq_true_iff
  · rw [bt_ge (by omega)]
    exact ⟨fun q => absurd q (by decide), fun q => by omega⟩
theorem bt_eq {x y : Int32} (h : ∀ j, bt x j = true ↔ bt y j = true) : x = y := bt_ext (fun j _ => by
  have := h j
  cases q : bt x j <;> cases p : bt y j <;> rw [q, p] at this
  · have := this.mpr rfl; cases this
  · have := this.mp rfl; cases this)
theorem keep_D {N d : Nat} {f T : Nat → Int32} {n : Nat} (h8 : n ≤ 8) (hT : Tn n f) (h0 : T 0 = 0) (hK : ∀ m, 0 < m → m < 2 ^ n → kpq f T (nI m)) {σ : Mem} {m k : Nat} (hm : m < 2 ^ n) (hk : pc (nI m) + k ≤ 8) (h3 : gI σ 3 0 = nI n) (h13 : gI σ 13 = f) : par (f_Se_keeping N d (nI m) (nI k) σ) (fun q => q.1 = T m ∧ fr [23] [] σ q.2 ∧ ∀ i, i < 8 * k → gI q.2 23 i = gI σ 23 i) := by
  have hp : (2 : Nat) ^ n ≤ 256 := Nat.pow_le_pow_right (n := 2) (by decide) h8
  have main : par (f_Se_keeping N d (nI m) (nI k) σ) (fun q => q.1 = T (nI m).toNatClampNeg ∧ fr [23] [] σ q.2 ∧ ∀ i, i < 8 * (nI k).toNatClampNeg → gI q.2 23 i = gI σ 23 i) := by
    unfold f_Se_keeping
    refine p_rec3 (fun (a1 a2 : Int32) (σ : Mem) (q : Int32 × Mem) => q.1 = T a1.toNatClampNeg ∧ fr [23] [] σ q.2 ∧ ∀ i, i < 8 * a2.toNatClampNeg → gI q.2 23 i = gI σ 23 i) (fun a1 a2 σ => ∃ m k, m < 2 ^ n ∧ pc (nI m) + k ≤ 8 ∧ a1 = nI m ∧ a2 = nI k ∧ gI σ 3 0 = nI n ∧ gI σ 13 = f) ?_ d _ _ _ ⟨m, k, hm, hk, rfl, rfl, h3, h13⟩
    clear hm hk h3 h13
    rintro self _ _ σ ⟨m, k, hm, hk, rfl, rfl, h3, h13⟩ ih
    unfold Se_keeping_R
    rw [nI_clamp (by omega), nI_clamp (by omega)]
    refine p_if (fun h => p_some ⟨?_, fr_r _ _ _, fun _ _ => rfl⟩) (fun h => ?_)
    · have := nI_inj (by omega) (by decide) (show nI m = nI 0 from h)
      rw [this, h0]
    · have hm0 : 0 < m := by
        refine Nat.pos_of_ne_zero (fun e => h ?_)
        rw [e]
        rfl
      obtain ⟨j0, j1, j2⟩ := bt_ne0 (nI_rg (b := 255) (by omega) (by omega)) h
      have pc0 : 0 < pc (nI m) := by
        have := pc_lt (x := 0) (y := nI m) (fun j hj h => by rw [bt_0] at h; cases h) j1 (bt_0 j0) j2
        omega
      rw [l8]
      rw [if_pos (show nI k < nI 8 by rw [nlt (by omega) (by omega)]; omega)]
      refine p_ob _ (unb_S h8 h3 hm) (fun r hr => ?_)
      rw [h13] at hr
      refine p_if (fun c => p_bnd ?_) (fun c => p_some ⟨?_, fr_r _ _ _, fun _ _ => rfl⟩)
      · rw [nmul (by omega) (by omega), Nat.mul_comm k 8]
        refine p_it2 (fun i s => ∃ x, x ≤ n ∧ i = nI x ∧ fr [23] [] σ s ∧ (∀ i, i < 8 * k → gI s 23 i = gI σ 23 i) ∧ ∀ j, j < x → bt (nI m) j = true → gI s 23 (8 * k + j) = T (bs f (nI m) j).toNatClampNeg) ?_ N _ _ ⟨0, by omega, rfl, fr_r _ _ _, fun _ _ => rfl, fun j hj => by omega⟩
        rintro self2 _ s ⟨x, hx, rfl, hf, hlo, hrow⟩ ih2
        have s3 : gI s 3 0 = nI n := by rw [hf.1 3 (by decide), h3]
        have s13 : gI s 13 = f := by rw [hf.1 13 (by decide), h13]
        unfold Se_keeping_B36
        rw [s3]
        refine p_if (fun h2 => ?_) (fun h2 => ?_)
        · rw [nle (by omega) (by omega)] at h2
          have : x = n := by omega
          subst this
          unfold Se_keeping_K91
          refine p_ob _ (cn_D h8 s3 hm (by omega)) (fun s4 hs4 => ?_)
          obtain ⟨f4, lo4, r4⟩ := hs4
          refine p_ob _ (lc_D h8 (by rw [f4.1 3 (by decide), s3]) hm (by omega)) (fun r5 h5 => p_some ⟨?_, fr_t hf f4, fun i hi => (lo4 i hi).trans (hlo i hi)⟩)
          have hS : ∀ j, bt (nI m) j = true → j < x := fun j hj => bt_lo h8 hm hj
          have hA : ∀ u v, bt (nI m) u = true → bt (gI s 23 (8 * k + u)) v = true → bt (nI m) v = true := fun u v hu hv => by
            have hun := hS u hu
            rw [hrow u hun hu] at hv
            obtain ⟨b1', b2', b3'⟩ := bs_lt (f := f) (by omega : m < 256) (by omega : u < 8)
            by_cases c : (bs f (nI m) u).toNatClampNeg = 0
            · rw [c, h0, bt_0] at hv
              cases hv
            · have q := hK (bs f (nI m) u).toNatClampNeg (by omega) (by have := (b3' hu).1; omega) v
              rw [← b2'] at q
              exact bs_S (q.mp hv).1
          have hr' : ∀ u v, rr f T (nI m) u v ↔ (bt (nI m) u = true ∧ bt (gI s 23 (8 * k + u)) v = true) := fun u v => by
            unfold rr
            refine ⟨fun q => ⟨q.1, ?_⟩, fun q => ⟨q.1, ?_⟩⟩
            · rw [hrow u (hS u q.1) q.1]; exact q.2
            · rw [← hrow u (hS u q.1) q.1]; exact q.2
          refine bt_eq (fun j => ?_)
          show bt r5 j = true ↔ _
          rw [h5 j]
          have e := hK m hm0 hm j
          rw [nI_clamp (by omega)] at e
          rw [e]
          have w : bt (nI m) j = true → ((∀ y, y < x → bt (gI s4 23 (8 * k + j)) y = true → bt (gI s4 23 (8 * k + y)) j = true) ↔ ∀ y, Rs (rr f T (nI m)) j y → Rs (rr f T (nI m)) y j) := fun hj => by
            rw [← ws_rs hS hr' hA hj]
            have jx := hS j hj
            refine ⟨fun q y hy h => ?_, fun q y hy h => ?_⟩
            · rw [← r4 y (by omega)]
              rw [← r4 j (by omega)] at h
              exact q y hy h
            · rw [r4 y (by omega)]
              rw [r4 j (by omega)] at h
              exact q y hy h
          exact ⟨fun q => ⟨q.1, (w q.1).mp q.2⟩, fun q => ⟨q.1, (w q.1).mpr q.2⟩⟩
        · rw [nle (by omega) (by omega)] at h2
          rw [bit_bt (by omega), nadd1 x, nadd1 k]
          cases hb : bt (nI m) x
          · rw [if_neg (by decide)]
            refine ih2 _ _ ⟨x + 1, by omega, rfl, hf, hlo, fun j hj hj2 => ?_⟩
            by_cases c : j = x
            · rw [c, hb] at hj2; cases hj2
            · exact hrow j (by omega) hj2
          · rw [if_pos (by rfl), beaters_e (by omega), ob_s, s13]
            obtain ⟨b1', b2', b3'⟩ := bs_lt (f := f) (by omega : m < 256) (by omega : x < 8)
            obtain ⟨b4', b5'⟩ := b3' hb
            have e : (nI m &&& (f x ^^^ (-1 : Int32))) &&& (((1 : Int32) <<< (nI x &&& 31)) ^^^ (-1 : Int32)) = nI (bs f (nI m) x).toNatClampNeg := b2'
            rw [e]
            rw [b2'] at b5'
            refine p_ob2 (fun r t => r = T (nI (bs f (nI m) x).toNatClampNeg).toNatClampNeg ∧ fr [23] [] s t ∧ ∀ i, i < 8 * (nI (k + 1)).toNatClampNeg → gI t 23 i = gI s 23 i) (ih _ _ _ ⟨(bs f (nI m) x).toNatClampNeg, k + 1, by omega, by omega, rfl, rfl, s3, s13⟩) (fun r11 s10 h10 => ?_)
            obtain ⟨t1, t2, t3⟩ := h10
            have t1' : r11 = T (nI (bs f (nI m) x).toNatClampNeg).toNatClampNeg := t1
            have t3' : ∀ i, i < 8 * (nI (k + 1)).toNatClampNeg → gI s10 23 i = gI s 23 i := t3
            rw [nI_clamp (by omega)] at t1' t3'
            refine p_gd (fun _ => p_bnd ?_)
            rw [nI_add, nI_clamp (by omega)]
            refine ih2 _ _ ⟨x + 1, by omega, rfl, fr_t hf (fr_t t2 (fr_sI (by decide))), fun i hi => ?_, fun j hj hj2 => ?_⟩
            · rw [gI_sI, if_pos rfl, upd_ap, if_neg (by omega), t3' i (by omega)]
              exact hlo i hi
            · rw [gI_sI, if_pos rfl, upd_ap]
              by_cases c : j = x
              · rw [if_pos (by omega), c, t1']
              · rw [if_neg (by omega), t3' (8 * k + j) (by omega)]
                exact hrow j (by omega) hj2
      · rcases hr with e | ⟨x, hx, e, hb, hz⟩
        · exact absurd e c
        · show r = T m
          rw [e]
          refine bt_eq (fun j => ?_)
          rw [one_bt (by omega), kpq_u h8 hT h0 hK m m (Nat.le_refl _) hm x hb hz j]
  rw [nI_clamp (by omega), nI_clamp (by omega)] at main
  exact main
theorem sub_nI {n : Nat} {a : Int32} (h8 : n ≤ 8) (h : sub n a) : ∃ m, m < 2 ^ n ∧ a = nI m := by
  have r := rg_bt n (by omega) (x := a) (fun j h1 h2 => ?_)
  · obtain ⟨k, e, -, h2, h3⟩ := rg_ex r (by decide)
    have e' : ((2 : Nat) ^ n : Nat) = ((2 : Int) ^ n : Int) := by rw [Int.natCast_pow]; rfl
    rw [← e'] at h2
    exact ⟨k, by omega, e⟩
  · cases q : bt a j
    · rfl
    · exact absurd (h j h2 q) (by omega)
theorem st_Rl_keeps_c {N : Nat} (hN : 8589934592 ≤ N) {σ μ : Mem} (hR : Rl σ μ) (a b : Int32) : ∃ (q q2 : Int32 × Mem), f_D_keeps N a b σ = some (q.1, q.2) ∧ f_M_keeps N a b μ = some (q2.1, q2.2) ∧ Rl q.2 q2.2 ∧ q.1 = q2.1 := by
  obtain ⟨q, e1, k1⟩ := D_keeps_t hN (a1 := a) (a2 := b) hR.1
  obtain ⟨q2, e2, k2⟩ := M_keeps_t hN (a1 := a) (a2 := b) hR.2.1
  refine ⟨q, q2, e1, e2, Rl_q hR k1.2 k2.2 (by decide) (by decide), ?_⟩
  obtain ⟨s1, es1⟩ : ∃ s, s = sI μ 0 0 0 := ⟨_, rfl⟩
  obtain ⟨hR1, k0⟩ := Rl_m0 hR es1
  obtain ⟨n, h8, h3, h1, h13, hT⟩ := Rl_n hR1
  have hp : (2 : Nat) ^ n ≤ 256 := Nat.pow_le_pow_right (n := 2) (by decide) h8
  unfold f_D_keeps at e1
  unfold f_M_keeps at e2
  rw [bnd_e, ← es1] at e2
  rcases pl_b h8 h3 h1 a with ⟨p1, p2⟩ | ⟨p1, p2, x, hx, rfl⟩
  · rw [if_pos p1] at e1
    rw [if_pos p2] at e2
    cases e1
    cases e2
    rfl
  · rw [if_neg (by rw [p1]; decide)] at e1
    rw [if_neg (by rw [p2]; decide)] at e2
    have pD := ps_D h8 h3 b
    have pM := so_M h8 h1 b
    by_cases hs : sub n b
    · rw [if_neg (fun q => pD.mp q hs), beaters_e (by omega), ob_s] at e1
      rw [if_neg (fun q => pM.mp q ⟨by omega, hs⟩)] at e2
      obtain ⟨m, hm, rfl⟩ := sub_nI h8 hs
      obtain ⟨b1', b2', b3'⟩ := bs_lt (f := gI σ 13) (by omega : m < 256) (by omega : x < 8)
      have m' : par (ob (f_M_layKeeping N s1) fun s2 => ob (f_M_over (nI x) s2) fun r3 => gd (inb (r3 &&& nI m) 256) (some ((gI s2 22 (r3 &&& nI m).toNatClampNeg), s2))) (fun q => ∃ T, T 0 = 0 ∧ (∀ m, 0 < m → m < 2 ^ n → kpq (gI σ 13) T (nI m)) ∧ q.1 = T (bs (gI σ 13) (nI m) x).toNatClampNeg) := by
        refine p_ob _ (lk_M h8 h1 h13) (fun s hs => ?_)
        obtain ⟨t1, t2, t3⟩ := hs
        have g1 : gI s 1 = gI s1 1 := t1.1 1 (by decide)
        rw [over_e (by omega), ob_s, ov_bs (f := gI σ 13) h8 hm (by omega) (by rw [g1]; exact h1) (by rw [g1]; exact h13 x (by omega))]
        exact p_gd (fun _ => p_some ⟨gI s 22, t2, t3, rfl⟩)
      obtain ⟨T, t1, t2, t3⟩ := m' q2 e2
      have e : (nI m &&& (gI σ 13 x ^^^ (-1 : Int32))) &&& (((1 : Int32) <<< (nI x &&& 31)) ^^^ (-1 : Int32)) = nI (bs (gI σ 13) (nI m) x).toNatClampNeg := b2'
      rw [e] at e1
      have d' : par (ob2 (f_Se_ofKind N (8 : Int32) (nI (bs (gI σ 13) (nI m) x).toNatClampNeg) σ) fun r3 s2 => some (r3, s2)) (fun q => q.1 = q2.1) := by
        refine p_ob2 (fun r _ => r = q2.1) ?_ (fun r s h => p_some h)
        unfold f_Se_ofKind
        refine p_if (fun c => p_some ?_) (fun c => ?_)
        · have := nI_inj (by omega) (by decide) (show nI (bs (gI σ 13) (nI m) x).toNatClampNeg = nI 0 from c)
          rw [t3, this, t1]
        · rw [t3]
          show par (ob2 (f_Se_keeping N 10 (nI (bs (gI σ 13) (nI m) x).toNatClampNeg) (0 : Int32) σ) fun r s => some (r, s)) _
          refine p_ob2 (fun r _ => r = T (bs (gI σ 13) (nI m) x).toNatClampNeg) (p_mono (keep_D (k := 0) h8 hT t1 t2 (by omega) (by have := pc_8 (nI (bs (gI σ 13) (nI m) x).toNatClampNeg); omega) h3 rfl) (fun q hq => hq.1)) (fun r s h => p_some h)
      exact d' q e1
    · rw [if_pos (pD.mpr hs)] at e1
      rw [if_pos (pM.mpr (fun q => hs q.2))] at e2
      cases e1
      cases e2
      rfl
