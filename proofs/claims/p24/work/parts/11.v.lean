/-! who is covered is in none of these sets: most, again, chains, least covering, balanced, keeping -/
theorem Tn_n {n : Nat} {f : Nat → Int32} (hT : Tn n f) {a b : Nat} (ha : a < 8) (h : bt (f a) b = true) : bt (f b) a = false := by
  obtain ⟨h1, h2, h3⟩ := hT.2.1 a b ha h
  have := hT.2.2 b a h2 h1 (fun q => h3 q.symm)
  rw [this, h]
  rfl
theorem Tn_y {n : Nat} {f : Nat → Int32} (hT : Tn n f) {a b : Nat} (ha : a < n) (hb : b < n) (hab : a ≠ b) (h : ¬ bt (f a) b = true) : bt (f b) a = true := by
  have := hT.2.2 b a hb ha (fun q => hab q.symm)
  rw [this]
  cases q : bt (f a) b
  · rfl
  · exact absurd q h
theorem Tn_0 {n : Nat} {f : Nat → Int32} (hT : Tn n f) {a : Nat} (ha : a < 8) : bt (f a) a = false := by
  cases q : bt (f a) a
  · rfl
  · exact absurd rfl (hT.2.1 a a ha q).2.2
theorem mof_p {f : Nat → Int32} {S : Int32} : ∀ k, k ≤ 8 → (∀ x, bt (mof f S k).2 x = true → bt S x = true ∧ nI (pc (f x &&& S)) = (mof f S k).1) ∧ (∀ y, y < k → bt S y = true → nI (pc (f y &&& S)) ≤ (mof f S k).1)
  | 0, _ => by
    refine ⟨fun x h => ?_, fun y hy => by omega⟩
    have e : (mof f S 0).2 = 0 := rfl
    rw [e, bt_0] at h
    cases h
  | k + 1, hk => by
    obtain ⟨i1, i2⟩ := mof_p (f := f) (S := S) k (by omega)
    have e : mof f S (k + 1) = if bt S k = true then (if (mof f S k).1 < nI (pc (f k &&& S)) then (nI (pc (f k &&& S)), (1 : Int32) <<< (nI k &&& 31)) else if nI (pc (f k &&& S)) = (mof f S k).1 then ((mof f S k).1, (mof f S k).2 ||| ((1 : Int32) <<< (nI k &&& 31))) else mof f S k) else mof f S k := rfl
    rw [e]
    by_cases c : bt S k = true
    · rw [if_pos c]
      by_cases d : (mof f S k).1 < nI (pc (f k &&& S))
      · rw [if_pos d]
        refine ⟨fun x h => ?_, fun y hy hb => ?_⟩
        · have : x = k := (one_bt (by omega)).mp h
          rw [this]
          exact ⟨c, rfl⟩
        · show nI (pc (f y &&& S)) ≤ nI (pc (f k &&& S))
          by_cases cy : y = k
          · rw [cy, i_le]
            exact Int.le_refl _
          · have := i2 y (by omega) hb
            rw [i_le] at this ⊢
            rw [i_lt] at d
            omega
      · rw [if_neg d]
        by_cases d2 : nI (pc (f k &&& S)) = (mof f S k).1
        · rw [if_pos d2]
          refine ⟨fun x h => ?_, fun y hy hb => ?_⟩
          · have h' : bt ((mof f S k).2 ||| ((1 : Int32) <<< (nI k &&& 31))) x = true := h
            rw [bt_or, Bool.or_eq_true] at h'
            rcases h' with z | z
            · exact i1 x z
            · have : x = k := (one_bt (by omega)).mp z
              rw [this]
              exact ⟨c, d2⟩
          · show nI (pc (f y &&& S)) ≤ (mof f S k).1
            by_cases cy : y = k
            · rw [cy, d2, i_le]
              exact Int.le_refl _
            · exact i2 y (by omega) hb
        · rw [if_neg d2]
          refine ⟨i1, fun y hy hb => ?_⟩
          by_cases cy : y = k
          · rw [cy, i_le]
            rw [i_lt] at d
            omega
          · exact i2 y (by omega) hb
    · rw [if_neg c]
      refine ⟨i1, fun y hy hb => ?_⟩
      by_cases cy : y = k
      · rw [cy] at hb
        exact absurd hb c
      · exact i2 y (by omega) hb
theorem nc_most {f : Nat → Int32} {n m x : Nat} (h8 : n ≤ 8) (hT : Tn n f) (hm : m < 2 ^ n) (h : bt (mof f (nI m) n).2 x = true) : ¬ cvd f n (nI m) x := by
  rintro ⟨y, y1, y2, y3, y4⟩
  obtain ⟨p1, p2⟩ := mof_p (f := f) (S := nI m) n h8
  obtain ⟨a1, a2⟩ := p1 x h
  have a3 := p2 y y1 y2
  have xn := bt_lo h8 hm a1
  have lt : pc (f x &&& nI m) < pc (f y &&& nI m) := pc_lt (k := x) (fun j hj hb => by
    rw [bt_and, Bool.and_eq_true] at hb ⊢
    exact ⟨y4 j (by omega) hb.1 hb.2, hb.2⟩) (by omega) (by rw [bt_and, Tn_0 hT (by omega)]; rfl) (by rw [bt_and, y3, a1]; rfl)
  have b1' := pc_8 (f x &&& nI m)
  have b2' := pc_8 (f y &&& nI m)
  rw [← a2, nle (by omega) (by omega)] at a3
  omega
theorem nc_again {f : Nat → Int32} {n m x : Nat} (h8 : n ≤ 8) (hm : m < 2 ^ n) (h : bt (uit f n (nI m) 8) x = true) : ¬ cvd f n (nI m) x := by
  have hS : ∀ j, bt (nI m) j = true → j < n := fun j hj => bt_lo h8 hm hj
  have dn : ∀ k, bt (uit f n (nI m) (k + 1)) x = true → bt (uit f n (nI m) 1) x = true := fun k => by
    induction k with
    | zero => exact fun h => h
    | succ k ih => exact fun h => ih ((ucs_bt h8 (uit_s h8 hS (k + 1))).mp h).1
  exact ((ucs_bt h8 hS).mp (dn 7 h)).2
theorem kcf_n {g : Nat → Option (List Nat)} {p : Nat → Bool} : ∀ c s, (∀ j, p j = true → g j = none) → kcf g p c s = none
  | 0, _, _ => rfl
  | c + 1, s, h => by
    unfold kcf
    rw [kcf_n c (s + 1) h]
    by_cases d : p s = true
    · rw [if_pos d, h s d]
      rfl
    · rw [if_neg d]
      rfl
theorem kch_n {f : Nat → Int32} {n y : Nat} (hT : Tn n f) (hy : y < 8) : ∀ d (B A : Int32), bt A y = true → (∀ z, bt B z = true → bt (f y) z = true) → kch f n d B A = none
  | 0, B, A, hA, _ => by
    unfold kch
    rw [if_neg (fun q => by rw [q, bt_0] at hA; cases hA)]
  | d + 1, B, A, hA, hB => by
    unfold kch
    rw [if_neg (fun q => by rw [q, bt_0] at hA; cases hA)]
    refine kcf_n n 0 (fun z hz => ?_)
    have yz := hB z hz
    obtain ⟨a1, a2, a3⟩ := hT.2.1 y z hy yz
    have h8 := hT.1
    refine kch_n hT hy d _ _ ?_ (fun w hw => ?_)
    · rw [bs_bt (by omega) (by omega), hA, Tn_n hT hy yz, decide_eq_false a3]
      rfl
    · rw [bt_and, Bool.and_eq_true] at hw
      exact hB w hw.1
theorem nc_banks {f : Nat → Int32} {n m x : Nat} (h8 : n ≤ 8) (hT : Tn n f) (hm : m < 2 ^ n) (h : bkp f n (nI m) x = true) : ¬ cvd f n (nI m) x := by
  rintro ⟨y, y1, y2, y3, y4⟩
  unfold bkp at h
  rw [Bool.and_eq_true] at h
  have xn := bt_lo h8 hm h.1
  have e : kch f n 7 (f x &&& nI m) (bs f (nI m) x) = none := by
    refine kch_n hT (by omega : y < 8) 7 _ _ ?_ (fun z hz => ?_)
    · have a3 := (hT.2.1 y x (by omega) y3).2.2
      rw [bs_bt (by omega) (by omega), y2, Tn_n hT (by omega) y3, decide_eq_false a3]
      rfl
    · rw [bt_and, Bool.and_eq_true] at hz
      have := bt_lo h8 hm hz.2
      exact y4 z (by omega) hz.1 hz.2
  have h2 := h.2
  unfold kcl at h2
  rw [e] at h2
  cases h2
theorem lcf_p {f : Nat → Int32} {n m : Nat} (h8 : n ≤ 8) (hm : m < 2 ^ n) (hm1 : 1 ≤ m) : ∀ k, k < 256 → (∃ t, 1 ≤ t ∧ t < 2 ^ n ∧ lcf f n (nI m) k = nI t ∧ (nI t &&& (nI m ^^^ (-1 : Int32))) = 0 ∧ cvs f n (nI t) (nI m)) ∧ ∀ j, 1 ≤ j → j ≤ k → (nI j &&& (nI m ^^^ (-1 : Int32))) = 0 → cvs f n (nI j) (nI m) → pc (lcf f n (nI m) k) ≤ pc (nI j)
  | 0, _ => by
    have hp : (2 : Nat) ^ n ≤ 256 := Nat.pow_le_pow_right (n := 2) (by decide) h8
    refine ⟨⟨m, hm1, hm, rfl, wi_iff.mpr (fun _ _ h => h), fun q => ?_, fun x _ h1 h2 => ?_⟩, fun j h1 h2 => by omega⟩
    · have := nI_inj (by omega) (by decide) (show nI m = nI 0 from q)
      omega
    · rw [h1] at h2
      cases h2
  | k + 1, hk => by
    have hp : (2 : Nat) ^ n ≤ 256 := Nat.pow_le_pow_right (n := 2) (by decide) h8
    obtain ⟨⟨t, t1, t2, t3, t4, t5⟩, ih⟩ := lcf_p (f := f) h8 hm hm1 k (by omega)
    by_cases c : (nI (k + 1) &&& (nI m ^^^ (-1 : Int32))) = 0 ∧ pc (nI (k + 1)) < pc (lcf f n (nI m) k) ∧ cvs f n (nI (k + 1)) (nI m)
    · rw [lcf_y c]
      refine ⟨⟨k + 1, by omega, ?_, rfl, c.1, c.2.2⟩, fun j h1 h2 h3 h4 => ?_⟩
      · have := wi_le (by omega) (by omega) c.1
        omega
      · by_cases cj : j = k + 1
        · rw [cj]; exact Nat.le_refl _
        · have := ih j h1 (by omega) h3 h4
          have := c.2.1
          omega
    · rw [lcf_n c]
      refine ⟨⟨t, t1, t2, t3, t4, t5⟩, fun j h1 h2 h3 h4 => ?_⟩
      by_cases cj : j = k + 1
      · rw [cj] at h3 h4
        rw [cj]
        by_cases cp : pc (nI (k + 1)) < pc (lcf f n (nI m) k)
        · exact absurd ⟨h3, cp, h4⟩ c
        · omega
      · exact ih j h1 (by omega) h3 h4
theorem nc_least {f : Nat → Int32} {n m x : Nat} (h8 : n ≤ 8) (hT : Tn n f) (hm : m < 2 ^ n) (hm1 : 1 ≤ m) (h : bt (lcf f n (nI m) (m - 1)) x = true) : ¬ cvd f n (nI m) x := by
  rintro ⟨y, y1, y2, y3, y4⟩
  have hp : (2 : Nat) ^ n ≤ 256 := Nat.pow_le_pow_right (n := 2) (by decide) h8
  obtain ⟨⟨t, t1, t2, t3, t4, t5⟩, lst'⟩ := lcf_p (f := f) h8 hm hm1 (m - 1) (by omega)
  rw [t3] at h
  rw [t3] at lst'
  have xn := bt_lo h8 t2 h
  have sub' : ∀ j, bt (nI t) j = true → bt (nI m) j = true := fun j hj => wi_iff.mp t4 j (by have := bt_lo h8 t2 hj; omega) hj
  -- one of the set who covers x there
  have key : ∃ w, w < n ∧ bt (nI t) w = true ∧ bt (f w) x = true ∧ ∀ j, j < 32 → bt (f x) j = true → bt (nI t) j = true → bt (f w) j = true := by
    cases c : bt (nI t) y
    · obtain ⟨w, w1, w2, w3, w4⟩ := t5.2 y y1 y2 c
      exact ⟨w, w1, w2, w4 x (by omega) y3 h, fun j hj a b => w4 j hj (y4 j hj a (sub' j b)) b⟩
    · exact ⟨y, y1, c, y3, fun j hj a b => y4 j hj a (sub' j b)⟩
  obtain ⟨w, w1, w2, w3, w4⟩ := key
  have wx : w ≠ x := (hT.2.1 w x (by omega) w3).2.2
  obtain ⟨c1', c2', c3'⟩ := clr_f t (by omega) x (by omega)
  obtain ⟨c4, c5⟩ := c3' h
  obtain ⟨t', et⟩ : ∃ t', t' = (clr (nI t) x).toNatClampNeg := ⟨_, rfl⟩
  rw [← et] at c2' c4
  have bt' : ∀ j, j < 32 → bt (nI t') j = (bt (nI t) j && !decide (j = x)) := fun j hj => by
    rw [← c2', clr_bt (by omega) hj]
  have inn : ∀ j, j < 32 → bt (nI t) j = true → j ≠ x → bt (nI t') j = true := fun j hj a b => by
    rw [bt' j hj, a, decide_eq_false b]
    rfl
  have out : ∀ j, j < 32 → bt (nI t') j = true → bt (nI t) j = true := fun j hj a => by
    rw [bt' j hj, Bool.and_eq_true] at a
    exact a.1
  have w' := inn w (by omega) w2 wx
  have t'1 : 1 ≤ t' := by
    by_cases z : t' = 0
    · rw [z] at w'
      rw [show nI 0 = (0 : Int32) from rfl, bt_0] at w'
      cases w'
    · omega
  have cov : cvs f n (nI t') (nI m) := by
    refine ⟨fun q => ?_, fun z zn za zb => ?_⟩
    · rw [q, bt_0] at w'
      cases w'
    · by_cases zx : z = x
      · rw [zx]
        exact ⟨w, w1, w', w3, fun j hj a b => w4 j hj a (out j hj b)⟩
      · have zt : bt (nI t) z = false := by
          cases q : bt (nI t) z
          · rfl
          · rw [inn z (by omega) q zx] at zb
            cases zb
        obtain ⟨u, u1, u2, u3, u4⟩ := t5.2 z zn za zt
        by_cases ux : u = x
        · rw [ux] at u3 u4
          have zw : z ≠ w := fun q => by
            rw [q, w2] at zt
            cases zt
          have wz : bt (f w) z = true := by
            refine Tn_y hT zn w1 zw (fun q => ?_)
            have := u4 w (by omega) q w2
            rw [Tn_n hT (by omega) w3] at this
            cases this
          exact ⟨w, w1, w', wz, fun j hj a b => w4 j hj (u4 j hj a (out j hj b)) (out j hj b)⟩
        · exact ⟨u, u1, inn u (by omega) u2 ux, u3, fun j hj a b => u4 j hj a (out j hj b)⟩
  have tm := wi_le (by omega) (by omega) t4
  have := lst' t' t'1 (by omega) (wi_iff.mpr (fun j hj a => sub' j (out j hj a))) cov
  rw [c2'] at c5
  omega
theorem nc_bal {f P : Nat → Int32} {n m t x : Nat} (h8 : n ≤ 8) (hT : Tn n f) (hm : m < 2 ^ n) (p0 : P 0 = 1) (hE : ∀ t, 0 < t → t ≤ m → (nI t &&& (nI m ^^^ (-1 : Int32))) = 0 → pc (nI t) % 2 = 0 → pfe f n P t) (ht : t ≤ m) (hk : okb f P n m t) (h : bt (nI t) x = true) : ¬ cvd f n (nI m) x := by
  rintro ⟨y, y1, y2, y3, y4⟩
  have hp : (2 : Nat) ^ n ≤ 256 := Nat.pow_le_pow_right (n := 2) (by decide) h8
  obtain ⟨k1, k2, k3, k4⟩ := hk
  have xn := bt_lo h8 (by omega : t < 2 ^ n) h
  have v15 := vv_15 h8 hm p0 hE (by omega : t < 2 ^ n) k1 k2
  have sub' : ∀ j, bt (nI t) j = true → bt (nI m) j = true := fun j hj => wi_iff.mp k1 j (by have := bt_lo h8 (by omega : t < 2 ^ n) hj; omega) hj
  have off : ∀ j, bt (nI t) j = false → vv P t j = 0 := fun j hj => by
    unfold vv
    rw [hj, if_neg (by decide)]
  have offm : ∀ j, bt (nI m) j = false → vv P t j = 0 := fun j hj => off j (by
    cases q : bt (nI t) j
    · rfl
    · rw [sub' j q] at hj
      cases hj)
  have z0 : (0 : Int32).toInt = 0 := by decide
  have gi : ∀ z, bt (nI m) z = true → (gF f (vv P t) z n).toInt = si (fun j => AA f m z j * (vv P t j).toInt) n := fun z hz => (gF_i (a := m) h8 hz (fun k hk => v15 k (by omega)) offm n (Nat.le_refl _)).1
  have hA := AA_s h8 hT hm
  have nn : ∀ j, j < n → 0 ≤ (vv P t j).toInt := fun j hj => by
    cases q : bt (nI t) j
    · rw [off j q, z0]
      exact Int.le_refl _
    · have := k3 j (by omega) q
      rw [i_lt, z0] at this
      omega
  have gain : ∀ z, z < n → si (fun j => AA f m z j * (vv P t j).toInt) n ≤ 0 := fun z hz => by
    cases q : bt (nI m) z
    · rw [si_z n (fun j _ => by
        have : AA f m z j = 0 := if_neg (fun w => by rw [q] at w; exact absurd w.1 (by decide))
        rw [this, Int.zero_mul])]
      exact Int.le_refl _
    · rw [← gi z q]
      have := k4 z hz q
      rw [i_le, z0] at this
      exact this
  have px : 0 < (vv P t x).toInt := by
    have := k3 x (by omega) h
    rw [i_lt, z0] at this
    exact this
  have gx := opt_s (p := fun j => (vv P t j).toInt) hA.1 nn gain x xn px
  have xm := sub' x h
  have key : ∀ k, k ≤ n → si (fun j => AA f m x j * (vv P t j).toInt) k + (if x < k then (vv P t x).toInt else 0) ≤ si (fun j => AA f m y j * (vv P t j).toInt) k := fun k => by
    induction k with
    | zero =>
      intro _
      rw [if_neg (show ¬ x < 0 by omega)]
      exact Int.le_refl _
    | succ k ih =>
      intro hkn
      have i1 := ih (by omega)
      show si (fun j => AA f m x j * (vv P t j).toInt) k + AA f m x k * (vv P t k).toInt + (if x < k + 1 then (vv P t x).toInt else 0) ≤ si (fun j => AA f m y j * (vv P t j).toInt) k + AA f m y k * (vv P t k).toInt
      by_cases c : k = x
      · rw [c] at i1 ⊢
        rw [if_neg (show ¬ x < x by omega)] at i1
        have e1 : AA f m x x = 0 := if_neg (fun w => w.2.2 rfl)
        have e2 : AA f m y x = 1 := by
          have : AA f m y x = if bt (f y) x = true then 1 else -1 := if_pos ⟨y2, xm, (hT.2.1 y x (by omega) y3).2.2⟩
          rw [this, if_pos y3]
        rw [if_pos (show x < x + 1 by omega), e1, e2, Int.zero_mul, Int.one_mul]
        omega
      · have e : (if x < k + 1 then (vv P t x).toInt else 0) = (if x < k then (vv P t x).toInt else 0) := by
          by_cases d : x < k
          · rw [if_pos d, if_pos (show x < k + 1 by omega)]
          · rw [if_neg d, if_neg (show ¬ x < k + 1 by omega)]
        rw [e]
        have vk := nn k (by omega)
        have le : AA f m x k * (vv P t k).toInt ≤ AA f m y k * (vv P t k).toInt := by
          cases d : bt (nI m) k
          · rw [offm k d, z0, Int.mul_zero, Int.mul_zero]
            exact Int.le_refl _
          · have e1 : AA f m x k = if bt (f x) k = true then 1 else -1 := if_pos ⟨xm, d, fun q => c q.symm⟩
            have le' : AA f m x k ≤ AA f m y k := by
              by_cases ky : k = y
              · have e2 : AA f m y k = 0 := if_neg (fun w => w.2.2 ky.symm)
                rw [e1, e2, ky, Tn_n hT (by omega) y3, if_neg (by decide)]
                decide
              · have e2 : AA f m y k = if bt (f y) k = true then 1 else -1 := if_pos ⟨y2, d, fun q => ky q.symm⟩
                rw [e1, e2]
                by_cases xk : bt (f x) k = true
                · rw [if_pos xk, if_pos (y4 k (by omega) xk d)]
                  exact Int.le_refl _
                · rw [if_neg xk]
                  by_cases yk : bt (f y) k = true
                  · rw [if_pos yk]
                    decide
                  · rw [if_neg yk]
                    exact Int.le_refl _
            exact Int.mul_le_mul_of_nonneg_right le' vk
        omega
  have := key n (Nat.le_refl _)
  rw [if_pos xn] at this
  have gy := gain y y1
  have gx' : si (fun j => AA f m x j * (vv P t j).toInt) n = 0 := gx
  omega
/-- keeping sets are not empty -/
theorem kp_ne {f T : Nat → Int32} {n m : Nat} (h8 : n ≤ 8) (h0 : T 0 = 0) (hK : ∀ m, 0 < m → m < 2 ^ n → kpq f T (nI m)) (hm : m < 2 ^ n) (hm1 : 1 ≤ m) : ∃ v, bt (T m) v = true := by
  have hp : (2 : Nat) ^ n ≤ 256 := Nat.pow_le_pow_right (n := 2) (by decide) h8
  have kq' := hK m (by omega) hm
  unfold kpq at kq'
  rw [nI_clamp (by omega)] at kq'
  have stp' : ∀ u v, rr f T (nI m) u v → bt (nI m) v = true := fun u v ⟨r1, r2⟩ => by
    have un := bt_lo h8 hm r1
    obtain ⟨b1', b2', -⟩ := bs_lt (f := f) (m := m) (x := u) (by omega) (by omega)
    by_cases z : (bs f (nI m) u).toNatClampNeg = 0
    · rw [z, h0, bt_0] at r2
      cases r2
    · have k2 := hK _ (by omega) (by omega : (bs f (nI m) u).toNatClampNeg < 2 ^ n)
      unfold kpq at k2
      rw [nI_clamp (by omega)] at k2
      have := ((k2 v).mp r2).1
      rw [← b2'] at this
      exact bs_S this
  have rS : ∀ j y, bt (nI m) j = true → Rs (rr f T (nI m)) j y → bt (nI m) y = true := fun j y hj hr => hr (fun z => bt (nI m) z = true) hj (fun u v _ h => stp' u v h)
  have main : ∀ k j, bt (nI m) j = true → (∀ R : Nat, R < 2 ^ n → (∀ y, bt (nI R) y = true ↔ Rs (rr f T (nI m)) j y) → pc (nI R) ≤ k) → ∃ v, bt (T m) v = true := fun k => by
    induction k with
    | zero =>
      intro j hj hR
      obtain ⟨R, R1, R2⟩ := mk_set h8 (fun y => Rs (rr f T (nI m)) j y) (fun y hy => bt_lo h8 hm (rS j y hj hy))
      have := hR R R1 R2
      have jj := (R2 j).mpr (Rs_r j)
      have jn := bt_lo h8 hm hj
      have z : pc (nI R) = 0 := by omega
      rw [pc_0 z (by omega)] at jj
      cases jj
    | succ k ih =>
      intro j hj hR
      by_cases c : ∀ y, Rs (rr f T (nI m)) j y → Rs (rr f T (nI m)) y j
      · exact ⟨j, (kq' j).mpr ⟨hj, c⟩⟩
      · obtain ⟨y, hy⟩ := Classical.not_forall.mp c
        obtain ⟨y1, y2⟩ := Classical.not_imp.mp hy
        have ym := rS j y hj y1
        refine ih y ym (fun Q Q1 Q2 => ?_)
        obtain ⟨R, R1, R2⟩ := mk_set h8 (fun y => Rs (rr f T (nI m)) j y) (fun y hy => bt_lo h8 hm (rS j y hj hy))
        have := hR R R1 R2
        have jn := bt_lo h8 hm hj
        have lt : pc (nI Q) < pc (nI R) := pc_lt (k := j) (fun i _ hi => (R2 i).mpr (Rs_t y1 ((Q2 i).mp hi))) (by omega) (by
          cases q : bt (nI Q) j
          · rfl
          · exact absurd ((Q2 j).mp q) y2) ((R2 j).mpr (Rs_r j))
        omega
  obtain ⟨y, ya, yb⟩ := bt_ne0 (x := nI m) (nI_rg (by omega) (by omega)) (fun q => by
    have := nI_inj (by omega) (by decide) (show nI m = nI 0 from q)
    omega)
  exact main 8 y yb (fun R _ _ => pc_8 _)
theorem nc_keep {f T : Nat → Int32} {n : Nat} (h8 : n ≤ 8) (hT : Tn n f) (h0 : T 0 = 0) (hK : ∀ m, 0 < m → m < 2 ^ n → kpq f T (nI m)) : ∀ b m, m ≤ b → m < 2 ^ n → ∀ x, bt (T m) x = true → ¬ cvd f n (nI m) x := by
  have hp : (2 : Nat) ^ n ≤ 256 := Nat.pow_le_pow_right (n := 2) (by decide) h8
  intro b
  induction b with
  | zero =>
    intro m h1 hm x h
    have : m = 0 := by omega
    rw [this, h0, bt_0] at h
    cases h
  | succ b ih =>
    intro m h1 hm x h
    by_cases m0 : m = 0
    · rw [m0, h0, bt_0] at h
      cases h
    rintro ⟨y, y1, y2, y3, y4⟩
    have kq' := hK m (by omega) hm
    unfold kpq at kq'
    rw [nI_clamp (by omega)] at kq'
    obtain ⟨xm, xr⟩ := (kq' x).mp h
    have xn := bt_lo h8 hm xm
    obtain ⟨b1', b2', b3'⟩ := bs_lt (f := f) (m := m) (x := x) (by omega) (by omega)
    have yx : y ≠ x := (hT.2.1 y x (by omega) y3).2.2
    have ybs : bt (bs f (nI m) x) y = true := by
      rw [bs_bt (by omega) (by omega), y2, Tn_n hT (by omega) y3, decide_eq_false yx]
      rfl
    have pos : 1 ≤ (bs f (nI m) x).toNatClampNeg := by
      by_cases z : (bs f (nI m) x).toNatClampNeg = 0
      · rw [b2', z] at ybs
        rw [show nI 0 = (0 : Int32) from rfl, bt_0] at ybs
        cases ybs
      · omega
    obtain ⟨v, hv⟩ := kp_ne (f := f) h8 h0 hK (by omega : (bs f (nI m) x).toNatClampNeg < 2 ^ n) pos
    have rv : rr f T (nI m) x v := ⟨xm, hv⟩
    have vb : bt (bs f (nI m) x) v = true := by
      have k2 := hK _ (by omega) (by omega : (bs f (nI m) x).toNatClampNeg < 2 ^ n)
      unfold kpq at k2
      rw [nI_clamp (by omega)] at k2
      have := ((k2 v).mp hv).1
      rw [← b2'] at this
      exact this
    have vx : v ≠ x := fun q => by
      rw [q, bs_bt (by omega) (by omega), decide_eq_true rfl] at vb
      simp at vb
    have back := xr v (Rs_s (Rs_r x) rv)
    have last : x = v ∨ ∃ u, rr f T (nI m) u x := back (fun z => z = v ∨ ∃ u, rr f T (nI m) u z) (Or.inl rfl) (fun u w _ h => Or.inr ⟨u, h⟩)
    rcases last with q | ⟨u, u1, u2⟩
    · exact vx q.symm
    · have un := bt_lo h8 hm u1
      obtain ⟨d1, d2, d3⟩ := bs_lt (f := f) (m := m) (x := u) (by omega) (by omega)
      have d4 := (d3 u1).1
      have xu : bt (bs f (nI m) u) x = true := by
        by_cases z : (bs f (nI m) u).toNatClampNeg = 0
        · rw [z, h0, bt_0] at u2
          cases u2
        · have k2 := hK _ (by omega) (by omega : (bs f (nI m) u).toNatClampNeg < 2 ^ n)
          unfold kpq at k2
          rw [nI_clamp (by omega)] at k2
          have := ((k2 x).mp u2).1
          rw [← d2] at this
          exact this
      have xu' := xu
      rw [bs_bt (by omega) (by omega), Bool.and_eq_true, Bool.and_eq_true] at xu'
      have xne : x ≠ u := fun q => by
        rw [decide_eq_true q] at xu'
        exact absurd xu'.2 (by decide)
      have fux : ¬ bt (f u) x = true := fun q => by
        rw [q] at xu'
        exact absurd xu'.1.2 (by decide)
      have fxu := Tn_y hT un xn (fun q => xne q.symm) fux
      have fyu := y4 u (by omega) fxu u1
      have yu : y ≠ u := (hT.2.1 y u (by omega) fyu).2.2
      have yb : bt (bs f (nI m) u) y = true := by
        rw [bs_bt (by omega) (by omega), y2, Tn_n hT (by omega) fyu, decide_eq_false yu]
        rfl
      refine ih (bs f (nI m) u).toNatClampNeg (by omega) (by omega) x u2 ⟨y, y1, ?_, y3, fun j hj a b => ?_⟩
      · rw [← d2]
        exact yb
      · rw [← d2] at b
        exact y4 j hj a (bs_S b)
