/-! a round out of its number into the spare; names of a kept one; arrows that differ -/
theorem unpackS_s {N n : Nat} (hN : 8589934592 ≤ N) {f : Nat → Int32} (hT : Tn n f) (σ : Mem) : tot (f_Du_unpackS N (pk n f) σ) (fun τ => fr [4, 14] [] σ τ ∧ gI τ 4 0 = nI n ∧ ∀ a, a < 8 → gI τ 14 a = f a) := by
  have hn := hT.1
  unfold f_Du_unpackS
  refine t_ob _ (clearS_s hN σ) (fun s1 ⟨f1, _, z1⟩ => ?_)
  rw [pk_n hn, pk_r hn]
  refine t_bnd (t_bnd (t_bnd ?_))
  refine t_it3 (fun v i s => ∃ k, k ≤ n ∧ i = nI k + (-1) ∧ v = lN (wo f n k) ∧ fr [4, 14] [] σ s ∧ sofar f (gI s 14) (fun a b => k ≤ a ∧ k ≤ b)) (fun _ i _ => (i + 1).toNatClampNeg) ?_ N _ _ _ ⟨n, Nat.le_refl n, by rw [Int32.sub_eq_add_neg], rfl, f1, fun a b ha hb => ?_⟩ ?_
  · rintro self _ _ s ⟨k, hk, rfl, rfl, hf, hs⟩ ih
    unfold Du_unpackS_B21
    by_cases hk0 : k = 0
    · subst hk0
      rw [if_pos neg1_lt]
      unfold Du_unpackS_K84
      refine t_let (fun t et => t_some ⟨by rw [et]; exact fr_t hf (fr_sI (by decide)), by rw [et, gI_sI, if_pos rfl, upd_ap, if_pos rfl], fun a ha => ?_⟩)
      rw [et, gI_sI, if_neg (by decide)]
      apply bt_ext
      intro b hb
      have := hs a b ha hb
      cases e1 : bt (gI s 14 a) b
      · cases e2 : bt (f a) b
        · rfl
        · rw [e1, e2] at this
          exact absurd (this.mpr ⟨rfl, by omega, by omega⟩) (by decide)
      · rw [e1] at this
        exact ((this.mp rfl).1).symm
    · have hk1 : nI k + (-1) = nI (k - 1) := nsub1 (by omega)
      obtain ⟨i, rfl⟩ : ∃ i, k = i + 1 := ⟨k - 1, by omega⟩
      have e1 : i + 1 - 1 = i := by omega
      rw [hk1, if_neg (nI_pos (by omega)), e1]
      refine t_bnd ?_
      rw [nsub1' (by omega)]
      refine t_it3 (fun v x s => ∃ j, i ≤ j ∧ j < n ∧ x = nI j ∧ v = lN (wi f i (wo f n i) (j - i)) ∧ fr [4, 14] [] σ s ∧ sofar f (gI s 14) (fun a b => (i < a ∧ i < b) ∨ (a = i ∧ j < b) ∨ (b = i ∧ j < a))) (fun _ x _ => x.toNatClampNeg) ?_ N _ _ _ ⟨n - 1, by omega, by omega, rfl, ?_, hf, fun a b ha hb => ?_⟩ (by rw [nI_clamp (by omega)]; omega)
      · rintro self2 _ _ s2 ⟨j, hj1, hj, rfl, rfl, hf2, hs2⟩ ih2
        unfold Du_unpackS_B31
        refine t_if (fun h2 => ?_) (fun h2 => ?_)
        · have hji : j = i := by
            rw [nle (by omega) (by omega)] at h2
            omega
          subst hji
          have e0 : j - j = 0 := by omega
          rw [e0]
          refine ih _ _ _ ⟨j, by omega, rfl, rfl, hf2, fun a b ha hb => ?_⟩ ?_
          · rw [hs2 a b ha hb]
            constructor
            · rintro ⟨h1, h3⟩
              exact ⟨h1, by omega, by omega⟩
            · rintro ⟨h1, h3, h4⟩
              have := hT.2.1 a b ha h1
              exact ⟨h1, by omega⟩
          · have e3 : nI (j + 1) + (-1) + 1 = nI (j + 1) := by rw [hk1, e1, nadd1]
            have e4 : nI j + (-1) + 1 = nI j := by
              rw [Int32.add_assoc]
              have : (-1 : Int32) + 1 = 0 := by decide
              rw [this, Int32.add_zero]
            rw [e4, e3, nI_clamp (by omega), nI_clamp (by omega)]
            omega
        · have hjk : i < j := by
            rw [nle (by omega) (by omega)] at h2
            omega
          obtain ⟨d, hd⟩ : ∃ d, j - i = d + 1 := ⟨j - i - 1, by omega⟩
          rw [hd]
          obtain ⟨p1, p2⟩ := wi_pop f i (wo f n i) d
          have ebj : i + 1 + d = j := by omega
          rw [ebj] at p1
          have wb := wi_b f hn (i := i) (k := d + 1) (by omega) (by omega)
          have e5 : j - 1 - i = d := by omega
          rw [l_and1 (by omega), l_shr1 (by omega), p1, p2]
          have dec : (nI (j - 1)).toNatClampNeg < (nI j).toNatClampNeg := by
            rw [nI_clamp (by omega), nI_clamp (by omega)]
            omega
          have hbit : (lg_cmp (lN (b1 (bt (f i) j))) 1 = 0) ↔ bt (f i) j = true := by
            rw [lg_eq]
            cases bt (f i) j <;> decide
          refine t_if (fun h3 => ?_) (fun h3 => ?_)
          · refine t_ob _ (letBeatS_s (by omega) (by omega) (by omega) s2) (fun s3 ⟨h4, h5⟩ => t_bnd ?_)
            rw [nsub1 (by omega)]
            refine ih2 _ _ _ ⟨j - 1, by omega, by omega, rfl, by rw [e5], fr_t hf2 (fr_m h4 (by decide) (by decide)), sofar_step hT hjk hj hs2 (fun a => ?_)⟩ dec
            rw [if_pos (hbit.mp h3)]
            exact h5 a
          · refine t_ob _ (letBeatS_s (by omega) (by omega) (by omega) s2) (fun s3 ⟨h4, h5⟩ => t_bnd ?_)
            rw [nsub1 (by omega)]
            refine ih2 _ _ _ ⟨j - 1, by omega, by omega, rfl, by rw [e5], fr_t hf2 (fr_m h4 (by decide) (by decide)), sofar_step hT hjk hj hs2 (fun a => ?_)⟩ dec
            rw [if_neg (fun q => h3 (hbit.mpr q))]
            exact h5 a
      · show lN (wi f i (wo f n i) (n - (i + 1))) = _
        have e9 : n - (i + 1) = n - 1 - i := by omega
        rw [e9]
      · rw [hs a b ha hb]
        constructor
        · rintro ⟨h1, h3⟩
          exact ⟨h1, by omega⟩
        · rintro ⟨h1, h3⟩
          have := hT.2.1 a b ha h1
          exact ⟨h1, by omega, by omega⟩
  · rw [z1 a ha, bt_0]
    constructor
    · intro h; cases h
    · rintro ⟨h1, h2, h3⟩
      have := hT.2.1 a b ha h1
      omega
  · have e4 : nI n - 1 + 1 = nI n := by
      rw [Int32.sub_add_cancel]
    rw [e4, nI_clamp (by omega)]
    omega
theorem anK_M {N : Nat} {s : Mem} {f : Nat → Int32} {n : Nat} {g : Nat → Nat} {o : Nat → Int32} {b0 : Nat} (hb0 : b0 ≤ 10) (h4 : ∀ v, v < 8 → gI s 4 (b0 + v) = o v) (h8 : n ≤ 8) (h1 : gI s 1 0 = nI n) (h13 : ∀ a, a < 8 → gI s 1 (1 + a) = f a) (hp : pmn n g) (ho : od n s g) : par (f_M_areNamesK N (nI b0) s) (fun r => (r = 1 ∧ nmp f o n g) ∨ (r = 0 ∧ ¬ nmp f o n g)) := by
  unfold f_M_areNamesK
  refine p_bnd ?_
  rw [many_e h1]
  refine p_it1 (fun i2 => ∃ x, x ≤ n ∧ i2 = nI x ∧ ∀ a b, a < x → a < b → b < n → bt (f a) b = bt (o (g a)) (g b)) ?_ N _ ⟨0, by omega, rfl, fun a b ha => by omega⟩
  rintro self _ ⟨x, hx, rfl, hA⟩ ih
  unfold M_areNamesK_B8
  refine p_if (fun c => ?_) (fun c => ?_)
  · rw [nle (by omega) (by omega)] at c
    exact p_some (Or.inl ⟨rfl, fun a b hab hb => hA a b (by omega) hab hb⟩)
  · rw [nle (by omega) (by omega)] at c
    refine p_bnd ?_
    rw [nadd1]
    refine p_it1 (fun i5 => ∃ y, x < y ∧ y ≤ n ∧ i5 = nI y ∧ ∀ b, x < b → b < y → bt (f x) b = bt (o (g x)) (g b)) ?_ N _ ⟨x + 1, by omega, by omega, rfl, fun b b1 b2 => by omega⟩
    rintro self6 _ ⟨y, hxy, hy, rfl, hB⟩ ih6
    unfold M_areNamesK_B20
    refine p_if (fun c2 => ?_) (fun c2 => ?_)
    · rw [nle (by omega) (by omega)] at c2
      rw [nadd1]
      refine ih _ ⟨x + 1, by omega, rfl, fun a b ha hab hb => ?_⟩
      by_cases ca : a = x
      · rw [ca] at hab ⊢
        exact hB b hab (by omega)
      · exact hA a b (by omega) hab hb
    · rw [nle (by omega) (by omega)] at c2
      have gx := hp.1 x (by omega)
      have gy := hp.1 y (by omega)
      rw [beats_e (by omega), ob_s, h13 x (by omega), nI_clamp (by omega), nI_clamp (by omega), ho x (by omega), ho y (by omega), nI_add, nI_clamp (by omega), h4 (g x) (by omega)]
      refine p_gd (fun _ => p_gd (fun _ => p_gd (fun _ => ?_)))
      refine p_if (fun c3 => ?_) (fun c3 => p_some (Or.inr ⟨rfl, fun w => c3 ((has_e2 (by omega) (by omega)).mpr (w x y hxy (by omega)))⟩))
      have c4 := (has_e2 (by omega) (by omega)).mp c3
      rw [nadd1]
      refine ih6 _ ⟨y + 1, by omega, by omega, rfl, fun b b1 b2 => ?_⟩
      by_cases cb : b = y
      · rw [cb]; exact c4
      · exact hB b b1 (by omega)
theorem pc_sm (x : Int32) : pc x = sm (fun y => b1 (bt x y)) 8 := by
  simp only [sm, pc, Nat.zero_add]
def unl (f o : Nat → Int32) (x y : Nat) : Nat := if bt (f x) y = bt (o x) y then 0 else 1
theorem unl_x {f o : Nat → Int32} {x y : Nat} : b1 (bt (f x) y ^^ bt (o x) y) = unl f o x y := by
  unfold unl
  cases bt (f x) y <;> cases bt (o x) y <;> rfl
theorem unl_s {f o : Nat → Int32} {n m x y : Nat} (hf : Tn n f) (ho : Tn m o) (hx : x < n) (hy : y < n) (hx' : x < m) (hy' : y < m) : unl f o x y = unl f o y x := by
  unfold unl
  by_cases c : x = y
  · rw [c]
  · rw [hf.2.2 x y hx hy c, ho.2.2 x y hx' hy' c]
    cases bt (f y) x <;> cases bt (o y) x <;> rfl
theorem unl_0 {f o : Nat → Int32} {n m x : Nat} (hf : Tn n f) (ho : Tn m o) (h8 : x < 8) : unl f o x x = 0 := by
  unfold unl
  have a : bt (f x) x = false := by
    cases e : bt (f x) x
    · rfl
    · exact absurd rfl (hf.2.1 x x h8 e).2.2
  have b : bt (o x) x = false := by
    cases e : bt (o x) x
    · rfl
    · exact absurd rfl (ho.2.1 x x h8 e).2.2
  rw [a, b, if_pos rfl]
theorem su_2 {h : Nat → Nat} {a : Nat} : ∀ k, su (fun j => 2 * h j) a k = 2 * su h a k
  | 0 => rfl
  | k + 1 => by
    show su (fun j => 2 * h j) a k + 2 * h (a + k) = 2 * (su h a k + h (a + k))
    rw [su_2 k]
    omega
theorem sm_2 {h : Nat → Nat} : ∀ k, sm (fun j => 2 * h j) k = 2 * sm h k
  | 0 => rfl
  | k + 1 => by
    show sm (fun j => 2 * h j) k + 2 * h k = 2 * (sm h k + h k)
    rw [sm_2 k]
    omega
theorem su_c {h g : Nat → Nat} {a : Nat} : ∀ k, (∀ j, j < k → h (a + j) = g (a + j)) → su h a k = su g a k
  | 0, _ => rfl
  | k + 1, e => by
    show su h a k + h (a + k) = su g a k + g (a + k)
    rw [su_c k (fun j hj => e j (by omega)), e k (by omega)]
def uns (f o : Nat → Int32) (b : Nat) : Nat := sm (fun i => su (fun j => unl f o i j) (i + 1) (b - (i + 1))) b
theorem au_D {N : Nat} {s : Mem} {n m : Nat} (hr : ∀ a, rg 0 255 (gI s 13 a)) (hf : Tn n (gI s 13)) (ho : Tn m (gI s 14)) (hb : min n m ≤ 8) (h3 : gI s 3 0 = nI n) (h4 : gI s 4 0 = nI m) (hr4 : ∀ a, rg 0 255 (gI s 14 a)) : par (f_Du_arrowsUnlikeN N s) (fun r => r = nI (uns (gI s 13) (gI s 14) (min n m))) := by
  have n8 := hf.1
  have m8 := ho.1
  unfold f_Du_arrowsUnlikeN
  refine p_bnd ?_
  have em : (if gI s 4 0 < gI s 3 0 then gI s 4 0 else gI s 3 0) = nI (min n m) := by
    rw [h3, h4]
    by_cases c : m < n
    · rw [if_pos ((nlt (by omega) (by omega)).mpr c)]
      congr 1
      omega
    · rw [if_neg (fun w => c ((nlt (by omega) (by omega)).mp w))]
      congr 1
      omega
  rw [em]
  obtain ⟨b, eb⟩ : ∃ b, b = min n m := ⟨_, rfl⟩
  rw [← eb] at hb ⊢
  have bn : b ≤ n := by omega
  have bm : b ≤ m := by omega
  obtain ⟨M, eM⟩ : ∃ M : Int32, M = ((1 : Int32) <<< (nI b &&& 31)) - 1 := ⟨_, rfl⟩
  rw [← eM]
  have hM : ∀ j, j < 32 → bt M j = decide (j < b) := fun j hj => by rw [eM]; exact bt_mask hb hj
  have row : ∀ x, x < b → pc ((gI s 13 x ^^^ gI s 14 x) &&& M) = sm (fun y => unl (gI s 13) (gI s 14) x y) b := fun x hx => by
    rw [pc_sm]
    have e1 : sm (fun y => b1 (bt ((gI s 13 x ^^^ gI s 14 x) &&& M) y)) 8 = sm (fun y => b1 (bt ((gI s 13 x ^^^ gI s 14 x) &&& M) y)) b := sm_ex hb (fun v v1 v2 => by
      show b1 (bt ((gI s 13 x ^^^ gI s 14 x) &&& M) v) = 0
      rw [bt_and, hM v (by omega), decide_eq_false (by omega), Bool.and_false]
      rfl)
    rw [e1]
    refine sm_c b (fun y hy => ?_)
    rw [bt_and, hM y (by omega), decide_eq_true hy, Bool.and_true, bt_xor, unl_x]
  have tot2 : sm (fun x => sm (fun y => unl (gI s 13) (gI s 14) x y) b) b = 2 * uns (gI s 13) (gI s 14) b := by
    obtain ⟨u', eu⟩ : ∃ u' : Nat → Nat → Nat, u' = fun x y => if x = y then 0 else unl (gI s 13) (gI s 14) x y := ⟨_, rfl⟩
    have a1 : sm (fun x => sm (fun y => unl (gI s 13) (gI s 14) x y) b) b = sm (fun x => sm (fun y => u' x y) b) b := sm_c b (fun x hx => sm_c b (fun y hy => by
      rw [eu]
      show _ = if x = y then 0 else unl (gI s 13) (gI s 14) x y
      by_cases c : x = y
      · rw [if_pos c, c]
        exact unl_0 hf ho (by omega)
      · rw [if_neg c]))
    rw [a1, pairs u' (fun i => by rw [eu]; show (if i = i then 0 else _) = 0; rw [if_pos rfl]) b]
    unfold uns
    rw [← sm_2]
    refine sm_c b (fun x hx => ?_)
    show su (fun j => u' x j + u' j x) (x + 1) (b - (x + 1)) = 2 * su (fun j => unl (gI s 13) (gI s 14) x j) (x + 1) (b - (x + 1))
    rw [← su_2]
    refine su_c _ (fun j hj => ?_)
    rw [eu]
    show (if x = x + 1 + j then 0 else unl (gI s 13) (gI s 14) x (x + 1 + j)) + (if x + 1 + j = x then 0 else unl (gI s 13) (gI s 14) (x + 1 + j) x) = 2 * unl (gI s 13) (gI s 14) x (x + 1 + j)
    rw [if_neg (by omega), if_neg (by omega), unl_s hf ho (by omega) (by omega) (by omega) (by omega)]
    omega
  have ub : ∀ x y, unl (gI s 13) (gI s 14) x y ≤ 1 := fun x y => by unfold unl; split <;> omega
  have sb : ∀ k, sm (fun x => sm (fun y => unl (gI s 13) (gI s 14) x y) b) k ≤ 8 * k := fun k => sm_le (fun x => by
    have := sm_le (h := fun y => unl (gI s 13) (gI s 14) x y) (c := 1) (fun y => ub x y) b
    omega) k
  refine p_it2 (fun i2 i3 => ∃ k, k ≤ 8 ∧ i3 = nI k ∧ i2 = nI (sm (fun x => sm (fun y => unl (gI s 13) (gI s 14) x y) b) (min k b))) ?_ N _ _ ⟨0, by omega, rfl, by rw [Nat.zero_min]; rfl⟩
  rintro self _ _ ⟨k, hk, rfl, rfl⟩ ih
  unfold Du_arrowsUnlikeN_B21
  refine p_if (fun c => ?_) (fun c => ?_)
  · rw [l8, nle (by omega) (by omega)] at c
    refine p_some ?_
    have e : min k b = b := by omega
    have := sb b
    rw [e, tot2]
    rw [tot2] at this
    rw [l2, ndiv (by omega) (by decide) (by decide)]
    congr 1
    omega
  · rw [l8, nle (by omega) (by omega)] at c
    rw [bit_bt (by omega), hM k (by omega), nadd1]
    by_cases ck : k < b
    · rw [decide_eq_true ck, if_pos (by rfl), nI_clamp (by omega)]
      have rx : rg 0 255 ((gI s 13 k ^^^ gI s 14 k) &&& M) := rg_andl (b := 255) _ (rg_xor (hi := 255) 8 (hr k) (hr4 k) (by decide)) (by decide)
      rw [cnt_v rx, row k ck, nI_add]
      refine p_gd (fun _ => p_gd (fun _ => p_bnd (ih _ _ ⟨k + 1, by omega, rfl, ?_⟩)))
      have e1 : min k b = k := by omega
      have e2 : min (k + 1) b = k + 1 := by omega
      rw [e1, e2]
      rfl
    · rw [decide_eq_false ck, if_neg (by decide)]
      refine ih _ _ ⟨k + 1, by omega, rfl, ?_⟩
      have e1 : min k b = min (k + 1) b := by omega
      rw [e1]
theorem au_M {N : Nat} {s : Mem} {f o : Nat → Int32} {b k0 : Nat} (h8 : b ≤ 8) (hk0 : k0 < 2) (h13 : ∀ a, a < 8 → gI s 1 (1 + a) = f a) (h4 : ∀ v, v < 8 → gI s 4 (9 * k0 + 1 + v) = o v) : par (M_alike_J88 N s (nI k0) (nI b)) (fun q => q.1 = nI (uns f o b)) := by
  have l9' : (9 : Int32) = nI 9 := rfl
  unfold M_alike_J88
  refine p_it2 (fun i3 i4 => ∃ x, x ≤ b ∧ i4 = nI x ∧ i3 = nI (sm (fun i => su (fun j => unl f o i j) (i + 1) (b - (i + 1))) x)) ?_ N _ _ ⟨0, by omega, rfl, rfl⟩
  rintro self _ _ ⟨x, hx, rfl, rfl⟩ ih
  unfold M_alike_B93
  refine p_if (fun c => ?_) (fun c => ?_)
  · rw [nle (by omega) (by omega)] at c
    have : x = b := by omega
    subst this
    exact p_some rfl
  · rw [nle (by omega) (by omega)] at c
    refine p_bnd ?_
    rw [nadd1]
    refine p_it2 (fun i7 i8 => ∃ k, x + 1 + k ≤ b ∧ i8 = nI (x + 1 + k) ∧ i7 = nI (sm (fun i => su (fun j => unl f o i j) (i + 1) (b - (i + 1))) x + su (fun j => unl f o x j) (x + 1) k)) ?_ N _ _ ⟨0, by omega, rfl, rfl⟩
    rintro self9 _ _ ⟨k, hk, rfl, rfl⟩ ih9
    unfold M_alike_B106
    refine p_if (fun c2 => ?_) (fun c2 => ?_)
    · rw [nle (by omega) (by omega)] at c2
      have e : k = b - (x + 1) := by omega
      rw [nadd1]
      refine ih _ _ ⟨x + 1, by omega, rfl, ?_⟩
      rw [e]
      rfl
    · rw [nle (by omega) (by omega)] at c2
      rw [beats_e (by omega), ob_s, h13 x (by omega), l9', nmulA, nadd1, nI_add, nI_clamp (by omega), h4 x (by omega), nadd1]
      have hs : su (fun j => unl f o x j) (x + 1) (k + 1) = su (fun j => unl f o x j) (x + 1) k + unl f o x (x + 1 + k) := rfl
      refine p_gd (fun _ => p_if (fun c3 => p_bnd ?_) (fun c3 => p_bnd ?_))
      · have z : unl f o x (x + 1 + k) = 0 := by
          unfold unl
          rw [if_pos ((has_e2 (by omega) (by omega)).mp c3)]
        rw [Int32.add_zero]
        refine ih9 _ _ ⟨k + 1, by omega, rfl, ?_⟩
        rw [hs, z]
        rfl
      · have z : unl f o x (x + 1 + k) = 1 := by
          unfold unl
          rw [if_neg (fun w => c3 ((has_e2 (by omega) (by omega)).mpr w))]
        rw [nadd1]
        refine ih9 _ _ ⟨k + 1, by omega, rfl, ?_⟩
        rw [hs, z]
        rfl
