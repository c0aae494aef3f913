/-! the fewest turned arrows: the search of the reference; fewest answers alike -/
theorem isin_M {N : Nat} (hN : 8589934592 ≤ N) {n k x : Nat} {f : Nat → Int32} (hx : x < n) (hk : k < 10) (hO : Okf n f) {μ : Mem} (hM : InvM μ) (h1 : gI μ 1 0 = nI n) (h13 : ∀ i, i < 8 → gI μ 1 (1 + i) = f i) : par (f_M_isIn N (nI x) (nI k) μ) (fun q => KM mS [] μ q.2 ∧ ((q.1 = 1 ∧ Inn N n k x f) ∨ (q.1 = 0 ∧ ¬ Inn N n k x f))) := by
  have h8 := hO.1.1
  obtain ⟨p1, p2'⟩ := pw_b h8
  have ev : t_M_all μ = nI (2 ^ n - 1) := by
    unfold t_M_all
    rw [n0, h1, mask_e n h8]
  unfold f_M_isIn
  rw [ev]
  refine p_obq _ (p_and (P := fun q => bt q.1 x = true ↔ Inn N n k x f) (fun q e => inn_M hN hk hO hM h1 h13 e) (tp (M_setOf_t hN (nI_rg (by omega) (by omega) : rg 0 9 (nI k)) (nI_rg (by omega) (by omega) : rg 0 255 (nI (2 ^ n - 1))) hM))) (fun r2 s1 h => p_some ?_)
  obtain ⟨hi, -, k1⟩ := h
  have hi' : bt r2 x = true ↔ Inn N n k x f := hi
  refine ⟨k1, ?_⟩
  show (t_M_has r2 (nI x) = 1 ∧ _) ∨ (t_M_has r2 (nI x) = 0 ∧ _)
  rw [has_bt (by omega)]
  cases c : bt r2 x
  · refine Or.inr ⟨rfl, fun q => ?_⟩
    rw [hi'.mpr q] at c
    cases c
  · exact Or.inl ⟨rfl, hi'.mp c⟩
theorem turn_f {n a b : Nat} {f : Nat → Int32} {s t : Mem} (h1 : gI s 1 0 = nI n) (h13 : ∀ i, i < 8 → gI s 1 (1 + i) = f i) (h : ∀ i, gI t 1 i = if i = 1 + b then gI s 1 i ^^^ ((1 : Int32) <<< (nI a &&& 31)) else if i = 1 + a then gI s 1 i ^^^ ((1 : Int32) <<< (nI b &&& 31)) else gI s 1 i) : gI t 1 0 = nI n ∧ ∀ i, i < 8 → gI t 1 (1 + i) = flp f a b i := by
  refine ⟨?_, fun i hi => ?_⟩
  · rw [h 0, if_neg (by omega), if_neg (by omega)]
    exact h1
  · rw [h (1 + i), h13 i hi]
    unfold flp
    by_cases c : i = b
    · rw [if_pos (show 1 + i = 1 + b by omega), if_pos c]
    · rw [if_neg (show ¬ 1 + i = 1 + b by omega), if_neg c]
      by_cases d : i = a
      · rw [if_pos (show 1 + i = 1 + a by omega), if_pos d]
      · rw [if_neg (show ¬ 1 + i = 1 + a by omega), if_neg d]
theorem by1_M {N : Nat} (hN : 8589934592 ≤ N) {n k x : Nat} {f : Nat → Int32} (hx : x < n) (hk : k < 10) (hO : Okf n f) {μ : Mem} (hM : InvM μ) (h1 : gI μ 1 0 = nI n) (h13 : ∀ i, i < 8 → gI μ 1 (1 + i) = f i) : par (f_M_byOne N (nI x) (nI k) μ) (fun q => KM mS [] μ q.2 ∧ ((q.1 = 1 ∧ Rc N n k x 1 f) ∨ (q.1 = 0 ∧ ¬ Rc N n k x 1 f))) := by
  have h8 := hO.1.1
  unfold f_M_byOne
  refine p_it3 (fun i1 i2 s => ∃ a, a ≤ n ∧ i2 = nI a ∧ KM mS [] μ s ∧ ((i1 = 1 ∧ Rc N n k x 1 f) ∨ (i1 = 0 ∧ ∀ a' b', a' < a → a' < b' → b' < n → ¬ Inn N n k x (flp f a' b')))) ?_ N _ _ _ ⟨0, by omega, rfl, km_r hM, Or.inr ⟨rfl, fun a' b' h => by omega⟩⟩
  rintro self i1 _ s ⟨a, ha, rfl, ks, hI⟩ ih
  have s1 : gI s 1 0 = nI n := by rw [ks.2.1 1 (by decide)]; exact h1
  have s13 : ∀ i, i < 8 → gI s 1 (1 + i) = f i := fun i hi => by rw [ks.2.1 1 (by decide)]; exact h13 i hi
  unfold M_byOne_B5
  rw [many_e s1]
  refine p_if (fun c => ?_) (fun c => ?_)
  · rw [nle (by omega) (by omega)] at c
    refine p_gd (fun _ => p_some ⟨ks, ?_⟩)
    rcases hI with z | ⟨z, w⟩
    · exact Or.inl z
    · refine Or.inr ⟨z, ?_⟩
      rintro ⟨a', b', q1, q2, q3⟩
      exact w a' b' (by omega) q1 q2 q3
  · rw [nle (by omega) (by omega)] at c
    refine p_if (fun c1 => p_bnd ?_) (fun c1 => p_gd (fun _ => p_some ⟨ks, ?_⟩))
    · have hno : ∀ a' b', a' < a → a' < b' → b' < n → ¬ Inn N n k x (flp f a' b') := by
        rcases hI with ⟨z, -⟩ | ⟨-, w⟩
        · rw [z] at c1
          exact absurd c1 (by decide)
        · exact w
      rw [nadd1]
      refine p_it3 (fun i6 i7 s => ∃ b, a < b ∧ b ≤ n ∧ i7 = nI b ∧ KM mS [] μ s ∧ ((i6 = 1 ∧ Rc N n k x 1 f) ∨ (i6 = 0 ∧ ∀ b', a < b' → b' < b → ¬ Inn N n k x (flp f a b')))) ?_ N _ _ _ ⟨a + 1, by omega, by omega, rfl, ks, Or.inr ⟨c1, fun b' q1 q2 => by omega⟩⟩
      rintro self2 i6 _ t ⟨b, b1', b2', rfl, kt, hJ⟩ ih2
      have t1 : gI t 1 0 = nI n := by rw [kt.2.1 1 (by decide)]; exact h1
      have t13 : ∀ i, i < 8 → gI t 1 (1 + i) = f i := fun i hi => by rw [kt.2.1 1 (by decide)]; exact h13 i hi
      unfold M_byOne_B24
      rw [many_e t1, nadd1, nadd1]
      refine p_if (fun c2 => ?_) (fun c2 => ?_)
      · rw [nle (by omega) (by omega)] at c2
        refine ih _ _ _ ⟨a + 1, by omega, rfl, kt, ?_⟩
        rcases hJ with z | ⟨z, w⟩
        · exact Or.inl z
        · refine Or.inr ⟨z, fun a' b' q1 q2 q3 => ?_⟩
          by_cases ca : a' = a
          · rw [ca] at q2 ⊢
            exact w b' q2 (by omega)
          · exact hno a' b' (by omega) q2 q3
      · rw [nle (by omega) (by omega)] at c2
        refine p_if (fun c6 => ?_) (fun c6 => ?_)
        · refine p_ob _ (tp (M_turnNow_s (by omega : a < 8) (by omega : b < 8) (by omega) kt.1)) (fun s10 h10 => ?_)
          obtain ⟨u1, u13⟩ := turn_f t1 t13 h10.2
          have Of := Okf_f hO (by omega : a < n) (by omega : b < n) (by omega)
          refine p_obq _ (isin_M hN hx hk Of h10.1.1 u1 u13) (fun r12 s11 h12 => ?_)
          obtain ⟨k11, h12⟩ := h12
          refine p_ob _ (tp (M_turnNow_s (by omega : a < 8) (by omega : b < 8) (by omega) k11.1)) (fun s13' h13' => ?_)
          have kk := kq_turn (a := a) (b := b) (by omega) (by omega) (by omega) kt h10 k11 h13'
          refine ih2 _ _ _ ⟨b + 1, by omega, by omega, rfl, kk, ?_⟩
          rcases h12 with ⟨z, w⟩ | ⟨z, w⟩
          · exact Or.inl ⟨z, a, b, b1', by omega, w⟩
          · refine Or.inr ⟨z, fun b' q1 q2 => ?_⟩
            by_cases cb : b' = b
            · rw [cb]; exact w
            · rcases hJ with ⟨y, -⟩ | ⟨-, y⟩
              · rw [y] at c6
                exact absurd c6 (by decide)
              · exact y b' q1 (by omega)
        · rcases hJ with z | ⟨z, -⟩
          · exact ih _ _ _ ⟨a + 1, by omega, rfl, kt, Or.inl z⟩
          · exact absurd z c6
    · rcases hI with z | ⟨z, -⟩
      · exact Or.inl z
      · exact absurd z c1
theorem by2_M {N : Nat} (hN : 8589934592 ≤ N) {n k x : Nat} {f : Nat → Int32} (hx : x < n) (hk : k < 10) (hO : Okf n f) {μ : Mem} (hM : InvM μ) (h1 : gI μ 1 0 = nI n) (h13 : ∀ i, i < 8 → gI μ 1 (1 + i) = f i) : par (it3 (M_fewest_B54 N (nI x) (nI k)) N (0 : Int32) (0 : Int32) μ) (fun q => (q.1 = 2 ∧ Rc N n k x 2 f) ∨ (q.1 = -2 ∧ ¬ Rc N n k x 2 f)) := by
  have h8 := hO.1.1
  have fin : ∀ i1 s, (i1 = 1 ∧ Rc N n k x 2 f) ∨ (i1 = 0 ∧ ¬ Rc N n k x 2 f) → par (M_fewest_K121 i1 s) (fun q => (q.1 = 2 ∧ Rc N n k x 2 f) ∨ (q.1 = -2 ∧ ¬ Rc N n k x 2 f)) := fun i1 s h => by
    unfold M_fewest_K121
    rcases h with ⟨z, w⟩ | ⟨z, w⟩
    · rw [if_neg (by rw [z]; decide)]
      exact p_some (Or.inl ⟨rfl, w⟩)
    · rw [if_pos z]
      exact p_some (Or.inr ⟨rfl, w⟩)
  refine p_it3 (fun i1 i2 s => ∃ a, a ≤ n ∧ i2 = nI a ∧ KM mS [] μ s ∧ ((i1 = 1 ∧ Rc N n k x 2 f) ∨ (i1 = 0 ∧ ∀ a' b', a' < a → a' < b' → b' < n → ¬ Rc N n k x 1 (flp f a' b')))) ?_ N _ _ _ ⟨0, by omega, rfl, km_r hM, Or.inr ⟨rfl, fun a' b' h => by omega⟩⟩
  rintro self i1 _ s ⟨a, ha, rfl, ks, hI⟩ ih
  have s1 : gI s 1 0 = nI n := by rw [ks.2.1 1 (by decide)]; exact h1
  unfold M_fewest_B54
  rw [many_e s1]
  refine p_if (fun c => ?_) (fun c => ?_)
  · rw [nle (by omega) (by omega)] at c
    refine fin _ _ ?_
    rcases hI with z | ⟨z, w⟩
    · exact Or.inl z
    · refine Or.inr ⟨z, ?_⟩
      rintro ⟨a', b', q1, q2, q3⟩
      exact w a' b' (by omega) q1 q2 q3
  · rw [nle (by omega) (by omega)] at c
    refine p_if (fun c1 => p_bnd ?_) (fun c1 => fin _ _ ?_)
    · have hno : ∀ a' b', a' < a → a' < b' → b' < n → ¬ Rc N n k x 1 (flp f a' b') := by
        rcases hI with ⟨z, -⟩ | ⟨-, w⟩
        · rw [z] at c1
          exact absurd c1 (by decide)
        · exact w
      rw [nadd1]
      refine p_it3 (fun i6 i7 s => ∃ b, a < b ∧ b ≤ n ∧ i7 = nI b ∧ KM mS [] μ s ∧ ((i6 = 1 ∧ Rc N n k x 2 f) ∨ (i6 = 0 ∧ ∀ b', a < b' → b' < b → ¬ Rc N n k x 1 (flp f a b')))) ?_ N _ _ _ ⟨a + 1, by omega, by omega, rfl, ks, Or.inr ⟨c1, fun b' q1 q2 => by omega⟩⟩
      rintro self2 i6 _ t ⟨b, b1', b2', rfl, kt, hJ⟩ ih2
      have t1 : gI t 1 0 = nI n := by rw [kt.2.1 1 (by decide)]; exact h1
      have t13 : ∀ i, i < 8 → gI t 1 (1 + i) = f i := fun i hi => by rw [kt.2.1 1 (by decide)]; exact h13 i hi
      unfold M_fewest_B73
      rw [many_e t1, nadd1, nadd1]
      refine p_if (fun c2 => ?_) (fun c2 => ?_)
      · rw [nle (by omega) (by omega)] at c2
        refine ih _ _ _ ⟨a + 1, by omega, rfl, kt, ?_⟩
        rcases hJ with z | ⟨z, w⟩
        · exact Or.inl z
        · refine Or.inr ⟨z, fun a' b' q1 q2 q3 => ?_⟩
          by_cases ca : a' = a
          · rw [ca] at q2 ⊢
            exact w b' q2 (by omega)
          · exact hno a' b' (by omega) q2 q3
      · rw [nle (by omega) (by omega)] at c2
        refine p_if (fun c6 => ?_) (fun c6 => ?_)
        · refine p_ob _ (tp (M_turnNow_s (by omega : a < 8) (by omega : b < 8) (by omega) kt.1)) (fun s10 h10 => ?_)
          obtain ⟨u1, u13⟩ := turn_f t1 t13 h10.2
          have Of := Okf_f hO (by omega : a < n) (by omega : b < n) (by omega)
          refine p_obq _ (by1_M hN hx hk Of h10.1.1 u1 u13) (fun r12 s11 h12 => ?_)
          obtain ⟨k11, h12⟩ := h12
          refine p_ob _ (tp (M_turnNow_s (by omega : a < 8) (by omega : b < 8) (by omega) k11.1)) (fun s13' h13' => ?_)
          have kk := kq_turn (a := a) (b := b) (by omega) (by omega) (by omega) kt h10 k11 h13'
          refine ih2 _ _ _ ⟨b + 1, by omega, by omega, rfl, kk, ?_⟩
          rcases h12 with ⟨z, w⟩ | ⟨z, w⟩
          · exact Or.inl ⟨z, a, b, b1', by omega, w⟩
          · refine Or.inr ⟨z, fun b' q1 q2 => ?_⟩
            by_cases cb : b' = b
            · rw [cb]; exact w
            · rcases hJ with ⟨y, -⟩ | ⟨-, y⟩
              · rw [y] at c6
                exact absurd c6 (by decide)
              · exact y b' q1 (by omega)
        · rcases hJ with z | ⟨z, -⟩
          · exact ih _ _ _ ⟨a + 1, by omega, rfl, kt, Or.inl z⟩
          · exact absurd z c6
    · rcases hI with z | ⟨z, -⟩
      · exact Or.inl z
      · exact absurd z c1
def fxo (a b i : Nat) : Int32 := if i = b then (1 : Int32) <<< (nI a &&& 31) else if i = a then (1 : Int32) <<< (nI b &&& 31) else 0
theorem flp_x (f : Nat → Int32) (a b i : Nat) : flp f a b i = f i ^^^ fxo a b i := by
  unfold flp fxo
  by_cases c : i = b
  · rw [if_pos c, if_pos c]
  · rw [if_neg c, if_neg c]
    by_cases d : i = a
    · rw [if_pos d, if_pos d]
    · rw [if_neg d, if_neg d, Int32.xor_zero]
theorem flp_c (f : Nat → Int32) (a b c d : Nat) : flp (flp f a b) c d = flp (flp f c d) a b := by
  funext i
  rw [flp_x, flp_x, flp_x, flp_x, Int32.xor_assoc, Int32.xor_assoc, Int32.xor_comm (fxo a b i)]
theorem flp_2 (f : Nat → Int32) (a b : Nat) : flp (flp f a b) a b = f := by
  funext i
  rw [flp_x, flp_x, xx]
theorem ds_1 {N n k x p : Nat} {f : Nat → Int32} (h8 : n ≤ 8) : DS N n k x 1 p f ↔ ∃ a b, a < b ∧ b < n ∧ p ≤ 8 * a + b ∧ Inn N n k x (flp f a b) := by
  constructor
  · rintro ⟨r, r1, r2, r3, r4, r5⟩
    exact ⟨r / 8, r % 8, r3, r4, by omega, r5⟩
  · rintro ⟨a, b, h1, h2, h3, h4⟩
    have e1 : (8 * a + b) / 8 = a := by omega
    have e2 : (8 * a + b) % 8 = b := by omega
    exact ⟨8 * a + b, h3, by omega, by omega, by omega, by rw [e1, e2]; exact h4⟩
theorem ds_2 {N n k x : Nat} {f : Nat → Int32} (h8 : n ≤ 8) (h0 : ¬ Inn N n k x f) : DS N n k x 2 0 f ↔ Rc N n k x 2 f := by
  refine ⟨fun h => ds_rc 2 0 f h, ?_⟩
  rintro ⟨a, b, h1, h2, c, d, h3, h4, h5⟩
  have h5' : Inn N n k x (flp (flp f a b) c d) := h5
  have mk : ∀ a b c d, a < b → b < n → c < d → d < n → 8 * a + b < 8 * c + d → Inn N n k x (flp (flp f a b) c d) → DS N n k x 2 0 f := fun a b c d q1 q2 q3 q4 q5 q6 => by
    have e1 : (8 * a + b) / 8 = a := by omega
    have e2 : (8 * a + b) % 8 = b := by omega
    refine ⟨8 * a + b, Nat.zero_le _, by omega, by omega, by omega, ?_⟩
    rw [e1, e2]
    exact (ds_1 h8).mpr ⟨c, d, q3, q4, by omega, q6⟩
  by_cases lt : 8 * a + b < 8 * c + d
  · exact mk a b c d h1 h2 h3 h4 lt h5'
  · by_cases gt : 8 * c + d < 8 * a + b
    · exact mk c d a b h3 h4 h1 h2 gt (by rw [flp_c]; exact h5')
    · have e1 : c = a := by omega
      have e2 : d = b := by omega
      rw [e1, e2, flp_2] at h5'
      exact absurd h5' h0
theorem st_Rl_fewest_c {N : Nat} (hN : 8589934592 ≤ N) {σ μ : Mem} (hR : Rl σ μ) (a b : Int32) : ∃ (q q2 : Int32 × Mem), f_D_fewest N a b σ = some (q.1, q.2) ∧ f_M_fewest N a b μ = some (q2.1, q2.2) ∧ Rl q.2 q2.2 ∧ q.1 = q2.1 := by
  obtain ⟨q, e1, k1⟩ := D_fewest_t hN (a1 := a) (a2 := b) hR.1
  obtain ⟨q2, e2, k2⟩ := M_fewest_t hN (a1 := a) (a2 := b) hR.2.1
  refine ⟨q, q2, e1, e2, Rl_q hR k1 k2 (by decide) (by decide), ?_⟩
  obtain ⟨s1, es1⟩ : ∃ s, s = sI μ 0 0 0 := ⟨_, rfl⟩
  obtain ⟨hR1, k0⟩ := Rl_m0 hR es1
  obtain ⟨n, h8, h3, h1, h13, hT⟩ := Rl_n hR1
  have hD := hR1.1
  have hM := hR1.2.1
  unfold f_D_fewest at e1
  unfold f_M_fewest at e2
  rw [bnd_e, ← es1] at e2
  have no : ∀ v, q.1 = v → q2.1 = v → q.1 = q2.1 := fun v x y => by rw [x, y]
  rcases pl_b h8 h3 h1 a with ⟨p1, p2⟩ | ⟨p1, p2, x, hx, rfl⟩
  · rw [if_pos p1] at e1
    rw [if_pos p2] at e2
    exact no (-1) (by cases e1; rfl) (by cases e2; rfl)
  · rw [if_neg (by rw [p1]; decide)] at e1
    rw [if_neg (by rw [p2]; decide)] at e2
    rcases kd_b b with ⟨i1, i2⟩ | ⟨i1, i2, k, hk, rfl⟩
    · rw [if_pos i1] at e1
      rw [if_pos i2] at e2
      exact no (-1) (by cases e1; rfl) (by cases e2; rfl)
    · rw [if_neg i1] at e1
      rw [if_neg i2] at e2
      have hO : Okf n (gI σ 13) := ⟨hT, ⟨σ, hD, h3, rfl⟩, s1, hM, h1, h13⟩
      have aD := few_D hN hx hk hD h3 hO q e1
      have aM : (q2.1 = 0 ∧ Inn N n k x (gI σ 13)) ∨ (q2.1 = 1 ∧ ¬ Inn N n k x (gI σ 13) ∧ Rc N n k x 1 (gI σ 13)) ∨ (¬ Inn N n k x (gI σ 13) ∧ ¬ Rc N n k x 1 (gI σ 13) ∧ ((q2.1 = 2 ∧ Rc N n k x 2 (gI σ 13)) ∨ (q2.1 = -2 ∧ ¬ Rc N n k x 2 (gI σ 13)))) := by
        have pp : par (ob2 (f_M_isIn N (nI x) (nI k) s1) fun r3 s2 => if r3 = (0 : Int32) then (ob2 (f_M_byOne N (nI x) (nI k) s2) fun r5 s4 => if r5 = (0 : Int32) then (it3 (M_fewest_B54 N (nI x) (nI k)) N (0 : Int32) (0 : Int32) s4) else (some ((1 : Int32), s4))) else (some ((0 : Int32), s2))) (fun q2 => (q2.1 = 0 ∧ Inn N n k x (gI σ 13)) ∨ (q2.1 = 1 ∧ ¬ Inn N n k x (gI σ 13) ∧ Rc N n k x 1 (gI σ 13)) ∨ (¬ Inn N n k x (gI σ 13) ∧ ¬ Rc N n k x 1 (gI σ 13) ∧ ((q2.1 = 2 ∧ Rc N n k x 2 (gI σ 13)) ∨ (q2.1 = -2 ∧ ¬ Rc N n k x 2 (gI σ 13))))) := by
          refine p_obq _ (isin_M hN hx hk hO hM h1 h13) (fun r3 s2 h => ?_)
          obtain ⟨k2', h⟩ := h
          refine p_if (fun c => ?_) (fun c => ?_)
          · have n0' : ¬ Inn N n k x (gI σ 13) := by
              rcases h with ⟨z, -⟩ | ⟨-, w⟩
              · have z' : r3 = 1 := z
                rw [z'] at c
                exact absurd c (by decide)
              · exact w
            refine p_obq _ (by1_M hN hx hk hO k2'.1 (by rw [k2'.2.1 1 (by decide)]; exact h1) (fun i hi => by rw [k2'.2.1 1 (by decide)]; exact h13 i hi)) (fun r5 s4 h5 => ?_)
            obtain ⟨k4, h5⟩ := h5
            have k4' : KM mS [] s1 s4 := km_t (S := mS) (J := []) k2' k4 (by decide) (by decide)
            refine p_if (fun c5 => ?_) (fun c5 => ?_)
            · have n1' : ¬ Rc N n k x 1 (gI σ 13) := by
                rcases h5 with ⟨z, -⟩ | ⟨-, w⟩
                · have z' : r5 = 1 := z
                  rw [z'] at c5
                  exact absurd c5 (by decide)
                · exact w
              exact p_mono (by2_M hN hx hk hO k4'.1 (by rw [k4'.2.1 1 (by decide)]; exact h1) (fun i hi => by rw [k4'.2.1 1 (by decide)]; exact h13 i hi)) (fun q hq => Or.inr (Or.inr ⟨n0', n1', hq⟩))
            · rcases h5 with ⟨-, w⟩ | ⟨z, -⟩
              · exact p_some (Or.inr (Or.inl ⟨rfl, n0', w⟩))
              · exact absurd z c5
          · rcases h with ⟨-, w⟩ | ⟨z, -⟩
            · exact p_some (Or.inl ⟨rfl, w⟩)
            · exact absurd z c
        exact pp q2 e2
      have d1 : DS N n k x 1 0 (gI σ 13) ↔ Rc N n k x 1 (gI σ 13) := by
        rw [ds_1 h8]
        constructor
        · rintro ⟨a, b, q1, q2, -, q4⟩
          exact ⟨a, b, q1, q2, q4⟩
        · rintro ⟨a, b, q1, q2, q4⟩
          exact ⟨a, b, q1, q2, Nat.zero_le _, q4⟩
      rcases aM with ⟨z, w⟩ | ⟨z, w0', w⟩ | ⟨w0', w1', w⟩
      · rcases aD with ⟨t, t1, t2, t3, t4⟩ | ⟨-, t4⟩
        · have : t = 0 := by
            by_cases c : t = 0
            · exact c
            · exact absurd w (t4 0 (by omega))
          rw [z, t2, this]
          rfl
        · exact absurd w (t4 0 (by omega))
      · rcases aD with ⟨t, t1, t2, t3, t4⟩ | ⟨-, t4⟩
        · have : t = 1 := by
            rcases (show t = 0 ∨ t = 1 ∨ t = 2 by omega) with c | c | c
            · rw [c] at t3
              exact absurd t3 w0'
            · exact c
            · exact absurd (d1.mpr w) (t4 1 (by omega))
          rw [z, t2, this]
          rfl
        · exact absurd (d1.mpr w) (t4 1 (by omega))
      · have d2 := ds_2 (x := x) (k := k) (N := N) h8 w0'
        rcases aD with ⟨t, t1, t2, t3, t4⟩ | ⟨t2, t4⟩
        · rcases (show t = 0 ∨ t = 1 ∨ t = 2 by omega) with c | c | c
          · rw [c] at t3
            exact absurd t3 w0'
          · rw [c] at t3
            exact absurd (d1.mp t3) w1'
          · rw [c] at t3
            rcases w with ⟨z, -⟩ | ⟨-, y⟩
            · rw [z, t2, c]
              rfl
            · exact absurd (d2.mp t3) y
        · rcases w with ⟨-, y⟩ | ⟨z, -⟩
          · exact absurd (d2.mpr y) (t4 2 (by omega))
          · rw [z, t2]
