/-! drawn keeps the relation -/
def dst (x : Int32) : Int32 := (((1103 : Int32) * x) + (12345 : Int32)) - (((1103 : Int32) * x) + (12345 : Int32)) / (1000003 : Int32) * (1000003 : Int32)
def stb (g : Nat → Int32) (i j : Nat) : Nat → Int32 := fun a => if a = i then g a ||| ((1 : Int32) <<< (nI j &&& 31)) else g a
def dch (x : Int32) (g : Nat → Int32) (k j : Nat) : Nat → Int32 := if (dst x - dst x / (2 : Int32) * (2 : Int32)) = (0 : Int32) then stb g k j else stb g j k
def din (k : Nat) : Nat → Int32 → (Nat → Int32) → Nat → Int32 × (Nat → Int32)
  | 0, x, g, _ => (x, g)
  | m + 1, x, g, j => din k m (dst x) (dch x g k j) (j + 1)
def dou (n : Nat) : Nat → Int32 → (Nat → Int32) → Nat → (Nat → Int32)
  | 0, _, g, _ => g
  | m + 1, x, g, k => dou n m (din k (n - (k + 1)) x g (k + 1)).1 (din k (n - (k + 1)) x g (k + 1)).2 (k + 1)
/-- the round that is drawn -/
def drw (n : Nat) (x : Int32) : Nat → Int32 := dou n n x (fun _ => 0) 0
/-- told: the pairs ahead of (k, j) -/
def prc (k j a b : Nat) : Prop := (a < b ∧ (a < k ∨ (a = k ∧ b < j))) ∨ (b < a ∧ (b < k ∨ (b = k ∧ a < j)))
def Qd (n k j : Nat) (g : Nat → Int32) : Prop := (∀ a b, a < 8 → b < 32 → bt (g a) b = true → a < n ∧ b < n ∧ prc k j a b) ∧ (∀ a b, a < n → b < n → prc k j a b → bt (g a) b = !(bt (g b) a))
theorem Qd_0 (n : Nat) : Qd n 0 1 (fun _ => 0) := by
  refine ⟨fun a b _ _ h => ?_, fun a b _ _ hp => ?_⟩
  · rw [bt_0] at h
    cases h
  · unfold prc at hp
    omega
theorem stb_bt {g : Nat → Int32} {i j a b : Nat} (hj : j < 8) (hb : b < 32) : bt (stb g i j a) b = (bt (g a) b || decide (a = i ∧ b = j)) := by
  unfold stb
  by_cases h : a = i
  · rw [if_pos h, bt_or, bt_one (by omega) hb]
    congr 1
    by_cases h2 : b = j
    · rw [decide_eq_true h2, decide_eq_true ⟨h, h2⟩]
    · rw [decide_eq_false h2, decide_eq_false (fun q => h2 q.2)]
  · rw [if_neg h, decide_eq_false (fun q => h q.1), Bool.or_false]
theorem Qd_step {n k j : Nat} (hn : n ≤ 8) (hkj : k < j) (hj : j < n) {g : Nat → Int32} (hQ : Qd n k j g) (c : Bool) : Qd n k (j + 1) (if c = true then stb g k j else stb g j k) := by
  have nk : bt (g k) j = false := by
    cases e : bt (g k) j
    · rfl
    · have := (hQ.1 k j (by omega) (by omega) e).2.2
      unfold prc at this
      omega
  have nj : bt (g j) k = false := by
    cases e : bt (g j) k
    · rfl
    · have := (hQ.1 j k (by omega) (by omega) e).2.2
      unfold prc at this
      omega
  have key : ∀ x y : Nat, ((x = k ∧ y = j) ∨ (x = j ∧ y = k)) → Qd n k (j + 1) (stb g x y) := by
    intro x y hxy
    refine ⟨fun a b ha hb h => ?_, fun a b ha hb hp => ?_⟩
    · rw [stb_bt (by omega) hb] at h
      rcases Bool.or_eq_true_iff.mp h with q | q
      · obtain ⟨q1, q2, q3⟩ := hQ.1 a b ha hb q
        refine ⟨q1, q2, ?_⟩
        unfold prc at q3 ⊢
        omega
      · have := of_decide_eq_true q
        refine ⟨by omega, by omega, ?_⟩
        unfold prc
        omega
    · rw [stb_bt (by omega) (by omega), stb_bt (by omega) (by omega)]
      by_cases e1 : a = x ∧ b = y
      · have e2 : ¬ (b = x ∧ a = y) := by omega
        rw [decide_eq_true e1, decide_eq_false e2, Bool.or_true, Bool.or_false]
        have : bt (g b) a = false := by
          rw [e1.1, e1.2]
          rcases hxy with ⟨q1, q2⟩ | ⟨q1, q2⟩ <;> rw [q1, q2] <;> assumption
        rw [this]; rfl
      · by_cases e2 : b = x ∧ a = y
        · rw [decide_eq_false e1, decide_eq_true e2, Bool.or_true, Bool.or_false]
          have : bt (g a) b = false := by
            rw [e2.1, e2.2]
            rcases hxy with ⟨q1, q2⟩ | ⟨q1, q2⟩ <;> rw [q1, q2] <;> assumption
          rw [this]; rfl
        · rw [decide_eq_false e1, decide_eq_false e2, Bool.or_false, Bool.or_false]
          refine hQ.2 a b ha hb ?_
          unfold prc at hp ⊢
          omega
  cases c
  · rw [if_neg (by decide)]
    exact key j k (Or.inr ⟨rfl, rfl⟩)
  · rw [if_pos rfl]
    exact key k j (Or.inl ⟨rfl, rfl⟩)
theorem Qd_dch {n k j : Nat} (hn : n ≤ 8) (hkj : k < j) (hj : j < n) {g : Nat → Int32} (hQ : Qd n k j g) (x : Int32) : Qd n k (j + 1) (dch x g k j) := by
  have := Qd_step hn hkj hj hQ (decide ((dst x - dst x / (2 : Int32) * (2 : Int32)) = (0 : Int32)))
  unfold dch
  by_cases h : (dst x - dst x / (2 : Int32) * (2 : Int32)) = (0 : Int32)
  · rw [decide_eq_true h, if_pos rfl] at this
    rw [if_pos h]
    exact this
  · rw [decide_eq_false h, if_neg (by decide)] at this
    rw [if_neg h]
    exact this
theorem Qd_row {n k : Nat} {g : Nat → Int32} (hQ : Qd n k n g) : Qd n (k + 1) (k + 2) g := by
  refine ⟨fun a b ha hb h => ?_, fun a b ha hb hp => hQ.2 a b ha hb ?_⟩
  · obtain ⟨q1, q2, q3⟩ := hQ.1 a b ha hb h
    refine ⟨q1, q2, ?_⟩
    unfold prc at q3 ⊢
    omega
  · unfold prc at hp ⊢
    omega
theorem Qd_T {n j : Nat} (hn : n ≤ 8) {g : Nat → Int32} (hQ : Qd n n j g) : Tn n g := by
  refine ⟨hn, fun a b ha h => ?_, fun a b ha hb hab => hQ.2 a b ha hb ?_⟩
  · by_cases hb : b < 32
    · obtain ⟨q1, q2, q3⟩ := hQ.1 a b ha hb h
      refine ⟨q1, q2, ?_⟩
      unfold prc at q3
      omega
    · rw [bt_ge (by omega)] at h; cases h
  · unfold prc
    omega
theorem lb_stb {g : Nat → Int32} {x y : Nat} (hx : x < 8) (hy : y < 8) (h : bt (g y) x = false) (a : Nat) : lb g x y a = if a = y ∧ a = x then lb g x y a else stb g x y a := by
  by_cases c : a = y ∧ a = x
  · rw [if_pos c]
  · rw [if_neg c]
    unfold lb stb
    by_cases h1 : a = y
    · rw [if_pos h1, if_neg (fun q => c ⟨h1, q⟩)]
      apply bt_ext
      intro b hb
      rw [bt_and, bt_not _ hb, bt_one (by omega) hb]
      by_cases e : b = x
      · rw [e, h1, h]; rfl
      · rw [decide_eq_false e]; simp
    · rw [if_neg h1]
theorem drawnC_v {N : Nat} (hN : 8589934592 ≤ N) {n : Nat} (h1 : 1 ≤ n) (hn : n ≤ 8) {x0 : Int32} {σ : Mem} (h4 : gI σ 4 0 = nI n) (hz : ∀ a, a < 8 → gI σ 14 a = 0) {P : Int32 × Mem → Prop} (hP : ∀ s, fr [14] [] σ s → (∀ a, a < 8 → gI s 14 a = drw n x0 a) → Tn n (drw n x0) → tot (D_drawn_K117 N s) P) : tot (it3 (D_drawn_B43 N (nI n)) N x0 (0 : Int32) σ) P := by
  refine t_it3 (fun x i s => ∃ k g, k ≤ n ∧ i = nI k ∧ fr [14] [] σ s ∧ (∀ a, a < 8 → gI s 14 a = g a) ∧ Qd n k (k + 1) g ∧ dou n (n - k) x g k = drw n x0) (fun _ i _ => n - i.toNatClampNeg) ?_ N _ _ _ ⟨0, fun _ => 0, by omega, rfl, fr_r _ _ _, hz, Qd_0 n, rfl⟩ (by rw [n0]; omega)
  rintro self x _ s ⟨k, g, hk, rfl, fs, hg, hQ, hD⟩ ih
  unfold D_drawn_B43
  refine t_if (fun h => ?_) (fun h => ?_)
  · have hkn : k = n := by
      rw [nle (by omega) (by omega)] at h
      omega
    subst hkn
    have e0 : k - k = 0 := by omega
    rw [e0] at hD
    have hD : g = drw k x0 := hD
    rw [hD] at hg hQ
    exact hP s fs hg (Qd_T hn hQ)
  · have hkn : k < n := by
      rw [nle (by omega) (by omega)] at h
      omega
    refine t_bnd ?_
    rw [nadd1]
    have em : n - k = (n - (k + 1)) + 1 := by omega
    rw [em] at hD
    refine t_it3 (fun x i s => ∃ j g, k < j ∧ j ≤ n ∧ i = nI j ∧ fr [14] [] σ s ∧ (∀ a, a < 8 → gI s 14 a = g a) ∧ Qd n k j g ∧ dou n (n - (k + 1)) (din k (n - j) x g j).1 (din k (n - j) x g j).2 (k + 1) = drw n x0) (fun _ i _ => n - i.toNatClampNeg) ?_ N _ _ _ ⟨k + 1, g, by omega, by omega, rfl, fs, hg, hQ, hD⟩ (by rw [nI_clamp (by omega)]; omega)
    rintro self2 x' _ s2 ⟨j, g2, hj1, hj, rfl, fs2, hg2, hQ2, hD2⟩ ih2
    unfold D_drawn_B55
    refine t_if (fun h2 => ?_) (fun h2 => ?_)
    · have hjn : j = n := by
        rw [nle (by omega) (by omega)] at h2
        omega
      subst hjn
      have e0 : j - j = 0 := by omega
      rw [e0] at hD2
      rw [nadd1]
      refine ih _ _ _ ⟨k + 1, g2, by omega, rfl, fs2, hg2, Qd_row hQ2, hD2⟩ ?_
      rw [nI_clamp (by omega), nI_clamp (by omega)]
      omega
    · have hjn : j < n := by
        rw [nle (by omega) (by omega)] at h2
        omega
      have em2 : n - j = (n - (j + 1)) + 1 := by omega
      rw [em2] at hD2
      have dec : n - (nI (j + 1)).toNatClampNeg < n - (nI j).toNatClampNeg := by
        rw [nI_clamp (by omega), nI_clamp (by omega)]
        omega
      have nk : bt (g2 k) j = false := by
        cases e : bt (g2 k) j
        · rfl
        · have := (hQ2.1 k j (by omega) (by omega) e).2.2
          unfold prc at this
          omega
      have nj : bt (g2 j) k = false := by
        cases e : bt (g2 j) k
        · rfl
        · have := (hQ2.1 j k (by omega) (by omega) e).2.2
          unfold prc at this
          omega
      have hQ3 := Qd_dch hn hj1 hjn hQ2 x'
      have fin : ∀ s3, fr [14] [] s2 s3 → (∀ a, a < 8 → gI s3 14 a = dch x' g2 k j a) → tot (self2 (dst x') (nI (j + 1)) s3) P := fun s3 f3 h3 => ih2 _ _ _ ⟨j + 1, _, by omega, by omega, rfl, fr_t fs2 f3, h3, hQ3, hD2⟩ dec
      refine t_bnd ?_
      rw [nadd1]
      show tot (if (dst x' - dst x' / (2 : Int32) * (2 : Int32)) = (0 : Int32) then _ else _) P
      refine t_if (fun h3 => ?_) (fun h3 => ?_)
      · refine t_ob _ (letBeatS_s (by omega) (by omega) (by omega) s2) (fun s3 ⟨h4, h5⟩ => fin s3 h4 (fun a ha => ?_))
        rw [h5, dch, if_pos h3]
        have e1 : gI s2 14 j = g2 j := hg2 j (by omega)
        rw [lb_stb (by omega) (by omega) (by rw [e1]; exact nj), if_neg (by omega)]
        unfold stb
        rw [hg2 a ha]
      · refine t_ob _ (letBeatS_s (by omega) (by omega) (by omega) s2) (fun s3 ⟨h4, h5⟩ => fin s3 h4 (fun a ha => ?_))
        rw [h5, dch, if_neg h3]
        have e1 : gI s2 14 k = g2 k := hg2 k (by omega)
        rw [lb_stb (by omega) (by omega) (by rw [e1]; exact nk), if_neg (by omega)]
        unfold stb
        rw [hg2 a ha]
theorem drawnR_v {N : Nat} (hN : 8589934592 ≤ N) {n : Nat} (h1 : 1 ≤ n) (hn : n ≤ 8) {x0 : Int32} {μ : Mem} (h0 : gI μ 1 0 = nI n) (hz : ∀ a, a < 8 → gI μ 1 (1 + a) = 0) : tot (it3 (M_drawn_B41 N (nI n)) N x0 (0 : Int32) μ) (fun q => q.1 = nI n ∧ fr [1] [] μ q.2 ∧ gI q.2 1 0 = nI n ∧ ∀ a, a < 8 → gI q.2 1 (1 + a) = drw n x0 a) := by
  refine t_it3 (fun x i s => ∃ k g, k ≤ n ∧ i = nI k ∧ fr [1] [] μ s ∧ gI s 1 0 = nI n ∧ (∀ a, a < 8 → gI s 1 (1 + a) = g a) ∧ dou n (n - k) x g k = drw n x0) (fun _ i _ => n - i.toNatClampNeg) ?_ N _ _ _ ⟨0, fun _ => 0, by omega, rfl, fr_r _ _ _, h0, hz, rfl⟩ (by rw [n0]; omega)
  rintro self x _ s ⟨k, g, hk, rfl, fs, s0', hg, hD⟩ ih
  unfold M_drawn_B41
  refine t_if (fun h => ?_) (fun h => ?_)
  · have hkn : k = n := by
      rw [nle (by omega) (by omega)] at h
      omega
    subst hkn
    have e0 : k - k = 0 := by omega
    rw [e0] at hD
    have hD : g = drw k x0 := hD
    rw [hD] at hg
    exact t_some ⟨rfl, fs, s0', hg⟩
  · have hkn : k < n := by
      rw [nle (by omega) (by omega)] at h
      omega
    refine t_bnd ?_
    rw [nadd1]
    have em : n - k = (n - (k + 1)) + 1 := by omega
    rw [em] at hD
    refine t_it3 (fun x i s => ∃ j g, k < j ∧ j ≤ n ∧ i = nI j ∧ fr [1] [] μ s ∧ gI s 1 0 = nI n ∧ (∀ a, a < 8 → gI s 1 (1 + a) = g a) ∧ dou n (n - (k + 1)) (din k (n - j) x g j).1 (din k (n - j) x g j).2 (k + 1) = drw n x0) (fun _ i _ => n - i.toNatClampNeg) ?_ N _ _ _ ⟨k + 1, g, by omega, by omega, rfl, fs, s0', hg, hD⟩ (by rw [nI_clamp (by omega)]; omega)
    rintro self2 x' _ s2 ⟨j, g2, hj1, hj, rfl, fs2, s02, hg2, hD2⟩ ih2
    unfold M_drawn_B53
    refine t_if (fun h2 => ?_) (fun h2 => ?_)
    · have hjn : j = n := by
        rw [nle (by omega) (by omega)] at h2
        omega
      subst hjn
      have e0 : j - j = 0 := by omega
      rw [e0] at hD2
      rw [nadd1]
      refine ih _ _ _ ⟨k + 1, g2, by omega, rfl, fs2, s02, hg2, hD2⟩ ?_
      rw [nI_clamp (by omega), nI_clamp (by omega)]
      omega
    · have hjn : j < n := by
        rw [nle (by omega) (by omega)] at h2
        omega
      have em2 : n - j = (n - (j + 1)) + 1 := by omega
      rw [em2] at hD2
      have dec : n - (nI (j + 1)).toNatClampNeg < n - (nI j).toNatClampNeg := by
        rw [nI_clamp (by omega), nI_clamp (by omega)]
        omega
      refine t_bnd ?_
      rw [nadd1, n1add, n1add]
      show tot (if (dst x' - dst x' / (2 : Int32) * (2 : Int32)) = (0 : Int32) then _ else _) _
      refine t_if (fun h3 => ?_) (fun h3 => ?_)
      · refine t_gd (inb_nI (by omega) (by decide)) (t_gd (inb_nI (by omega) (by decide)) ?_)
        rw [nI_clamp (by omega)]
        refine t_let (fun u eu => ih2 _ _ _ ⟨j + 1, _, by omega, by omega, rfl, by rw [eu]; exact fr_t fs2 (fr_sI (by decide)), by rw [eu, gI_sI, if_pos rfl, upd_ap, if_neg (by omega)]; exact s02, fun a ha => ?_, hD2⟩ dec)
        rw [eu, gI_sI, if_pos rfl, upd_ap, dch, if_pos h3]
        unfold stb
        by_cases c : a = k
        · rw [if_pos (by omega), if_pos c, c, hg2 k (by omega)]
        · rw [if_neg (by omega), if_neg c, hg2 a ha]
      · refine t_gd (inb_nI (by omega) (by decide)) (t_gd (inb_nI (by omega) (by decide)) ?_)
        rw [nI_clamp (by omega)]
        refine t_let (fun u eu => ih2 _ _ _ ⟨j + 1, _, by omega, by omega, rfl, by rw [eu]; exact fr_t fs2 (fr_sI (by decide)), by rw [eu, gI_sI, if_pos rfl, upd_ap, if_neg (by omega)]; exact s02, fun a ha => ?_, hD2⟩ dec)
        rw [eu, gI_sI, if_pos rfl, upd_ap, dch, if_neg h3]
        unfold stb
        by_cases c : a = j
        · rw [if_pos (by omega), if_pos c, c, hg2 j (by omega)]
        · rw [if_neg (by omega), if_neg c, hg2 a ha]
theorem forgetAll_v {N : Nat} (hN : 8589934592 ≤ N) (σ : Mem) : tot (f_Pa_forgetAll N σ) (fun s => fr [5] [16] σ s ∧ gI s 5 0 = 0 ∧ ∀ k, k < 2 → gJ s 16 k = 0) := by
  unfold f_Pa_forgetAll
  refine t_let (fun s1 e1 => ?_)
  refine t_it2 (fun i s => ∃ k, k ≤ 2 ∧ i = nI k ∧ fr [5] [16] σ s ∧ gI s 5 0 = 0 ∧ ∀ j, j < k → gJ s 16 j = 0) (fun i _ => 2 - i.toNatClampNeg) ?_ N _ _ ⟨0, by decide, rfl, by rw [e1]; exact fr_sI (by decide), by rw [e1, gI_sI, if_pos rfl, upd_ap, if_pos rfl], fun j hj => by omega⟩ (by rw [n0]; omega)
  rintro self _ s ⟨k, hk, rfl, hf, h5, hz⟩ ih
  unfold Pa_forgetAll_B7
  refine t_if (fun h => ?_) (fun h => ?_)
  · have : k = 2 := by
      rw [l2, nle (by decide) (by omega)] at h
      omega
    subst this
    exact t_some ⟨hf, h5, hz⟩
  · have hk8 : k < 2 := by
      rw [l2, nle (by decide) (by omega)] at h
      omega
    refine t_gd (inb_nI hk8 (by decide)) ?_
    rw [nI_clamp (by omega), nadd1]
    refine t_let (fun t et => ih _ _ ⟨k + 1, by omega, rfl, by rw [et]; exact fr_t hf (fr_sJ (by decide)), by rw [et, gI_sJ]; exact h5, fun j hj => ?_⟩ ?_)
    · rw [et, gJ_sJ, if_pos rfl]
      unfold vp_updL
      by_cases e : j = k
      · rw [if_pos e]
      · rw [if_neg e]
        exact hz j (by omega)
    · rw [nI_clamp (by omega), nI_clamp (by omega)]
      omega
theorem startWith_v {N : Nat} (hN : 8589934592 ≤ N) {n : Nat} {f : Nat → Int32} (hT : Tn n f) {σ : Mem} (h4 : gI σ 4 0 = nI n) (hf : ∀ a, a < 8 → gI σ 14 a = f a) : tot (f_D_startWithSpare N σ) (fun q => q.1 = nI n ∧ fr [3, 5, 13] [16] σ q.2 ∧ gI q.2 3 0 = nI n ∧ (∀ a, a < 8 → gI q.2 13 a = f a) ∧ gI q.2 5 0 = 0 ∧ ∀ k, k < 2 → gJ q.2 16 k = 0) := by
  unfold f_D_startWithSpare
  rw [packedS_s hN hT.1 h4 hf, ob_s]
  refine t_ob _ (unpackN_s hN hT σ) (fun s2 ⟨f2, w3, w13⟩ => ?_)
  refine t_ob _ (forgetAll_v hN s2) (fun s3 ⟨f3, w5, w16⟩ => ?_)
  have q3 : gI s3 3 0 = nI n := by rw [f3.1 3 (by decide)]; exact w3
  refine t_some ⟨q3, fr_t (fr_m f2 (by decide) (by decide)) (fr_m f3 (by decide) (by decide)), q3, fun a ha => ?_, w5, w16⟩
  show gI s3 13 a = f a
  rw [f3.1 13 (by decide)]
  exact w13 a ha
/-- a round begun anew in both -/
theorem Rl_new {σ μ s t : Mem} {n : Nat} {f : Nat → Int32} (hs : InvD s) (ht : InvM t) (hT : RlT s t) (hn : Tn n f) (s3 : gI s 3 0 = nI n) (s13 : ∀ a, a < 8 → gI s 13 a = f a) (s5 : gI s 5 0 = 0) (s16 : ∀ k, k < 2 → gJ s 16 k = 0) (t0 : gI t 1 0 = nI n) (t1 : ∀ a, a < 8 → gI t 1 (1 + a) = f a) (t3 : gI t 3 0 = 0) (t5 : ∀ k, k < 2 → gI t 5 k = 0) : Rl s t := ⟨hs, ht, hT, ⟨by rw [s3, t0], fun a ha => by rw [t1 a ha, s13 a ha], n, s3, Tn_c (fun a ha => (s13 a ha).symm) hn⟩, ⟨0, by decide, s5, t3, fun r hr => by omega⟩, fun k hk => Or.inl ⟨t5 k hk, s16 k hk⟩⟩
theorem st_Rl_drawn_c {N : Nat} (hN : 8589934592 ≤ N) {σ μ : Mem} (hR : Rl σ μ) (a b : Int32) : ∃ q q2 : Int32 × Mem, f_D_drawn N a b σ = some (q.1, q.2) ∧ f_M_drawn N a b μ = some (q2.1, q2.2) ∧ Rl q.2 q2.2 ∧ q.1 = q2.1 := by
  obtain ⟨s1, es1⟩ : ∃ s, s = sI μ 0 0 0 := ⟨_, rfl⟩
  obtain ⟨hR1, k0⟩ := Rl_m0 hR es1
  have o1 : (1 : Int32).toInt = 1 := by decide
  have o8 : (8 : Int32).toInt = 8 := by decide
  have o0 : (0 : Int32).toInt = 0 := by decide
  have o9 : (999999 : Int32).toInt = 999999 := by decide
  have p1 : (1 : Int64).toInt = 1 := by decide
  have p8 : (8 : Int64).toInt = 8 := by decide
  have p0 : (0 : Int64).toInt = 0 := by decide
  have p9 : (999999 : Int64).toInt = 999999 := by decide
  by_cases hv : (1 ≤ a.toInt ∧ a.toInt ≤ 8) ∧ 0 ≤ b.toInt ∧ b.toInt ≤ 999999
  · obtain ⟨n, rfl, hn1, hn8, -⟩ := rg_ex (a := 1) (b := 8) (x := a) hv.1 (by decide)
    have d1 : ¬ nI n < 1 := by rw [i_lt]; omega
    have d2 : ¬ (8 : Int32) < nI n := by rw [i_lt]; omega
    have d3 : ¬ b < 0 := by rw [i_lt]; omega
    have d4 : b ≤ 999999 := by rw [i_le]; omega
    have m1 : ¬ t_M_in (nI n).toInt64 (1 : Int64) (8 : Int64) = 0 := by rw [min_iff, i64, p1, p8, if_pos hv.1]; decide
    have m2 : ¬ t_M_in b.toInt64 (0 : Int64) (999999 : Int64) = 0 := by rw [min_iff, i64, p0, p9, if_pos hv.2]; decide
    -- the tested one
    obtain ⟨c1', ec, fc, c4, cz⟩ := clearS_s hN σ
    obtain ⟨c2', es2⟩ : ∃ s, s = sI c1' 4 0 (nI n) := ⟨_, rfl⟩
    have w4 : gI c2' 4 0 = nI n := by rw [es2, gI_sI, if_pos rfl, upd_ap, if_pos rfl]
    have wz : ∀ a, a < 8 → gI c2' 14 a = 0 := fun a ha => by rw [es2, gI_sI, if_neg (by decide)]; exact cz a ha
    have f2 : fr [4, 14] [] σ c2' := by rw [es2]; exact fr_t fc (fr_sI (by decide))
    obtain ⟨q, eq, qa, qf, q3, q13, q5, q16, qT⟩ : tot (it3 (D_drawn_B43 N (nI n)) N b (0 : Int32) c2') (fun q => q.1 = nI n ∧ fr [3, 4, 5, 13, 14] [16] σ q.2 ∧ gI q.2 3 0 = nI n ∧ (∀ a, a < 8 → gI q.2 13 a = drw n b a) ∧ gI q.2 5 0 = 0 ∧ (∀ k, k < 2 → gJ q.2 16 k = 0) ∧ Tn n (drw n b)) := by
      refine drawnC_v hN (by omega) (by omega) w4 wz (fun s fs hs hT => ?_)
      unfold D_drawn_K117
      have s4 : gI s 4 0 = nI n := by rw [fs.1 4 (by decide)]; exact w4
      refine t_ob2 (fun r u => r = nI n ∧ fr [3, 5, 13] [16] s u ∧ gI u 3 0 = nI n ∧ (∀ a, a < 8 → gI u 13 a = drw n b a) ∧ gI u 5 0 = 0 ∧ ∀ k, k < 2 → gJ u 16 k = 0) (startWith_v hN hT s4 hs) (fun r u ⟨g1, g2, g3, g4, g5, g6⟩ => t_some ⟨g1, ?_, g3, g4, g5, g6, hT⟩)
      exact fr_t (fr_m f2 (by decide) (by decide)) (fr_t (fr_m fs (by decide) (by decide)) (fr_m g2 (by decide) (by decide)))
    have eD : f_D_drawn N (nI n) b σ = some q := by
      unfold f_D_drawn
      rw [if_neg d1, if_neg d2, if_neg d3, if_pos d4, ec, ob_s, bnd_e, ← es2, eq]
    -- the reference
    obtain ⟨t2, eb, kb, b0, b3, b50, b51, bz⟩ := M_begin_s hN (a := nI n) (nI_rg (by omega) (by omega)) hR1.2.1
    obtain ⟨q2, e5, a2, f4, r0, r1⟩ := drawnR_v hN (by omega) (by omega) (x0 := b) b0 (fun a ha => bz (1 + a) (by omega) (by omega))
    have eM : f_M_drawn N (nI n) b μ = some q2 := by
      unfold f_M_drawn
      rw [bnd_e, ← es1, if_neg m1, if_neg m2, eb, ob_s, e5]
    have iD := of_tot (D_drawn_t hN hR.1) eD
    have iM := of_tot (M_drawn_t hN hR.2.1) eM
    refine ⟨q, q2, eD, eM, ?_, by rw [qa, a2]⟩
    refine Rl_new (σ := σ) (μ := μ) iD.2.1 iM.1 (RlT_f hR1.2.2.1 (qf.1 1 (by decide)) (qf.1 12 (by decide)) ?_ ?_) qT q3 q13 q5 q16 r0 r1 ?_ (fun k hk => ?_)
    · rw [f4.1 7 (by decide), kb.2.1 7 (by decide)]
    · rw [f4.1 6 (by decide), kb.2.1 6 (by decide)]
    · rw [f4.1 3 (by decide)]; exact b3
    · rw [f4.1 5 (by decide)]
      have : k = 0 ∨ k = 1 := by omega
      rcases this with e | e <;> rw [e] <;> assumption
  · refine ⟨(-1, σ), (-1, s1), ?_, ?_, hR1, rfl⟩
    · unfold f_D_drawn
      by_cases c1' : a < 1
      · rw [if_pos c1']
      · rw [if_neg c1']
        by_cases c2' : (8 : Int32) < a
        · rw [if_pos c2']
        · rw [if_neg c2']
          by_cases c3' : b < 0
          · rw [if_pos c3']
          · rw [if_neg c3', if_neg (by rw [i_lt] at c1' c2' c3'; rw [i_le]; omega)]
    · unfold f_M_drawn
      rw [bnd_e, ← es1, min_iff, min_iff, i64, i64, p1, p8, p0, p9]
      by_cases c1' : 1 ≤ a.toInt ∧ a.toInt ≤ 8
      · rw [if_pos c1', if_neg n10, if_neg (fun q => hv ⟨c1', q⟩), if_pos z00]
      · rw [if_neg c1', if_pos z00]
