/-! the full relation of the two memories; remembering -/
theorem wi_c {f g : Nat → Int32} {i x : Nat} (h : f i = g i) : ∀ k, wi f i x k = wi g i x k
  | 0 => rfl
  | k + 1 => by
    show 2 * wi f i x k + b1 (bt (f i) (i + 1 + k)) = 2 * wi g i x k + b1 (bt (g i) (i + 1 + k))
    rw [wi_c h k, h]
theorem wo_c {f g : Nat → Int32} {n : Nat} : ∀ i, (∀ a, a < i → f a = g a) → wo f n i = wo g n i
  | 0, _ => rfl
  | i + 1, h => by
    show wi f i (wo f n i) (n - (i + 1)) = wi g i (wo g n i) (n - (i + 1))
    rw [wo_c i (fun a ha => h a (by omega)), wi_c (h i (by omega))]
theorem pk_c {f g : Nat → Int32} {n : Nat} (hn : n ≤ 8) (h : ∀ a, a < 8 → f a = g a) : pk n f = pk n g := by
  unfold pk
  rw [wo_c n (fun a ha => h a (by omega))]
theorem Tn_c {f g : Nat → Int32} {n : Nat} (h : ∀ a, a < 8 → f a = g a) (hT : Tn n f) : Tn n g := by
  obtain ⟨h1, h2, h3⟩ := hT
  refine ⟨h1, fun a b ha hb => h2 a b ha (by rw [h a ha]; exact hb), fun a b ha hb hab => ?_⟩
  rw [← h a (by omega), ← h b (by omega)]
  exact h3 a b ha hb hab
def chr (c b : Int32) : Prop := b.toInt % 256 = c.toInt
def RlT (σ μ : Mem) : Prop := gI σ 1 0 = gI μ 7 0 ∧ ∀ j, chr (gI σ 12 j) (gI μ 6 j)
def RlN (σ μ : Mem) : Prop := gI σ 3 0 = gI μ 1 0 ∧ (∀ a, a < 8 → gI μ 1 (1 + a) = gI σ 13 a) ∧ ∃ n, gI σ 3 0 = nI n ∧ Tn n (gI σ 13)
/-- a row of nine is a round, and v is it packed -/
def rw9 (g : Nat → Int32) (b : Nat) (v : Int64) : Prop := ∃ m, g b = nI m ∧ Tn m (fun a => g (b + 1 + a)) ∧ v = pk m (fun a => g (b + 1 + a))
def RlU (σ μ : Mem) : Prop := ∃ u, u ≤ 10 ∧ gI σ 5 0 = nI u ∧ gI μ 3 0 = nI u ∧ ∀ r, r < u → rw9 (gI μ 2) (9 * r) (gJ σ 15 r)
def RlK (σ μ : Mem) : Prop := ∀ k, k < 2 → (gI μ 5 k = 0 ∧ gJ σ 16 k = 0) ∨ (gI μ 5 k = 1 ∧ ¬ gJ σ 16 k = 0 ∧ rw9 (gI μ 4) (9 * k) (gJ σ 16 k))
def Rl (σ μ : Mem) : Prop := InvD σ ∧ InvM μ ∧ RlT σ μ ∧ RlN σ μ ∧ RlU σ μ ∧ RlK σ μ
theorem rw9_c {g h : Nat → Int32} {b b' : Nat} {v : Int64} (e : ∀ c, c < 9 → h (b' + c) = g (b + c)) (hr : rw9 g b v) : rw9 h b' v := by
  obtain ⟨m, h2, h3, h4⟩ := hr
  have e' : ∀ a, a < 8 → (fun a => g (b + 1 + a)) a = (fun a => h (b' + 1 + a)) a := fun a ha => by
    show g (b + 1 + a) = h (b' + 1 + a)
    have := e (1 + a) (by omega)
    rw [← Nat.add_assoc, ← Nat.add_assoc] at this
    exact this.symm
  refine ⟨m, ?_, Tn_c e' h3, ?_⟩
  · have := e 0 (by decide)
    rw [Nat.add_zero, Nat.add_zero] at this
    rw [this]
    exact h2
  · rw [h4]
    exact pk_c h3.1 e'
theorem RlT_f {σ μ s t : Mem} (h : RlT σ μ) (e1 : gI s 1 = gI σ 1) (e12 : gI s 12 = gI σ 12) (e7 : gI t 7 = gI μ 7) (e6 : gI t 6 = gI μ 6) : RlT s t := by
  unfold RlT
  rw [e1, e12, e7, e6]
  exact h
theorem RlN_f {σ μ s t : Mem} (h : RlN σ μ) (e3 : gI s 3 = gI σ 3) (e13 : gI s 13 = gI σ 13) (e1 : gI t 1 = gI μ 1) : RlN s t := by
  unfold RlN
  rw [e3, e13, e1]
  exact h
theorem RlU_f {σ μ s t : Mem} (h : RlU σ μ) (e5 : gI s 5 = gI σ 5) (e15 : gJ s 15 = gJ σ 15) (e3 : gI t 3 = gI μ 3) (e2 : gI t 2 = gI μ 2) : RlU s t := by
  unfold RlU
  rw [e5, e15, e3, e2]
  exact h
theorem RlK_f {σ μ s t : Mem} (h : RlK σ μ) (e16 : gJ s 16 = gJ σ 16) (e5 : gI t 5 = gI μ 5) (e4 : gI t 4 = gI μ 4) : RlK s t := by
  unfold RlK
  rw [e16, e5, e4]
  exact h
theorem Rl_q {σ μ s t : Mem} {S J S' J' : List Nat} (h : Rl σ μ) (k1 : KD S J σ s) (k2 : KM S' J' μ t) (h1 : (1 ∉ S ∧ 3 ∉ S ∧ 5 ∉ S ∧ 12 ∉ S ∧ 13 ∉ S) ∧ 15 ∉ J ∧ 16 ∉ J) (h7 : 1 ∉ S' ∧ 2 ∉ S' ∧ 3 ∉ S' ∧ 4 ∉ S' ∧ 5 ∉ S' ∧ 6 ∉ S' ∧ 7 ∉ S') : Rl s t := by
  obtain ⟨⟨a1, a3, a5, a12, a13⟩, a15, a16⟩ := h1
  obtain ⟨b1', b2, b3, b4, b5, b6, b7⟩ := h7
  exact ⟨k1.1, k2.1, RlT_f h.2.2.1 (k1.2.1 1 a1) (k1.2.1 12 a12) (k2.2.1 7 b7) (k2.2.1 6 b6), RlN_f h.2.2.2.1 (k1.2.1 3 a3) (k1.2.1 13 a13) (k2.2.1 1 b1'), RlU_f h.2.2.2.2.1 (k1.2.1 5 a5) (k1.2.2 15 a15) (k2.2.1 3 b3) (k2.2.1 2 b2), RlK_f h.2.2.2.2.2 (k1.2.2 16 a16) (k2.2.1 5 b5) (k2.2.1 4 b4)⟩
theorem Rl_0 : Rl σ0 μ0 := by
  refine ⟨inv0, invm0, ⟨rfl, fun j => ?_⟩, ⟨rfl, fun a _ => rfl, 0, rfl, by decide, fun a b _ h => ?_, fun a b h => by omega⟩, ⟨0, by decide, rfl, rfl, fun r hr => by omega⟩, fun k _ => Or.inl ⟨rfl, rfl⟩⟩
  · have e1 : gI σ0 12 j = 0 := rfl
    have e2 : gI μ0 6 j = 0 := rfl
    unfold chr
    rw [e1, e2]
    decide
  · have e1 : gI σ0 13 a = 0 := rfl
    rw [e1, bt_0] at h
    cases h
/-- the reference remembers its row -/
theorem M_remember_v {N : Nat} (hN : 8589934592 ≤ N) {μ : Mem} (hm : InvM μ) {u : Nat} (hu : u ≤ 10) (h3 : gI μ 3 0 = nI u) : tot (f_M_remember N μ) (fun t => gI t 3 0 = nI ((if u = 10 then 9 else u) + 1) ∧ (∀ r c, r < (if u = 10 then 9 else u) → c < 9 → gI t 2 (9 * r + c) = gI μ 2 (9 * (r + (if u = 10 then 1 else 0)) + c)) ∧ ∀ c, c < 9 → gI t 2 (9 * (if u = 10 then 9 else u) + c) = gI μ 1 c) := by
  have hJ : ∀ s w, w ≤ 9 → gI s 3 0 = nI w → tot (M_remember_J53 N s) (fun t => gI t 3 0 = nI (w + 1) ∧ (∀ j, j < 9 * w → gI t 2 j = gI s 2 j) ∧ ∀ c, c < 9 → gI t 2 (9 * w + c) = gI s 1 c) := by
    intro s w hw h3
    unfold M_remember_J53
    refine t_it2 (fun i t => ∃ k, k ≤ 9 ∧ i = nI k ∧ gI t 3 0 = nI w ∧ gI t 1 = gI s 1 ∧ (∀ j, j < 9 * w → gI t 2 j = gI s 2 j) ∧ ∀ c, c < k → gI t 2 (9 * w + c) = gI s 1 c) (fun i _ => 9 - i.toNatClampNeg) ?_ _ _ _ ⟨0, by decide, rfl, h3, rfl, fun _ _ => rfl, fun c hc => by omega⟩ (by rw [n0]; omega)
    rintro self _ t ⟨k, hk, rfl, ht3, ht1, ht2, htc⟩ ih
    unfold M_remember_B55
    refine t_if (fun h => ?_) (fun h => ?_)
    · have : k = 9 := by
        rw [l9, nle (by decide) (by omega)] at h
        omega
      subst this
      unfold M_remember_K87
      rw [ht3, nadd1]
      refine t_let (fun v ev => t_some ⟨?_, fun j hj => ?_, fun c hc => ?_⟩)
      · rw [ev, gI_sI, if_pos rfl, upd_ap, if_pos rfl]
      · rw [ev, gI_sI, if_neg (by decide)]; exact ht2 j hj
      · rw [ev, gI_sI, if_neg (by decide)]; exact htc c hc
    · have hk9 : k < 9 := by
        rw [l9, nle (by decide) (by omega)] at h
        omega
      rw [ht3, l9m, nI_add]
      refine t_gd (inb_nI hk9 (by decide)) (t_gd (inb_nI (by omega) (by decide)) ?_)
      rw [nI_clamp (by omega), nI_clamp (by omega), nadd1, ht1]
      refine t_let (fun v ev => ih _ _ ⟨k + 1, by omega, rfl, ?_, ?_, fun j hj => ?_, fun c hc => ?_⟩ ?_)
      · rw [ev, gI_sI, if_neg (by decide)]; exact ht3
      · rw [ev, gI_sI, if_neg (by decide)]; exact ht1
      · rw [ev, gI_sI, if_pos rfl, upd_ap, if_neg (by omega)]; exact ht2 j hj
      · rw [ev, gI_sI, if_pos rfl, upd_ap]
        by_cases e : c = k
        · rw [if_pos (by omega), e]
        · rw [if_neg (by omega)]; exact htc c (by omega)
      · rw [nI_clamp (by omega), nI_clamp (by omega)]
        omega
  unfold f_M_remember
  by_cases h10 : u = 10
  · subst h10
    rw [h3, if_pos (by decide)]
    have e9 : nI 10 - 1 = nI 9 := by decide
    rw [e9]
    refine t_let (fun s8 e8 => ?_)
    have q3 : gI s8 3 0 = nI 9 := by rw [e8, gI_sI, if_pos rfl, upd_ap, if_pos rfl]
    have q1 : gI s8 1 = gI μ 1 := by rw [e8, gI_sI, if_neg (by decide)]
    have q2 : gI s8 2 = gI μ 2 := by rw [e8, gI_sI, if_neg (by decide)]
    refine t_it2 (fun i t => ∃ k, k ≤ 81 ∧ i = nI k ∧ gI t 3 0 = nI 9 ∧ gI t 1 = gI μ 1 ∧ ∀ j, gI t 2 j = if j < k then gI μ 2 (j + 9) else gI μ 2 j) (fun i _ => 81 - i.toNatClampNeg) ?_ _ _ _ ⟨0, by decide, rfl, q3, q1, fun j => by rw [if_neg (by omega), q2]⟩ (by rw [n0]; omega)
    rintro self _ t ⟨k, hk, rfl, ht3, ht1, ht2⟩ ih
    unfold M_remember_B21
    rw [ht3, l9m]
    refine t_if (fun h => ?_) (fun h => ?_)
    · have hk81 : k = 81 := by
        rw [nle (by decide) (by omega)] at h
        omega
      refine t_mono (hJ t 9 (by decide) ht3) (fun v ⟨v1, v2, v3⟩ => ⟨v1, fun r c hr hc => ?_, fun c hc => ?_⟩)
      · have hr : r < 9 := hr
        rw [v2 _ (by omega), ht2, if_pos (by omega)]
        show gI μ 2 (9 * r + c + 9) = gI μ 2 (9 * (r + 1) + c)
        congr 1
        omega
      · show gI v 2 (9 * 9 + c) = _
        rw [v3 c hc, ht1]
    · have hk9 : k < 81 := by
        rw [nle (by decide) (by omega)] at h
        omega
      rw [l9, nI_add]
      refine t_gd (inb_nI (by omega) (by decide)) (t_gd (inb_nI (by omega) (by decide)) ?_)
      rw [nI_clamp (by omega), nI_clamp (by omega), nadd1]
      refine t_let (fun v ev => ih _ _ ⟨k + 1, by omega, rfl, ?_, ?_, fun j => ?_⟩ ?_)
      · rw [ev, gI_sI, if_neg (by decide)]; exact ht3
      · rw [ev, gI_sI, if_neg (by decide)]; exact ht1
      · rw [ev, gI_sI, if_pos rfl, upd_ap]
        by_cases e : j = k
        · rw [if_pos e, if_pos (by omega), ht2, if_neg (by omega), e]
        · rw [if_neg e, ht2]
          by_cases e2 : j < k
          · rw [if_pos e2, if_pos (by omega)]
          · rw [if_neg e2, if_neg (by omega)]
      · rw [nI_clamp (by omega), nI_clamp (by omega)]
        omega
  · rw [h3, if_neg (fun e => h10 (nI_inj (by omega) (by omega) (e.trans (by rfl : (10 : Int32) = nI 10)))), if_neg h10, if_neg h10]
    refine t_mono (hJ μ u (by omega) h3) (fun v ⟨v1, v2, v3⟩ => ⟨v1, fun r c hr hc => ?_, v3⟩)
    rw [v2 _ (by omega)]
    rfl
/-- the tested one remembers a packed round -/
theorem Pa_remember_v {v : Int64} {σ : Mem} {u : Nat} (hu : u ≤ 10) (h5 : gI σ 5 0 = nI u) : tot (f_Pa_remember v σ) (fun s => fr [5] [15] σ s ∧ gI s 5 0 = nI ((if u = 10 then 9 else u) + 1) ∧ (∀ r, r < (if u = 10 then 9 else u) → gJ s 15 r = gJ σ 15 (r + (if u = 10 then 1 else 0))) ∧ gJ s 15 (if u = 10 then 9 else u) = v) := by
  have hJ : ∀ s w, w ≤ 9 → gI s 5 0 = nI w → tot (Pa_remember_J34 v s) (fun t => fr [5] [15] s t ∧ gI t 5 0 = nI (w + 1) ∧ (∀ r, r < w → gJ t 15 r = gJ s 15 r) ∧ gJ t 15 w = v) := by
    intro s w hw h5
    unfold Pa_remember_J34
    rw [h5]
    refine t_gd (inb_nI (by omega) (by decide)) ?_
    rw [nI_clamp (by omega)]
    refine t_let (fun s2 e2 => ?_)
    have q5 : gI s2 5 0 = nI w := by rw [e2, gI_sJ]; exact h5
    rw [q5, nadd1]
    refine t_let (fun s3 e3 => t_some ⟨?_, ?_, fun r hr => ?_, ?_⟩)
    · rw [e3, e2]; exact fr_t (fr_sJ (by decide)) (fr_sI (by decide))
    · rw [e3, gI_sI, if_pos rfl, upd_ap, if_pos rfl]
    · rw [e3, gJ_sI, e2, gJ_sJ, if_pos rfl]
      unfold vp_updL
      rw [if_neg (by omega)]
    · rw [e3, gJ_sI, e2, gJ_sJ, if_pos rfl]
      unfold vp_updL
      rw [if_pos rfl]
  unfold f_Pa_remember
  by_cases h10 : u = 10
  · subst h10
    rw [h5, if_pos (by decide)]
    refine t_let (fun s4 e4 => ?_)
    have q5 : gI s4 5 0 = nI 10 := by rw [e4, gI_cJ]; exact h5
    have e9 : nI 10 - 1 = nI 9 := by decide
    rw [q5, e9]
    refine t_let (fun s5 e5 => ?_)
    have w5 : gI s5 5 0 = nI 9 := by rw [e5, gI_sI, if_pos rfl, upd_ap, if_pos rfl]
    refine t_mono (hJ s5 9 (by decide) w5) (fun t ⟨t1, t2, t3, t4⟩ => ⟨?_, t2, fun r hr => ?_, t4⟩)
    · refine fr_t ?_ t1
      rw [e5, e4]
      exact fr_t (fr_cJ (by decide)) (fr_sI (by decide))
    · have hr : r < 9 := hr
      rw [t3 r hr, e5, gJ_sI, e4, gJ_cJ, if_pos rfl]
      show va_cpy (gJ σ 15) (gJ σ 15) 1 0 9 r = gJ σ 15 (r + 1)
      unfold va_cpy
      rw [if_pos (by omega)]
      congr 1
      omega
  · rw [h5, if_neg (fun e => h10 (nI_inj (by omega) (by omega) (e.trans (by rfl : (10 : Int32) = nI 10)))), if_neg h10, if_neg h10]
    exact hJ σ u (by omega) h5
