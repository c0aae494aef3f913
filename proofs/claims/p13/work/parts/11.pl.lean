/-! round keeps the relation, and answers alike -/
theorem K63_t {N : Nat} (hN : 8589934592 ≤ N) {s : Mem} {P : Int32 × Mem → Prop} (h : ∀ y, y ≤ 8 → (∀ a, a < 8 → ¬ gI s 11 a = 0 → a < y) → (0 < y → ¬ gI s 11 (y - 1) = 0) → tot (M_round_K96 N s (nI y)) P) : tot (M_round_K63 N s) P := by
  unfold M_round_K63
  refine t_it2 (fun x i => ∃ y k, y ≤ k ∧ k ≤ 8 ∧ x = nI y ∧ i = nI k ∧ (∀ a, a < k → ¬ gI s 11 a = 0 → a < y) ∧ (0 < y → ¬ gI s 11 (y - 1) = 0)) (fun _ i => 8 - i.toNatClampNeg) ?_ N _ _ ⟨0, 0, by omega, by decide, rfl, rfl, fun a ha => by omega, fun q => by omega⟩ (by rw [n0]; omega)
  rintro self _ _ ⟨y, k, hyk, hk, rfl, rfl, h1, h2⟩ ih
  unfold M_round_B67
  refine t_if (fun h3 => ?_) (fun h3 => ?_)
  · have : k = 8 := by
      rw [l8, nle (by decide) (by omega)] at h3
      omega
    subst this
    exact h y hyk h1 h2
  · have hk8 : k < 8 := by
      rw [l8, nle (by decide) (by omega)] at h3
      omega
    have dec : 8 - (nI (k + 1)).toNatClampNeg < 8 - (nI k).toNatClampNeg := by
      rw [nI_clamp (by omega), nI_clamp (by omega)]
      omega
    refine t_gd (inb_nI hk8 (by decide)) ?_
    rw [nI_clamp (by omega), nadd1]
    refine t_if (fun h4 => ?_) (fun h4 => t_bnd ?_)
    · refine ih _ _ ⟨y, k + 1, by omega, by omega, rfl, rfl, fun a ha q => ?_, h2⟩ dec
      by_cases e : a = k
      · rw [e] at q; exact absurd h4 q
      · exact h1 a (by omega) q
    · refine ih _ _ ⟨k + 1, k + 1, by omega, by omega, rfl, rfl, fun a ha _ => ha, fun _ => ?_⟩ dec
      have e : k + 1 - 1 = k := by omega
      rw [e]
      exact h4
theorem J126_bad {N : Nat} {y : Int32} {w : Mem} (hg : gI w 10 0 = 0) : M_round_J126 N y w = some ((-1000 : Int32) - gI w 9 0, sI w 7 0 0) := by
  unfold M_round_J126
  have e10 : gI (sI w 7 0 0) 10 0 = 0 := by rw [gI_sI, if_neg (by decide)]; exact hg
  have e9 : gI (sI w 7 0 0) 9 0 = gI w 9 0 := by rw [gI_sI, if_neg (by decide)]
  rw [bnd_e, if_pos e10, e9]
/-- an answer that tells where it went wrong -/
def flt (f : Int32) (w : Mem) (q : Int32 × Mem) : Prop := q.1 = (-1000 : Int32) - f ∧ fr [7, 8, 9, 10, 11, 12] [] w q.2 ∧ gI q.2 7 0 = 0
theorem B47_bad {N : Nat} (hN : 8589934592 ≤ N) {n : Nat} (hn : 1 ≤ n) {w : Mem} (hg : gI w 10 0 = 0) : tot (it1 (M_round_B47 N) n w) (flt (gI w 9 0) w) := by
  obtain ⟨m, rfl⟩ : ∃ m, n = m + 1 := ⟨n - 1, by omega⟩
  show tot (M_round_B47 N _ w) _
  unfold M_round_B47
  have e : f_M_takes N (59 : Int32) w = some (0, sI w 8 0 (gI w 8 0 + 0)) := by
    unfold f_M_takes
    rw [if_pos hg]
    unfold M_takes_J30 M_takes_J31
    rw [if_pos z00]
    rfl
  rw [e, ob2_s, if_pos z00]
  obtain ⟨w2, ew⟩ : ∃ u, u = sI w 8 0 (gI w 8 0 + 0) := ⟨_, rfl⟩
  rw [← ew]
  have f2 : fr [8] [] w w2 := by rw [ew]; exact fr_sI (by decide)
  have g2 : gI w2 10 0 = 0 := by rw [f2.1 10 (by decide)]; exact hg
  refine K63_t hN (fun y _ _ _ => ?_)
  unfold M_round_K96
  rw [if_pos g2, J126_bad g2]
  refine t_some ⟨?_, ?_, ?_⟩
  · show (-1000 : Int32) - gI w2 9 0 = _
    rw [f2.1 9 (by decide)]
  · exact fr_t (fr_m f2 (by decide) (by decide)) (fr_sI (by decide))
  · show gI (sI w2 7 0 0) 7 0 = 0
    rw [gI_sI, if_pos rfl, upd_ap, if_pos rfl]
theorem drf_d {s t : Mem} (h : dra s t) : drf t := fun a ha => by
  cases e : bt (gI t 12 a) a
  · rfl
  · exact absurd rfl (h.2.2.1 a a ha e).2.1
theorem r14_d {s t : Mem} (h : dra s t) {a : Nat} (ha : a < 8) : rg 0 255 (gI s 14 a) := by
  refine rg_bt 8 (by decide) (fun j h1 h2 => ?_)
  rw [h.1 a ha]
  cases e : bt (gI t 12 a) j
  · rfl
  · have := (h.2.2.1 a j ha e).1
    omega
/-- a round begun from the draft -/
def bgn (y : Nat) (f : Nat → Int32) (w : Mem) (q : Int32 × Mem) : Prop := q.1 = nI y ∧ fr [1, 3, 5, 7, 8, 9, 10, 11, 12] [] w q.2 ∧ gI q.2 7 0 = 0 ∧ gI q.2 1 0 = nI y ∧ (∀ a, a < 8 → gI q.2 1 (1 + a) = f a) ∧ gI q.2 3 0 = 0 ∧ gI q.2 5 0 = 0 ∧ gI q.2 5 1 = 0
theorem J126_ok {N : Nat} (hN : 8589934592 ≤ N) {y : Nat} {w : Mem} (hg : gI w 10 0 = 1) : tot (M_round_J126 N (nI y) w) (bgn y (gI w 12) w) := by
  unfold M_round_J126
  refine t_let (fun s9 e9 => ?_)
  have f9 : fr [7] [] w s9 := by rw [e9]; exact fr_sI (by decide)
  have q7 : gI s9 7 0 = 0 := by rw [e9, gI_sI, if_pos rfl, upd_ap, if_pos rfl]
  refine t_if (fun q => ?_) (fun _ => ?_)
  · rw [f9.1 10 (by decide), hg] at q
    exact absurd q (by decide)
  · refine t_ob _ (begin_t (by omega) (nI y) s9) (fun s10 ⟨f10, b0, b3, b50, b51, bz⟩ => ?_)
    have g12 : gI s10 12 = gI w 12 := by rw [f10.1 12 (by decide), f9.1 12 (by decide)]
    refine t_it2 (fun i t => ∃ k, k ≤ 8 ∧ i = nI k ∧ fr [1] [] s10 t ∧ gI t 1 0 = nI y ∧ ∀ a, a < k → gI t 1 (1 + a) = gI w 12 a) (fun i _ => 8 - i.toNatClampNeg) ?_ _ _ _ ⟨0, by decide, rfl, fr_r _ _ _, b0, fun a ha => by omega⟩ (by rw [n0]; omega)
    rintro self _ t ⟨k, hk, rfl, ft, t0, ht⟩ ih
    unfold M_round_B154
    refine t_if (fun h => ?_) (fun h => ?_)
    · have : k = 8 := by
        rw [l8, nle (by decide) (by omega)] at h
        omega
      subst this
      refine t_some ⟨rfl, fr_t (fr_m f9 (by decide) (by decide)) (fr_t (fr_m f10 (by decide) (by decide)) (fr_m ft (by decide) (by decide))), ?_, t0, ht, ?_, ?_, ?_⟩
      · show gI t 7 0 = 0
        rw [ft.1 7 (by decide), f10.1 7 (by decide)]; exact q7
      · show gI t 3 0 = 0
        rw [ft.1 3 (by decide)]; exact b3
      · show gI t 5 0 = 0
        rw [ft.1 5 (by decide)]; exact b50
      · show gI t 5 1 = 0
        rw [ft.1 5 (by decide)]; exact b51
    · have hk8 : k < 8 := by
        rw [l8, nle (by decide) (by omega)] at h
        omega
      rw [n1add]
      refine t_gd (inb_nI hk8 (by decide)) (t_gd (inb_nI (by omega) (by decide)) ?_)
      rw [nI_clamp (by omega), nI_clamp (by omega), nadd1, ft.1 12 (by decide), g12]
      refine t_let (fun u eu => ih _ _ ⟨k + 1, by omega, rfl, by rw [eu]; exact fr_t ft (fr_sI (by decide)), by rw [eu, gI_sI, if_pos rfl, upd_ap, if_neg (by omega)]; exact t0, fun a ha => ?_⟩ ?_)
      · rw [eu, gI_sI, if_pos rfl, upd_ap]
        by_cases e : a = k
        · rw [if_pos (by omega), e]
        · rw [if_neg (by omega)]; exact ht a (by omega)
      · rw [nI_clamp (by omega), nI_clamp (by omega)]
        omega
theorem ne_told {s t : Mem} (hd : dra s t) (hr : ∀ a, rg 0 255 (gI t 11 a)) {y : Nat} (hy : y ≤ 8) (h1 : ∀ a, a < 8 → ¬ gI t 11 a = 0 → a < y) (h2 : 0 < y → ¬ gI t 11 (y - 1) = 0) : gI s 4 0 = nI y := by
  obtain ⟨-, -, -, z, hz, z4, d5, d6⟩ := hd
  have hzy : z = y := by
    by_cases c : z < y
    · obtain ⟨b, hb, q⟩ := bt_ne0 (hr (y - 1)) (h2 (by omega))
      have := d5 (y - 1) b (by omega) hb q
      omega
    · by_cases c2 : y < z
      · obtain ⟨b, hb, q⟩ := d6 (by omega)
        have := h1 (z - 1) (by omega) (fun e => by rw [e, bt_0] at q; cases q)
        omega
      · omega
  rw [z4, hzy]
/-- the outcome of both, from a place on -/
def outc (len : Nat) (s : Mem) (r : Int32) (s' : Mem) (o : Option (Int32 × Mem)) (w : Mem) : Prop := fr [2, 4, 14] [] s s' ∧ ((∃ f, f ≤ len ∧ r = nI f ∧ tot o (flt (nI f) w)) ∨ (r = -1 ∧ ∃ y, y ≤ 8 ∧ gI s' 4 0 = nI y ∧ Tn y (gI s' 14) ∧ tot o (bgn y (gI s' 14) w)))
theorem flt_f {f : Int32} {w v : Mem} {q : Int32 × Mem} (h : flt f v q) (hf : fr [7, 8, 9, 10, 11, 12] [] w v) : flt f w q := ⟨h.1, fr_t hf h.2.1, h.2.2⟩
theorem bgn_f {y : Nat} {g : Nat → Int32} {w v : Mem} {q : Int32 × Mem} (h : bgn y g v q) (hf : fr [7, 8, 9, 10, 11, 12] [] w v) : bgn y g w q := ⟨h.1, fr_t (fr_m hf (by decide) (by decide)) h.2.1, h.2.2⟩
theorem end_b {N : Nat} (hN : 8589934592 ≤ N) {s t : Mem} {len p : Nat} (h : rdg len p s t) (hm : InvM t) : ∃ r s', D_faultOfRound_K73 N s = some (r, s') ∧ outc len s r s' (M_round_K63 N t) t := by
  obtain ⟨hx, hp, h2, h8, hg, hd⟩ := h
  have hl := hx.1
  obtain ⟨p', s', t', g1, g2, e1, e2, f1, f2, v1, v2⟩ := next_b hN hx hp h2 h8
  have hd' : dra s' t' := dra_f hd (f1.1 4 (by decide)) (f1.1 14 (by decide)) (f2.1 11 (by decide)) (f2.1 12 (by decide))
  have hg' : gI t' 10 0 = 1 := by rw [f2.1 10 (by decide)]; exact hg
  have hg0 : ¬ gI t 10 0 = 0 := by rw [hg]; decide
  have t7 : gI t' 7 0 = nI len := by rw [f2.1 7 (by decide)]; exact hx.2.2.1
  have fF : fr [7, 8, 9, 10, 11, 12] [] t t' := fr_m f2 (by decide) (by decide)
  have wrongP : ∀ y, tot (M_round_J118 N t' (nI y)) (flt (nI p') t) := by
    intro y
    unfold M_round_J118
    obtain ⟨u, eu, fu, u10, u9⟩ := wrong_v (x := gI t' 8 0) (t := t')
    rw [eu, ob_s, J126_bad u10]
    refine t_some ⟨?_, fr_t fF (fr_t (fr_m fu (by decide) (by decide)) (fr_sI (by decide))), ?_⟩
    · show (-1000 : Int32) - gI u 9 0 = _
      rw [u9, if_neg (show ¬ gI t' 10 0 = 0 by rw [hg']; decide), v2]
    · show gI (sI u 7 0 0) 7 0 = 0
      rw [gI_sI, if_pos rfl, upd_ap, if_pos rfl]
  unfold D_faultOfRound_K73
  rw [e1, ob2_s]
  by_cases c : p' < len
  · -- more signs
    have ne : ¬ (if p' < len then gI s 12 p' else -1) = -1 := by
      rw [if_pos c]
      intro q
      have hch := hx.2.2.2.1 p'
      unfold chr at hch
      rw [q] at hch
      have e1 : (-1 : Int32).toInt = -1 := by decide
      omega
    rw [if_neg ne, v1]
    refine ⟨_, s', rfl, fr_m f1 (by decide) (by decide), Or.inl ⟨p', g2, rfl, ?_⟩⟩
    refine K63_t hN (fun y _ _ _ => ?_)
    unfold M_round_K96
    rw [if_neg hg0]
    have eE : f_M_isEnd N t = some (0, t') := by
      unfold f_M_isEnd
      rw [e2, ob2_s, v2, t7]
      by_cases c2 : (if p' < len then gI t 6 p' else 0) = 0
      · rw [if_pos c2, if_pos (by rw [nlt (by omega) (by omega)]; exact c)]
      · rw [if_neg c2]
    rw [eE, ob2_s, if_pos z00]
    exact wrongP y
  · -- the end
    have ep : p' = len := by omega
    rw [if_neg c, if_pos rfl]
    have eE : f_M_isEnd N t = some (1, t') := by
      unfold f_M_isEnd
      rw [e2, ob2_s, if_neg c, if_pos z00, v2, t7, if_neg (by rw [nlt (by omega) (by omega)]; exact c)]
    have r11 : ∀ a, rg 0 255 (gI t' 11 a) := fun a => by rw [f2.1 11 (by decide)]; exact hm.r11 a
    obtain ⟨y, hy, y4, -, -⟩ := hd'.2.2.2
    obtain ⟨ra, ea, hra⟩ := arrows_c hN hd' (fun a ha => r14_d hd' ha) hy y4
    obtain ⟨rw', ew, hrw⟩ := whole_c hN hd' r11 hy y4
    have eY : ∀ z, z ≤ 8 → (∀ a, a < 8 → ¬ gI t 11 a = 0 → a < z) → (0 < z → ¬ gI t 11 (z - 1) = 0) → z = y := by
      intro z hz q1 q2
      have := ne_told hd (fun a => hm.r11 a) hz q1 q2
      rw [f1.1 4 (by decide)] at y4
      exact nI_inj (by omega) (by omega) (by rw [← this, y4])
    rw [ea, ob_s]
    by_cases hw : whl y t'
    · rw [if_pos (hra.mpr hw)]
      refine ⟨_, s', rfl, fr_m f1 (by decide) (by decide), Or.inr ⟨rfl, y, hy, y4, whl_T hd' hy y4 hw, ?_⟩⟩
      refine K63_t hN (fun z hz q1 q2 => ?_)
      rw [eY z hz q1 q2]
      unfold M_round_K96
      have hr1 : rw' = 1 := by
        rcases hrw with ⟨-, q⟩ | ⟨q, -⟩
        · exact absurd hw q
        · exact q
      rw [if_neg hg0, eE, ob2_s, if_neg n10, ew, ob_s, hr1, if_neg n10]
      refine t_mono (J126_ok hN (y := y) hg') (fun q hq => ?_)
      obtain ⟨b1', b2', b3', b4', b5', b6', b7', b8'⟩ := hq
      exact ⟨b1', fr_t (fr_m fF (by decide) (by decide)) b2', b3', b4', fun a ha => by rw [b5' a ha, hd'.1 a ha], b6', b7', b8'⟩
    · rw [if_neg (fun q => hw (hra.mp q))]
      have s1' : gI s' 1 0 = nI len := by rw [f1.1 1 (by decide)]; exact hx.2.1
      rw [s1']
      refine ⟨_, s', rfl, fr_m f1 (by decide) (by decide), Or.inl ⟨len, Nat.le_refl _, rfl, ?_⟩⟩
      refine K63_t hN (fun z hz q1 q2 => ?_)
      rw [eY z hz q1 q2]
      unfold M_round_K96
      have hr0 : rw' = 0 := by
        rcases hrw with ⟨q, -⟩ | ⟨-, q⟩
        · exact q
        · exact absurd q hw
      rw [if_neg hg0, eE, ob2_s, if_neg n10, ew, ob_s, hr0, if_pos z00]
      rw [← ep]
      exact wrongP y
theorem outc_f {len : Nat} {s v : Mem} {r : Int32} {s' : Mem} {o : Option (Int32 × Mem)} {w u : Mem} (h : outc len v r s' o u) (h1 : fr [2, 4, 14] [] s v) (h2 : fr [7, 8, 9, 10, 11, 12] [] w u) : outc len s r s' o w := by
  obtain ⟨f, h⟩ := h
  refine ⟨fr_t h1 f, ?_⟩
  rcases h with ⟨k, k1, k2, k3⟩ | ⟨k1, y, k2, k3, k4, k5⟩
  · exact Or.inl ⟨k, k1, k2, t_mono k3 (fun q hq => flt_f hq h2)⟩
  · exact Or.inr ⟨k1, y, k2, k3, k4, t_mono k5 (fun q hq => bgn_f hq h2)⟩
theorem loop_s {N : Nat} (hN : 8589934592 ≤ N) {len m n1 n2 p i : Nat} {s t : Mem} (hn1 : m + 1 < n1) (hn2 : m + 1 < n2) (hi : 4 * i ≤ p) (h : rdg len p s t) (hM : InvM t) (REC : ∀ p' i' s' t', p < p' → p' ≤ len → 4 * i' ≤ p' → rdg len p' s' t' → InvM t' → ∃ r s'', it2 (D_faultOfRound_B17 N) (n1 - 1) (nI i') s' = some (r, s'') ∧ outc len s' r s'' (ob (f_M_readPair N t') fun s5 => it1 (M_round_B47 N) (n2 - 1) s5) t') : ∃ r s', it2 (D_faultOfRound_B17 N) n1 (nI i) s = some (r, s') ∧ outc len s r s' (ob (f_M_readPair N t) fun s5 => it1 (M_round_B47 N) n2 s5) t := by
  have hl := h.1.1
  have hp := h.2.1
  obtain ⟨k1, rfl⟩ : ∃ k, n1 = k + 1 := ⟨n1 - 1, by omega⟩
  obtain ⟨k2, rfl⟩ : ∃ k, n2 = k + 1 := ⟨n2 - 1, by omega⟩
  have e1 : k1 + 1 - 1 = k1 := by omega
  have e2 : k2 + 1 - 1 = k2 := by omega
  rw [e1, e2] at REC
  have eB : it2 (D_faultOfRound_B17 N) (k1 + 1) (nI i) s = D_faultOfRound_B17 N (it2 (D_faultOfRound_B17 N) k1) (nI i) s := rfl
  rw [eB]
  unfold D_faultOfRound_B17
  have c300 : ¬ (300 : Int32) < nI i := by rw [l300, nlt (by decide) (by omega)]; omega
  rw [if_neg c300]
  obtain ⟨s1, t1, eM, fs, ft, hc⟩ := pair_b hN h
  have kM := of_tot (M_readPair_s hN hM (drf_d h.2.2.2.2.2)) eM
  have hM1 : InvM t1 := kM.1.1
  have ft' : fr [7, 8, 9, 10, 11, 12] [] t t1 := fr_m ft (by decide) (by decide)
  rw [eM, ob_s]
  rcases hc with ⟨p1, hp1, eD, h1⟩ | ⟨p1, hp1, eD, v1, t10, t9⟩
  · rw [eD, ob2_s, if_neg n10]
    obtain ⟨r, p2, s2, t2, g3, g4, eN, f3, v3, f4, hc2⟩ := takes_b hN h1.1 h1.2.1 h1.2.2.1 h1.2.2.2.1 h1.2.2.2.2.1 (k := 59) (by decide) (by decide)
    have hM2 : InvM t2 := by
      obtain ⟨q, eq, -, kq, -⟩ := M_takes_s hN (c := nI 59) (by decide) hM1
      rcases hc2 with ⟨-, -, e, -⟩ | ⟨-, e, -⟩
      · rw [e] at eq; cases eq; exact kq.1
      · rw [e] at eq; cases eq; exact kq.1
    have x2 := tx_f h1.1 f3 f4 (by decide) (by decide)
    have t2g : gI t2 10 0 = 1 := by rw [f4.1 10 (by decide)]; exact h1.2.2.2.2.1
    have d2 : dra s2 t2 := dra_f h1.2.2.2.2.2 (f3.1 4 (by decide)) (f3.1 14 (by decide)) (f4.1 11 (by decide)) (f4.1 12 (by decide))
    have FS2 : fr [2, 4, 14] [] s s2 := fr_t fs (fr_m f3 (by decide) (by decide))
    have FT2 : fr [7, 8, 9, 10, 11, 12] [] t t2 := fr_t ft' (fr_m f4 (by decide) (by decide))
    rw [eN, ob2_s]
    have e59 : (59 : Int32) = nI 59 := rfl
    have eC : it1 (M_round_B47 N) (k2 + 1) t1 = M_round_B47 N (it1 (M_round_B47 N) k2) t1 := rfl
    rw [eC]
    unfold M_round_B47
    rw [e59]
    rcases hc2 with ⟨r1, hp2, eT, t28⟩ | ⟨r1, eT, t28⟩
    · rw [if_pos r1, eT, ob2_s, if_neg n10, v3, nadd1, bnd_e, nadd1]
      obtain ⟨s3, es3⟩ : ∃ u, u = sI s2 2 0 (nI (p2 + 1)) := ⟨_, rfl⟩
      rw [← es3]
      have k3 : fr [2] [] s2 s3 := by rw [es3]; exact fr_sI (by decide)
      have r3 : rdg len (p2 + 1) s3 t2 := ⟨tx_f x2 k3 (fr_r [] [] t2) (by decide) (by decide), by omega, by rw [es3, gI_sI, if_pos rfl, upd_ap, if_pos rfl], t28, t2g, dra_f d2 (k3.1 4 (by decide)) (k3.1 14 (by decide)) rfl rfl⟩
      obtain ⟨rr, ss, er, ho⟩ := REC (p2 + 1) (i + 1) s3 t2 (by omega) (by omega) (by omega) r3 hM2
      exact ⟨rr, ss, er, outc_f ho (fr_t FS2 (fr_m k3 (by decide) (by decide))) FT2⟩
    · rw [if_neg r1, eT, ob2_s, if_pos z00]
      unfold D_faultOfRound_K51
      obtain ⟨rr, ss, er, ho⟩ := end_b hN (s := s2) (t := t2) (len := len) (p := p2) ⟨x2, g4, v3, t28, t2g, d2⟩ hM2
      exact ⟨rr, ss, er, outc_f ho FS2 FT2⟩
  · rw [eD, ob2_s, if_pos z00, v1]
    refine ⟨_, s1, rfl, fs, Or.inl ⟨p1, hp1, rfl, ?_⟩⟩
    have := B47_bad hN (n := k2 + 1) (by omega) t10
    rw [t9] at this
    exact t_mono this (fun q hq => flt_f hq ft')
theorem loop_b {N : Nat} (hN : 8589934592 ≤ N) {len : Nat} : ∀ (m n1 n2 p i : Nat) (s t : Mem), len - p ≤ m → m + 1 < n1 → m + 1 < n2 → 4 * i ≤ p → rdg len p s t → InvM t → ∃ r s', it2 (D_faultOfRound_B17 N) n1 (nI i) s = some (r, s') ∧ outc len s r s' (ob (f_M_readPair N t) fun s5 => it1 (M_round_B47 N) n2 s5) t := by
  intro m
  induction m with
  | zero => exact fun n1 n2 p i s t hm hn1 hn2 hi h hM => loop_s hN hn1 hn2 hi h hM (fun p' i' s' t' q1 q2 _ _ _ => by omega)
  | succ m IH => exact fun n1 n2 p i s t hm hn1 hn2 hi h hM => loop_s hN hn1 hn2 hi h hM (fun p' i' s' t' q1 q2 q3 q4 q5 => IH (n1 - 1) (n2 - 1) p' i' s' t' (by omega) (by omega) (by omega) q3 q4 q5)
theorem st_Rl_round_c {N : Nat} (hN : 8589934592 ≤ N) {σ μ : Mem} (hR : Rl σ μ) : ∃ q q2 : Int32 × Mem, f_D_round N σ = some (q.1, q.2) ∧ f_M_round N μ = some (q2.1, q2.2) ∧ Rl q.2 q2.2 ∧ q.1 = q2.1 := by
  obtain ⟨len, hlen, -, hl3, -⟩ := rg_ex (hR.1.r1 0) (by decide)
  have h7 : gI μ 7 0 = nI len := by rw [← hR.2.2.1.1]; exact hlen
  -- the tested one begins
  obtain ⟨c1', ec, fc, c4, cz⟩ := clearS_s hN σ
  obtain ⟨s2, es2⟩ : ∃ s, s = sI c1' 2 0 0 := ⟨_, rfl⟩
  have f2 : fr [2, 4, 14] [] σ s2 := by rw [es2]; exact fr_t (fr_m fc (by decide) (by decide)) (fr_sI (by decide))
  -- the reference begins
  obtain ⟨m1, em1⟩ : ∃ s, s = sI μ 0 0 0 := ⟨_, rfl⟩
  obtain ⟨m2, em2⟩ : ∃ s, s = sI m1 8 0 0 := ⟨_, rfl⟩
  obtain ⟨m3, em3⟩ : ∃ s, s = sI m2 10 0 1 := ⟨_, rfl⟩
  have g3 : fr [0, 8, 10] [] μ m3 := by rw [em3, em2, em1]; exact fr_t (fr_sI (by decide)) (fr_t (fr_sI (by decide)) (fr_sI (by decide)))
  have k3 : InvM m3 := by rw [em3, em2, em1]; exact mS10 (mS8 (mS0 hR.2.1) (by decide)) (by decide)
  -- the draft is emptied
  have eM0 : ∃ m4, fr [11, 12] [] m3 m4 ∧ InvM m4 ∧ (∀ a, a < 8 → gI m4 11 a = 0 ∧ gI m4 12 a = 0) ∧ f_M_round N μ = M_round_K43 N m4 := by
    have key : ∀ d n k s, d + k = 8 → d < n → fr [11, 12] [] m3 s → InvM s → (∀ a, a < k → gI s 11 a = 0 ∧ gI s 12 a = 0) → ∃ m4, fr [11, 12] [] m3 m4 ∧ InvM m4 ∧ (∀ a, a < 8 → gI m4 11 a = 0 ∧ gI m4 12 a = 0) ∧ it2 (M_round_B17 N) n (nI k) s = M_round_K43 N m4 := by
      intro d
      induction d with
      | zero =>
        intro n k s hd hn fs ks hz
        obtain ⟨n', rfl⟩ : ∃ n', n = n' + 1 := ⟨n - 1, by omega⟩
        have : k = 8 := by omega
        subst this
        refine ⟨s, fs, ks, hz, ?_⟩
        show M_round_B17 N _ (nI 8) s = _
        unfold M_round_B17
        rw [if_pos (by decide)]
      | succ d IH =>
        intro n k s hd hn fs ks hz
        obtain ⟨n', rfl⟩ : ∃ n', n = n' + 1 := ⟨n - 1, by omega⟩
        obtain ⟨u1, eu1⟩ : ∃ u, u = sI s 11 k 0 := ⟨_, rfl⟩
        obtain ⟨u2, eu2⟩ : ∃ u, u = sI u1 12 k 0 := ⟨_, rfl⟩
        have fu : fr [11, 12] [] m3 u2 := by rw [eu2, eu1]; exact fr_t fs (fr_t (fr_sI (by decide)) (fr_sI (by decide)))
        have ku : InvM u2 := by rw [eu2, eu1]; exact mS12 (mS11 ks (by decide)) (by decide)
        obtain ⟨m4, a1, a2, a3, a4⟩ := IH n' (k + 1) u2 (by omega) (by omega) fu ku (fun a ha => by
          rw [eu2, gI_sI, if_neg (show ¬ (11 = 12) by decide), eu1, gI_sI, if_pos rfl, upd_ap, gI_sI, if_pos rfl, upd_ap, gI_sI, if_neg (show ¬ (12 = 11) by decide)]
          by_cases e : a = k
          · rw [if_pos e, if_pos e]; exact ⟨rfl, rfl⟩
          · rw [if_neg e, if_neg e]; exact hz a (by omega))
        refine ⟨m4, a1, a2, a3, ?_⟩
        show M_round_B17 N (it2 (M_round_B17 N) n') (nI k) s = _
        unfold M_round_B17
        rw [if_neg (by rw [l8, nle (by decide) (by omega)]; omega), gd_t (inb_nI (by omega) (by decide)), nI_clamp (by omega), bnd_e, ← eu1, gd_t (inb_nI (by omega) (by decide)), bnd_e, ← eu2, nadd1]
        exact a4
    obtain ⟨m4, a1, a2, a3, a4⟩ := key 8 N 0 m3 (by decide) (by omega) (fr_r _ _ _) k3 (fun a ha => by omega)
    refine ⟨m4, a1, a2, a3, ?_⟩
    unfold f_M_round
    rw [bnd_e, ← em1, bnd_e, ← em2, bnd_e, ← em3]
    exact a4
  obtain ⟨m4, g4, k4, z4, eM0⟩ := eM0
  have g4' : fr [0, 8, 10, 11, 12] [] μ m4 := fr_t (fr_m g3 (by decide) (by decide)) (fr_m g4 (by decide) (by decide))
  have hb : rdg len 0 s2 m4 := by
    refine ⟨tx_f (s := σ) (t := μ) ⟨by omega, hlen, h7, hR.2.2.1.2, fun j => hR.2.1.r6 j⟩ f2 g4' (by decide) (by decide), by omega, ?_, ?_, ?_, fun a ha => ?_, fun a b ha hb => ?_, fun a b ha q => ?_, 0, by decide, ?_, fun a b ha hb q => ?_, fun q => by omega⟩
    · rw [es2, gI_sI, if_pos rfl, upd_ap, if_pos rfl]; rfl
    · rw [g4.1 8 (by decide), em3, gI_sI, if_neg (by decide), em2, gI_sI, if_pos rfl, upd_ap, if_pos rfl]; rfl
    · rw [g4.1 10 (by decide), em3, gI_sI, if_pos rfl, upd_ap, if_pos rfl]
    · rw [(z4 a ha).2, es2, gI_sI, if_neg (by decide)]; exact cz a ha
    · rw [(z4 a ha).1, (z4 a ha).2, (z4 b hb).2, bt_0, bt_0]; rfl
    · rw [(z4 a ha).2, bt_0] at q; cases q
    · rw [es2, gI_sI, if_neg (by decide)]; exact c4
    · rw [(z4 a ha).1, bt_0] at q; cases q
  obtain ⟨r, s', eL, fo, ho⟩ := loop_b hN len N N 0 0 s2 m4 (by omega) (by omega) (by omega) (by omega) hb k4
  have eF : f_D_faultOfRound N σ = some (r, s') := by
    unfold f_D_faultOfRound
    rw [ec, ob_s, bnd_e, ← es2]
    exact eL
  have eK : M_round_K43 N m4 = (ob (f_M_readPair N m4) fun s5 => it1 (M_round_B47 N) N s5) := rfl
  rw [eK] at eM0
  have iF := of_tot (D_faultOfRound_t hN hR.1) eF
  have cut := cut0 iF.1
  obtain ⟨s6, es6⟩ : ∃ s, s = sI s' 1 0 0 := ⟨_, rfl⟩
  rw [← es6] at cut
  have f6 : fr [1, 2, 4, 14] [] σ s6 := by rw [es6]; exact fr_t (fr_m f2 (by decide) (by decide)) (fr_t (fr_m fo (by decide) (by decide)) (fr_sI (by decide)))
  have q61 : gI s6 1 0 = 0 := by rw [es6, gI_sI, if_pos rfl, upd_ap, if_pos rfl]
  rcases ho with ⟨f, hf, hr, hq⟩ | ⟨hr, y, hy, y4, hT, hq⟩
  · -- a fault
    obtain ⟨q2, e2, a1, a2, a3⟩ := hq
    have eM : f_M_round N μ = some q2 := by rw [eM0, e2]
    have nf : ¬ r = -1 := fun q => by
      rw [hr] at q
      have : (nI f).toInt = (-1 : Int32).toInt := by rw [q]
      rw [nI_toInt (by omega)] at this
      have e1 : (-1 : Int32).toInt = -1 := by decide
      omega
    have eD : f_D_round N σ = some ((-1000 : Int32) - r, s6) := by
      unfold f_D_round
      rw [eF, ob2_s, cut, ob2_s, if_neg nf]
    have iD := of_tot (D_round_t hN hR.1) eD
    have iM := of_tot (M_round_t hN hR.2.1) eM
    have fq : fr [0, 7, 8, 9, 10, 11, 12] [] μ q2.2 := fr_t (fr_m g4' (by decide) (by decide)) (fr_m a2 (by decide) (by decide))
    refine ⟨((-1000 : Int32) - r, s6), q2, eD, eM, ⟨iD.1.1, iM.1.1, ⟨by show gI s6 1 0 = _; rw [q61, a3], fun j => ?_⟩, RlN_f hR.2.2.2.1 (f6.1 3 (by decide)) (f6.1 13 (by decide)) (fq.1 1 (by decide)), RlU_f hR.2.2.2.2.1 (f6.1 5 (by decide)) (f6.2 15 (by decide)) (fq.1 3 (by decide)) (fq.1 2 (by decide)), RlK_f hR.2.2.2.2.2 (f6.2 16 (by decide)) (fq.1 5 (by decide)) (fq.1 4 (by decide))⟩, ?_⟩
    · show chr (gI s6 12 j) (gI q2.2 6 j)
      rw [f6.1 12 (by decide), fq.1 6 (by decide)]
      exact hR.2.2.1.2 j
    · show (-1000 : Int32) - r = q2.1
      rw [a1, hr]
  · -- a round
    obtain ⟨q2, e2, a1, a2, a3, a4, a5, a6, a7, a8⟩ := hq
    have eM : f_M_round N μ = some q2 := by rw [eM0, e2]
    have h64 : gI s6 4 0 = nI y := by rw [es6, gI_sI, if_neg (by decide)]; exact y4
    have h614 : ∀ a, a < 8 → gI s6 14 a = gI s' 14 a := fun a _ => by rw [es6, gI_sI, if_neg (by decide)]
    obtain ⟨q, eq, w1, w2, w3, w4, w5, w6⟩ := startWith_v hN hT h64 h614
    have eD : f_D_round N σ = some (q.1, q.2) := by
      unfold f_D_round
      rw [eF, ob2_s, cut, ob2_s, if_pos hr, eq]
      rfl
    have iD := of_tot (D_round_t hN hR.1) eD
    have iM := of_tot (M_round_t hN hR.2.1) eM
    have fq : fr [0, 1, 3, 5, 7, 8, 9, 10, 11, 12] [] μ q2.2 := fr_t (fr_m g4' (by decide) (by decide)) (fr_m a2 (by decide) (by decide))
    refine ⟨q, q2, eD, eM, Rl_new (σ := σ) (μ := μ) iD.1.1 iM.1.1 ⟨?_, fun j => ?_⟩ hT w3 w4 w5 w6 a4 a5 a6 (fun k hk => ?_), by rw [w1, a1]⟩
    · rw [w2.1 1 (by decide), q61, a3]
    · rw [w2.1 12 (by decide), f6.1 12 (by decide), fq.1 6 (by decide)]
      exact hR.2.2.1.2 j
    · have : k = 0 ∨ k = 1 := by omega
      rcases this with e | e <;> rw [e] <;> assumption
