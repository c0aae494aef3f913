/-! reading an arrow: both read alike -/
theorem wrong_e {x : Int32} {t : Mem} : f_M_wrong x t = some (sI (sI t 9 0 (if gI t 10 0 = 0 then gI t 9 0 else x)) 10 0 0) := by
  unfold f_M_wrong
  by_cases h : gI t 10 0 = 0
  · rw [if_pos h, if_pos h]; rfl
  · rw [if_neg h, if_neg h]; rfl
theorem wrong_v {x : Int32} {t : Mem} : ∃ t', f_M_wrong x t = some t' ∧ fr [9, 10] [] t t' ∧ gI t' 10 0 = 0 ∧ gI t' 9 0 = (if gI t 10 0 = 0 then gI t 9 0 else x) := by
  refine ⟨_, wrong_e, fr_t (fr_sI (by decide)) (fr_sI (by decide)), ?_, ?_⟩
  · rw [gI_sI, if_pos rfl, upd_ap, if_pos rfl]
  · rw [gI_sI, if_neg (by decide), gI_sI, if_pos rfl, upd_ap, if_pos rfl]
theorem takes_b {N : Nat} (hN : 8589934592 ≤ N) {s t : Mem} {len p : Nat} (h : tx len s t) (hp : p ≤ len) (h2 : gI s 2 0 = nI p) (h8 : gI t 8 0 = nI p) (hg : gI t 10 0 = 1) {k : Nat} (hk1 : 1 ≤ k) (hk : k < 128) : ∃ r p' s' t', p ≤ p' ∧ p' ≤ len ∧ f_Sg_next N s = some (r, s') ∧ fr [2] [] s s' ∧ gI s' 2 0 = nI p' ∧ fr [8] [] t t' ∧ ((r = nI k ∧ p' < len ∧ f_M_takes N (nI k) t = some (1, t') ∧ gI t' 8 0 = nI (p' + 1)) ∨ (¬ r = nI k ∧ f_M_takes N (nI k) t = some (0, t') ∧ gI t' 8 0 = nI p')) := by
  obtain ⟨p', s', t', g1, g2, e1, e2, f1, f2, v1, v2⟩ := next_b hN h hp h2 h8
  have hl := h.1
  have hg0 : ¬ gI t 10 0 = 0 := by rw [hg]; decide
  have t7 : gI t' 7 0 = nI len := by rw [f2.1 7 (by decide)]; exact h.2.2.1
  have h30 : M_takes_J30 t' = some (0, sI t' 8 0 (nI p')) := by
    unfold M_takes_J30 M_takes_J31
    rw [if_pos z00]
    unfold M_takes_J46
    rw [v2, Int32.add_zero]
    rfl
  rcases sign_at (p := p') h hk1 hk with ⟨q1, q2, q3⟩ | ⟨q1, q2⟩
  · refine ⟨_, p', s', sI t' 8 0 (nI (p' + 1)), g1, g2, e1, f1, v1, fr_t f2 (fr_sI (by decide)), Or.inl ⟨q1, q2, ?_, ?_⟩⟩
    · unfold f_M_takes
      rw [if_neg hg0, e2, ob2_s, if_pos q3, t7, v2, if_neg (by rw [nle (by omega) (by omega)]; omega)]
      unfold M_takes_J31
      rw [if_neg n10]
      unfold M_takes_J46
      rw [v2, nadd1]
      rfl
    · rw [gI_sI, if_pos rfl, upd_ap, if_pos rfl]
  · refine ⟨_, p', s', sI t' 8 0 (nI p'), g1, g2, e1, f1, v1, fr_t f2 (fr_sI (by decide)), Or.inr ⟨q1, ?_, ?_⟩⟩
    · unfold f_M_takes
      rw [if_neg hg0, e2, ob2_s, if_neg q2, h30]
    · rw [gI_sI, if_pos rfl, upd_ap, if_pos rfl]
/-- the draft of both, so far -/
def dra (s t : Mem) : Prop := (∀ a, a < 8 → gI s 14 a = gI t 12 a) ∧ (∀ a b, a < 8 → b < 8 → bt (gI t 11 a) b = (bt (gI t 12 a) b || bt (gI t 12 b) a)) ∧ (∀ a b, a < 8 → bt (gI t 12 a) b = true → b < 8 ∧ a ≠ b ∧ bt (gI t 12 b) a = false) ∧ ∃ y, y ≤ 8 ∧ gI s 4 0 = nI y ∧ (∀ a b, a < 8 → b < 8 → bt (gI t 11 a) b = true → a < y) ∧ (0 < y → ∃ b, b < 8 ∧ bt (gI t 11 (y - 1)) b = true)
theorem dra_f {s t s' t' : Mem} (h : dra s t) (e4 : gI s' 4 = gI s 4) (e14 : gI s' 14 = gI s 14) (e11 : gI t' 11 = gI t 11) (e12 : gI t' 12 = gI t 12) : dra s' t' := by
  unfold dra
  rw [e4, e14, e11, e12]
  exact h
def rdg (len p : Nat) (s t : Mem) : Prop := tx len s t ∧ p ≤ len ∧ gI s 2 0 = nI p ∧ gI t 8 0 = nI p ∧ gI t 10 0 = 1 ∧ dra s t
theorem told_e {s t : Mem} (h : dra s t) {a b : Nat} (ha : a < 8) (hb : b < 8) : f_Du_isToldS (nI a) (nI b) s = some (if bt (gI t 11 a) b = true then 1 else 0) := by
  have i1 : f_Du_isBeatingS (nI a) (nI b) s = some (if bt (gI t 12 a) b = true then 1 else 0) := by
    unfold f_Du_isBeatingS
    rw [gd_t (inb_nI ha (by decide)), nI_clamp (by omega), shr1 (by omega), h.1 a ha]
    cases bt (gI t 12 a) b
    · rw [if_neg (by decide)]; rfl
    · rw [if_pos (by decide)]; rfl
  have i2 : f_Du_isBeatingS (nI b) (nI a) s = some (if bt (gI t 12 b) a = true then 1 else 0) := by
    unfold f_Du_isBeatingS
    rw [gd_t (inb_nI hb (by decide)), nI_clamp (by omega), shr1 (by omega), h.1 b hb]
    cases bt (gI t 12 b) a
    · rw [if_neg (by decide)]; rfl
    · rw [if_pos (by decide)]; rfl
  unfold f_Du_isToldS
  rw [i1, ob_s, i2, h.2.1 a b ha hb]
  cases bt (gI t 12 a) b
  · cases bt (gI t 12 b) a <;> rfl
  · cases bt (gI t 12 b) a <;> rfl
theorem J29_bad {N : Nat} {r : Int32} {a : Nat} (ha : a < 8) (hr : r = nI a) {t : Mem} (hg : gI t 10 0 = 0) : ∃ t', M_readPair_J29 N r t = some t' ∧ fr [9, 10] [] t t' ∧ gI t' 10 0 = 0 ∧ gI t' 9 0 = gI t 9 0 := by
  obtain ⟨t', e, f, q10, q9⟩ := wrong_v (x := gI t 8 0) (t := t)
  refine ⟨t', ?_, f, q10, by rw [q9, if_pos hg]⟩
  unfold M_readPair_J29
  have e1 : f_M_isLetterNext N t = some (0, t) := by
    unfold f_M_isLetterNext
    rw [if_pos hg]
  rw [e1, ob2_s, bnd_e, if_pos z00]
  unfold M_readPair_J51
  rw [if_pos z00]
  unfold M_readPair_J77
  rw [e, ob_s]
  unfold M_readPair_J82
  rw [if_pos q10]
theorem letter_e {N : Nat} {t t' : Mem} {a p' : Nat} (ha : a < 8) (hp : p' < 300) (e : f_M_isLetterNext N t = some (1, t')) (h8 : gI t' 8 0 = nI p') (h6 : gI t' 6 p' = nI (97 + a)) : f_M_letter N t = some (nI a, sI t' 8 0 (nI (p' + 1))) := by
  unfold f_M_letter
  rw [e, ob2_s, if_neg n10, h8, nadd1, bnd_e]
  have q : gI (sI t' 8 0 (nI (p' + 1))) 8 0 = nI (p' + 1) := by rw [gI_sI, if_pos rfl, upd_ap, if_pos rfl]
  have q6 : gI (sI t' 8 0 (nI (p' + 1))) 6 = gI t' 6 := by rw [gI_sI, if_neg (by decide)]
  rw [q, nsub1' (by omega), gd_t (inb_nI (by omega) (by decide)), nI_clamp (by omega), q6]
  have e2 : p' + 1 - 1 = p' := by omega
  have e3 : (97 : Int32) = nI 97 := rfl
  rw [e2, h6, e3, pk_sub (by omega)]
  congr 3
  omega
theorem letter_no {N : Nat} {t t' : Mem} (e : f_M_isLetterNext N t = some (0, t')) : ∃ u, f_M_letter N t = some (0, u) ∧ fr [9, 10] [] t' u ∧ gI u 10 0 = 0 ∧ gI u 9 0 = (if gI t' 10 0 = 0 then gI t' 9 0 else gI t' 8 0) := by
  obtain ⟨u, e2, f, q10, q9⟩ := wrong_v (x := gI t' 8 0) (t := t')
  refine ⟨u, ?_, f, q10, q9⟩
  unfold f_M_letter
  rw [e, ob2_s, if_pos z00, e2, ob_s]
theorem max_e {x y : Nat} (hx : x < 8) (hy : y < 8) {z : Nat} (hz : z ≤ 8) : (if nI z < (if nI x < nI y then nI y else nI x) + (1 : Int32) then (if nI x < nI y then nI y else nI x) + (1 : Int32) else nI z) = nI (max z (max x y + 1)) := by
  have e1 : (if nI x < nI y then nI y else nI x) = nI (max x y) := by
    by_cases c : x < y
    · rw [if_pos ((nlt (by omega) (by omega)).mpr c)]
      congr 1; omega
    · rw [if_neg (fun q => c ((nlt (by omega) (by omega)).mp q))]
      congr 1; omega
  rw [e1, nadd1]
  by_cases c : z < max x y + 1
  · rw [if_pos ((nlt (by omega) (by omega)).mpr c)]
    congr 1; omega
  · rw [if_neg (fun q => c ((nlt (by omega) (by omega)).mp q))]
    congr 1; omega
/-- an arrow told in both -/
theorem dra_add {s t s' t' : Mem} {x y : Nat} (hx : x < 8) (hy : y < 8) (hxy : x ≠ y) (h : dra s t) (hn : bt (gI t 11 x) y = false) (e14 : ∀ i, gI s' 14 i = lb (gI s 14) x y i) (e4 : ∀ z, gI s 4 0 = nI z → z ≤ 8 → gI s' 4 0 = nI (max z (max x y + 1))) (e12 : ∀ i, gI t' 12 i = stb (gI t 12) x y i) (e11 : ∀ i, i < 8 → ∀ b, b < 8 → bt (gI t' 11 i) b = (bt (gI t 11 i) b || decide (i = x ∧ b = y) || decide (i = y ∧ b = x))) : dra s' t' := by
  obtain ⟨d1, d2, d3, z, hz, d4, d5, d6⟩ := h
  have nt := d2 x y hx hy
  rw [hn] at nt
  have n1 : bt (gI t 12 x) y = false := by
    cases e : bt (gI t 12 x) y
    · rfl
    · rw [e, Bool.true_or] at nt; cases nt
  have n2 : bt (gI t 12 y) x = false := by
    cases e : bt (gI t 12 y) x
    · rfl
    · rw [e, Bool.or_true] at nt; cases nt
  have ny : bt (gI s 14 y) x = false := by rw [d1 y hy]; exact n2
  have b12 : ∀ a b, b < 32 → bt (gI t' 12 a) b = (bt (gI t 12 a) b || decide (a = x ∧ b = y)) := fun a b hb => by rw [e12, stb_bt hy hb]
  refine ⟨fun a ha => ?_, fun a b ha hb => ?_, fun a b ha hb => ?_, max z (max x y + 1), by omega, e4 z d4 hz, fun a b ha hb q => ?_, fun _ => ?_⟩
  · rw [e14, e12, lb_stb hx hy ny, if_neg (by omega)]
    unfold stb
    rw [d1 a ha]
  · rw [e11 a ha b hb, b12 a b (by omega), b12 b a (by omega), d2 a b ha hb]
    by_cases c1 : a = x ∧ b = y
    · have c2 : ¬ (a = y ∧ b = x) := by omega
      have c3 : ¬ (b = x ∧ a = y) := by omega
      rw [decide_eq_true c1, decide_eq_false c2, decide_eq_false c3]
      cases bt (gI t 12 a) b <;> cases bt (gI t 12 b) a <;> rfl
    · by_cases c2 : a = y ∧ b = x
      · rw [decide_eq_false c1, decide_eq_true c2, decide_eq_true (show b = x ∧ a = y from ⟨c2.2, c2.1⟩)]
        cases bt (gI t 12 a) b <;> cases bt (gI t 12 b) a <;> rfl
      · rw [decide_eq_false c1, decide_eq_false c2, decide_eq_false (show ¬ (b = x ∧ a = y) from fun q => c2 ⟨q.2, q.1⟩)]
        cases bt (gI t 12 a) b <;> cases bt (gI t 12 b) a <;> rfl
  · by_cases hb32 : b < 32
    · rw [b12 a b hb32] at hb
      rcases Bool.or_eq_true_iff.mp hb with q | q
      · obtain ⟨q1, q2, q3⟩ := d3 a b ha q
        refine ⟨q1, q2, ?_⟩
        rw [b12 b a (by omega), q3, Bool.false_or]
        refine decide_eq_false (fun w => ?_)
        have : bt (gI t 12 y) x = true := by rw [← w.1, ← w.2]; exact q
        rw [n2] at this
        cases this
      · have q := of_decide_eq_true q
        refine ⟨by omega, by omega, ?_⟩
        rw [b12 b a (by omega), q.1, q.2, n2, Bool.false_or]
        exact decide_eq_false (by omega)
    · rw [bt_ge (by omega)] at hb; cases hb
  · rw [e11 a ha b hb] at q
    by_cases c1 : a = x ∧ b = y
    · omega
    · by_cases c2 : a = y ∧ b = x
      · omega
      · rw [decide_eq_false c1, decide_eq_false c2, Bool.or_false, Bool.or_false] at q
        have := d5 a b ha hb q
        omega
  · by_cases c : max x y + 1 ≤ z
    · have e : max z (max x y + 1) = z := by omega
      rw [e]
      obtain ⟨b, hb, q⟩ := d6 (by omega)
      refine ⟨b, hb, ?_⟩
      rw [e11 _ (by omega) b hb, q]; rfl
    · by_cases c2 : x < y
      · have e : max z (max x y + 1) - 1 = y := by omega
        rw [e]
        refine ⟨x, hx, ?_⟩
        rw [e11 y hy x hx, decide_eq_true (show y = y ∧ x = x from ⟨rfl, rfl⟩), Bool.or_true]
      · have e : max z (max x y + 1) - 1 = x := by omega
        rw [e]
        refine ⟨y, hy, ?_⟩
        rw [e11 x hx y hy, decide_eq_true (show x = x ∧ y = y from ⟨rfl, rfl⟩), Bool.or_true, Bool.true_or]
theorem next_here {N : Nat} (hN : 8589934592 ≤ N) {t : Mem} {len p : Nat} (hl : len ≤ 300) (hp : p < len) (h7 : gI t 7 0 = nI len) (h8 : gI t 8 0 = nI p) (hb : ¬ gI t 6 p = 32) : f_M_next N t = some (gI t 6 p, t) := by
  unfold f_M_next
  obtain ⟨M, rfl⟩ : ∃ M, N = M + 1 := ⟨N - 1, by omega⟩
  show M_next_B0 _ t = _
  unfold M_next_B0
  rw [h7, h8, if_neg (by rw [nle (by omega) (by omega)]; omega), gd_t (inb_nI (by omega) (by decide)), nI_clamp (by omega), if_neg hb]
  unfold M_next_K38
  rw [h7, h8, if_neg (by rw [nle (by omega) (by omega)]; omega), gd_t (inb_nI (by omega) (by decide)), nI_clamp (by omega)]
theorem letter_here {N : Nat} (hN : 8589934592 ≤ N) {t : Mem} {len p a : Nat} (hl : len ≤ 300) (hp : p < len) (ha : a < 8) (h7 : gI t 7 0 = nI len) (h8 : gI t 8 0 = nI p) (h6 : gI t 6 p = nI (97 + a)) (hg : gI t 10 0 = 1) : f_M_isLetterNext N t = some (1, t) := by
  have z48 : (97 : Int64).toInt = 97 := by decide
  have z57 : (104 : Int64).toInt = 104 := by decide
  have hb : ¬ gI t 6 p = 32 := fun q => by
    rw [h6] at q
    have := nI_inj (by omega) (by omega) (q.trans (by rfl : (32 : Int32) = nI 32))
    omega
  unfold f_M_isLetterNext
  rw [if_neg (show ¬ gI t 10 0 = 0 by rw [hg]; decide), next_here hN hl hp h7 h8 hb, ob2_s, h6, min_iff, i64, z48, z57, nI_toInt (by omega), if_pos (show (97 : Int) ≤ ((97 + a : Nat) : Int) ∧ ((97 + a : Nat) : Int) ≤ 104 by omega), if_neg n10, h7, h8, if_neg (by rw [nle (by omega) (by omega)]; omega)]
theorem pair_b {N : Nat} (hN : 8589934592 ≤ N) {s t : Mem} {len p : Nat} (h : rdg len p s t) : ∃ s' t', f_M_readPair N t = some t' ∧ fr [2, 4, 14] [] s s' ∧ fr [8, 9, 10, 11, 12] [] t t' ∧ ((∃ p', p + 3 ≤ p' ∧ f_D_readPair N s = some (1, s') ∧ rdg len p' s' t') ∨ (∃ p', p' ≤ len ∧ f_D_readPair N s = some (0, s') ∧ gI s' 2 0 = nI p' ∧ gI t' 10 0 = 0 ∧ gI t' 9 0 = nI p')) := by
  obtain ⟨hx, hp, h2, h8, hg, hd⟩ := h
  have hl := hx.1
  -- the first letter
  obtain ⟨p1, s1, t1, g1, g2, f1, f2, v1, v2, hc⟩ := letter_b hN hx hp h2 h8 hg
  have x1 := tx_f hx f1 f2 (by decide) (by decide)
  have t10 : gI t1 10 0 = 1 := by rw [f2.1 10 (by decide)]; exact hg
  rcases hc with ⟨a, ha, hp1, h6, eS, eL⟩ | ⟨eS, eL⟩
  · have q6 : gI t1 6 p1 = nI (97 + a) := by rw [f2.1 6 (by decide)]; exact h6
    have eLe := letter_e ha (by omega) eL v2 q6
    obtain ⟨t2, et2⟩ : ∃ u, u = sI t1 8 0 (nI (p1 + 1)) := ⟨_, rfl⟩
    rw [← et2] at eLe
    have k2 : fr [8] [] t1 t2 := by rw [et2]; exact fr_sI (by decide)
    have t28 : gI t2 8 0 = nI (p1 + 1) := by rw [et2, gI_sI, if_pos rfl, upd_ap, if_pos rfl]
    have t2g : gI t2 10 0 = 1 := by rw [k2.1 10 (by decide)]; exact t10
    obtain ⟨s3, es3⟩ : ∃ u, u = sI s1 2 0 (nI (p1 + 1)) := ⟨_, rfl⟩
    have k3 : fr [2] [] s1 s3 := by rw [es3]; exact fr_sI (by decide)
    have s32 : gI s3 2 0 = nI (p1 + 1) := by rw [es3, gI_sI, if_pos rfl, upd_ap, if_pos rfl]
    have x2 := tx_f x1 k3 k2 (by decide) (by decide)
    -- the sign between
    obtain ⟨r, p2, s4, t3, g3, g4, eN, f3, v3, f4, hc2⟩ := takes_b hN x2 (by omega) s32 t28 t2g (k := 62) (by decide) (by decide)
    have e62 : (62 : Int32) = nI 62 := rfl
    have t3g : gI t3 10 0 = 1 := by rw [f4.1 10 (by decide)]; exact t2g
    have ne1 : ¬ nI a = -1 := fun q => by
      have : (nI a).toInt = (-1 : Int32).toInt := by rw [q]
      rw [nI_toInt (by omega)] at this
      have e1 : (-1 : Int32).toInt = -1 := by decide
      omega
    have FS4 : fr [2] [] s s4 := fr_t f1 (fr_t k3 f3)
    have FT3 : fr [8] [] t t3 := fr_t f2 (fr_t k2 f4)
    rcases hc2 with ⟨r1, hp2, eT, t38⟩ | ⟨r1, eT, t38⟩
    · -- the arrow's sign is there
      obtain ⟨s6, es6⟩ : ∃ u, u = sI s4 2 0 (nI (p2 + 1)) := ⟨_, rfl⟩
      have k6 : fr [2] [] s4 s6 := by rw [es6]; exact fr_sI (by decide)
      have s62 : gI s6 2 0 = nI (p2 + 1) := by rw [es6, gI_sI, if_pos rfl, upd_ap, if_pos rfl]
      have x3 := tx_f (tx_f x2 f3 f4 (by decide) (by decide)) k6 (fr_r [] [] t3) (by decide) (by decide)
      obtain ⟨p3, s7, t4, g5, g6, f5, f6, v5, v6, hc3⟩ := letter_b hN x3 (by omega) s62 t38 t3g
      have t4g : gI t4 10 0 = 1 := by rw [f6.1 10 (by decide)]; exact t3g
      have FS7 : fr [2] [] s s7 := fr_t FS4 (fr_t k6 f5)
      have FT4 : fr [8] [] t t4 := fr_t FT3 f6
      have d4 : dra s7 t4 := dra_f hd (FS7.1 4 (by decide)) (FS7.1 14 (by decide)) (FT4.1 11 (by decide)) (FT4.1 12 (by decide))
      -- what the tested one does up to there
      have cD : ∀ {b : Int32}, f_Sg_nextLetter N s6 = some (b, s7) → f_D_readPair N s = (if b = (-1 : Int32) then (some ((0 : Int32), s7)) else (if b = nI a then (some ((0 : Int32), s7)) else (ob (f_Du_isToldS (nI a) b s7) fun r9 => if r9 = (0 : Int32) then (bnd (sI s7 2 0 ((gI s7 2 0) + (1 : Int32))) fun s10 => ob (f_Du_letBeatS (nI a) b s10) fun s11 => bnd (sI s11 4 0 (if (gI s11 4 0) < ((if nI a < b then b else nI a) + (1 : Int32)) then ((if nI a < b then b else nI a) + (1 : Int32)) else (gI s11 4 0))) fun s12 => some ((1 : Int32), s12)) else (some ((0 : Int32), s7))))) := by
        intro b eb
        unfold f_D_readPair
        rw [eS, ob2_s, if_neg ne1, v1, nadd1, bnd_e, ← es3, eN, ob2_s, if_pos (by rw [r1]; rfl), v3, nadd1, bnd_e, ← es6, eb, ob2_s]
      have cM : ∀ {o : Option Mem}, M_readPair_J29 N (nI a) t3 = o → f_M_readPair N t = o := by
        intro o eo
        unfold f_M_readPair
        rw [eLe, ob2_s, if_neg (show ¬ gI t2 10 0 = 0 by rw [t2g]; decide)]
        rw [e62, eT, ob2_s, if_neg n10, eo]
      rcases hc3 with ⟨b, hb, hp3, h63, eS3, eL3⟩ | ⟨eS3, eL3⟩
      · have q63 : gI t4 6 p3 = nI (97 + b) := by rw [f6.1 6 (by decide)]; exact h63
        have ne2 : ¬ nI b = -1 := fun q => by
          have : (nI b).toInt = (-1 : Int32).toInt := by rw [q]
          rw [nI_toInt (by omega)] at this
          have e1 : (-1 : Int32).toInt = -1 := by decide
          omega
        have t47 : gI t4 7 0 = nI len := by rw [FT4.1 7 (by decide)]; exact hx.2.2.1
        -- the reference has read its letter
        have eL4 := letter_here hN hl hp3 hb t47 v6 q63 t4g
        have eL5 := letter_e hb (by omega) eL4 v6 q63
        obtain ⟨t5, et5⟩ : ∃ u, u = sI t4 8 0 (nI (p3 + 1)) := ⟨_, rfl⟩
        rw [← et5] at eL5
        have k5 : fr [8] [] t4 t5 := by rw [et5]; exact fr_sI (by decide)
        have t5g : gI t5 10 0 = 1 := by rw [k5.1 10 (by decide)]; exact t4g
        have e29 : M_readPair_J29 N (nI a) t3 = M_readPair_J51 (nI a) 1 (nI p3) (nI b) t5 := by
          unfold M_readPair_J29
          rw [eL3, ob2_s, bnd_e, if_neg n10, eL5, ob2_s, v6]
        -- when it is wrong at the second letter
        have bad : M_readPair_J51 (nI a) 1 (nI p3) (nI b) t5 = M_readPair_J77 t5 (nI a) (nI p3) (nI b) → f_D_readPair N s = some (0, s7) → ∃ s' t', f_M_readPair N t = some t' ∧ fr [2, 4, 14] [] s s' ∧ fr [8, 9, 10, 11, 12] [] t t' ∧ ((∃ p', p + 3 ≤ p' ∧ f_D_readPair N s = some (1, s') ∧ rdg len p' s' t') ∨ (∃ p', p' ≤ len ∧ f_D_readPair N s = some (0, s') ∧ gI s' 2 0 = nI p' ∧ gI t' 10 0 = 0 ∧ gI t' 9 0 = nI p')) := by
          intro e77 eD
          obtain ⟨u, eu, fu, u10, u9⟩ := wrong_v (x := nI p3) (t := t5)
          refine ⟨s7, u, cM (by rw [e29, e77]; unfold M_readPair_J77; rw [eu, ob_s]; unfold M_readPair_J82; rw [if_pos u10]), fr_m FS7 (by decide) (by decide), fr_t (fr_m FT4 (by decide) (by decide)) (fr_t (fr_m k5 (by decide) (by decide)) (fr_m fu (by decide) (by decide))), Or.inr ⟨p3, g6, eD, v5, u10, ?_⟩⟩
          rw [u9, if_neg (show ¬ gI t5 10 0 = 0 by rw [t5g]; decide)]
        by_cases hab : a = b
        · refine bad ?_ ?_
          · unfold M_readPair_J51
            rw [if_neg n10, if_pos (by rw [hab])]
          · rw [cD eS3, if_neg ne2, if_pos (by rw [hab])]
        · have nab : ¬ nI b = nI a := fun q => hab (nI_inj (by omega) (by omega) q).symm
          have h11 : gI t5 11 a = gI t4 11 a := by rw [k5.1 11 (by decide)]
          have e51 : M_readPair_J51 (nI a) 1 (nI p3) (nI b) t5 = if t_M_has (gI t5 11 a) (nI b) = 0 then M_readPair_J82 (nI a) (nI b) t5 else M_readPair_J77 t5 (nI a) (nI p3) (nI b) := by
            unfold M_readPair_J51
            rw [if_neg n10, if_neg nab, gd_t (inb_nI ha (by decide)), nI_clamp (by omega)]
          cases ht : bt (gI t4 11 a) b
          · -- a new arrow
            rw [h11, has_bt (by omega), ht, if_pos (by decide)] at e51
            have eD0 := cD eS3
            rw [if_neg ne2, if_neg nab, told_e d4 ha hb, ht, ob_s, if_pos (by decide), v5, nadd1, bnd_e] at eD0
            obtain ⟨s10, es10⟩ : ∃ u, u = sI s7 2 0 (nI (p3 + 1)) := ⟨_, rfl⟩
            rw [← es10] at eD0
            have k10 : fr [2] [] s7 s10 := by rw [es10]; exact fr_sI (by decide)
            obtain ⟨s11, e11, k11, r11⟩ := letBeatS_s ha hb hab s10
            rw [e11, ob_s, bnd_e] at eD0
            obtain ⟨y, hy8, y4, -, -⟩ := d4.2.2.2
            have z4 : gI s11 4 0 = nI y := by rw [k11.1 4 (by decide), k10.1 4 (by decide)]; exact y4
            rw [z4, max_e ha hb hy8] at eD0
            obtain ⟨s12, es12⟩ : ∃ u, u = sI s11 4 0 (nI (max y (max a b + 1))) := ⟨_, rfl⟩
            rw [← es12] at eD0
            have k12 : fr [4] [] s11 s12 := by rw [es12]; exact fr_sI (by decide)
            -- the reference
            obtain ⟨u1, eu1⟩ : ∃ u, u = sI t5 11 a (gI t5 11 a ||| ((1 : Int32) <<< (nI b &&& 31))) := ⟨_, rfl⟩
            obtain ⟨u2, eu2⟩ : ∃ u, u = sI u1 11 b (gI u1 11 b ||| ((1 : Int32) <<< (nI a &&& 31))) := ⟨_, rfl⟩
            obtain ⟨u3, eu3⟩ : ∃ u, u = sI u2 12 a (gI u2 12 a ||| ((1 : Int32) <<< (nI b &&& 31))) := ⟨_, rfl⟩
            have e82 : M_readPair_J82 (nI a) (nI b) t5 = some u3 := by
              unfold M_readPair_J82
              rw [if_neg (show ¬ gI t5 10 0 = 0 by rw [t5g]; decide), gd_t (inb_nI ha (by decide)), gd_t (inb_nI ha (by decide)), nI_clamp (by omega), bnd_e, ← eu1, gd_t (inb_nI hb (by decide)), gd_t (inb_nI hb (by decide)), nI_clamp (by omega), bnd_e, ← eu2, gd_t (inb_nI ha (by decide)), gd_t (inb_nI ha (by decide)), bnd_e, ← eu3]
            have fu : fr [11, 12] [] t5 u3 := by
              rw [eu3, eu2, eu1]
              exact fr_t (fr_sI (by decide)) (fr_t (fr_sI (by decide)) (fr_sI (by decide)))
            have b11 : ∀ i, i < 8 → ∀ c, c < 8 → bt (gI u3 11 i) c = (bt (gI t4 11 i) c || decide (i = a ∧ c = b) || decide (i = b ∧ c = a)) := by
              intro i hi c hc
              have q1 : ∀ i, gI u1 11 i = if i = a then gI t4 11 i ||| ((1 : Int32) <<< (nI b &&& 31)) else gI t4 11 i := fun i => by
                rw [eu1, gI_sI, if_pos rfl, upd_ap, k5.1 11 (by decide)]
                by_cases e : i = a
                · rw [if_pos e, if_pos e, e]
                · rw [if_neg e, if_neg e]
              rw [eu3, gI_sI, if_neg (by decide), eu2, gI_sI, if_pos rfl, upd_ap]
              by_cases e1 : i = b
              · have e2 : ¬ (i = a ∧ c = b) := by omega
                rw [if_pos e1, q1, if_neg (by omega), bt_or, bt_one (by omega) (by omega), decide_eq_false e2, Bool.or_false, e1]
                congr 1
                by_cases e3 : c = a
                · rw [decide_eq_true e3, decide_eq_true (show b = b ∧ c = a from ⟨rfl, e3⟩)]
                · rw [decide_eq_false e3, decide_eq_false (show ¬ (b = b ∧ c = a) from fun q => e3 q.2)]
              · rw [if_neg e1, q1, decide_eq_false (show ¬ (i = b ∧ c = a) from fun q => e1 q.1), Bool.or_false]
                by_cases e3 : i = a
                · rw [if_pos e3, bt_or, bt_one (by omega) (by omega)]
                  congr 1
                  by_cases e4 : c = b
                  · rw [decide_eq_true e4, decide_eq_true (show i = a ∧ c = b from ⟨e3, e4⟩)]
                  · rw [decide_eq_false e4, decide_eq_false (show ¬ (i = a ∧ c = b) from fun q => e4 q.2)]
                · rw [if_neg e3, decide_eq_false (show ¬ (i = a ∧ c = b) from fun q => e3 q.1), Bool.or_false]
            have b12 : ∀ i, gI u3 12 i = stb (gI t4 12) a b i := by
              intro i
              have q : gI u2 12 = gI t4 12 := by rw [eu2, gI_sI, if_neg (by decide), eu1, gI_sI, if_neg (by decide), k5.1 12 (by decide)]
              rw [eu3, gI_sI, if_pos rfl, upd_ap, q]
              unfold stb
              by_cases e : i = a
              · rw [if_pos e, if_pos e, e]
              · rw [if_neg e, if_neg e]
            have FS12 : fr [2, 4, 14] [] s s12 := fr_t (fr_m FS7 (by decide) (by decide)) (fr_t (fr_m k10 (by decide) (by decide)) (fr_t (fr_m k11 (by decide) (by decide)) (fr_m k12 (by decide) (by decide))))
            have FU3 : fr [8, 9, 10, 11, 12] [] t u3 := fr_t (fr_m FT4 (by decide) (by decide)) (fr_t (fr_m k5 (by decide) (by decide)) (fr_m fu (by decide) (by decide)))
            refine ⟨s12, u3, cM (by rw [e29, e51, e82]), FS12, FU3, Or.inl ⟨p3 + 1, by omega, eD0, ?_, by omega, ?_, ?_, ?_, ?_⟩⟩
            · exact tx_f hx FS12 FU3 (by decide) (by decide)
            · rw [k12.1 2 (by decide), k11.1 2 (by decide), es10, gI_sI, if_pos rfl, upd_ap, if_pos rfl]
            · rw [fu.1 8 (by decide), et5, gI_sI, if_pos rfl, upd_ap, if_pos rfl]
            · rw [fu.1 10 (by decide)]; exact t5g
            · refine dra_add ha hb hab d4 ht (fun i => ?_) (fun z hz hz8 => ?_) b12 b11
              · rw [k12.1 14 (by decide), r11, k10.1 14 (by decide)]
              · have ez : z = y := nI_inj (by omega) (by omega) (by rw [← hz, y4])
                rw [es12, gI_sI, if_pos rfl, upd_ap, if_pos rfl, ez]
          · refine bad ?_ ?_
            · rw [e51, h11, has_bt (by omega), ht, if_neg (by decide)]
            · rw [cD eS3, if_neg ne2, if_neg nab, told_e d4 ha hb, ht, ob_s, if_neg (by decide)]
      · -- no second letter
        obtain ⟨u, eu, fu, u10, u9⟩ := wrong_v (x := nI p3) (t := t4)
        refine ⟨s7, u, cM ?_, fr_m FS7 (by decide) (by decide), fr_t (fr_m FT4 (by decide) (by decide)) (fr_m fu (by decide) (by decide)), Or.inr ⟨p3, g6, ?_, v5, u10, ?_⟩⟩
        · unfold M_readPair_J29
          rw [eL3, ob2_s, bnd_e, if_pos z00, v6]
          unfold M_readPair_J51
          rw [if_pos z00]
          unfold M_readPair_J77
          rw [eu, ob_s]
          unfold M_readPair_J82
          rw [if_pos u10]
        · rw [cD eS3, if_pos rfl]
        · rw [u9, if_neg (show ¬ gI t4 10 0 = 0 by rw [t4g]; decide)]
    · -- another sign between
      obtain ⟨u, eu, fu, u10, u9⟩ := wrong_v (x := nI p2) (t := t3)
      obtain ⟨w, ew, fw, w10, w9⟩ := J29_bad (N := N) (r := nI a) ha rfl u10
      refine ⟨s4, w, ?_, fr_m FS4 (by decide) (by decide), fr_t (fr_m FT3 (by decide) (by decide)) (fr_t (fr_m fu (by decide) (by decide)) (fr_m fw (by decide) (by decide))), Or.inr ⟨p2, g4, ?_, v3, w10, ?_⟩⟩
      · unfold f_M_readPair
        rw [eLe, ob2_s, if_neg (show ¬ gI t2 10 0 = 0 by rw [t2g]; decide), e62, eT, ob2_s, if_pos z00, t38, eu, ob_s, ew]
      · unfold f_D_readPair
        rw [eS, ob2_s, if_neg ne1, v1, nadd1, bnd_e, ← es3, eN, ob2_s, if_neg (by rw [e62]; exact r1)]
      · rw [w9, u9, if_neg (show ¬ gI t3 10 0 = 0 by rw [t3g]; decide)]
  · -- no first letter
    obtain ⟨u, eu, fu, u10, u9⟩ := letter_no eL
    obtain ⟨w, ew, fw, w10, w9⟩ := J29_bad (N := N) (r := 0) (a := 0) (by decide) rfl u10
    refine ⟨s1, w, ?_, fr_m f1 (by decide) (by decide), fr_t (fr_m f2 (by decide) (by decide)) (fr_t (fr_m fu (by decide) (by decide)) (fr_m fw (by decide) (by decide))), Or.inr ⟨p1, g2, ?_, v1, w10, ?_⟩⟩
    · unfold f_M_readPair
      rw [eu, ob2_s, if_pos u10, ew]
    · unfold f_D_readPair
      rw [eS, ob2_s, if_pos rfl]
    · rw [w9, u9, if_neg (show ¬ gI t1 10 0 = 0 by rw [t10]; decide), v2]
