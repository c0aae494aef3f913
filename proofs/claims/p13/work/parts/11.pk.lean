/-! a whole round read: both count alike -/
def sum8 (h : Nat → Nat) : Nat := h 0 + h 1 + h 2 + h 3 + h 4 + h 5 + h 6 + h 7
theorem sum8_sw (h : Nat → Nat → Nat) : sum8 (fun a => sum8 (fun b => h a b)) = sum8 (fun a => sum8 (fun b => h b a)) := by
  simp only [sum8]
  omega
theorem sum8_eq {f g : Nat → Nat} (hle : ∀ a, a < 8 → f a ≤ g a) (he : sum8 f = sum8 g) {a : Nat} (ha : a < 8) : f a = g a := by
  simp only [sum8] at he
  have h0 := hle 0 (by decide); have h1 := hle 1 (by decide); have h2 := hle 2 (by decide); have h3 := hle 3 (by decide)
  have h4 := hle 4 (by decide); have h5 := hle 5 (by decide); have h6 := hle 6 (by decide); have h7 := hle 7 (by decide)
  have : a = 0 ∨ a = 1 ∨ a = 2 ∨ a = 3 ∨ a = 4 ∨ a = 5 ∨ a = 6 ∨ a = 7 := by omega
  rcases this with rfl | rfl | rfl | rfl | rfl | rfl | rfl | rfl <;> omega
theorem sum8_le {f g : Nat → Nat} (hle : ∀ a, a < 8 → f a ≤ g a) : sum8 f ≤ sum8 g := by
  simp only [sum8]
  have h0 := hle 0 (by decide); have h1 := hle 1 (by decide); have h2 := hle 2 (by decide); have h3 := hle 3 (by decide)
  have h4 := hle 4 (by decide); have h5 := hle 5 (by decide); have h6 := hle 6 (by decide); have h7 := hle 7 (by decide)
  omega
theorem sum8_c {f g : Nat → Nat} (h : ∀ a, a < 8 → f a = g a) : sum8 f = sum8 g := by
  simp only [sum8]
  rw [h 0 (by decide), h 1 (by decide), h 2 (by decide), h 3 (by decide), h 4 (by decide), h 5 (by decide), h 6 (by decide), h 7 (by decide)]
theorem sum8_add (f g : Nat → Nat) : sum8 (fun a => f a + g a) = sum8 f + sum8 g := by
  simp only [sum8]
  omega
theorem pc_s (x : Int32) : pc x = sum8 (fun b => b1 (bt x b)) := rfl
theorem row_cap : ∀ y, y ≤ 8 → ∀ a, a < 8 → sum8 (fun b => b1 (decide (a < y ∧ b < y ∧ b ≠ a))) = if a < y then y - 1 else 0 := by decide
theorem all_cap : ∀ y, y ≤ 8 → sum8 (fun a => if a < y then y - 1 else 0) = 2 * (y * (y - 1) / 2) := by decide
/-- who was told against whom: all pairs of y -/
def whl (y : Nat) (t : Mem) : Prop := ∀ a b, a < y → b < y → a ≠ b → bt (gI t 11 a) b = true
theorem count_b {s t : Mem} (hd : dra s t) {y : Nat} (hy : y ≤ 8) (h4 : gI s 4 0 = nI y) : (sum8 (fun a => pc (gI t 12 a)) = y * (y - 1) / 2) ↔ whl y t := by
  obtain ⟨d1, d2, d3, z, hz, z4, d5, -⟩ := hd
  have ezy : z = y := nI_inj (by omega) (by omega) (by rw [← z4, h4])
  subst ezy
  have sy : ∀ a b, a < 8 → b < 8 → bt (gI t 11 a) b = bt (gI t 11 b) a := fun a b ha hb => by
    rw [d2 a b ha hb, d2 b a hb ha, Bool.or_comm]
  have dbl : sum8 (fun a => sum8 (fun b => b1 (bt (gI t 11 a) b))) = 2 * sum8 (fun a => pc (gI t 12 a)) := by
    have e1 : sum8 (fun a => sum8 (fun b => b1 (bt (gI t 11 a) b))) = sum8 (fun a => sum8 (fun b => b1 (bt (gI t 12 a) b) + b1 (bt (gI t 12 b) a))) := by
      refine sum8_c (fun a ha => sum8_c (fun b hb => ?_))
      show b1 (bt (gI t 11 a) b) = b1 (bt (gI t 12 a) b) + b1 (bt (gI t 12 b) a)
      rw [d2 a b ha hb]
      cases e : bt (gI t 12 a) b
      · cases bt (gI t 12 b) a <;> rfl
      · rw [(d3 a b ha e).2.2]; rfl
    rw [e1]
    have e2 : sum8 (fun a => sum8 (fun b => b1 (bt (gI t 12 a) b) + b1 (bt (gI t 12 b) a))) = sum8 (fun a => sum8 (fun b => b1 (bt (gI t 12 a) b))) + sum8 (fun a => sum8 (fun b => b1 (bt (gI t 12 b) a))) := by
      rw [← sum8_add]
      exact sum8_c (fun a _ => sum8_add _ _)
    rw [e2, ← sum8_sw (fun a b => b1 (bt (gI t 12 a) b))]
    show sum8 (fun a => pc (gI t 12 a)) + sum8 (fun a => pc (gI t 12 a)) = _
    omega
  have cell : ∀ a b, a < 8 → b < 8 → b1 (bt (gI t 11 a) b) ≤ b1 (decide (a < z ∧ b < z ∧ b ≠ a)) := by
    intro a b ha hb
    refine b1_m (fun e => decide_eq_true ⟨d5 a b ha hb e, d5 b a hb ha (by rw [← sy a b ha hb]; exact e), ?_⟩)
    rw [d2 a b ha hb] at e
    rcases Bool.or_eq_true_iff.mp e with q | q
    · exact fun w => (d3 a b ha q).2.1 w.symm
    · exact (d3 b a hb q).2.1
  have rowle : ∀ a, a < 8 → sum8 (fun b => b1 (bt (gI t 11 a) b)) ≤ (if a < z then z - 1 else 0) := by
    intro a ha
    rw [← row_cap z hy a ha]
    exact sum8_le (fun b hb => cell a b ha hb)
  have tot2 := all_cap z hy
  constructor
  · intro h a b ha hb hab
    have e1 : sum8 (fun a => sum8 (fun b => b1 (bt (gI t 11 a) b))) = sum8 (fun a => if a < z then z - 1 else 0) := by
      rw [dbl, tot2, h]
    have e2 := sum8_eq rowle e1 (a := a) (by omega)
    rw [← row_cap z hy a (by omega)] at e2
    have e3 := sum8_eq (fun b hb => cell a b (by omega) hb) e2 (a := b) (by omega)
    rw [decide_eq_true (show a < z ∧ b < z ∧ b ≠ a from ⟨ha, hb, fun q => hab q.symm⟩)] at e3
    cases e : bt (gI t 11 a) b
    · rw [e] at e3; exact absurd e3 (by decide)
    · rfl
  · intro h
    have e1 : sum8 (fun a => sum8 (fun b => b1 (bt (gI t 11 a) b))) = sum8 (fun a => if a < z then z - 1 else 0) := by
      refine sum8_c (fun a ha => ?_)
      show sum8 (fun b => b1 (bt (gI t 11 a) b)) = if a < z then z - 1 else 0
      rw [← row_cap z hy a ha]
      refine sum8_c (fun b hb => ?_)
      show b1 (bt (gI t 11 a) b) = b1 (decide (a < z ∧ b < z ∧ b ≠ a))
      by_cases c : a < z ∧ b < z ∧ b ≠ a
      · rw [decide_eq_true c, h a b c.1 c.2.1 (fun q => c.2.2 q.symm)]
      · have := cell a b ha hb
        rw [decide_eq_false c] at this ⊢
        have e0 : b1 false = 0 := rfl
        omega
    rw [dbl, tot2] at e1
    omega
theorem cnt_e : ∀ k, k < 256 → t_J_bitCount (nI k) = nI (pc (nI k)) := by decide +kernel
theorem cnt_v {x : Int32} (h : rg 0 255 x) : t_J_bitCount x = nI (pc x) := by
  obtain ⟨k, rfl, -, hk, -⟩ := rg_ex h (by decide)
  exact cnt_e k (by omega)
def psum (g : Nat → Int32) : Nat → Nat
  | 0 => 0
  | k + 1 => psum g k + pc (g k)
theorem psum_le (g : Nat → Int32) : ∀ k, psum g k ≤ 8 * k
  | 0 => Nat.le_refl _
  | k + 1 => by
    have h := psum_le g k
    have h2 := pc_8 (g k)
    show psum g k + pc (g k) ≤ _
    omega
theorem told_c {N : Nat} (hN : 8589934592 ≤ N) {s : Mem} (hr : ∀ a, a < 8 → rg 0 255 (gI s 14 a)) : f_Du_arrowsToldS N s = some (nI (sum8 (fun a => pc (gI s 14 a)))) := by
  suffices h : tot (f_Du_arrowsToldS N s) (fun r => r = nI (psum (gI s 14) 8)) by
    obtain ⟨x, e, rfl⟩ := h
    rw [e]
    congr 2
    show 0 + _ + _ + _ + _ + _ + _ + _ + _ = _
    simp only [sum8]
    omega
  unfold f_Du_arrowsToldS
  refine t_it2 (fun x i => ∃ k, k ≤ 8 ∧ i = nI k ∧ x = nI (psum (gI s 14) k)) (fun _ i => 8 - i.toNatClampNeg) ?_ N _ _ ⟨0, by decide, rfl, rfl⟩ (by rw [n0]; omega)
  rintro self _ _ ⟨k, hk, rfl, rfl⟩ ih
  unfold Du_arrowsToldS_B4
  refine t_if (fun h => ?_) (fun h => ?_)
  · have : k = 8 := by
      rw [l8, nle (by decide) (by omega)] at h
      omega
    subst this
    exact t_some rfl
  · have hk8 : k < 8 := by
      rw [l8, nle (by decide) (by omega)] at h
      omega
    refine t_gd (inb_nI hk8 (by decide)) (t_bnd ?_)
    rw [nI_clamp (by omega), cnt_v (hr k hk8), nI_add, nadd1]
    refine ih _ _ ⟨k + 1, by omega, rfl, rfl⟩ ?_
    rw [nI_clamp (by omega), nI_clamp (by omega)]
    omega
theorem arr_e : ∀ y, y ≤ 8 → ((nI y * (nI y - (1 : Int32))) / (2 : Int32)) = nI (y * (y - 1) / 2) := by decide +kernel
theorem sum8_b (g : Nat → Int32) : sum8 (fun a => pc (g a)) ≤ 64 := by
  have := sum8_le (f := fun a => pc (g a)) (g := fun _ => 8) (fun a _ => pc_8 (g a))
  exact this
theorem arrows_c {N : Nat} (hN : 8589934592 ≤ N) {s t : Mem} (hd : dra s t) (hr : ∀ a, a < 8 → rg 0 255 (gI s 14 a)) {y : Nat} (hy : y ≤ 8) (h4 : gI s 4 0 = nI y) : ∃ r, f_Du_arrowsToldS N s = some r ∧ (r = t_Du_arrowsS s ↔ whl y t) := by
  refine ⟨_, told_c hN hr, ?_⟩
  have e : sum8 (fun a => pc (gI s 14 a)) = sum8 (fun a => pc (gI t 12 a)) := sum8_c (fun a ha => by show pc (gI s 14 a) = pc (gI t 12 a); rw [hd.1 a ha])
  unfold t_Du_arrowsS
  rw [h4, arr_e y hy, e, ← count_b hd hy h4]
  have b1' := sum8_b (gI t 12)
  have b2' : y * (y - 1) / 2 ≤ 28 := by
    have : ∀ y, y ≤ 8 → y * (y - 1) / 2 ≤ 28 := by decide
    exact this y hy
  exact ⟨fun q => nI_inj (by omega) (by omega) q, fun q => by rw [q]⟩
theorem whole_c {N : Nat} (hN : 8589934592 ≤ N) {s t : Mem} (hd : dra s t) (hr : ∀ a, rg 0 255 (gI t 11 a)) {y : Nat} (hy : y ≤ 8) (h4 : gI s 4 0 = nI y) : ∃ r, f_M_isWholeRound N (nI y) t = some r ∧ ((r = 0 ∧ ¬ whl y t) ∨ (r = 1 ∧ whl y t)) := by
  obtain ⟨d1, d2, d3, z, hz, z4, d5, -⟩ := hd
  have ezy : z = y := nI_inj (by omega) (by omega) (by rw [← z4, h4])
  subst ezy
  have sy : ∀ a b, a < 8 → b < 8 → bt (gI t 11 a) b = bt (gI t 11 b) a := fun a b ha hb => by
    rw [d2 a b ha hb, d2 b a hb ha, Bool.or_comm]
  have rowe : ∀ a, a < z → ((gI t 11 a ||| ((1 : Int32) <<< (nI a &&& 31))) = ((1 : Int32) <<< (nI z &&& 31)) - 1 ↔ ∀ b, b < z → a ≠ b → bt (gI t 11 a) b = true) := by
    intro a ha
    constructor
    · intro e b hb hab
      have := congrArg (fun x => bt x b) e
      have this : bt (gI t 11 a ||| ((1 : Int32) <<< (nI a &&& 31))) b = bt (((1 : Int32) <<< (nI z &&& 31)) - 1) b := this
      rw [bt_or, bt_one (by omega) (by omega), bt_mask hz (by omega), decide_eq_true hb, decide_eq_false (fun q => hab q.symm), Bool.or_false] at this
      exact this
    · intro h
      apply bt_ext
      intro b hb
      rw [bt_or, bt_one (by omega) hb, bt_mask hz hb]
      by_cases c : b < z
      · rw [decide_eq_true c]
        by_cases c2 : b = a
        · rw [decide_eq_true c2, Bool.or_true]
        · rw [h b c (fun q => c2 q.symm), Bool.true_or]
      · rw [decide_eq_false c, decide_eq_false (show ¬ b = a by omega), Bool.or_false]
        by_cases c3 : b < 8
        · cases e : bt (gI t 11 a) b
          · rfl
          · have := d5 b a c3 (by omega) (by rw [← sy a b (by omega) c3]; exact e)
            omega
        · exact bt_hi (hr a) 8 (by decide) (by omega)
  suffices h : tot (f_M_isWholeRound N (nI z) t) (fun r => (r = 0 ∧ ¬ whl z t) ∨ (r = 1 ∧ whl z t)) by
    obtain ⟨x, e, hx⟩ := h
    exact ⟨x, e, hx⟩
  unfold f_M_isWholeRound
  refine t_it2 (fun x i => ∃ k, k ≤ z ∧ i = nI k ∧ ((x = 0 ∧ ¬ whl z t) ∨ (x = 1 ∧ ∀ a b, a < k → b < z → a ≠ b → bt (gI t 11 a) b = true))) (fun _ i => z - i.toNatClampNeg) ?_ N _ _ ⟨0, by omega, rfl, Or.inr ⟨rfl, fun a b h => by omega⟩⟩ (by rw [n0]; omega)
  rintro self x _ ⟨k, hk, rfl, hor⟩ ih
  unfold M_isWholeRound_B4
  refine t_if (fun h => ?_) (fun h => ?_)
  · have : k = z := by
      rw [nle (by omega) (by omega)] at h
      omega
    subst this
    have fx : isb x = true := by rcases hor with ⟨e, -⟩ | ⟨e, -⟩ <;> rw [e] <;> decide
    refine t_gd fx (t_some ?_)
    rcases hor with e | ⟨e, e2⟩
    · exact Or.inl e
    · exact Or.inr ⟨e, fun a b ha hb hab => e2 a b ha hb hab⟩
  · have hkz : k < z := by
      rw [nle (by omega) (by omega)] at h
      omega
    have dec : z - (nI (k + 1)).toNatClampNeg < z - (nI k).toNatClampNeg := by
      rw [nI_clamp (by omega), nI_clamp (by omega)]
      omega
    rw [nadd1]
    refine t_if (fun h0 => ?_) (fun h0 => ?_)
    · refine ih _ _ ⟨k + 1, by omega, rfl, Or.inl ⟨rfl, ?_⟩⟩ dec
      rcases hor with ⟨-, e⟩ | ⟨e, -⟩
      · exact e
      · rw [h0] at e; exact absurd e (by decide)
    · have hok : ∀ a b, a < k → b < z → a ≠ b → bt (gI t 11 a) b = true := by
        rcases hor with ⟨e, -⟩ | ⟨-, e⟩
        · exact absurd e h0
        · exact e
      refine t_gd (inb_nI (by omega) (by decide)) ?_
      rw [nI_clamp (by omega)]
      refine t_if (fun h1 => ?_) (fun h1 => ?_)
      · refine ih _ _ ⟨k + 1, by omega, rfl, Or.inr ⟨rfl, fun a b ha hb hab => ?_⟩⟩ dec
        by_cases e : a = k
        · rw [e] at hab ⊢; exact (rowe k hkz).mp h1 b hb hab
        · exact hok a b (by omega) hb hab
      · refine ih _ _ ⟨k + 1, by omega, rfl, Or.inl ⟨rfl, fun w => h1 ((rowe k hkz).mpr (fun b hb hab => w k b hkz hb hab))⟩⟩ dec
theorem whl_T {s t : Mem} (hd : dra s t) {y : Nat} (hy : y ≤ 8) (h4 : gI s 4 0 = nI y) (hw : whl y t) : Tn y (gI s 14) := by
  obtain ⟨d1, d2, d3, z, hz, z4, d5, -⟩ := hd
  have ezy : z = y := nI_inj (by omega) (by omega) (by rw [← z4, h4])
  subst ezy
  refine ⟨hy, fun a b ha h => ?_, fun a b ha hb hab => ?_⟩
  · rw [d1 a ha] at h
    obtain ⟨q1, q2, q3⟩ := d3 a b ha h
    have t1 : bt (gI t 11 a) b = true := by rw [d2 a b ha q1, h]; rfl
    have t2 : bt (gI t 11 b) a = true := by rw [d2 b a q1 ha, h, Bool.or_true]
    exact ⟨d5 a b ha q1 t1, d5 b a q1 ha t2, q2⟩
  · rw [d1 a (by omega), d1 b (by omega)]
    have := hw a b ha hb hab
    rw [d2 a b (by omega) (by omega)] at this
    cases e : bt (gI t 12 a) b
    · rw [e, Bool.false_or] at this
      rw [this]; rfl
    · rw [(d3 a b (by omega) e).2.2]; rfl
