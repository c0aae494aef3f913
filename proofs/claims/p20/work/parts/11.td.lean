/-! cups: any row of four wins as one of the three ways, and is no less than that way's row -/
def w4n (f : Nat → Int32) (p q r s : Nat) : Nat := wN f (wN f p q) (wN f r s)
theorem wN_cc {f : Nat → Int32} {n p q r s : Nat} (hT : Tn n f) (hp : p < n) (hq : q < n) (hr : r < n) (hs : s < n) (pr' : p ≠ r) (ps : p ≠ s) (qr : q ≠ r) (qs : q ≠ s) : wN f (wN f p q) (wN f r s) = wN f (wN f r s) (wN f p q) := by
  refine wN_s hT ?_ ?_ ?_
  · rcases wN_o (f := f) (x := p) (y := q) with e | e <;> rw [e] <;> assumption
  · rcases wN_o (f := f) (x := r) (y := s) with e | e <;> rw [e] <;> assumption
  · rcases wN_o (f := f) (x := p) (y := q) with e | e <;> rcases wN_o (f := f) (x := r) (y := s) with e' | e' <;> rw [e, e'] <;> assumption
theorem min4 {f : Nat → Int32} {n a b c d p q r s : Nat} (hT : Tn n f) (h8 : n ≤ 8) (ab : a < b) (bc : b < c) (cd : c < d) (dn : d < n) (hp : p = a ∨ p = b ∨ p = c ∨ p = d) (hq : q = a ∨ q = b ∨ q = c ∨ q = d) (hr : r = a ∨ r = b ∨ r = c ∨ r = d) (hs : s = a ∨ s = b ∨ s = c ∨ s = d) (pq : p ≠ q) (pr' : p ≠ r) (ps : p ≠ s) (qr : q ≠ r) (qs : q ≠ s) (rs : r ≠ s) : (w4n f p q r s = wN f (wN f a b) (wN f c d) ∧ co4 a b c d ≤ co4 p q r s) ∨ (w4n f p q r s = wN f (wN f a c) (wN f b d) ∧ co4 a c b d ≤ co4 p q r s) ∨ (w4n f p q r s = wN f (wN f a d) (wN f b c) ∧ co4 a d b c ≤ co4 p q r s) := by
  have hba := wN_s hT (by omega : b < n) (by omega : a < n) (by omega)
  have hca := wN_s hT (by omega : c < n) (by omega : a < n) (by omega)
  have hda := wN_s hT (by omega : d < n) (by omega : a < n) (by omega)
  have hcb := wN_s hT (by omega : c < n) (by omega : b < n) (by omega)
  have hdb := wN_s hT (by omega : d < n) (by omega : b < n) (by omega)
  have hdc := wN_s hT (by omega : d < n) (by omega : c < n) (by omega)
  have o0 := wN_cc hT (by omega : c < n) (by omega : d < n) (by omega : a < n) (by omega : b < n) (by omega) (by omega) (by omega) (by omega)
  have o1 := wN_cc hT (by omega : b < n) (by omega : d < n) (by omega : a < n) (by omega : c < n) (by omega) (by omega) (by omega) (by omega)
  have o2 := wN_cc hT (by omega : b < n) (by omega : c < n) (by omega : a < n) (by omega : d < n) (by omega) (by omega) (by omega) (by omega)
  unfold w4n co4
  rcases hp with hp | hp | hp | hp <;> rcases hq with hq | hq | hq | hq <;> first | exact absurd (hp.trans hq.symm) pq | skip
  all_goals (rcases hr with hr | hr | hr | hr <;> first | exact absurd (hp.trans hr.symm) pr' | exact absurd (hq.trans hr.symm) qr | skip)
  all_goals (rcases hs with hs | hs | hs | hs <;> first | exact absurd (hp.trans hs.symm) ps | exact absurd (hq.trans hs.symm) qs | exact absurd (hr.trans hs.symm) rs | skip)
  all_goals (rw [hp, hq, hr, hs])
  · exact Or.inl ⟨rfl, by omega⟩
  · exact Or.inl ⟨by rw [hdc], by omega⟩
  · exact Or.inr (Or.inl ⟨rfl, by omega⟩)
  · exact Or.inr (Or.inl ⟨by rw [hdb], by omega⟩)
  · exact Or.inr (Or.inr ⟨rfl, by omega⟩)
  · exact Or.inr (Or.inr ⟨by rw [hcb], by omega⟩)
  · exact Or.inl ⟨by rw [hba], by omega⟩
  · exact Or.inl ⟨by rw [hba, hdc], by omega⟩
  · exact Or.inr (Or.inr ⟨by rw [o2], by omega⟩)
  · exact Or.inr (Or.inr ⟨by rw [hda, o2], by omega⟩)
  · exact Or.inr (Or.inl ⟨by rw [o1], by omega⟩)
  · exact Or.inr (Or.inl ⟨by rw [hca, o1], by omega⟩)
  · exact Or.inr (Or.inl ⟨by rw [hca], by omega⟩)
  · exact Or.inr (Or.inl ⟨by rw [hca, hdb], by omega⟩)
  · exact Or.inr (Or.inr ⟨by rw [hcb, o2], by omega⟩)
  · exact Or.inr (Or.inr ⟨by rw [hcb, hda, o2], by omega⟩)
  · exact Or.inl ⟨by rw [o0], by omega⟩
  · exact Or.inl ⟨by rw [hba, o0], by omega⟩
  · exact Or.inr (Or.inr ⟨by rw [hda], by omega⟩)
  · exact Or.inr (Or.inr ⟨by rw [hda, hcb], by omega⟩)
  · exact Or.inr (Or.inl ⟨by rw [hdb, o1], by omega⟩)
  · exact Or.inr (Or.inl ⟨by rw [hdb, hca, o1], by omega⟩)
  · exact Or.inl ⟨by rw [hdc, o0], by omega⟩
  · exact Or.inl ⟨by rw [hdc, hba, o0], by omega⟩
def ix (w j : Nat) : Nat := if j = 0 then 0 else if j = 1 then w + 1 else if j = 2 then (if w = 0 then 2 else 1) else (if w = 2 then 2 else 3)
theorem ix_f : ∀ w, w < 3 → (∀ j, j < 4 → ix w j < 4) ∧ ∀ i, i < 4 → ∀ j, j < 4 → ix w i = ix w j → i = j := by decide
theorem r4w_e {m w : Nat} (hw : w < 3) : r4w m w = co4 (el m (ix w 0)) (el m (ix w 1)) (el m (ix w 2)) (el m (ix w 3)) := by
  rcases (show w = 0 ∨ w = 1 ∨ w = 2 by omega) with rfl | rfl | rfl <;> rfl
theorem wm_e {f : Nat → Int32} {m w : Nat} (hw : w < 3) : w4n f (el m (ix w 0)) (el m (ix w 1)) (el m (ix w 2)) (el m (ix w 3)) = wm f m w := by
  rcases (show w = 0 ∨ w = 1 ∨ w = 2 by omega) with rfl | rfl | rfl <;> rfl
theorem r4w_b {m w : Nat} (hm : m < 256) (h4 : pc (nI m) = 4) (hw : w < 3) : r4w m w < 4096 := by
  obtain ⟨f1, f2, f3, f4, -⟩ := four_f m hm h4
  rcases (show w = 0 ∨ w = 1 ∨ w = 2 by omega) with rfl | rfl | rfl
  · show co4 (el m 0) (el m 1) (el m 2) (el m 3) < 4096
    unfold co4; omega
  · show co4 (el m 0) (el m 2) (el m 1) (el m 3) < 4096
    unfold co4; omega
  · show co4 (el m 0) (el m 3) (el m 1) (el m 2) < 4096
    unfold co4; omega
theorem r4w_m {m v w : Nat} (hm : m < 256) (h4 : pc (nI m) = 4) (hw : w < 3) (hv : v ≤ w) : r4w m v ≤ r4w m w := by
  obtain ⟨f1, f2, f3, f4, -⟩ := four_f m hm h4
  have a0 : r4w m 0 = 8 * (8 * (8 * el m 0 + el m 1) + el m 2) + el m 3 := rfl
  have a1 : r4w m 1 = 8 * (8 * (8 * el m 0 + el m 2) + el m 1) + el m 3 := rfl
  have a2 : r4w m 2 = 8 * (8 * (8 * el m 0 + el m 3) + el m 1) + el m 2 := rfl
  rcases (show w = 0 ∨ w = 1 ∨ w = 2 by omega) with rfl | rfl | rfl <;> rcases (show v = 0 ∨ v = 1 ∨ v = 2 by omega) with rfl | rfl | rfl <;> omega
theorem min4m {f : Nat → Int32} {n m p q r s : Nat} (hT : Tn n f) (h8 : n ≤ 8) (hm : m < 2 ^ n) (h4 : pc (nI m) = 4) (hp : bt (nI m) p = true) (hq : bt (nI m) q = true) (hr : bt (nI m) r = true) (hs : bt (nI m) s = true) (pq : p ≠ q) (pr' : p ≠ r) (ps : p ≠ s) (qr : q ≠ r) (qs : q ≠ s) (rs : r ≠ s) : ∃ w, w < 3 ∧ w4n f p q r s = wm f m w ∧ r4w m w ≤ co4 p q r s := by
  have hp' : (2 : Nat) ^ n ≤ 256 := Nat.pow_le_pow_right (n := 2) (by decide) h8
  obtain ⟨f1, f2, f3, f4, f5, -⟩ := four_f m (by omega) h4
  have in8 : ∀ j, bt (nI m) j = true → j < 8 := fun j hj => by
    have := bt_lo h8 hm hj
    omega
  have dn := bt_lo h8 hm ((f5 (el m 3) f4).mpr (Or.inr (Or.inr (Or.inr rfl))))
  rcases min4 hT h8 f1 f2 f3 dn ((f5 p (in8 p hp)).mp hp) ((f5 q (in8 q hq)).mp hq) ((f5 r (in8 r hr)).mp hr) ((f5 s (in8 s hs)).mp hs) pq pr' ps qr qs rs with ⟨a, b⟩ | ⟨a, b⟩ | ⟨a, b⟩
  · exact ⟨0, by decide, a, b⟩
  · exact ⟨1, by decide, a, b⟩
  · exact ⟨2, by decide, a, b⟩
theorem wng1 {f : Nat → Int32} {h : Nat → Nat} (hh : ∀ j, j < 2 → h j < 8) : wng f 1 h = nI (wN f (h 0) (h 1)) := by
  show wn f (nI (h 0)) (nI (h 1)) = _
  have b0 := hh 0 (by decide)
  have b1' := hh 1 (by decide)
  rw [wn_N (by omega) (by omega)]
theorem wng2 {f : Nat → Int32} {h : Nat → Nat} (hh : ∀ j, j < 4 → h j < 8) : wng f 2 h = nI (w4n f (h 0) (h 1) (h 2) (h 3)) := by
  show wn f (wn f (nI (h 0)) (nI (h 1))) (wn f (nI (h 2)) (nI (h 3))) = _
  have b0 := hh 0 (by decide)
  have b1' := hh 1 (by decide)
  have b2' := hh 2 (by decide)
  have b3' := hh 3 (by decide)
  have c1 := wN_8 (f := f) b0 b1'
  have c2 := wN_8 (f := f) b2' b3'
  rw [wn_N (by omega) (by omega), wn_N (by omega) (by omega), wn_N (by omega) (by omega)]
  rfl
theorem w4n_8 {f : Nat → Int32} {p q r s : Nat} (hp : p < 8) (hq : q < 8) (hr : r < 8) (hs : s < 8) : w4n f p q r s < 8 := wN_8 (wN_8 hp hq) (wN_8 hr hs)
theorem wng3 {f : Nat → Int32} {h : Nat → Nat} (hh : ∀ j, j < 8 → h j < 8) : wng f 3 h = nI (wN f (w4n f (h 0) (h 1) (h 2) (h 3)) (w4n f (h 4) (h 5) (h 6) (h 7))) := by
  show wn f (wn f (wn f (nI (h 0)) (nI (h 1))) (wn f (nI (h 2)) (nI (h 3)))) (wn f (wn f (nI (h 4)) (nI (h 5))) (wn f (nI (h 6)) (nI (h 7)))) = _
  have b0 := hh 0 (by decide)
  have b1' := hh 1 (by decide)
  have b2' := hh 2 (by decide)
  have b3' := hh 3 (by decide)
  have b4' := hh 4 (by decide)
  have b5' := hh 5 (by decide)
  have b6' := hh 6 (by decide)
  have b7' := hh 7 (by decide)
  have c1 := wN_8 (f := f) b0 b1'
  have c2 := wN_8 (f := f) b2' b3'
  have c3 := wN_8 (f := f) b4' b5'
  have c4 := wN_8 (f := f) b6' b7'
  have d1 := wN_8 (f := f) c1 c2
  have d2 := wN_8 (f := f) c3 c4
  rw [wn_N b0 (by omega), wn_N b2' (by omega), wn_N b4' (by omega), wn_N b6' (by omega), wn_N c1 (by omega), wn_N c3 (by omega), wn_N d1 (by omega)]
  rfl
