/-! cups: that row is the first by which one wins -/
def cdk : Nat → (Nat → Nat) → Nat
  | 0, g => g 0
  | 1, g => 8 * g 0 + g 1
  | 2, g => co4 (g 0) (g 1) (g 2) (g 3)
  | _, g => 4096 * co4 (g 0) (g 1) (g 2) (g 3) + co4 (g 4) (g 5) (g 6) (g 7)
def lsr (f : Nat → Int32) (k x : Nat) (r : Int32) : Prop := (r = -1 ∧ ∀ h, pmn (2 ^ k) h → ¬ wng f k h = nI x) ∨ ∃ g, pmn (2 ^ k) g ∧ wng f k g = nI x ∧ (∀ h, pmn (2 ^ k) h → lxt (2 ^ k) h g → ¬ wng f k h = nI x) ∧ r = nI (cdk k g)
theorem lx4 {g h : Nat → Nat} (hg : ∀ j, j < 4 → g j < 8) (hh : ∀ j, j < 4 → h j < 8) (hl : lxt 4 h g) : co4 (h 0) (h 1) (h 2) (h 3) < co4 (g 0) (g 1) (g 2) (g 3) := by
  obtain ⟨p, p1, p2, p3⟩ := hl
  have g1 := hg 1 (by decide)
  have g2 := hg 2 (by decide)
  have g3 := hg 3 (by decide)
  have h1 := hh 1 (by decide)
  have h2 := hh 2 (by decide)
  have h3 := hh 3 (by decide)
  unfold co4
  rcases (show p = 0 ∨ p = 1 ∨ p = 2 ∨ p = 3 by omega) with rfl | rfl | rfl | rfl
  · omega
  · have e0 := p2 0 (by decide)
    omega
  · have e0 := p2 0 (by decide)
    have e1 := p2 1 (by decide)
    omega
  · have e0 := p2 0 (by decide)
    have e1 := p2 1 (by decide)
    have e2 := p2 2 (by decide)
    omega
theorem co4_b {p q r s : Nat} (hp : p < 8) (hq : q < 8) (hr : r < 8) (hs : s < 8) : co4 p q r s < 4096 := by
  unfold co4
  omega
theorem lx8 {g h : Nat → Nat} (hg : ∀ j, j < 8 → g j < 8) (hh : ∀ j, j < 8 → h j < 8) (hl : lxt 8 h g) : cdk 3 h < cdk 3 g := by
  show 4096 * co4 (h 0) (h 1) (h 2) (h 3) + co4 (h 4) (h 5) (h 6) (h 7) < 4096 * co4 (g 0) (g 1) (g 2) (g 3) + co4 (g 4) (g 5) (g 6) (g 7)
  have b1' := co4_b (hh 4 (by decide)) (hh 5 (by decide)) (hh 6 (by decide)) (hh 7 (by decide))
  obtain ⟨p, p1, p2, p3⟩ := hl
  by_cases c : p < 4
  · have := lx4 (g := g) (h := h) (fun j hj => hg j (by omega)) (fun j hj => hh j (by omega)) ⟨p, c, p2, p3⟩
    omega
  · have e0 := p2 0 (by omega)
    have e1 := p2 1 (by omega)
    have e2 := p2 2 (by omega)
    have e3 := p2 3 (by omega)
    have := lx4 (g := fun j => g (4 + j)) (h := fun j => h (4 + j)) (fun j hj => hg (4 + j) (by omega)) (fun j hj => hh (4 + j) (by omega)) ⟨p - 4, by omega, fun j hj => p2 (4 + j) (by omega), by
      show h (4 + (p - 4)) < g (4 + (p - 4))
      have : 4 + (p - 4) = p := by omega
      rw [this]
      exact p3⟩
    have this' : co4 (h 4) (h 5) (h 6) (h 7) < co4 (g 4) (g 5) (g 6) (g 7) := this
    rw [e0, e1, e2, e3]
    omega
theorem dfs_b : ∀ m, m < 256 → ∀ j, j < 8 → bt (nI (dfs 255 m)) j = !bt (nI m) j := by decide +kernel
theorem odd_b : ∀ m, m < 256 → (m % 2 = 1 ↔ bt (nI m) 0 = true) := by decide +kernel
def mkb (p q r s : Nat) : Bool := decide (p = q) || (decide (p = r) || (decide (q = r) || (decide (p = s) || (decide (q = s) || (decide (r = s) || (decide (pc (nI (2 ^ p + 2 ^ q + 2 ^ r + 2 ^ s)) = 4) && (decide (2 ^ p + 2 ^ q + 2 ^ r + 2 ^ s < 256) && (bt (nI (2 ^ p + 2 ^ q + 2 ^ r + 2 ^ s)) p && (bt (nI (2 ^ p + 2 ^ q + 2 ^ r + 2 ^ s)) q && (bt (nI (2 ^ p + 2 ^ q + 2 ^ r + 2 ^ s)) r && bt (nI (2 ^ p + 2 ^ q + 2 ^ r + 2 ^ s)) s))))))))))
theorem mk_all : (List.range 8).all (fun p => (List.range 8).all (fun q => (List.range 8).all (fun r => (List.range 8).all (mkb p q r)))) = true := by decide +kernel
theorem msk4 (p : Nat) (hp : p < 8) (q : Nat) (hq : q < 8) (pq : p ≠ q) (r : Nat) (hr : r < 8) (pr' : p ≠ r) (qr : q ≠ r) (s : Nat) (hs : s < 8) (ps : p ≠ s) (qs : q ≠ s) (rs : r ≠ s) : pc (nI (2 ^ p + 2 ^ q + 2 ^ r + 2 ^ s)) = 4 ∧ 2 ^ p + 2 ^ q + 2 ^ r + 2 ^ s < 256 ∧ bt (nI (2 ^ p + 2 ^ q + 2 ^ r + 2 ^ s)) p = true ∧ bt (nI (2 ^ p + 2 ^ q + 2 ^ r + 2 ^ s)) q = true ∧ bt (nI (2 ^ p + 2 ^ q + 2 ^ r + 2 ^ s)) r = true ∧ bt (nI (2 ^ p + 2 ^ q + 2 ^ r + 2 ^ s)) s = true := by
  have h := List.all_eq_true.mp (List.all_eq_true.mp (List.all_eq_true.mp (List.all_eq_true.mp mk_all p (List.mem_range.mpr hp)) q (List.mem_range.mpr hq)) r (List.mem_range.mpr hr)) s (List.mem_range.mpr hs)
  unfold mkb at h
  rw [decide_eq_false pq, decide_eq_false pr', decide_eq_false qr, decide_eq_false ps, decide_eq_false qs, decide_eq_false rs] at h
  simp only [Bool.false_or, Bool.and_eq_true, decide_eq_true_eq] at h
  exact h
theorem el_in {m : Nat} (hm : m < 256) (h4 : pc (nI m) = 4) {a : Nat} (ha : a < 4) : el m a < 8 ∧ bt (nI m) (el m a) = true := by
  obtain ⟨f1, f2, f3, f4, f5, -⟩ := four_f m hm h4
  rcases (show a = 0 ∨ a = 1 ∨ a = 2 ∨ a = 3 by omega) with rfl | rfl | rfl | rfl
  · exact ⟨by omega, (f5 _ (by omega)).mpr (Or.inl rfl)⟩
  · exact ⟨by omega, (f5 _ (by omega)).mpr (Or.inr (Or.inl rfl))⟩
  · exact ⟨by omega, (f5 _ (by omega)).mpr (Or.inr (Or.inr (Or.inl rfl)))⟩
  · exact ⟨by omega, (f5 _ (by omega)).mpr (Or.inr (Or.inr (Or.inr rfl)))⟩
theorem el_j {m : Nat} (hm : m < 256) (h4 : pc (nI m) = 4) {a b : Nat} (ha : a < 4) (hb : b < 4) (e : el m a = el m b) : a = b := by
  obtain ⟨f1, f2, f3, f4, -⟩ := four_f m hm h4
  rcases (show a = 0 ∨ a = 1 ∨ a = 2 ∨ a = 3 by omega) with rfl | rfl | rfl | rfl <;> rcases (show b = 0 ∨ b = 1 ∨ b = 2 ∨ b = 3 by omega) with rfl | rfl | rfl | rfl <;> omega
/-- the row of two halves -/
def g8 (h w v j : Nat) : Nat := if j < 4 then el h (ix w j) else el (dfs 255 h) (ix v (j - 4))
theorem g8_p {h w v : Nat} (hh : h < 256) (h4 : pc (nI h) = 4) (hw : w < 3) (hv : v < 3) : pmn 8 (g8 h w v) := by
  obtain ⟨d1, d2, -⟩ := d255 h hh h4
  have lo : ∀ j, j < 4 → g8 h w v j = el h (ix w j) := fun j hj => if_pos hj
  have hi : ∀ j, ¬ j < 4 → g8 h w v j = el (dfs 255 h) (ix v (j - 4)) := fun j hj => if_neg hj
  have cross : ∀ a b, a < 4 → b < 4 → ¬ el h a = el (dfs 255 h) b := fun a b ha hb e => by
    have x1 := el_in hh h4 ha
    have x2 := el_in d1 d2 hb
    rw [← e, dfs_b h hh _ x1.1, x1.2] at x2
    exact absurd x2.2 (by decide)
  refine ⟨fun j hj => ?_, fun i j hi' hj e => ?_⟩
  · by_cases c : j < 4
    · rw [lo j c]
      exact (el_in hh h4 ((ix_f w hw).1 j c)).1
    · rw [hi j c]
      exact (el_in d1 d2 ((ix_f v hv).1 (j - 4) (by omega))).1
  · by_cases c : i < 4
    · by_cases d : j < 4
      · rw [lo i c, lo j d] at e
        exact (ix_f w hw).2 i c j d (el_j hh h4 ((ix_f w hw).1 i c) ((ix_f w hw).1 j d) e)
      · rw [lo i c, hi j d] at e
        exact absurd e (cross _ _ ((ix_f w hw).1 i c) ((ix_f v hv).1 (j - 4) (by omega)))
    · by_cases d : j < 4
      · rw [hi i c, lo j d] at e
        exact absurd e.symm (cross _ _ ((ix_f w hw).1 j d) ((ix_f v hv).1 (i - 4) (by omega)))
      · rw [hi i c, hi j d] at e
        have := (ix_f v hv).2 (i - 4) (by omega) (j - 4) (by omega) (el_j d1 d2 ((ix_f v hv).1 (i - 4) (by omega)) ((ix_f v hv).1 (j - 4) (by omega)) e)
        omega
theorem g8_c {h w v : Nat} (hw : w < 3) (hv : v < 3) : cdk 3 (g8 h w v) = v8 h w v := by
  show 4096 * co4 (el h (ix w 0)) (el h (ix w 1)) (el h (ix w 2)) (el h (ix w 3)) + co4 (el (dfs 255 h) (ix v 0)) (el (dfs 255 h) (ix v 1)) (el (dfs 255 h) (ix v 2)) (el (dfs 255 h) (ix v 3)) = 4096 * r4w h w + r4w (dfs 255 h) v
  rw [r4w_e hw, r4w_e hv]
theorem one_b {x y : Nat} (hx : x < 8) (hy : y < 8) (h : bt ((1 : Int32) <<< (nI x &&& 31)) y = true) : y = x := by
  rw [bt_one (by omega) (by omega)] at h
  exact of_decide_eq_true h
theorem one_t {x : Nat} (hx : x < 8) : bt ((1 : Int32) <<< (nI x &&& 31)) x = true := by
  rw [bt_one (by omega) (by omega)]
  exact decide_eq_true rfl
theorem g8_w {f : Nat → Int32} {x h w v : Nat} (hT : Tn 8 f) (hx : x < 8) (hW : W8 f x h w v) : wng f 3 (g8 h w v) = nI x := by
  obtain ⟨h1, h2, h3, h4, h5, h6, h7⟩ := hW
  obtain ⟨d1, d2, -⟩ := d255 h h1 h3
  rw [wng3 (g8_p h1 h3 h4 h5).1]
  have e : wN f (w4n f (el h (ix w 0)) (el h (ix w 1)) (el h (ix w 2)) (el h (ix w 3))) (w4n f (el (dfs 255 h) (ix v 0)) (el (dfs 255 h) (ix v 1)) (el (dfs 255 h) (ix v 2)) (el (dfs 255 h) (ix v 3))) = x := by
    rw [wm_e h4, wm_e h5]
    have a1 := wm_in (f := f) (w := w) h1 h3
    have a2 := wm_in (f := f) (w := v) d1 d2
    by_cases c : bt (nI h) x = true
    · have ea : w8a f x h = (1 : Int32) <<< (nI x &&& 31) := if_pos c
      have eb : w8b f x h = f x := if_pos c
      rw [ea] at h6
      rw [eb] at h7
      rw [one_b hx a1.2 h6]
      exact wN_t h7
    · have ea : w8a f x h = f x := if_neg c
      have eb : w8b f x h = (1 : Int32) <<< (nI x &&& 31) := if_neg c
      rw [ea] at h6
      rw [eb] at h7
      rw [one_b hx a2.2 h7, wN_s hT a1.2 hx (hT.2.1 x _ hx h6).2.2.symm]
      exact wN_t h6
  show nI (wN f (w4n f (el h (ix w 0)) (el h (ix w 1)) (el h (ix w 2)) (el h (ix w 3))) (w4n f (el (dfs 255 h) (ix v 0)) (el (dfs 255 h) (ix v 1)) (el (dfs 255 h) (ix v 2)) (el (dfs 255 h) (ix v 3)))) = nI x
  rw [e]
/-- a set of four with a winner beside the others: one of the ways of the component -/
theorem W8_i {f : Nat → Int32} {x m w v : Nat} (hT : Tn 8 f) (hm : m < 256) (h4 : pc (nI m) = 4) (ho : m % 2 = 1) (hw : w < 3) (hv : v < 3) (e : wN f (wm f m w) (wm f (dfs 255 m) v) = x) : W8 f x m w v := by
  obtain ⟨d1, d2, -⟩ := d255 m hm h4
  have a1 := wm_in (f := f) (w := w) hm h4
  have a2 := wm_in (f := f) (w := v) d1 d2
  have no : bt (nI m) (wm f (dfs 255 m) v) = false := by
    have z := dfs_b m hm _ a2.2
    rw [a2.1] at z
    cases q : bt (nI m) (wm f (dfs 255 m) v)
    · rfl
    · rw [q] at z
      exact absurd z (by decide)
  refine ⟨hm, ho, h4, hw, hv, ?_⟩
  by_cases c : bt (f (wm f m w)) (wm f (dfs 255 m) v) = true
  · have ex : wm f m w = x := (wN_t c).symm.trans e
    have hb : bt (nI m) x = true := by rw [← ex]; exact a1.1
    have ea : w8a f x m = (1 : Int32) <<< (nI x &&& 31) := if_pos hb
    have eb : w8b f x m = f x := if_pos hb
    rw [ea, eb]
    rw [ex] at c
    refine ⟨?_, c⟩
    rw [ex]
    exact one_t (by rw [← ex]; exact a1.2)
  · have ex : wm f (dfs 255 m) v = x := by
      have : wN f (wm f m w) (wm f (dfs 255 m) v) = wm f (dfs 255 m) v := if_neg c
      exact this.symm.trans e
    have hb : ¬ bt (nI m) x = true := by rw [← ex, no]; decide
    have ea : w8a f x m = f x := if_neg hb
    have eb : w8b f x m = (1 : Int32) <<< (nI x &&& 31) := if_neg hb
    rw [ea, eb]
    have x8 : x < 8 := by rw [← ex]; exact a2.2
    rw [ex] at c
    refine ⟨?_, by rw [ex]; exact one_t x8⟩
    have ne : x ≠ wm f m w := fun z => by
      rw [z] at hb
      exact hb a1.1
    have := hT.2.2 x (wm f m w) x8 a1.2 ne
    rw [this]
    cases q : bt (f (wm f m w)) x
    · rfl
    · exact absurd q c
theorem all8 {f : Nat → Int32} {x : Nat} {g : Nat → Nat} (hT : Tn 8 f) (hp : pmn 8 g) (hg : wng f 3 g = nI x) (hx : x < 8) : ∃ h w v, W8 f x h w v ∧ v8 h w v ≤ cdk 3 g := by
  have b : ∀ j, j < 8 → g j < 8 := hp.1
  have ne : ∀ i j, i < 8 → j < 8 → i ≠ j → g i ≠ g j := fun i j hi hj d e => d (hp.2 i j hi hj e)
  rw [wng3 b] at hg
  have w1 := w4n_8 (f := f) (b 0 (by decide)) (b 1 (by decide)) (b 2 (by decide)) (b 3 (by decide))
  have w2 := w4n_8 (f := f) (b 4 (by decide)) (b 5 (by decide)) (b 6 (by decide)) (b 7 (by decide))
  have w3 := wN_8 (f := f) w1 w2
  have hg' := nI_inj (by omega) (by omega) hg
  obtain ⟨m1, m2, m3, m4, m5, m6⟩ := msk4 (g 0) (b 0 (by decide)) (g 1) (b 1 (by decide)) (ne 0 1 (by decide) (by decide) (by decide)) (g 2) (b 2 (by decide)) (ne 0 2 (by decide) (by decide) (by decide)) (ne 1 2 (by decide) (by decide) (by decide)) (g 3) (b 3 (by decide)) (ne 0 3 (by decide) (by decide) (by decide)) (ne 1 3 (by decide) (by decide) (by decide)) (ne 2 3 (by decide) (by decide) (by decide))
  obtain ⟨m, em⟩ : ∃ m, m = 2 ^ g 0 + 2 ^ g 1 + 2 ^ g 2 + 2 ^ g 3 := ⟨_, rfl⟩
  rw [← em] at m1 m2 m3 m4 m5 m6
  obtain ⟨d1, d2, d3, d4', d5, d6, d7⟩ := d255 m m2 m1
  have only : ∀ j, j < 8 → bt (nI m) j = true → j = g 0 ∨ j = g 1 ∨ j = g 2 ∨ j = g 3 := fun j hj hb => by
    obtain ⟨f1, f2, f3, f4, f5, -⟩ := four_f m m2 m1
    have q0 := (f5 _ (b 0 (by decide))).mp m3
    have q1 := (f5 _ (b 1 (by decide))).mp m4
    have q2 := (f5 _ (b 2 (by decide))).mp m5
    have q3 := (f5 _ (b 3 (by decide))).mp m6
    have qj := (f5 j hj).mp hb
    have n01 := ne 0 1 (by decide) (by decide) (by decide)
    have n02 := ne 0 2 (by decide) (by decide) (by decide)
    have n03 := ne 0 3 (by decide) (by decide) (by decide)
    have n12 := ne 1 2 (by decide) (by decide) (by decide)
    have n13 := ne 1 3 (by decide) (by decide) (by decide)
    have n23 := ne 2 3 (by decide) (by decide) (by decide)
    generalize el m 0 = e0 at *
    generalize el m 1 = e1 at *
    generalize el m 2 = e2 at *
    generalize el m 3 = e3 at *
    omega
  have out : ∀ t, 4 ≤ t → t < 8 → bt (nI (dfs 255 m)) (g t) = true := fun t t1 t2 => by
    rw [dfs_b m m2 _ (b t t2)]
    cases q : bt (nI m) (g t)
    · rfl
    · rcases only _ (b t t2) q with z | z | z | z
      · exact absurd z (ne t 0 t2 (by decide) (by omega))
      · exact absurd z (ne t 1 t2 (by decide) (by omega))
      · exact absurd z (ne t 2 t2 (by decide) (by omega))
      · exact absurd z (ne t 3 t2 (by decide) (by omega))
  obtain ⟨w, hw, ew, lw⟩ := min4m (n := 8) hT (by decide) (by omega : m < 2 ^ 8) m1 m3 m4 m5 m6 (ne 0 1 (by decide) (by decide) (by decide)) (ne 0 2 (by decide) (by decide) (by decide)) (ne 0 3 (by decide) (by decide) (by decide)) (ne 1 2 (by decide) (by decide) (by decide)) (ne 1 3 (by decide) (by decide) (by decide)) (ne 2 3 (by decide) (by decide) (by decide))
  obtain ⟨v, hv, ev, lv⟩ := min4m (n := 8) hT (by decide) (by omega : dfs 255 m < 2 ^ 8) d2 (out 4 (by decide) (by decide)) (out 5 (by decide) (by decide)) (out 6 (by decide) (by decide)) (out 7 (by decide) (by decide)) (ne 4 5 (by decide) (by decide) (by decide)) (ne 4 6 (by decide) (by decide) (by decide)) (ne 4 7 (by decide) (by decide) (by decide)) (ne 5 6 (by decide) (by decide) (by decide)) (ne 5 7 (by decide) (by decide) (by decide)) (ne 6 7 (by decide) (by decide) (by decide))
  rw [ew, ev] at hg'
  have ec : cdk 3 g = 4096 * co4 (g 0) (g 1) (g 2) (g 3) + co4 (g 4) (g 5) (g 6) (g 7) := rfl
  by_cases c : m % 2 = 1
  · refine ⟨m, w, v, W8_i hT m2 m1 c hw hv hg', ?_⟩
    rw [ec]
    show 4096 * r4w m w + r4w (dfs 255 m) v ≤ _
    omega
  · have co : dfs 255 m % 2 = 1 := by omega
    refine ⟨dfs 255 m, v, w, W8_i hT d1 d2 co hv hw ?_, ?_⟩
    · rw [d3]
      have a1 := wm_in (f := f) (w := w) m2 m1
      have a2 := wm_in (f := f) (w := v) d1 d2
      rw [wN_s hT a2.2 a1.2 (fun z => by
        have y := dfs_b m m2 _ a2.2
        rw [a2.1, z, a1.1] at y
        exact absurd y (by decide))]
      exact hg'
    · rw [ec]
      show 4096 * r4w (dfs 255 m) v + r4w (dfs 255 (dfs 255 m)) w ≤ _
      rw [d3]
      have bw := r4w_b m2 m1 hw
      have g0 : 1 ≤ g 0 := by
        by_cases z : g 0 = 0
        · rw [z] at m3
          exact absurd ((odd_b m m2).mpr m3) c
        · omega
      obtain ⟨f1, f2, f3, f4, f5, -⟩ := four_f (dfs 255 m) d1 d2
      have z0 : el (dfs 255 m) 0 = 0 := by
        have := (f5 0 (by decide)).mp ((odd_b _ d1).mp co)
        omega
      have bv : r4w (dfs 255 m) v < 512 := by
        have a0 : r4w (dfs 255 m) 0 = 8 * (8 * (8 * el (dfs 255 m) 0 + el (dfs 255 m) 1) + el (dfs 255 m) 2) + el (dfs 255 m) 3 := rfl
        have a1 : r4w (dfs 255 m) 1 = 8 * (8 * (8 * el (dfs 255 m) 0 + el (dfs 255 m) 2) + el (dfs 255 m) 1) + el (dfs 255 m) 3 := rfl
        have a2 : r4w (dfs 255 m) 2 = 8 * (8 * (8 * el (dfs 255 m) 0 + el (dfs 255 m) 3) + el (dfs 255 m) 1) + el (dfs 255 m) 2 := rfl
        rcases (show v = 0 ∨ v = 1 ∨ v = 2 by omega) with rfl | rfl | rfl <;> omega
      have : 512 ≤ co4 (g 0) (g 1) (g 2) (g 3) := by
        unfold co4
        omega
      omega
theorem lsr8_D {N : Nat} {σ : Mem} {x : Nat} (h3 : gI σ 3 0 = nI 8) (hT : Tn 8 (gI σ 13)) (hx : x < 8) : par (f_Cu_leastRowOfEight N (nI 255) (nI x) σ) (fun q => fr [21] [] σ q.2 ∧ lsr (gI σ 13) 3 x q.1) := by
  refine p_mono (r8l_D h3 hx) (fun q hq => ⟨hq.1, ?_⟩)
  rcases hq.2 with ⟨e, a⟩ | ⟨h, w, v, a, e, b⟩
  · refine Or.inl ⟨e, fun g hp hg => ?_⟩
    obtain ⟨h, w, v, hW, -⟩ := all8 hT hp hg hx
    exact a h w v hW
  · refine Or.inr ⟨g8 h w v, g8_p a.1 a.2.2.1 a.2.2.2.1 a.2.2.2.2.1, g8_w hT hx a, fun g hp hl hg => ?_, by rw [g8_c a.2.2.2.1 a.2.2.2.2.1]; exact e⟩
    obtain ⟨h', w', v', hW, le⟩ := all8 hT hp hg hx
    have l1 := lx8 (g8_p a.1 a.2.2.1 a.2.2.2.1 a.2.2.2.2.1).1 hp.1 hl
    rw [g8_c a.2.2.2.1 a.2.2.2.2.1] at l1
    have := b h' w' v' hW
    omega
theorem e15 : pc (nI 15) = 4 ∧ el 15 0 = 0 ∧ el 15 1 = 1 ∧ el 15 2 = 2 ∧ el 15 3 = 3 ∧ ∀ j, j < 4 → bt (nI 15) j = true := by decide
theorem lsr4_D {N : Nat} {σ : Mem} {x : Nat} (h3 : gI σ 3 0 = nI 4) (hT : Tn 4 (gI σ 13)) (hx : x < 4) : par (f_Cu_leastRowOfFour N (nI 15) ((1 : Int32) <<< (nI x &&& 31)) σ) (fun q => fr [21] [] σ q.2 ∧ lsr (gI σ 13) 2 x q.1) := by
  obtain ⟨p15, e0, e1, e2, e3, b15⟩ := e15
  have el4 : ∀ a, a < 4 → el 15 a = a := fun a ha => by
    rcases (show a = 0 ∨ a = 1 ∨ a = 2 ∨ a = 3 by omega) with rfl | rfl | rfl | rfl <;> assumption
  have every : ∀ g, pmn 4 g → wng (gI σ 13) 2 g = nI x → ∃ w, w < 3 ∧ bt ((1 : Int32) <<< (nI x &&& 31)) (wm (gI σ 13) 15 w) = true ∧ r4w 15 w ≤ co4 (g 0) (g 1) (g 2) (g 3) := fun g hp hg => by
    have b : ∀ j, j < 4 → g j < 4 := hp.1
    have ne : ∀ i j, i < 4 → j < 4 → i ≠ j → g i ≠ g j := fun i j hi hj d e => d (hp.2 i j hi hj e)
    have b8 : ∀ j, j < 4 → g j < 8 := fun j hj => by have := b j hj; omega
    rw [wng2 b8] at hg
    have w1 := w4n_8 (f := gI σ 13) (b8 0 (by decide)) (b8 1 (by decide)) (b8 2 (by decide)) (b8 3 (by decide))
    have hg' := nI_inj (by omega) (by omega) hg
    obtain ⟨w, hw, ew, lw⟩ := min4m (n := 4) hT (by decide) (by decide : 15 < 2 ^ 4) p15 (b15 _ (b 0 (by decide))) (b15 _ (b 1 (by decide))) (b15 _ (b 2 (by decide))) (b15 _ (b 3 (by decide))) (ne 0 1 (by decide) (by decide) (by decide)) (ne 0 2 (by decide) (by decide) (by decide)) (ne 0 3 (by decide) (by decide) (by decide)) (ne 1 2 (by decide) (by decide) (by decide)) (ne 1 3 (by decide) (by decide) (by decide)) (ne 2 3 (by decide) (by decide) (by decide))
    refine ⟨w, hw, ?_, lw⟩
    rw [← ew, hg']
    exact one_t (by omega)
  refine p_mono (lr4_D (n := 4) (by decide) h3 (by decide : 15 < 2 ^ 4) p15 _) (fun q hq => ⟨hq.1, ?_⟩)
  rcases hq.2 with ⟨e, a⟩ | ⟨w, w1, w2, w3, e⟩
  · refine Or.inl ⟨e, fun g hp hg => ?_⟩
    obtain ⟨w, hw, hb, -⟩ := every g hp hg
    rw [a w hw] at hb
    exact absurd hb (by decide)
  · have wi := wm_in (f := gI σ 13) (w := w) (by decide : 15 < 256) p15
    have pm : pmn 4 (fun j => el 15 (ix w j)) := ⟨fun j hj => by
      show el 15 (ix w j) < 4
      rw [el4 _ ((ix_f w w1).1 j hj)]
      exact (ix_f w w1).1 j hj, fun i j hi hj z => (ix_f w w1).2 i hi j hj (el_j (by decide) p15 ((ix_f w w1).1 i hi) ((ix_f w w1).1 j hj) z)⟩
    have pm8 : ∀ j, j < 4 → (fun j => el 15 (ix w j)) j < 8 := fun j hj => by have := pm.1 j hj; omega
    have ec : cdk 2 (fun j => el 15 (ix w j)) = r4w 15 w := (r4w_e w1).symm
    refine Or.inr ⟨fun j => el 15 (ix w j), pm, ?_, fun g hp hl hg => ?_, by rw [ec]; exact e⟩
    · rw [wng2 pm8]
      show nI (w4n (gI σ 13) (el 15 (ix w 0)) (el 15 (ix w 1)) (el 15 (ix w 2)) (el 15 (ix w 3))) = nI x
      rw [wm_e w1, one_b (by omega) wi.2 w2]
    · obtain ⟨w', hw', hb, le⟩ := every g hp hg
      have l1 : co4 (g 0) (g 1) (g 2) (g 3) < cdk 2 (fun j => el 15 (ix w j)) := lx4 (g := fun j => el 15 (ix w j)) pm8 (fun j hj => by have := hp.1 j hj; omega) hl
      rw [ec] at l1
      have : w ≤ w' := by
        by_cases z : w' < w
        · rw [w3 w' z] at hb
          exact absurd hb (by decide)
        · omega
      have := r4w_m (by decide : 15 < 256) p15 hw' this
      omega
