/-! orders of all: the next one -/
def pmn (n : Nat) (g : Nat → Nat) : Prop := (∀ j, j < n → g j < n) ∧ ∀ i j, i < n → j < n → g i = g j → i = j
def oas (n i : Nat) (g : Nat → Nat) : Prop := ∀ a b, i ≤ a → a < b → b < n → g a < g b
def ods (n i : Nat) (g : Nat → Nat) : Prop := ∀ a b, i ≤ a → a < b → b < n → g b < g a
def nxs (n i : Nat) (g g' : Nat → Nat) : Prop := (i + 1 < n ∧ g i < g (i + 1) ∧ ods n (i + 1) g) ∧ (∀ j, j < i → g' j = g j) ∧ g i < g' i ∧ (∃ t, i < t ∧ t < n ∧ g t = g' i) ∧ (∀ t, i < t → t < n → g i < g t → g' i ≤ g t) ∧ oas n (i + 1) g' ∧ pmn n g'
theorem no_inj : ∀ n (g : Nat → Nat), (∀ j, j < n + 1 → g j < n) → ¬ ∀ i j, i < n + 1 → j < n + 1 → g i = g j → i = j
  | 0, g, h, _ => absurd (h 0 (by decide)) (Nat.not_lt_zero _)
  | n + 1, g, h, hi => by
    refine no_inj n (fun j => if g (n + 1) < g j then g j - 1 else g j) (fun j hj => ?_) (fun i j hi' hj' e => ?_)
    · show (if g (n + 1) < g j then g j - 1 else g j) < n
      have a := h j (by omega)
      have b := h (n + 1) (by omega)
      have c : g j ≠ g (n + 1) := fun w => by have := hi j (n + 1) (by omega) (by omega) w; omega
      split <;> omega
    · have e : (if g (n + 1) < g i then g i - 1 else g i) = (if g (n + 1) < g j then g j - 1 else g j) := e
      have c : g i ≠ g (n + 1) := fun w => by have := hi i (n + 1) (by omega) (by omega) w; omega
      have d : g j ≠ g (n + 1) := fun w => by have := hi j (n + 1) (by omega) (by omega) w; omega
      refine hi i j (by omega) (by omega) ?_
      split at e <;> split at e <;> omega
theorem surj {n : Nat} {g : Nat → Nat} (h : pmn n g) {v : Nat} (hv : v < n) : ∃ j, j < n ∧ g j = v := by
  refine Classical.byContradiction (fun hc => ?_)
  obtain ⟨m, rfl⟩ : ∃ m, n = m + 1 := ⟨n - 1, by omega⟩
  refine no_inj m (fun j => if v < g j then g j - 1 else g j) (fun j hj => ?_) (fun i j hi' hj' e => ?_)
  · show (if v < g j then g j - 1 else g j) < m
    have a := h.1 j hj
    have c : g j ≠ v := fun w => hc ⟨j, hj, w⟩
    split <;> omega
  · have e : (if v < g i then g i - 1 else g i) = (if v < g j then g j - 1 else g j) := e
    have c : g i ≠ v := fun w => hc ⟨i, hi', w⟩
    have d : g j ≠ v := fun w => hc ⟨j, hj', w⟩
    refine h.2 i j hi' hj' ?_
    split at e <;> split at e <;> omega
def od (n : Nat) (s : Mem) (g : Nat → Nat) : Prop := ∀ j, j < n → gI s 26 j = nI (g j)
def swn (g : Nat → Nat) (a b : Nat) : Nat → Nat := fun j => if j = b then g a else if j = a then g b else g j
theorem swap_M {n a b : Nat} {s : Mem} {g : Nat → Nat} (h8 : n ≤ 8) (ha : a < n) (hb : b < n) (h : od n s g) : par (f_M_swap (nI a) (nI b) s) (fun t => fr [26] [] s t ∧ od n t (swn g a b)) := by
  unfold f_M_swap
  rw [nI_clamp (by omega), nI_clamp (by omega)]
  refine p_gd (fun _ => p_bnd (p_gd (fun _ => p_gd (fun _ => p_let (fun s2 e2 => p_gd (fun _ => p_let (fun s3 e3 => p_some ⟨?_, fun j hj => ?_⟩)))))))
  · rw [e3, e2]
    exact fr_t (fr_sI (by decide)) (fr_sI (by decide))
  · unfold swn
    rw [e3, gI_sI, if_pos rfl, upd_ap]
    by_cases c : j = b
    · rw [if_pos c, if_pos c]
      exact h a ha
    · rw [if_neg c, if_neg c, e2, gI_sI, if_pos rfl, upd_ap]
      by_cases d : j = a
      · rw [if_pos d, if_pos d]
        exact h b hb
      · rw [if_neg d, if_neg d]
        exact h j hj
theorem swn_p {n a b : Nat} {g : Nat → Nat} (ha : a < n) (hb : b < n) (h : pmn n g) : pmn n (swn g a b) := by
  unfold swn
  refine ⟨fun j hj => ?_, fun i j hi hj e => ?_⟩
  · show (if j = b then g a else if j = a then g b else g j) < n
    split
    · exact h.1 a ha
    · split
      · exact h.1 b hb
      · exact h.1 j hj
  · have e : (if i = b then g a else if i = a then g b else g i) = (if j = b then g a else if j = a then g b else g j) := e
    by_cases c1' : i = b <;> by_cases c2' : j = b
    · omega
    · rw [if_pos c1', if_neg c2'] at e
      by_cases c3 : j = a
      · rw [if_pos c3] at e
        have := h.2 a b ha hb e
        omega
      · rw [if_neg c3] at e
        have := h.2 a j ha hj e
        omega
    · rw [if_neg c1', if_pos c2'] at e
      by_cases c3 : i = a
      · rw [if_pos c3] at e
        have := h.2 b a hb ha e
        omega
      · rw [if_neg c3] at e
        have := h.2 i a hi ha e
        omega
    · rw [if_neg c1', if_neg c2'] at e
      by_cases c3 : i = a <;> by_cases c4 : j = a
      · omega
      · rw [if_pos c3, if_neg c4] at e
        have := h.2 b j hb hj e
        omega
      · rw [if_neg c3, if_pos c4] at e
        have := h.2 i b hi hb e
        omega
      · rw [if_neg c3, if_neg c4] at e
        exact h.2 i j hi hj e
/-- the part behind i, turned round -/
def rvn (n i : Nat) (h : Nat → Nat) : Nat → Nat := fun j => if i < j ∧ j < n then h (i + n - j) else h j
theorem rev_M {N n i : Nat} {s s0 : Mem} {h : Nat → Nat} (h8 : n ≤ 8) (hi : i + 1 < n) (hf : fr [26] [] s0 s) (ho : od n s h) : par (it3 (M_nextOrder_B83) N (nI (i + 1)) (nI (n - 1)) s) (fun q => q.1 = 1 ∧ fr [26] [] s0 q.2 ∧ od n q.2 (rvn n i h)) := by
  refine p_it3 (fun i9 i10 t => ∃ a b, i < a ∧ b < n ∧ a ≤ b + 1 ∧ a + b = i + n ∧ i9 = nI a ∧ i10 = nI b ∧ fr [26] [] s0 t ∧ od n t (fun j => if (i < j ∧ j < a) ∨ (b < j ∧ j < n) then h (i + n - j) else h j)) ?_ N _ _ _ ⟨i + 1, n - 1, by omega, by omega, by omega, by omega, rfl, rfl, hf, fun j hj => ?_⟩
  · rintro self _ _ t ⟨a, b, ha, hb, hle, hab, rfl, rfl, ft, ot⟩ ih
    unfold M_nextOrder_B83
    refine p_if (fun c => ?_) (fun c => ?_)
    · rw [nle (by omega) (by omega)] at c
      refine p_some ⟨rfl, ft, fun j hj => ?_⟩
      rw [ot j hj]
      unfold rvn
      by_cases c1' : i < j ∧ j < n
      · show nI (if (i < j ∧ j < a) ∨ (b < j ∧ j < n) then h (i + n - j) else h j) = nI (if i < j ∧ j < n then h (i + n - j) else h j)
        rw [if_pos c1']
        by_cases c2' : (i < j ∧ j < a) ∨ (b < j ∧ j < n)
        · rw [if_pos c2']
        · rw [if_neg c2']
          have : i + n - j = j := by omega
          rw [this]
      · show nI (if (i < j ∧ j < a) ∨ (b < j ∧ j < n) then h (i + n - j) else h j) = nI (if i < j ∧ j < n then h (i + n - j) else h j)
        rw [if_neg c1', if_neg (by omega)]
    · rw [nle (by omega) (by omega)] at c
      refine p_ob _ (swap_M h8 (by omega : a < n) hb ot) (fun t2 h2 => ?_)
      obtain ⟨f2, o2⟩ := h2
      rw [nadd1, nsub1 (by omega)]
      refine ih _ _ _ ⟨a + 1, b - 1, by omega, by omega, by omega, by omega, rfl, rfl, fr_t ft f2, fun j hj => ?_⟩
      rw [o2 j hj]
      unfold swn
      show nI (if j = b then (if (i < a ∧ a < a) ∨ (b < a ∧ a < n) then h (i + n - a) else h a) else if j = a then (if (i < b ∧ b < a) ∨ (b < b ∧ b < n) then h (i + n - b) else h b) else (if (i < j ∧ j < a) ∨ (b < j ∧ j < n) then h (i + n - j) else h j)) = nI (if (i < j ∧ j < a + 1) ∨ (b - 1 < j ∧ j < n) then h (i + n - j) else h j)
      by_cases c1' : j = b
      · rw [if_pos c1', if_neg (by omega), if_pos (by omega)]
        have : i + n - j = a := by omega
        rw [this]
      · rw [if_neg c1']
        by_cases c2' : j = a
        · rw [if_pos c2', if_neg (by omega), if_pos (by omega)]
          have : i + n - j = b := by omega
          rw [this]
        · rw [if_neg c2']
          by_cases c3 : (i < j ∧ j < a) ∨ (b < j ∧ j < n)
          · rw [if_pos c3, if_pos (by omega)]
          · rw [if_neg c3, if_neg (by omega)]
  · show gI s 26 j = nI (if (i < j ∧ j < i + 1) ∨ (n - 1 < j ∧ j < n) then h (i + n - j) else h j)
    rw [if_neg (by omega)]
    exact ho j hj
theorem next_M {N n : Nat} {s : Mem} {g : Nat → Nat} (h8 : n ≤ 8) (hn : 1 ≤ n) (h1 : gI s 1 0 = nI n) (hp : pmn n g) (ho : od n s g) : par (f_M_nextOrder N s) (fun q => fr [26] [] s q.2 ∧ ((q.1 = 0 ∧ ods n 0 g) ∨ (q.1 = 1 ∧ ∃ i g', nxs n i g g' ∧ od n q.2 g'))) := by
  unfold f_M_nextOrder
  refine p_bnd (p_bnd ?_)
  rw [many_e h1]
  have e2 : nI n - (2 : Int32) = nI (n - 1) - 1 := by
    rcases (show n = 1 ∨ n = 2 ∨ n = 3 ∨ n = 4 ∨ n = 5 ∨ n = 6 ∨ n = 7 ∨ n = 8 by omega) with r | r | r | r | r | r | r | r <;> rw [r] <;> decide
  rw [e2]
  refine p_it1 (fun i16 => ∃ p, p + 1 ≤ n ∧ i16 = nI p - 1 ∧ ods n p g) ?_ N _ ⟨n - 1, by omega, rfl, fun a b ha hab hb => by omega⟩
  rintro self _ ⟨p, hpn, rfl, hd⟩ ih
  unfold M_nextOrder_B9
  by_cases p0 : p = 0
  · subst p0
    rw [if_pos (show nI 0 - (1 : Int32) < 0 by decide)]
    unfold M_nextOrder_K36
    rw [if_neg (show ¬ (0 : Int32) ≤ nI 0 - 1 by decide)]
    exact p_some ⟨fr_r _ _ _, Or.inl ⟨rfl, hd⟩⟩
  · obtain ⟨i, rfl⟩ : ∃ i, p = i + 1 := ⟨p - 1, by omega⟩
    have ei : nI (i + 1) - 1 = nI i := by rw [nsub1' (by omega), Nat.add_sub_cancel]
    rw [ei, if_neg (by rw [l0, nlt (by omega) (by decide)]; omega)]
    rw [nadd1, nI_clamp (by omega), nI_clamp (by omega), ho i (by omega), ho (i + 1) (by omega)]
    have g8 := hp.1 i (by omega)
    have g9 := hp.1 (i + 1) (by omega)
    have gne : g i ≠ g (i + 1) := fun w => by have := hp.2 i (i + 1) (by omega) (by omega) w; omega
    refine p_gd (fun _ => p_gd (fun _ => p_if (fun c => ?_) (fun c => ?_)))
    · rw [nle (by omega) (by omega)] at c
      unfold M_nextOrder_K36
      rw [if_pos (by rw [l0, nle (by decide) (by omega)]; omega)]
      refine p_bnd ?_
      rw [nsub1' hn]
      refine p_it1 (fun i14 => ∃ k, i < k ∧ k < n ∧ i14 = nI k ∧ ∀ t, k < t → t < n → g t < g i) ?_ N _ ⟨n - 1, by omega, by omega, rfl, fun t h1 h2 => by omega⟩
      rintro self15 _ ⟨k, hik, hkn, rfl, hlt⟩ ih15
      unfold M_nextOrder_B46
      rw [nI_clamp (by omega), nI_clamp (by omega), ho i (by omega), ho k hkn]
      have gk := hp.1 k hkn
      have gnk : g i ≠ g k := fun w => by have := hp.2 i k (by omega) hkn w; omega
      refine p_gd (fun _ => p_gd (fun _ => p_if (fun c2 => ?_) (fun c2 => ?_)))
      · rw [nle (by omega) (by omega)] at c2
        unfold M_nextOrder_K67
        refine p_ob _ (swap_M h8 (by omega : i < n) hkn ho) (fun s6 h6 => p_bnd (p_bnd ?_))
        obtain ⟨f6, o6⟩ := h6
        rw [nadd1, nsub1' hn]
        refine p_mono (rev_M h8 (by omega) f6 o6) (fun q hq => ⟨hq.2.1, Or.inr ⟨hq.1, i, rvn n i (swn g i k), ?_, hq.2.2⟩⟩)
        have hsw := swn_p (by omega : i < n) hkn hp
        have hi' : swn g i k i = g k := by
          unfold swn
          rw [if_neg (by omega), if_pos rfl]
        have hk' : swn g i k k = g i := by
          unfold swn
          rw [if_pos rfl]
        have ho' : ∀ j, j ≠ i → j ≠ k → swn g i k j = g j := fun j j1 j2 => by
          unfold swn
          rw [if_neg j2, if_neg j1]
        have hds : ods n (i + 1) (swn g i k) := fun a b ha hab hb => by
          by_cases ca : a = k
          · rw [ca, hk', ho' b (by omega) (by omega)]
            exact hlt b (by omega) hb
          · by_cases cb : b = k
            · rw [cb, hk', ho' a (by omega) ca]
              have := hd a k ha (by omega) hkn
              omega
            · rw [ho' a (by omega) ca, ho' b (by omega) cb]
              exact hd a b ha hab hb
        have rlo : ∀ j, j ≤ i → rvn n i (swn g i k) j = swn g i k j := fun j hj => by
          unfold rvn
          rw [if_neg (by omega)]
        have rhi : ∀ j, i < j → j < n → rvn n i (swn g i k) j = swn g i k (i + n - j) := fun j hj hj2 => by
          unfold rvn
          rw [if_pos ⟨hj, hj2⟩]
        refine ⟨⟨by omega, by omega, hd⟩, fun j hj => ?_, ?_, ⟨k, hik, hkn, ?_⟩, fun t t1 t2 t3 => ?_, fun a b ha hab hb => ?_, ⟨fun j hj => ?_, fun a b ha hb e => ?_⟩⟩
        · rw [rlo j (by omega), ho' j (by omega) (by omega)]
        · rw [rlo i (Nat.le_refl _), hi']
          omega
        · rw [rlo i (Nat.le_refl _), hi']
        · rw [rlo i (Nat.le_refl _), hi']
          by_cases c3 : t = k
          · rw [c3]; exact Nat.le_refl _
          · by_cases c4 : k < t
            · have := hlt t c4 t2
              omega
            · have := hd t k (by omega) (by omega) hkn
              omega
        · rw [rhi a (by omega) (by omega), rhi b (by omega) hb]
          exact hds (i + n - b) (i + n - a) (by omega) (by omega) (by omega)
        · by_cases c3 : i < j
          · rw [rhi j c3 hj]
            exact hsw.1 _ (by omega)
          · rw [rlo j (by omega)]
            exact hsw.1 j hj
        · by_cases c3 : i < a <;> by_cases c4 : i < b
          · rw [rhi a c3 ha, rhi b c4 hb] at e
            have := hsw.2 _ _ (by omega) (by omega) e
            omega
          · rw [rhi a c3 ha, rlo b (by omega)] at e
            have := hsw.2 _ _ (by omega) (by omega) e
            omega
          · rw [rlo a (by omega), rhi b c4 hb] at e
            have := hsw.2 _ _ (by omega) (by omega) e
            omega
          · rw [rlo a (by omega), rlo b (by omega)] at e
            exact hsw.2 _ _ ha hb e
      · rw [nle (by omega) (by omega)] at c2
        have hk1 : ¬ k = i + 1 := fun w => by rw [w] at c2; omega
        rw [nsub1 (by omega)]
        refine ih15 _ ⟨k - 1, by omega, by omega, rfl, fun t t1 t2 => ?_⟩
        by_cases ct : t = k
        · rw [ct]; omega
        · exact hlt t (by omega) t2
    · rw [nle (by omega) (by omega)] at c
      have em : nI i + (-1 : Int32) = nI i - 1 := by
        rw [Int32.sub_eq_add_neg]
      rw [em]
      refine ih _ ⟨i, by omega, rfl, fun a b ha hab hb => ?_⟩
      by_cases ca : a = i
      · rw [ca]
        by_cases cb : b = i + 1
        · rw [cb]; omega
        · have := hd (i + 1) b (by omega) (by omega) hb
          omega
      · exact hd a b (by omega) hab hb
theorem first_M {N n : Nat} {s : Mem} (h8 : n ≤ 8) : par (f_M_firstOrder N s) (fun t => fr [26] [] s t ∧ od n t (fun j => j)) := by
  unfold f_M_firstOrder
  refine p_it2 (fun i1 t => ∃ k, k ≤ 8 ∧ i1 = nI k ∧ fr [26] [] s t ∧ ∀ j, j < k → gI t 26 j = nI j) ?_ N _ _ ⟨0, by omega, rfl, fr_r _ _ _, fun j hj => by omega⟩
  rintro self _ t ⟨k, hk, rfl, hf, h⟩ ih
  unfold M_firstOrder_B2
  refine p_if (fun c => ?_) (fun c => ?_)
  · rw [l8, nle (by omega) (by omega)] at c
    exact p_some ⟨hf, fun j hj => h j (by omega)⟩
  · rw [l8, nle (by omega) (by omega)] at c
    rw [nI_clamp (by omega), nadd1]
    refine p_gd (fun _ => p_bnd (ih _ _ ⟨k + 1, by omega, rfl, fr_t hf (fr_sI (by decide)), fun j hj => ?_⟩))
    rw [gI_sI, if_pos rfl, upd_ap]
    by_cases cj : j = k
    · rw [if_pos cj, cj]
    · rw [if_neg cj]
      exact h j (by omega)
