/-! orders, the earlier one first; the reference looks for the first by which one wins -/
def lxt (n : Nat) (g h : Nat → Nat) : Prop := ∃ p, p < n ∧ (∀ j, j < p → g j = h j) ∧ g p < h p
theorem lxt_tot {n : Nat} (g h : Nat → Nat) : lxt n g h ∨ lxt n h g ∨ ∀ j, j < n → g j = h j := by
  by_cases c : ∀ j, j < n → g j = h j
  · exact Or.inr (Or.inr c)
  · have key : ∀ k, k ≤ n → (∀ j, j < k → g j = h j) ∨ ∃ p, p < k ∧ (∀ j, j < p → g j = h j) ∧ g p ≠ h p := fun k => by
      induction k with
      | zero => intro _; exact Or.inl (fun j hj => by omega)
      | succ k ih =>
        intro hk
        rcases ih (by omega) with a | ⟨p, p1, p2, p3⟩
        · by_cases e : g k = h k
          · refine Or.inl (fun j hj => ?_)
            by_cases cj : j = k
            · rw [cj]; exact e
            · exact a j (by omega)
          · exact Or.inr ⟨k, by omega, a, e⟩
        · exact Or.inr ⟨p, by omega, p2, p3⟩
    rcases key n (Nat.le_refl _) with a | ⟨p, p1, p2, p3⟩
    · exact absurd a c
    · by_cases d : g p < h p
      · exact Or.inl ⟨p, p1, p2, d⟩
      · exact Or.inr (Or.inl ⟨p, p1, fun j hj => (p2 j hj).symm, by omega⟩)
theorem lxt_as {n : Nat} {g h : Nat → Nat} (h1 : lxt n g h) (h2 : lxt n h g) : False := by
  obtain ⟨p, p1, p2, p3⟩ := h1
  obtain ⟨q, q1, q2, q3⟩ := h2
  by_cases c : p < q
  · have := q2 p c
    omega
  · by_cases d : q < p
    · have := p2 q d
      omega
    · have : p = q := by omega
      subst this
      omega
theorem lxt_ne {n : Nat} {g h : Nat → Nat} (h1 : lxt n g h) (h2 : ∀ j, j < n → g j = h j) : False := by
  obtain ⟨p, p1, -, p3⟩ := h1
  have := h2 p p1
  omega
theorem lxt_first {n : Nat} {h : Nat → Nat} (hh : pmn n h) : ¬ lxt n h (fun j => j) := by
  rintro ⟨p, p1, p2, p3⟩
  have p3' : h p < p := p3
  have e : h (h p) = h p := p2 (h p) p3'
  have := hh.2 (h p) p (by omega) p1 e
  omega
theorem lxt_last {n : Nat} {g h : Nat → Nat} (hp : pmn n g) (hh : pmn n h) (hd : ods n 0 g) : ¬ lxt n g h := by
  rintro ⟨p, p1, p2, p3⟩
  obtain ⟨t, t1, t2⟩ := surj hp (hh.1 p p1)
  by_cases c : t < p
  · have e := p2 t c
    have := hh.2 t p t1 p1 (by rw [← e]; exact t2)
    omega
  · by_cases d : t = p
    · rw [d] at t2; omega
    · have := hd p t (by omega) (by omega) t1
      omega
/-- nothing lies between an order and the next one -/
theorem lxt_nx {n i : Nat} {g g' h : Nat → Nat} (hp : pmn n g) (hn : nxs n i g g') (hh : pmn n h) (hl : lxt n g h) : lxt n g' h ∨ ∀ j, j < n → g' j = h j := by
  obtain ⟨⟨a1, a2, a3⟩, b2, b3, -, b5, b6, b7⟩ := hn
  obtain ⟨p, p1, p2, p3⟩ := hl
  by_cases c : p < i
  · refine Or.inl ⟨p, p1, fun j hj => (b2 j (by omega)).trans (p2 j hj), ?_⟩
    rw [b2 p c]
    exact p3
  · obtain ⟨t, t1, t2⟩ := surj hp (hh.1 p p1)
    have tp : ¬ t < p := fun w => by
      have e := p2 t w
      have := hh.2 t p t1 p1 (by rw [← e]; exact t2)
      omega
    have tne : t ≠ p := fun w => by rw [w] at t2; omega
    by_cases d : i < p
    · have := a3 p t (by omega) (by omega) t1
      omega
    · have e : p = i := by omega
      subst e
      have le := b5 t (by omega) t1 (by omega)
      rcases lxt_tot (n := n) g' h with w | w | w
      · exact Or.inl w
      · exfalso
        obtain ⟨q, q1, q2, q3⟩ := w
        by_cases cq : q < p
        · have e1 := b2 q cq
          have e2 := p2 q cq
          omega
        · by_cases dq : q = p
          · rw [dq] at q3
            omega
          · obtain ⟨u, u1, u2⟩ := surj b7 (hh.1 q q1)
            by_cases cu : u < q
            · have e1 := q2 u cu
              have := hh.2 u q u1 q1 (by rw [e1]; exact u2)
              omega
            · by_cases du : u = q
              · rw [du] at u2; omega
              · have := b6 q u (by omega) (by omega) u1
                omega
      · exact Or.inr w
theorem wins_fr {N : Nat} {μ : Mem} : par (f_M_wins N μ) (fun q => fr [27] [] μ q.2) := by
  unfold f_M_wins
  refine p_bnd ?_
  refine p_it2 (fun _ s => fr [27] [] μ s) ?_ N _ _ (fr_r _ _ _)
  rintro self i s hf ih
  unfold M_wins_B7
  refine p_if (fun _ => ?_) (fun _ => p_gd (fun _ => p_gd (fun _ => p_bnd (ih _ _ (fr_t hf (fr_sI (by decide)))))))
  unfold M_wins_K30
  refine p_it2 (fun _ s => fr [27] [] μ s) ?_ N _ _ hf
  rintro self6 i4 s5 hf5 ih6
  unfold M_wins_B30
  refine p_if (fun _ => p_some hf5) (fun _ => p_bnd ?_)
  refine p_it2 (fun _ s => fr [27] [] μ s) ?_ N _ _ hf5
  rintro self10 i8 s9 hf9 ih10
  unfold M_wins_B41
  refine p_if (fun _ => ih6 _ _ hf9) (fun _ => p_gd (fun _ => p_bnd (p_gd (fun _ => p_bnd ?_))))
  refine p_ob (fun _ => True) (fun _ _ => trivial) (fun r _ => ?_)
  unfold M_wins_J91
  exact p_if (fun _ => p_gd (fun _ => p_bnd (ih10 _ _ (fr_t hf9 (fr_sI (by decide)))))) (fun _ => p_gd (fun _ => p_bnd (ih10 _ _ (fr_t hf9 (fr_sI (by decide))))))
/-- who wins by an order -/
def wng (f : Nat → Int32) (k : Nat) (g : Nat → Nat) : Int32 := cw f k (fun j => nI (g j))
theorem wng_c {f : Nat → Int32} {k : Nat} {g h : Nat → Nat} (e : ∀ j, j < 2 ^ k → g j = h j) : wng f k g = wng f k h := cw_c k (fun i hi => by rw [e i hi])
def lst (f : Nat → Int32) (k x : Nat) (i : Nat) (r : Int32) : Prop := (r = -3 ∧ ∀ h, pmn (2 ^ k) h → ¬ wng f k h = nI x) ∨ ∃ g, pmn (2 ^ k) g ∧ wng f k g = nI x ∧ (∀ h, pmn (2 ^ k) h → lxt (2 ^ k) h g → ¬ wng f k h = nI x) ∧ r = nI (g i)
theorem lst_u {f : Nat → Int32} {k x i : Nat} {r r' : Int32} (hi : i < 2 ^ k) (h : lst f k x i r) (h' : lst f k x i r') : r = r' := by
  rcases h with ⟨a1, a2⟩ | ⟨g, a1, a2, a3, a4⟩
  · rcases h' with ⟨b1', b2'⟩ | ⟨g', b1', b2', b3', b4'⟩
    · rw [a1, b1']
    · exact absurd b2' (a2 g' b1')
  · rcases h' with ⟨b1', b2'⟩ | ⟨g', b1', b2', b3', b4'⟩
    · exact absurd a2 (b2' g a1)
    · rcases lxt_tot (n := 2 ^ k) g g' with w | w | w
      · exact absurd a2 (b3' g a1 w)
      · exact absurd b2' (a3 g' b1' w)
      · rw [a4, b4', w i hi]
theorem srch_M {N : Nat} {s1 : Mem} {f : Nat → Int32} {k x i : Nat} (hk : k ≤ 3) (hi : i < 2 ^ k) (h1 : gI s1 1 0 = nI (2 ^ k)) (h13 : ∀ a, a < 8 → gI s1 1 (1 + a) = f a) : par (ob (f_M_firstOrder N s1) fun s2 => it2 (M_cup_B76 N (nI x) (nI i)) N (1 : Int32) s2) (fun q => lst f k x i q.1) := by
  have k8 : 2 ^ k ≤ 8 := by
    rcases (show k = 0 ∨ k = 1 ∨ k = 2 ∨ k = 3 by omega) with rfl | rfl | rfl | rfl <;> decide
  have k1 : 1 ≤ 2 ^ k := Nat.pow_pos (by decide)
  refine p_ob _ (first_M k8) (fun s2 hs => ?_)
  obtain ⟨f2, o2⟩ := hs
  refine p_it2 (fun i5 s => fr [26, 27] [] s1 s ∧ ((i5 = 0 ∧ ∀ h, pmn (2 ^ k) h → ¬ wng f k h = nI x) ∨ (i5 = 1 ∧ ∃ g, pmn (2 ^ k) g ∧ od (2 ^ k) s g ∧ ∀ h, pmn (2 ^ k) h → lxt (2 ^ k) h g → ¬ wng f k h = nI x))) ?_ N _ _ ⟨fr_m f2 (by decide) (by decide), Or.inr ⟨rfl, fun j => j, id_p _, o2, fun h hh hl => absurd hl (lxt_first hh)⟩⟩
  rintro self i5 s ⟨hf, h⟩ ih
  unfold M_cup_B76 M_cup_K96
  rcases h with ⟨e5, hall⟩ | ⟨e5, g, hp, ho, hNB⟩
  · rw [if_pos e5, if_pos e5]
    exact p_some (Or.inl ⟨rfl, hall⟩)
  · rw [if_neg (by rw [e5]; decide)]
    have g1 : gI s 1 = gI s1 1 := hf.1 1 (by decide)
    have hw : cw f k (gI s 26) = wng f k g := cw_c k (fun j hj => ho j hj)
    refine p_obq _ (p_and (wins_M (f := f) hk (by rw [g1]; exact h1) (fun a ha => by rw [g1]; exact h13 a ha) (fun j hj => by rw [ho j hj]; exact nI_rg (by have := hp.1 j hj; omega) (by have := hp.1 j hj; omega)) hw) wins_fr) (fun r9 s8 h9 => ?_)
    obtain ⟨r1, f8⟩ := h9
    have r1' : r9 = wng f k g := r1
    have f8' : fr [27] [] s s8 := f8
    have o8 : od (2 ^ k) s8 g := fun j hj => by rw [f8'.1 26 (by decide)]; exact ho j hj
    have f8s : fr [26, 27] [] s1 s8 := fr_t hf (fr_m f8' (by decide) (by decide))
    rw [r1']
    refine p_if (fun c => ?_) (fun c => ?_)
    · rw [if_neg (by rw [e5]; decide), nI_clamp (by omega), o8 i hi]
      exact p_gd (fun _ => p_some (Or.inr ⟨g, hp, c, hNB, rfl⟩))
    · refine p_obq _ (next_M k8 k1 (by rw [f8s.1 1 (by decide)]; exact h1) hp o8) (fun r11 s10 h11 => ?_)
      obtain ⟨f10, h11⟩ := h11
      have f10' : fr [26] [] s8 s10 := f10
      refine ih _ _ ⟨fr_t f8s (fr_m f10' (by decide) (by decide)), ?_⟩
      rcases h11 with ⟨w1, w2⟩ | ⟨w1, i', g', w2, w3⟩
      · refine Or.inl ⟨w1, fun h hh hx => ?_⟩
        rcases lxt_tot (n := 2 ^ k) g h with w | w | w
        · exact lxt_last hp hh w2 w
        · exact hNB h hh w hx
        · exact c ((wng_c w).trans hx)
      · refine Or.inr ⟨w1, g', w2.2.2.2.2.2.2, w3, fun h hh hl hx => ?_⟩
        rcases lxt_tot (n := 2 ^ k) g h with w | w | w
        · rcases lxt_nx hp w2 hh w with u | u
          · exact lxt_as u hl
          · exact lxt_ne hl (fun j hj => (u j hj).symm)
        · exact hNB h hh w hx
        · exact c ((wng_c w).trans hx)
