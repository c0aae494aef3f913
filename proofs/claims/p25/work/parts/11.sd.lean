/-! names: the reference looks at each order; selves answers alike -/
theorem has_e2 {x y : Int32} {i j : Nat} (hi : i < 32) (hj : j < 32) : t_M_has x (nI i) = t_M_has y (nI j) ↔ bt x i = bt y j := by
  rw [has_bt hi, has_bt hj]
  cases bt x i <;> cases bt y j <;> decide
theorem anR_M {N : Nat} {s : Mem} {f : Nat → Int32} {n : Nat} {g : Nat → Nat} (h8 : n ≤ 8) (h1 : gI s 1 0 = nI n) (h13 : ∀ a, a < 8 → gI s 1 (1 + a) = f a) (hp : pmn n g) (ho : od n s g) : par (f_M_areNamesR N (1 : Int32) s) (fun r => (r = 1 ∧ nmp f f n g) ∨ (r = 0 ∧ ¬ nmp f f n g)) := by
  unfold f_M_areNamesR
  refine p_bnd ?_
  rw [many_e h1]
  refine p_it1 (fun i2 => ∃ x, x ≤ n ∧ i2 = nI x ∧ ∀ a b, a < x → a < b → b < n → bt (f a) b = bt (f (g a)) (g b)) ?_ N _ ⟨0, by omega, rfl, fun a b ha => by omega⟩
  rintro self _ ⟨x, hx, rfl, hA⟩ ih
  unfold M_areNamesR_B8
  refine p_if (fun c => ?_) (fun c => ?_)
  · rw [nle (by omega) (by omega)] at c
    exact p_some (Or.inl ⟨rfl, fun a b hab hb => hA a b (by omega) hab hb⟩)
  · rw [nle (by omega) (by omega)] at c
    refine p_bnd ?_
    rw [nadd1]
    refine p_it1 (fun i5 => ∃ y, x < y ∧ y ≤ n ∧ i5 = nI y ∧ ∀ b, x < b → b < y → bt (f x) b = bt (f (g x)) (g b)) ?_ N _ ⟨x + 1, by omega, by omega, rfl, fun b b1 b2 => by omega⟩
    rintro self6 _ ⟨y, hxy, hy, rfl, hB⟩ ih6
    unfold M_areNamesR_B20
    refine p_if (fun c2 => ?_) (fun c2 => ?_)
    · rw [nle (by omega) (by omega)] at c2
      rw [nadd1]
      refine ih _ ⟨x + 1, by omega, rfl, fun a b ha hab hb => ?_⟩
      by_cases ca : a = x
      · rw [ca] at hab ⊢
        exact hB b hab (by omega)
      · exact hA a b (by omega) hab hb
    · rw [nle (by omega) (by omega)] at c2
      have gx := hp.1 x (by omega)
      have gy := hp.1 y (by omega)
      rw [beats_e (by omega), ob_s, h13 x (by omega), nI_clamp (by omega), nI_clamp (by omega), ho x (by omega), ho y (by omega), n1add, nI_clamp (by omega), h13 (g x) (by omega)]
      refine p_gd (fun _ => p_gd (fun _ => p_gd (fun _ => ?_)))
      refine p_if (fun c3 => ?_) (fun c3 => p_some (Or.inr ⟨rfl, fun w => c3 ((has_e2 (by omega) (by omega)).mpr (w x y hxy (by omega)))⟩))
      have c4 := (has_e2 (by omega) (by omega)).mp c3
      rw [nadd1]
      refine ih6 _ ⟨y + 1, by omega, by omega, rfl, fun b b1 b2 => ?_⟩
      by_cases cb : b = y
      · rw [cb]; exact c4
      · exact hB b b1 (by omega)
theorem id_p (n : Nat) : pmn n (fun j => j) := ⟨fun _ h => h, fun _ _ _ _ e => e⟩
theorem no_nxs {n i : Nat} {g g' : Nat → Nat} (h : nxs n i g g') (hd : ods n 0 g) : False := by
  obtain ⟨⟨a1, a2, -⟩, -⟩ := h
  have := hd i (i + 1) (by omega) (by omega) a1
  omega
theorem slv_M {N : Nat} {s1 : Mem} {f : Nat → Int32} {n : Nat} (h8 : n ≤ 8) (hn : 1 ≤ n) (hT : Tn n f) (h1 : gI s1 1 0 = nI n) (h13 : ∀ a, a < 8 → gI s1 1 (1 + a) = f a) : par (ob (f_M_firstOrder N s1) fun s2 => it3 (M_selves_B22 N) N (0 : Int32) (1 : Int32) s2) (fun q => q.1 = nI (Wdd f f n n (fun j => j) 0)) := by
  refine p_ob _ (first_M h8) (fun s2 hs => ?_)
  obtain ⟨f2, o2⟩ := hs
  have G1 : ∀ {s}, fr [26] [] s1 s → gI s 1 = gI s1 1 := fun h => h.1 1 (by decide)
  have R := run_o hT hT (fun c g => ∀ K s, fr [26] [] s1 s → od n s g → par (it3 (M_selves_B22 N) K (nI c) (1 : Int32) s) (fun q => q.1 = nI (Wdd f f n n (fun j => j) 0))) (fun c g => ∀ K s, fr [26] [] s1 s → od n s g → par (ob2 (f_M_nextOrder N s) fun r11 s10 => it3 (M_selves_B22 N) K (nI c) r11 s10) (fun q => q.1 = nI (Wdd f f n n (fun j => j) 0))) (fun c g hp hE K s hf ho => ?_) (fun c g i hp hi hg hQ K s hf ho => ?_) n 0 (by omega) (fun j => j) 0 (id_p n) (fun a b _ hab _ => hab) (fun g' _ hp' hd' K s hf ho => ?_)
  · exact R N s2 f2 o2
  · cases K with
    | zero => exact fun x e => by cases e
    | succ K =>
      show par (M_selves_B22 N (it3 (M_selves_B22 N) K) (nI c) (1 : Int32) s) _
      unfold M_selves_B22
      rw [if_neg n10]
      refine p_ob _ (anR_M (f := f) h8 (by rw [G1 hf]; exact h1) (fun a ha => by rw [G1 hf]; exact h13 a ha) hp ho) (fun r7 h7 => ?_)
      rcases h7 with ⟨r1, r2⟩ | ⟨r1, r2⟩
      · rw [if_neg (by rw [r1]; decide)]
        unfold M_selves_J44
        refine p_bnd ?_
        rw [nadd1]
        exact hE.1 r2 K s hf ho
      · rw [if_pos r1]
        unfold M_selves_J44
        refine p_bnd ?_
        rw [Int32.add_zero]
        exact hE.2 r2 K s hf ho
  · refine p_obq _ (next_M h8 hn (by rw [G1 hf]; exact h1) hp ho) (fun r s10 h10 => ?_)
    obtain ⟨f10, h10⟩ := h10
    have f10' : fr [26] [] s s10 := f10
    rcases h10 with ⟨-, hd⟩ | ⟨r1, i', g', hn', ho'⟩
    · have := hd i (i + 1) (by omega) (by omega) hi
      omega
    · have r1' : r = 1 := r1
      rw [r1']
      exact hQ i' g' hn' K s10 (fr_t hf f10') ho'
  · refine p_obq _ (next_M h8 hn (by rw [G1 hf]; exact h1) hp' ho) (fun r s10 h10 => ?_)
    obtain ⟨f10, h10⟩ := h10
    rcases h10 with ⟨r1, -⟩ | ⟨r1, i', g2, hn', -⟩
    · have r1' : r = 0 := r1
      rw [r1']
      cases K with
      | zero => exact fun x e => by cases e
      | succ K =>
        show par (M_selves_B22 N (it3 (M_selves_B22 N) K) (nI (0 + W1 f f n n (fun j => j) 0)) (0 : Int32) s10) _
        unfold M_selves_B22
        rw [if_pos rfl]
        refine p_some ?_
        show nI (0 + W1 f f n n (fun j => j) 0) = _
        rw [Nat.zero_add]
        rfl
    · exact absurd (no_nxs hn' hd') (fun w => w)
theorem st_Rl_selves_c {N : Nat} (hN : 8589934592 ≤ N) {σ μ : Mem} (hR : Rl σ μ) : ∃ (q q2 : Int32 × Mem), f_D_selves N σ = some (q.1, q.2) ∧ f_M_selves N μ = some (q2.1, q2.2) ∧ Rl q.2 q2.2 ∧ q.1 = q2.1 := by
  obtain ⟨q, e1, k1⟩ := D_selves_t hN hR.1
  obtain ⟨q2, e2, k2⟩ := M_selves_t hN hR.2.1
  refine ⟨q, q2, e1, e2, Rl_q hR k1.2 k2 (by decide) (by decide), ?_⟩
  obtain ⟨s1, es1⟩ : ∃ s, s = sI μ 0 0 0 := ⟨_, rfl⟩
  obtain ⟨hR1, k0⟩ := Rl_m0 hR es1
  obtain ⟨n, h8, h3, h1, h13, hT⟩ := Rl_n hR1
  unfold f_D_selves at e1
  unfold f_M_selves at e2
  rw [bnd_e, ← es1] at e2
  by_cases n0' : n = 0
  · have d1 : gI σ 3 0 = 0 := by rw [h3, n0']; rfl
    have m1 : t_M_isRound s1 = 0 := rM0 (by unfold nr; rw [h1, n0']; rfl)
    rw [if_pos d1] at e1
    rw [if_pos m1] at e2
    cases e1
    cases e2
    rfl
  · have d1 : ¬ gI σ 3 0 = 0 := fun w => n0' ((eq0_iff h8).mp (by rw [← h3]; exact w))
    have m1 : ¬ t_M_isRound s1 = 0 := by
      unfold t_M_isRound
      rw [n0, h1]
      rcases (show n = 1 ∨ n = 2 ∨ n = 3 ∨ n = 4 ∨ n = 5 ∨ n = 6 ∨ n = 7 ∨ n = 8 by omega) with r | r | r | r | r | r | r | r <;> rw [r] <;> decide
    rw [if_neg d1] at e1
    rw [if_neg m1] at e2
    have b' := slv_M (N := N) h8 (by omega) hT h1 h13 q2 e2
    have a' : par (ob2 (f_Na_waysToRenameNN N σ) fun r2 s1 => some (r2, s1)) (fun q => q.1 = nI (Wdd (gI σ 13) (gI σ 13) n n (fun j => j) 0)) := by
      refine p_obq (fun q => q.1 = nI (Wdd (gI σ 13) (gI σ 13) n n (fun j => j) 0)) ?_ (fun r s h => p_some h)
      unfold f_Na_waysToRenameNN
      rw [if_pos rfl]
      have w := wayNN_D (N := N) (d := 10) (i := 0) (U := 0) (g := fun j => j) (σ := σ) h8 (by omega) h3 h3 (fun v _ => bt_0 v) (fun y hy => by omega) (fun y hy => by omega)
      exact p_obq (fun q => q.1 = nI (Wdd (gI σ 13) (gI σ 13) n n (fun j => j) 0)) (p_mono w (fun q hq => hq.1)) (fun r s h => p_some h)
    exact (a' q e1).trans b'.symm
