/-! names: the component counts them by calls -/
theorem isbS_e {σ : Mem} {x y : Nat} (hx : x < 8) (hy : y < 32) : f_Du_isBeatingS (nI x) (nI y) σ = some (if bt (gI σ 14 x) y = true then 1 else 0) := by
  unfold f_Du_isBeatingS
  rw [gd_t (inb_nI hx (by decide)), nI_clamp (by omega), shr1 hy]
  cases bt (gI σ 14 x) y
  · rw [if_neg (by decide)]; rfl
  · rw [if_pos (by decide)]; rfl
theorem fitNN_D {N : Nat} {σ : Mem} {g : Nat → Nat} {i v : Nat} (hi : i < 8) (hv : v < 8) (hg : ∀ y, y < i → gI σ 27 y = nI (g y)) (hg8 : ∀ y, y < i → g y < 8) : par (f_Na_isFittingNN N (nI i) (nI v) σ) (fun r => r = if ftb (gI σ 13) (gI σ 13) g i v i = true then 1 else 0) := by
  unfold f_Na_isFittingNN
  refine p_it1 (fun i1 => ∃ k, k ≤ i ∧ i1 = nI k ∧ ftb (gI σ 13) (gI σ 13) g i v k = true) ?_ N _ ⟨0, by omega, rfl, rfl⟩
  rintro self _ ⟨k, hk, rfl, hb⟩ ih
  unfold Na_isFittingNN_B3
  refine p_if (fun c => ?_) (fun c => ?_)
  · rw [nle (by omega) (by omega)] at c
    have : k = i := by omega
    subst this
    exact p_some (by rw [hb, if_pos rfl])
  · rw [nle (by omega) (by omega)] at c
    have g8 := hg8 k (by omega)
    rw [isb_e hi (by omega), ob_s, nI_clamp (by omega), hg k (by omega), isb_e hv (by omega), nadd1]
    have hs : ftb (gI σ 13) (gI σ 13) g i v (k + 1) = (ftb (gI σ 13) (gI σ 13) g i v k && (bt (gI σ 13 i) k == bt (gI σ 13 v) (g k))) := rfl
    rw [hb, Bool.true_and] at hs
    refine p_gd (fun _ => ?_)
    rw [ob_s]
    refine p_if (fun c2 => ?_) (fun c2 => p_some ?_)
    · refine ih _ ⟨k + 1, by omega, rfl, ?_⟩
      rw [hs, beq_iff_eq]
      revert c2
      cases bt (gI σ 13 i) k <;> cases bt (gI σ 13 v) (g k) <;> decide
    · have nf : ¬ ftb (gI σ 13) (gI σ 13) g i v i = true := fun w => by
        have := ftb_t.mp w k (by omega)
        rw [this] at c2
        exact c2 rfl
      rw [if_neg nf]
theorem wayNN_D {N d : Nat} {n i : Nat} {U : Int32} {g : Nat → Nat} {σ : Mem} (h8 : n ≤ 8) (hi : i ≤ n) (h3 : gI σ 3 0 = nI n) (h4 : gI σ 3 0 = nI n) (hU : ∀ v, v < 8 → bt U v = usd g i v) (hg : ∀ y, y < i → gI σ 27 y = nI (g y)) (hg8 : ∀ y, y < i → g y < n) : par (f_Na_waysFromNN N d (nI i) U σ) (fun q => q.1 = nI (Wdd (gI σ 13) (gI σ 13) n (n - i) g i) ∧ fr [27] [] σ q.2 ∧ ∀ y, y < i → gI q.2 27 y = gI σ 27 y) := by
  obtain ⟨fN, eN⟩ : ∃ x, x = gI σ 13 := ⟨_, rfl⟩
  obtain ⟨fO, eO⟩ : ∃ x, x = gI σ 13 := ⟨_, rfl⟩
  have eNO : fO = fN := eO.trans eN.symm
  subst eNO
  rw [← eO]
  have key : ∀ d i U (g : Nat → Nat) σ, i ≤ n → gI σ 3 0 = nI n → gI σ 3 0 = nI n → gI σ 13 = fO → gI σ 13 = fO → (∀ v, v < 8 → bt U v = usd g i v) → (∀ y, y < i → gI σ 27 y = nI (g y)) → (∀ y, y < i → g y < n) → par (f_Na_waysFromNN N d (nI i) U σ) (fun q => q.1 = nI (Wdd fO fO n (n - i) g i) ∧ fr [27] [] σ q.2 ∧ ∀ y, y < i → gI q.2 27 y = gI σ 27 y) := by
    intro d
    induction d with
    | zero => intro i U g σ _ _ _ _ _ _ _ _ x e; cases e
    | succ d ihd =>
      intro i U g σ hi h3 h4 h13 h14 hU hg hg8
      show par (Na_waysFromNN_R N (f_Na_waysFromNN N d) (nI i) U σ) _
      unfold Na_waysFromNN_R
      rw [h3]
      refine p_if (fun c => ?_) (fun c => ?_)
      · rw [nlt (by omega) (by omega)] at c
        have ed : n - i = (n - (i + 1)) + 1 := by omega
        rw [ed]
        obtain ⟨F, eF⟩ : ∃ F : Nat → Nat, F = fun v => if (!usd g i v && ftb fO fO g i v i) = true then Wdd fO fO n (n - (i + 1)) (put1 g i v) (i + 1) else 0 := ⟨_, rfl⟩
        have eW : Wdd fO fO n (n - (i + 1) + 1) g i = sm F n := by rw [eF]; rfl
        rw [eW]
        refine p_it3 (fun i1 i2 s => ∃ v, v ≤ n ∧ i2 = nI v ∧ i1 = nI (sm F v) ∧ fr [27] [] σ s ∧ ∀ y, y < i → gI s 27 y = gI σ 27 y) ?_ N _ _ _ ⟨0, by omega, rfl, rfl, fr_r _ _ _, fun _ _ => rfl⟩
        rintro self4 _ _ s ⟨v, hv, rfl, rfl, hf, hy⟩ ih4
        unfold Na_waysFromNN_B16
        rw [hf.1 3 (by decide), h4]
        refine p_if (fun c2 => ?_) (fun c2 => ?_)
        · rw [nle (by omega) (by omega)] at c2
          have : v = n := by omega
          subst this
          exact p_some ⟨rfl, hf, hy⟩
        · rw [nle (by omega) (by omega)] at c2
          have hs : sm F (v + 1) = sm F v + F v := rfl
          have hFv : F v = if (!usd g i v && ftb fO fO g i v i) = true then Wdd fO fO n (n - (i + 1)) (put1 g i v) (i + 1) else 0 := by rw [eF]
          rw [bit_bt (by omega), hU v (by omega), nadd1 v]
          cases hu : usd g i v
          · rw [if_pos (by decide)]
            refine p_ob _ (fitNN_D (g := g) (by omega) (by omega) (fun y hy2 => by rw [hy y hy2]; exact hg y hy2) (fun y hy2 => by have := hg8 y hy2; omega)) (fun r hr => ?_)
            rw [hf.1 13 (by decide), h13] at hr
            rw [hu] at hFv
            cases hfit : ftb fO fO g i v i
            · rw [hfit, if_neg (by decide)] at hr
              rw [hfit, if_neg (by decide)] at hFv
              rw [if_pos hr]
              exact ih4 _ _ _ ⟨v + 1, by omega, rfl, by rw [hs, hFv, Nat.add_zero], hf, hy⟩
            · rw [hfit, if_pos rfl] at hr
              rw [hfit, if_pos (by decide)] at hFv
              rw [if_neg (by rw [hr]; decide)]
              refine p_gd (fun _ => p_let (fun s6 e6 => ?_))
              rw [nI_clamp (by omega)] at e6
              have f6 : fr [27] [] σ s6 := by rw [e6]; exact fr_t hf (fr_sI (by decide))
              rw [nadd1 i]
              refine p_obq _ (ihd (i + 1) (U ||| ((1 : Int32) <<< (nI v &&& 31))) (put1 g i v) s6 (by omega) (by rw [f6.1 3 (by decide)]; exact h3) (by rw [f6.1 3 (by decide)]; exact h4) (by rw [f6.1 13 (by decide)]; exact h13) (by rw [f6.1 13 (by decide)]; exact h14) (fun w hw => ?_) (fun y hy2 => ?_) (fun y hy2 => ?_)) (fun r8 s7 h7 => p_bnd ?_)
              · have e1 : usd (put1 g i v) (i + 1) w = (usd (put1 g i v) i w || decide (put1 g i v i = w)) := rfl
                have e2 : usd (put1 g i v) i w = usd g i w := usd_c i (fun j hj => by unfold put1; rw [if_neg (by omega)])
                have e3 : put1 g i v i = v := by unfold put1; rw [if_pos rfl]
                rw [bt_or, hU w hw, bt_one (by omega) (by omega), e1, e2, e3]
                by_cases cw : w = v
                · rw [decide_eq_true cw, decide_eq_true cw.symm]
                · rw [decide_eq_false cw, decide_eq_false (fun z => cw z.symm)]
              · unfold put1
                rw [e6, gI_sI, if_pos rfl, upd_ap]
                by_cases cy : y = i
                · rw [if_pos cy, if_pos cy]
                · rw [if_neg cy, if_neg cy, hy y (by omega)]
                  exact hg y (by omega)
              · unfold put1
                by_cases cy : y = i
                · rw [if_pos cy]; omega
                · rw [if_neg cy]
                  exact hg8 y (by omega)
              · obtain ⟨k1, k2, k3⟩ := h7
                have k1' : r8 = nI (Wdd fO fO n (n - (i + 1)) (put1 g i v) (i + 1)) := k1
                refine ih4 _ _ _ ⟨v + 1, by omega, rfl, by rw [k1', nI_add, hs, hFv], fr_t f6 k2, fun y hy2 => ?_⟩
                have := k3 y (by omega)
                rw [this, e6, gI_sI, if_pos rfl, upd_ap, if_neg (by omega)]
                exact hy y hy2
          · rw [if_neg (by decide)]
            rw [hu, if_neg (by simp)] at hFv
            exact ih4 _ _ _ ⟨v + 1, by omega, rfl, by rw [hs, hFv, Nat.add_zero], hf, hy⟩
      · rw [nlt (by omega) (by omega)] at c
        have : n - i = 0 := by omega
        rw [this]
        exact p_some ⟨rfl, fr_r _ _ _, fun _ _ => rfl⟩
  exact key d i U g σ hi h3 h4 eO.symm eO.symm hU hg hg8
theorem fitNS_D {N : Nat} {σ : Mem} {g : Nat → Nat} {i v : Nat} (hi : i < 8) (hv : v < 8) (hg : ∀ y, y < i → gI σ 27 y = nI (g y)) (hg8 : ∀ y, y < i → g y < 8) : par (f_Na_isFittingNS N (nI i) (nI v) σ) (fun r => r = if ftb (gI σ 13) (gI σ 14) g i v i = true then 1 else 0) := by
  unfold f_Na_isFittingNS
  refine p_it1 (fun i1 => ∃ k, k ≤ i ∧ i1 = nI k ∧ ftb (gI σ 13) (gI σ 14) g i v k = true) ?_ N _ ⟨0, by omega, rfl, rfl⟩
  rintro self _ ⟨k, hk, rfl, hb⟩ ih
  unfold Na_isFittingNS_B3
  refine p_if (fun c => ?_) (fun c => ?_)
  · rw [nle (by omega) (by omega)] at c
    have : k = i := by omega
    subst this
    exact p_some (by rw [hb, if_pos rfl])
  · rw [nle (by omega) (by omega)] at c
    have g8 := hg8 k (by omega)
    rw [isb_e hi (by omega), ob_s, nI_clamp (by omega), hg k (by omega), isbS_e hv (by omega), nadd1]
    have hs : ftb (gI σ 13) (gI σ 14) g i v (k + 1) = (ftb (gI σ 13) (gI σ 14) g i v k && (bt (gI σ 13 i) k == bt (gI σ 14 v) (g k))) := rfl
    rw [hb, Bool.true_and] at hs
    refine p_gd (fun _ => ?_)
    rw [ob_s]
    refine p_if (fun c2 => ?_) (fun c2 => p_some ?_)
    · refine ih _ ⟨k + 1, by omega, rfl, ?_⟩
      rw [hs, beq_iff_eq]
      revert c2
      cases bt (gI σ 13 i) k <;> cases bt (gI σ 14 v) (g k) <;> decide
    · have nf : ¬ ftb (gI σ 13) (gI σ 14) g i v i = true := fun w => by
        have := ftb_t.mp w k (by omega)
        rw [this] at c2
        exact c2 rfl
      rw [if_neg nf]
theorem wayNS_D {N d : Nat} {n i : Nat} {U : Int32} {g : Nat → Nat} {σ : Mem} (h8 : n ≤ 8) (hi : i ≤ n) (h3 : gI σ 3 0 = nI n) (h4 : gI σ 4 0 = nI n) (hU : ∀ v, v < 8 → bt U v = usd g i v) (hg : ∀ y, y < i → gI σ 27 y = nI (g y)) (hg8 : ∀ y, y < i → g y < n) : par (f_Na_waysFromNS N d (nI i) U σ) (fun q => q.1 = nI (Wdd (gI σ 13) (gI σ 14) n (n - i) g i) ∧ fr [27] [] σ q.2 ∧ ∀ y, y < i → gI q.2 27 y = gI σ 27 y) := by
  obtain ⟨fN, eN⟩ : ∃ x, x = gI σ 13 := ⟨_, rfl⟩
  obtain ⟨fO, eO⟩ : ∃ x, x = gI σ 14 := ⟨_, rfl⟩
  rw [← eN, ← eO]
  have key : ∀ d i U (g : Nat → Nat) σ, i ≤ n → gI σ 3 0 = nI n → gI σ 4 0 = nI n → gI σ 13 = fN → gI σ 14 = fO → (∀ v, v < 8 → bt U v = usd g i v) → (∀ y, y < i → gI σ 27 y = nI (g y)) → (∀ y, y < i → g y < n) → par (f_Na_waysFromNS N d (nI i) U σ) (fun q => q.1 = nI (Wdd fN fO n (n - i) g i) ∧ fr [27] [] σ q.2 ∧ ∀ y, y < i → gI q.2 27 y = gI σ 27 y) := by
    intro d
    induction d with
    | zero => intro i U g σ _ _ _ _ _ _ _ _ x e; cases e
    | succ d ihd =>
      intro i U g σ hi h3 h4 h13 h14 hU hg hg8
      show par (Na_waysFromNS_R N (f_Na_waysFromNS N d) (nI i) U σ) _
      unfold Na_waysFromNS_R
      rw [h3]
      refine p_if (fun c => ?_) (fun c => ?_)
      · rw [nlt (by omega) (by omega)] at c
        have ed : n - i = (n - (i + 1)) + 1 := by omega
        rw [ed]
        obtain ⟨F, eF⟩ : ∃ F : Nat → Nat, F = fun v => if (!usd g i v && ftb fN fO g i v i) = true then Wdd fN fO n (n - (i + 1)) (put1 g i v) (i + 1) else 0 := ⟨_, rfl⟩
        have eW : Wdd fN fO n (n - (i + 1) + 1) g i = sm F n := by rw [eF]; rfl
        rw [eW]
        refine p_it3 (fun i1 i2 s => ∃ v, v ≤ n ∧ i2 = nI v ∧ i1 = nI (sm F v) ∧ fr [27] [] σ s ∧ ∀ y, y < i → gI s 27 y = gI σ 27 y) ?_ N _ _ _ ⟨0, by omega, rfl, rfl, fr_r _ _ _, fun _ _ => rfl⟩
        rintro self4 _ _ s ⟨v, hv, rfl, rfl, hf, hy⟩ ih4
        unfold Na_waysFromNS_B16
        rw [hf.1 4 (by decide), h4]
        refine p_if (fun c2 => ?_) (fun c2 => ?_)
        · rw [nle (by omega) (by omega)] at c2
          have : v = n := by omega
          subst this
          exact p_some ⟨rfl, hf, hy⟩
        · rw [nle (by omega) (by omega)] at c2
          have hs : sm F (v + 1) = sm F v + F v := rfl
          have hFv : F v = if (!usd g i v && ftb fN fO g i v i) = true then Wdd fN fO n (n - (i + 1)) (put1 g i v) (i + 1) else 0 := by rw [eF]
          rw [bit_bt (by omega), hU v (by omega), nadd1 v]
          cases hu : usd g i v
          · rw [if_pos (by decide)]
            refine p_ob _ (fitNS_D (g := g) (by omega) (by omega) (fun y hy2 => by rw [hy y hy2]; exact hg y hy2) (fun y hy2 => by have := hg8 y hy2; omega)) (fun r hr => ?_)
            rw [hf.1 13 (by decide), hf.1 14 (by decide), h13, h14] at hr
            rw [hu] at hFv
            cases hfit : ftb fN fO g i v i
            · rw [hfit, if_neg (by decide)] at hr
              rw [hfit, if_neg (by decide)] at hFv
              rw [if_pos hr]
              exact ih4 _ _ _ ⟨v + 1, by omega, rfl, by rw [hs, hFv, Nat.add_zero], hf, hy⟩
            · rw [hfit, if_pos rfl] at hr
              rw [hfit, if_pos (by decide)] at hFv
              rw [if_neg (by rw [hr]; decide)]
              refine p_gd (fun _ => p_let (fun s6 e6 => ?_))
              rw [nI_clamp (by omega)] at e6
              have f6 : fr [27] [] σ s6 := by rw [e6]; exact fr_t hf (fr_sI (by decide))
              rw [nadd1 i]
              refine p_obq _ (ihd (i + 1) (U ||| ((1 : Int32) <<< (nI v &&& 31))) (put1 g i v) s6 (by omega) (by rw [f6.1 3 (by decide)]; exact h3) (by rw [f6.1 4 (by decide)]; exact h4) (by rw [f6.1 13 (by decide)]; exact h13) (by rw [f6.1 14 (by decide)]; exact h14) (fun w hw => ?_) (fun y hy2 => ?_) (fun y hy2 => ?_)) (fun r8 s7 h7 => p_bnd ?_)
              · have e1 : usd (put1 g i v) (i + 1) w = (usd (put1 g i v) i w || decide (put1 g i v i = w)) := rfl
                have e2 : usd (put1 g i v) i w = usd g i w := usd_c i (fun j hj => by unfold put1; rw [if_neg (by omega)])
                have e3 : put1 g i v i = v := by unfold put1; rw [if_pos rfl]
                rw [bt_or, hU w hw, bt_one (by omega) (by omega), e1, e2, e3]
                by_cases cw : w = v
                · rw [decide_eq_true cw, decide_eq_true cw.symm]
                · rw [decide_eq_false cw, decide_eq_false (fun z => cw z.symm)]
              · unfold put1
                rw [e6, gI_sI, if_pos rfl, upd_ap]
                by_cases cy : y = i
                · rw [if_pos cy, if_pos cy]
                · rw [if_neg cy, if_neg cy, hy y (by omega)]
                  exact hg y (by omega)
              · unfold put1
                by_cases cy : y = i
                · rw [if_pos cy]; omega
                · rw [if_neg cy]
                  exact hg8 y (by omega)
              · obtain ⟨k1, k2, k3⟩ := h7
                have k1' : r8 = nI (Wdd fN fO n (n - (i + 1)) (put1 g i v) (i + 1)) := k1
                refine ih4 _ _ _ ⟨v + 1, by omega, rfl, by rw [k1', nI_add, hs, hFv], fr_t f6 k2, fun y hy2 => ?_⟩
                have := k3 y (by omega)
                rw [this, e6, gI_sI, if_pos rfl, upd_ap, if_neg (by omega)]
                exact hy y hy2
          · rw [if_neg (by decide)]
            rw [hu, if_neg (by simp)] at hFv
            exact ih4 _ _ _ ⟨v + 1, by omega, rfl, by rw [hs, hFv, Nat.add_zero], hf, hy⟩
      · rw [nlt (by omega) (by omega)] at c
        have : n - i = 0 := by omega
        rw [this]
        exact p_some ⟨rfl, fr_r _ _ _, fun _ _ => rfl⟩
  exact key d i U g σ hi h3 h4 eN.symm eO.symm hU hg hg8
