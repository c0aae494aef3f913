/-! alike answers alike -/
theorem ial_M {N : Nat} {s1 : Mem} {f o : Nat → Int32} {n k0 : Nat} (h8 : n ≤ 8) (hn : 1 ≤ n) (hk0 : k0 < 2) (hT : Tn n f) (hO : Tn n o) (h1 : gI s1 1 0 = nI n) (h13 : ∀ a, a < 8 → gI s1 1 (1 + a) = f a) (h4 : ∀ v, v < 8 → gI s1 4 (9 * k0 + 1 + v) = o v) {s2 : Mem} (f2 : fr [26] [] s1 s2) (o2 : od n s2 (fun j => j)) : par (M_isAlike_J25 N s2 (nI k0) (1 : Int32)) (fun q => (q.1 = 0 ∧ Wdd f o n n (fun j => j) 0 = 0) ∨ (q.1 = 1 ∧ ¬ Wdd f o n n (fun j => j) 0 = 0)) := by
  have l9' : (9 : Int32) = nI 9 := rfl
  have G1 : ∀ {s}, fr [26] [] s1 s → gI s 1 = gI s1 1 := fun h => h.1 1 (by decide)
  have G4 : ∀ {s}, fr [26] [] s1 s → gI s 4 = gI s1 4 := fun h => h.1 4 (by decide)
  have ea : ((9 : Int32) * nI k0) + (1 : Int32) = nI (9 * k0 + 1) := by rw [l9', nmulA, nadd1]
  -- no order at all that fits, or one
  have none' : ∀ g, pmn n g → nmp f o n g → ¬ Wdd f o n n (fun j => j) 0 = 0 := fun g hp hg hz => by
    have key : ∀ d i, i + d = n → (∀ h : Nat → Nat, (∀ j, j < i → h j = g j) → ¬ Wdd f o n d h i = 0) := fun d => by
      induction d with
      | zero => intro i _ h _ e; exact absurd e (by show ¬ (1 : Nat) = 0; decide)
      | succ d ihd =>
        intro i hi h hh e
        have e' : sm (fun v => if (!usd h i v && ftb f o h i v i) = true then Wdd f o n d (put1 h i v) (i + 1) else 0) n = 0 := e
        have gi := hp.1 i (by omega)
        have pos : 0 < sm (fun v => if (!usd h i v && ftb f o h i v i) = true then Wdd f o n d (put1 h i v) (i + 1) else 0) n := by
          refine (sm_pos n).mpr ⟨g i, gi, ?_⟩
          show 0 < (if (!usd h i (g i) && ftb f o h i (g i) i) = true then Wdd f o n d (put1 h i (g i)) (i + 1) else 0)
          have u0 : usd h i (g i) = false := by
            cases q : usd h i (g i)
            · rfl
            · obtain ⟨y, y1, y2⟩ := usd_t.mp q
              rw [hh y y1] at y2
              have := hp.2 y i (by omega) (by omega) y2
              omega
          have f1 : ftb f o h i (g i) i = true := by
            rw [ftb_c i hh]
            exact ftb_t.mpr (pgb_t.mp ((nmp_b hT hO hp).mp hg) i (by omega))
          rw [u0, f1, if_pos (by decide)]
          have := ihd (i + 1) (by omega) (put1 h i (g i)) (fun j hj => by
            unfold put1
            by_cases c : j = i
            · rw [if_pos c, c]
            · rw [if_neg c]
              exact hh j (by omega))
          omega
        omega
    exact key n 0 (by omega) (fun j => j) (fun j hj => by omega) hz
  unfold M_isAlike_J25
  have R := run_o hT hO (fun c g => c = 0 → ∀ K s, fr [26] [] s1 s → od n s g → par (it2 (M_isAlike_B26 N (nI k0)) K (1 : Int32) s) (fun q => (q.1 = 0 ∧ Wdd f o n n (fun j => j) 0 = 0) ∨ (q.1 = 1 ∧ ¬ Wdd f o n n (fun j => j) 0 = 0))) (fun c g => c = 0 → ∀ K s, fr [26] [] s1 s → od n s g → par (ob2 (f_M_nextOrder N s) fun r8 s7 => it2 (M_isAlike_B26 N (nI k0)) K r8 s7) (fun q => (q.1 = 0 ∧ Wdd f o n n (fun j => j) 0 = 0) ∨ (q.1 = 1 ∧ ¬ Wdd f o n n (fun j => j) 0 = 0))) (fun c g hp hE hc K s hf ho => ?_) (fun c g i hp hi hg hQ hc K s hf ho => ?_) n 0 (by omega) (fun j => j) 0 (id_p n) (fun a b _ hab _ => hab) (fun g' _ hp' hd' hc K s hf ho => ?_)
  · exact R rfl N s2 f2 o2
  · cases K with
    | zero => exact fun x e => by cases e
    | succ K =>
      show par (M_isAlike_B26 N (nI k0) (it2 (M_isAlike_B26 N (nI k0)) K) (1 : Int32) s) _
      have E2 := fun r2 => hE.2 r2 hc K s hf ho
      generalize it2 (M_isAlike_B26 N (nI k0)) K = slf at E2 ⊢
      unfold M_isAlike_B26
      rw [if_neg n10, ea]
      refine p_ob _ (anK_M (f := f) (o := o) (b0 := 9 * k0 + 1) (by omega) (fun v hv => by rw [G4 hf]; exact h4 v hv) h8 (by rw [G1 hf]; exact h1) (fun a ha => by rw [G1 hf]; exact h13 a ha) hp ho) (fun r6 h6 => ?_)
      rcases h6 with ⟨r1, r2⟩ | ⟨r1, r2⟩
      · rw [if_neg (by rw [r1]; decide)]
        exact p_gd (fun _ => p_some (Or.inr ⟨rfl, none' g hp r2⟩))
      · rw [if_pos r1]
        exact E2 r2
  · refine p_obq _ (next_M h8 hn (by rw [G1 hf]; exact h1) hp ho) (fun r s10 h10 => ?_)
    obtain ⟨f10, h10⟩ := h10
    have f10' : fr [26] [] s s10 := f10
    rcases h10 with ⟨-, hd⟩ | ⟨r1, i', g', hn', ho'⟩
    · have := hd i (i + 1) (by omega) (by omega) hi
      omega
    · have r1' : r = 1 := r1
      rw [r1']
      exact hQ i' g' hn' hc K s10 (fr_t hf f10') ho'
  · refine p_obq _ (next_M h8 hn (by rw [G1 hf]; exact h1) hp' ho) (fun r s10 h10 => ?_)
    obtain ⟨f10, h10⟩ := h10
    rcases h10 with ⟨r1, -⟩ | ⟨r1, i', g2, hn', -⟩
    · have r1' : r = 0 := r1
      rw [r1']
      cases K with
      | zero => exact fun x e => by cases e
      | succ K =>
        show par (M_isAlike_B26 N (nI k0) (it2 (M_isAlike_B26 N (nI k0)) K) (0 : Int32) s10) _
        unfold M_isAlike_B26
        rw [if_pos rfl]
        refine p_gd (fun _ => p_some (Or.inl ⟨rfl, ?_⟩))
        have w : W1 f o n n (fun j => j) 0 = Wdd f o n n (fun j => j) 0 := rfl
        rw [← w]
        omega
    · exact absurd (no_nxs hn' hd') (fun w => w)
theorem Wdd_b {f o : Nat → Int32} {n : Nat} (h8 : n ≤ 8) : ∀ d g i, Wdd f o n d g i ≤ 8 ^ d
  | 0, _, _ => Nat.le_refl _
  | d + 1, g, i => by
    have h := sm_leK (g := fun v => if (!usd g i v && ftb f o g i v i) = true then Wdd f o n d (put1 g i v) (i + 1) else 0) (c := 8 ^ d) n (fun v _ => by
      show (if (!usd g i v && ftb f o g i v i) = true then Wdd f o n d (put1 g i v) (i + 1) else 0) ≤ 8 ^ d
      split
      · exact Wdd_b h8 d _ _
      · exact Nat.zero_le _)
    have h2 : 8 ^ d * n ≤ 8 ^ d * 8 := Nat.mul_le_mul (Nat.le_refl _) h8
    show sm (fun v => if (!usd g i v && ftb f o g i v i) = true then Wdd f o n d (put1 g i v) (i + 1) else 0) n ≤ 8 ^ (d + 1)
    rw [Nat.pow_succ]
    omega
theorem st_Rl_alike_c {N : Nat} (hN : 8589934592 ≤ N) {σ μ : Mem} (hR : Rl σ μ) (a b : Int32) : ∃ (q q2 : Int32 × Mem), f_D_alike N a b σ = some (q.1, q.2) ∧ f_M_alike N a b μ = some (q2.1, q2.2) ∧ Rl q.2 q2.2 ∧ q.1 = q2.1 := by
  obtain ⟨q, e1, k1⟩ := D_alike_t hN (a1 := a) (a2 := b) hR.1
  obtain ⟨q2, e2, k2⟩ := M_alike_t hN (a1 := a) (a2 := b) hR.2.1
  refine ⟨q, q2, e1, e2, Rl_q hR k1 k2.2 (by decide) (by decide), ?_⟩
  obtain ⟨s1, es1⟩ : ∃ s, s = sI μ 0 0 0 := ⟨_, rfl⟩
  obtain ⟨hR1, k0⟩ := Rl_m0 hR es1
  obtain ⟨n, h8, h3, h1, h13, hT⟩ := Rl_n hR1
  have l9' : (9 : Int32) = nI 9 := rfl
  unfold f_D_alike f_Pa_isKept at e1
  unfold f_M_alike at e2
  rw [bnd_e, ← es1] at e2
  have no : q.1 = -1 → q2.1 = -1 → q.1 = q2.1 := fun x y => by rw [x, y]
  have y1 : (1 : Int32).toInt = 1 := by decide
  have y2 : (2 : Int32).toInt = 2 := by decide
  rcases in01 a with ⟨i1, i2⟩ | ⟨i1, i2, i3, k, hk, rfl⟩
  · rw [if_pos i1] at e2
    refine no ?_ (by cases e2; rfl)
    by_cases c : a < 0
    · rw [if_pos c, ob_s, if_pos rfl] at e1
      cases e1
      rfl
    · have c2 : (2 : Int32) ≤ a := i_nlt (i2.resolve_left c)
      rw [if_neg c, if_pos c2, ob_s, if_pos rfl] at e1
      cases e1
      rfl
  · have c2 : ¬ (2 : Int32) ≤ nI k := fun w => by rw [i_le] at w; rw [i_lt] at i3; omega
    rw [if_neg i1, gd_t (inb_nI hk (by decide)), nI_clamp (by omega)] at e2
    rw [if_neg i2, if_neg c2, gd_t (inb_nI hk (by decide)), nI_clamp (by omega)] at e1
    rcases hR1.2.2.2.2.2 k hk with ⟨a1, a2⟩ | ⟨a1, a2, m, a3, a4, a5⟩
    · rw [if_pos a1] at e2
      rw [a2, if_pos ((lg_eq _ _).mpr rfl), ob_s, if_pos rfl] at e1
      exact no (by cases e1; rfl) (by cases e2; rfl)
    · have nk : ¬ gI s1 5 k = 0 := by rw [a1]; decide
      rw [if_neg nk] at e2
      rw [if_neg (fun w => a2 ((lg_eq _ _).mp w)), ob_s, if_neg n10] at e1
      rcases in01 b with ⟨j1, j2⟩ | ⟨j1, j2, j3, p, hp2, rfl⟩
      · rw [if_pos j1] at e2
        refine no ?_ (by cases e2; rfl)
        by_cases c : b < 0
        · rw [if_pos c] at e1
          cases e1
          rfl
        · have c3 : ¬ b ≤ 1 := fun w => by
            have := j2.resolve_left c
            rw [i_le, y1] at w
            rw [i_lt, y2] at this
            omega
          rw [if_neg c, if_neg c3] at e1
          cases e1
          rfl
      · have c3 : nI p ≤ (1 : Int32) := by rw [i_le, y1]; rw [i_lt, y2] at j3; omega
        rw [if_neg j1] at e2
        rw [if_neg j2, if_pos c3, gd_t (inb_nI hk (by decide))] at e1
        obtain ⟨o, eo⟩ : ∃ o : Nat → Int32, o = fun a => gI s1 4 (9 * k + 1 + a) := ⟨_, rfl⟩
        rw [← eo] at a4 a5
        have h4 : ∀ v, v < 8 → gI s1 4 (9 * k + 1 + v) = o v := fun v _ => by rw [eo]
        have m8 := a4.1
        obtain ⟨u, u1, u2, u3, u4⟩ := unpackS_s hN a4 σ
        rw [a5, u1, ob_s] at e1
        have g3 : gI u 3 0 = nI n := by rw [u2.1 3 (by decide)]; exact h3
        have g13 : gI u 13 = gI σ 13 := u2.1 13 (by decide)
        have hO : Tn m (gI u 14) := Tn_c (fun a ha => (u4 a ha).symm) a4
        have e9 : ((9 : Int32) * nI k) = nI (9 * k) := by rw [l9', nmulA]
        by_cases c : nI p = 0
        · rw [if_pos c] at e1 e2
          by_cases cm : n = m
          · subst cm
            by_cases n0' : n = 0
            · subst n0'
              exfalso
              rw [a5] at a2
              exact a2 rfl
            · have D := wayNS_D (N := N) (d := 10) (i := 0) (U := 0) (g := fun j => j) (σ := u) h8 (by omega) g3 u3 (fun v _ => bt_0 v) (fun y hy => by omega) (fun y hy => by omega)
              have eW : Wdd (gI u 13) (gI u 14) n (n - 0) (fun j => j) 0 = Wdd (gI σ 13) (gI u 14) n n (fun j => j) 0 := by rw [g13]; rfl
              have wb : Wdd (gI σ 13) (gI u 14) n n (fun j => j) 0 ≤ 8 ^ 8 := Nat.le_trans (Wdd_b h8 n _ _) (Nat.pow_le_pow_right (by decide) h8)
              have A : par (ob2 (f_Na_waysToRenameNS N u) fun r5 s4 => if r5 ≤ (0 : Int32) then (some ((0 : Int32), s4)) else (some ((1 : Int32), s4))) (fun q => (q.1 = 0 ∧ Wdd (gI σ 13) (gI u 14) n n (fun j => j) 0 = 0) ∨ (q.1 = 1 ∧ ¬ Wdd (gI σ 13) (gI u 14) n n (fun j => j) 0 = 0)) := by
                refine p_obq (fun q => q.1 = nI (Wdd (gI σ 13) (gI u 14) n n (fun j => j) 0)) ?_ (fun r s h => ?_)
                · unfold f_Na_waysToRenameNS
                  rw [if_pos (by rw [g3, u3])]
                  refine p_obq (fun q => q.1 = nI (Wdd (gI σ 13) (gI u 14) n n (fun j => j) 0)) (p_mono D (fun q hq => by rw [← eW]; exact hq.1)) (fun r s h => p_some h)
                · have h' : r = nI (Wdd (gI σ 13) (gI u 14) n n (fun j => j) 0) := h
                  rw [h']
                  refine p_if (fun c4 => p_some (Or.inl ⟨rfl, ?_⟩)) (fun c4 => p_some (Or.inr ⟨rfl, ?_⟩))
                  · rw [l0, nle (by omega) (by decide)] at c4
                    omega
                  · rw [l0, nle (by omega) (by decide)] at c4
                    omega
              have o14 : ∀ v, v < 8 → gI s1 4 (9 * k + 1 + v) = gI u 14 v := fun v hv => by rw [h4 v hv, u4 v hv]
              have B : par (ob2 (f_M_isAlike N (nI k) s1) fun r14 s13 => if r14 = (0 : Int32) then (some ((0 : Int32), s13)) else (some ((1 : Int32), s13))) (fun q => (q.1 = 0 ∧ Wdd (gI σ 13) (gI u 14) n n (fun j => j) 0 = 0) ∨ (q.1 = 1 ∧ ¬ Wdd (gI σ 13) (gI u 14) n n (fun j => j) 0 = 0)) := by
                refine p_obq (fun q => (q.1 = 0 ∧ Wdd (gI σ 13) (gI u 14) n n (fun j => j) 0 = 0) ∨ (q.1 = 1 ∧ ¬ Wdd (gI σ 13) (gI u 14) n n (fun j => j) 0 = 0)) ?_ (fun r s h => ?_)
                · unfold f_M_isAlike
                  refine p_ob _ (first_M h8) (fun s2 hs => ?_)
                  have t1 : gI s2 4 (9 * k) = nI n := by rw [hs.1.1 4 (by decide)]; exact a3
                  have t2 : t_M_many s2 = nI n := many_e (by rw [hs.1.1 1 (by decide)]; exact h1)
                  rw [e9, nI_clamp (by omega), t1, t2, if_pos rfl]
                  exact p_gd (fun _ => ial_M h8 (by omega) hk hT hO h1 h13 o14 hs.1 hs.2)
                · rcases h with ⟨w1, w2⟩ | ⟨w1, w2⟩
                  · have w1' : r = 0 := w1
                    rw [if_pos w1']
                    exact p_some (Or.inl ⟨rfl, w2⟩)
                  · have w1' : r = 1 := w1
                    rw [if_neg (by rw [w1']; decide)]
                    exact p_some (Or.inr ⟨rfl, w2⟩)
              rcases A q e1 with ⟨w1, w2⟩ | ⟨w1, w2⟩ <;> rcases B q2 e2 with ⟨v1, v2⟩ | ⟨v1, v2⟩
              · rw [w1, v1]
              · exact absurd w2 v2
              · exact absurd v2 w2
              · rw [w1, v1]
          · have nm' : ¬ nI n = nI m := fun w => cm (nI_inj (by omega) (by omega) w)
            have A : par (ob2 (f_Na_waysToRenameNS N u) fun r5 s4 => if r5 ≤ (0 : Int32) then (some ((0 : Int32), s4)) else (some ((1 : Int32), s4))) (fun q => q.1 = 0) := by
              unfold f_Na_waysToRenameNS
              rw [g3, u3, if_neg nm', ob2_s, if_pos (by decide)]
              exact p_some rfl
            have B : par (ob2 (f_M_isAlike N (nI k) s1) fun r14 s13 => if r14 = (0 : Int32) then (some ((0 : Int32), s13)) else (some ((1 : Int32), s13))) (fun q => q.1 = 0) := by
              refine p_obq (fun q => q.1 = 0) ?_ (fun r s h => ?_)
              · unfold f_M_isAlike
                refine p_ob _ (first_M h8) (fun s2 hs => ?_)
                have t1 : gI s2 4 (9 * k) = nI m := by rw [hs.1.1 4 (by decide)]; exact a3
                have t2 : t_M_many s2 = nI n := many_e (by rw [hs.1.1 1 (by decide)]; exact h1)
                rw [e9, nI_clamp (by omega), t1, t2, if_neg (fun w => nm' w.symm)]
                refine p_gd (fun _ => ?_)
                unfold M_isAlike_J25
                cases N with
                | zero => exact absurd hN (by decide)
                | succ N' =>
                  show par (M_isAlike_B26 (N' + 1) (nI k) (it2 (M_isAlike_B26 (N' + 1) (nI k)) N') (0 : Int32) s2) _
                  unfold M_isAlike_B26
                  rw [if_pos rfl]
                  exact p_gd (fun _ => p_some rfl)
              · have h' : r = 0 := h
                rw [if_pos h']
                exact p_some rfl
            rw [A q e1, B q2 e2]
        · rw [if_neg c] at e1 e2
          have A : par (ob (f_Du_arrowsUnlikeN N u) fun r3 => some (r3, u)) (fun q => q.1 = nI (uns (gI σ 13) (gI u 14) (min n m))) := by
            have z := au_D (N := N) (s := u) (n := n) (m := m) (fun a => by rw [g13]; exact hR.1.r13 a) (by rw [g13]; exact hT) hO (by omega) g3 u3
            have r14 : ∀ a, rg 0 255 (gI u 14 a) := by
              obtain ⟨v, v1, v2⟩ := Du_unpackS_t hN (a1 := pk m o) (pk_jok m8 o) hR.1
              rw [u1] at v1
              cases v1
              exact v2.1.r14
            have z2 := z r14
            rw [g13] at z2
            exact p_ob _ z2 (fun r h => p_some h)
          have mm : min n m ≤ 8 := by omega
          have B : ∀ x, par (M_alike_J88 N s1 (nI k) (nI (min n m))) x → par (gd (inb ((9 : Int32) * nI k) 18) (if (t_M_many s1) ≤ (gI s1 4 ((9 : Int32) * nI k).toNatClampNeg) then (M_alike_J88 N s1 (nI k) (t_M_many s1)) else (gd (inb ((9 : Int32) * nI k) 18) (M_alike_J88 N s1 (nI k) (gI s1 4 ((9 : Int32) * nI k).toNatClampNeg))))) x := fun x hx => by
            rw [e9, nI_clamp (by omega), many_e h1, a3]
            refine p_gd (fun _ => p_if (fun c4 => ?_) (fun c4 => p_gd (fun _ => ?_)))
            · rw [nle (by omega) (by omega)] at c4
              have : min n m = n := by omega
              rw [this] at hx
              exact hx
            · rw [nle (by omega) (by omega)] at c4
              have : min n m = m := by omega
              rw [this] at hx
              exact hx
          have o14 : ∀ v, v < 8 → gI s1 4 (9 * k + 1 + v) = gI u 14 v := fun v hv => by rw [h4 v hv, u4 v hv]
          have B2 := B _ (au_M (f := gI σ 13) (o := gI u 14) mm hk h13 o14) q2 e2
          exact (A q e1).trans B2.symm
