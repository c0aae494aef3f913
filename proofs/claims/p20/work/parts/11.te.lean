/-! cups: the least row of eight, as the component builds it -/
def w8a (f : Nat → Int32) (x h : Nat) : Int32 := if bt (nI h) x = true then (1 : Int32) <<< (nI x &&& 31) else f x
def w8b (f : Nat → Int32) (x h : Nat) : Int32 := if bt (nI h) x = true then f x else (1 : Int32) <<< (nI x &&& 31)
def W8 (f : Nat → Int32) (x h w v : Nat) : Prop := h < 256 ∧ h % 2 = 1 ∧ pc (nI h) = 4 ∧ w < 3 ∧ v < 3 ∧ bt (w8a f x h) (wm f h w) = true ∧ bt (w8b f x h) (wm f (dfs 255 h) v) = true
def v8 (h w v : Nat) : Nat := 4096 * r4w h w + r4w (dfs 255 h) v
theorem r4n {u : Nat} (h : u < 2147483648) : ¬ nI u = (-1 : Int32) := fun e => by
  have h1 : (nI u).toInt = (u : Int) := nI_toInt (by omega)
  rw [e] at h1
  have : (-1 : Int32).toInt = -1 := by decide
  omega
theorem r8l_D {N : Nat} {σ : Mem} {x : Nat} (h3 : gI σ 3 0 = nI 8) (hx : x < 8) : par (f_Cu_leastRowOfEight N (nI 255) (nI x) σ) (fun q => fr [21] [] σ q.2 ∧ ((q.1 = -1 ∧ ∀ h w v, ¬ W8 (gI σ 13) x h w v) ∨ ∃ h w v, W8 (gI σ 13) x h w v ∧ q.1 = nI (v8 h w v) ∧ ∀ h' w' v', W8 (gI σ 13) x h' w' v' → v8 h w v ≤ v8 h' w' v')) := by
  have l2' : (2 : Int32) = nI 2 := rfl
  unfold f_Cu_leastRowOfEight
  refine p_it3 (fun i1 i2 s => ∃ h, h % 2 = 1 ∧ h ≤ 255 ∧ i2 = nI h ∧ fr [21] [] σ s ∧ ((i1 = -1 ∧ ∀ h' w v, h' < h → ¬ W8 (gI σ 13) x h' w v) ∨ ∃ h0 w v, W8 (gI σ 13) x h0 w v ∧ i1 = nI (v8 h0 w v) ∧ ∀ h' w' v', h' < h → W8 (gI σ 13) x h' w' v' → v8 h0 w v ≤ v8 h' w' v')) ?_ N _ _ _ ⟨1, by decide, by decide, rfl, fr_r _ _ _, Or.inl ⟨rfl, fun h' w v hh hw => by
    have : h' = 0 := by omega
    have z := hw.2.1
    omega⟩⟩
  rintro self i1 _ s ⟨h, ho, hh, rfl, hf, hI⟩ ih
  unfold Cu_leastRowOfEight_B5
  have all : ∀ h' w v, W8 (gI σ 13) x h' w v → h' < 255 := fun h' w v hw => (d255 h' hw.1 hw.2.2.1).2.2.2.2.2.1
  refine p_if (fun c => ?_) (fun c => ?_)
  · rw [nle (by omega) (by omega)] at c
    have : h = 255 := by omega
    subst this
    refine p_some ⟨hf, ?_⟩
    rcases hI with ⟨e, a⟩ | ⟨h0, w, v, a, e, b⟩
    · exact Or.inl ⟨e, fun h' w v hw => a h' w v (all h' w v hw) hw⟩
    · exact Or.inr ⟨h0, w, v, a, e, fun h' w' v' hw => b h' w' v' (all h' w' v' hw) hw⟩
  · rw [nle (by omega) (by omega)] at c
    have e2 : nI h + (2 : Int32) = nI (h + 2) := by rw [l2', nI_add]
    have stay : ∀ s', fr [21] [] σ s' → (∀ w v, ¬ W8 (gI σ 13) x h w v) → par (self i1 (nI h + (2 : Int32)) s') (fun q => fr [21] [] σ q.2 ∧ ((q.1 = -1 ∧ ∀ h w v, ¬ W8 (gI σ 13) x h w v) ∨ ∃ h w v, W8 (gI σ 13) x h w v ∧ q.1 = nI (v8 h w v) ∧ ∀ h' w' v', W8 (gI σ 13) x h' w' v' → v8 h w v ≤ v8 h' w' v')) := fun s' hs' hno => by
      rw [e2]
      refine ih _ _ _ ⟨h + 2, by omega, by omega, rfl, hs', ?_⟩
      have key : ∀ h' w v, h' < h + 2 → W8 (gI σ 13) x h' w v → h' < h := fun h' w v h1 h2 => by
        by_cases d : h' = h
        · rw [d] at h2
          exact absurd h2 (hno w v)
        · have := h2.2.1
          omega
      rcases hI with ⟨e, a⟩ | ⟨h0, w, v, a, e, b⟩
      · exact Or.inl ⟨e, fun h' w v hw hw' => a h' w v (key h' w v hw hw') hw'⟩
      · exact Or.inr ⟨h0, w, v, a, e, fun h' w' v' hw hw' => b h' w' v' (key h' w' v' hw hw') hw'⟩
    rw [cnt_v (nI_rg (by omega) (by omega))]
    have p8 := pc_8 (nI h)
    refine p_if (fun c2 => ?_) (fun c2 => stay s hf (fun w v hw => c2 (by rw [hw.2.2.1]; rfl)))
    have h4 : pc (nI h) = 4 := nI_inj (by omega) (by decide) (show nI (pc (nI h)) = nI 4 from c2)
    obtain ⟨d1, d2, d3, d4', d5, d6, d7⟩ := d255 h (by omega) h4
    have fin : ∀ s7 r8, fr [21] [] σ s7 → ((r8 = -1 ∧ ∀ w, w < 3 → bt (w8a (gI σ 13) x h) (wm (gI σ 13) h w) = false) ∨ ∃ w, w < 3 ∧ bt (w8a (gI σ 13) x h) (wm (gI σ 13) h w) = true ∧ (∀ v, v < w → bt (w8a (gI σ 13) x h) (wm (gI σ 13) h v) = false) ∧ r8 = nI (r4w h w)) → par (Cu_leastRowOfEight_J95 N s7 (nI 255) i1 (nI h) r8 self (w8b (gI σ 13) x h)) (fun q => fr [21] [] σ q.2 ∧ ((q.1 = -1 ∧ ∀ h w v, ¬ W8 (gI σ 13) x h w v) ∨ ∃ h w v, W8 (gI σ 13) x h w v ∧ q.1 = nI (v8 h w v) ∧ ∀ h' w' v', W8 (gI σ 13) x h' w' v' → v8 h w v ≤ v8 h' w' v')) := fun s7 r8 hf7 hr8 => by
      unfold Cu_leastRowOfEight_J95
      rw [d4']
      refine p_obq _ (lr4_D (n := 8) (by decide) (by rw [hf7.1 3 (by decide)]; exact h3) (by omega : dfs 255 h < 2 ^ 8) d2 _) (fun r11 s10 h11 => ?_)
      obtain ⟨f10, h11⟩ := h11
      have f10' : fr [21] [] σ s10 := fr_t hf7 f10
      rw [hf7.1 13 (by decide)] at h11
      rcases hr8 with ⟨e8, n8'⟩ | ⟨w, w1, w2, w3, e8⟩
      · rw [if_pos e8]
        exact stay _ f10' (fun w v hw => by
          have := n8' w hw.2.2.2.1
          rw [hw.2.2.2.2.2.1] at this
          exact absurd this (by decide))
      · have b8 := r4w_b (by omega) h4 w1
        rw [if_neg (by rw [e8]; exact r4n (by omega))]
        rcases h11 with ⟨e11, n11⟩ | ⟨v, v1, v2, v3, e11⟩
        · have e11' : r11 = -1 := e11
          rw [if_pos e11']
          exact stay _ f10' (fun w v hw => by
            have := n11 v hw.2.2.2.2.1
            rw [hw.2.2.2.2.2.2] at this
            exact absurd this (by decide))
        · have e11' : r11 = nI (r4w (dfs 255 h) v) := e11
          have b11 := r4w_b d1 d2 v1
          rw [if_neg (by rw [e11']; exact r4n (by omega))]
          refine p_bnd ?_
          rw [e8, e11', shl12 (by omega) (by omega), e2]
          have hW : W8 (gI σ 13) x h w v := ⟨by omega, ho, h4, w1, v1, w2, v2⟩
          have ev : 4096 * r4w h w + r4w (dfs 255 h) v = v8 h w v := rfl
          rw [ev]
          have lv : v8 h w v < 4096 * 4096 := by
            show 4096 * r4w h w + r4w (dfs 255 h) v < _
            omega
          have least : ∀ w' v', W8 (gI σ 13) x h w' v' → v8 h w v ≤ v8 h w' v' := fun w' v' hw => by
            obtain ⟨x1, x2, x3, x4, x5, x6, x7⟩ := hw
            have a1 : w ≤ w' := by
              by_cases z : w' < w
              · have := w3 w' z
                rw [x6] at this
                exact absurd this (by decide)
              · omega
            have a2 : v ≤ v' := by
              by_cases z : v' < v
              · have := v3 v' z
                rw [x7] at this
                exact absurd this (by decide)
              · omega
            have m1 := r4w_m (by omega) h4 x4 a1
            have m2 := r4w_m d1 d2 x5 a2
            show 4096 * r4w h w + r4w (dfs 255 h) v ≤ 4096 * r4w h w' + r4w (dfs 255 h) v'
            omega
          have new : (∀ h' w' v', h' < h → W8 (gI σ 13) x h' w' v' → v8 h w v ≤ v8 h' w' v') → par (self (nI (v8 h w v)) (nI (h + 2)) s10) (fun q => fr [21] [] σ q.2 ∧ ((q.1 = -1 ∧ ∀ h w v, ¬ W8 (gI σ 13) x h w v) ∨ ∃ h w v, W8 (gI σ 13) x h w v ∧ q.1 = nI (v8 h w v) ∧ ∀ h' w' v', W8 (gI σ 13) x h' w' v' → v8 h w v ≤ v8 h' w' v')) := fun hn => by
            refine ih _ _ _ ⟨h + 2, by omega, by omega, rfl, f10', Or.inr ⟨h, w, v, hW, rfl, fun h' w' v' a b => ?_⟩⟩
            by_cases d : h' = h
            · rw [d] at b ⊢
              exact least w' v' b
            · have := b.2.1
              exact hn h' w' v' (by omega) b
          rcases hI with ⟨e, a⟩ | ⟨h0, w0, v0, a, e, b⟩
          · rw [if_pos e]
            exact new (fun h' w' v' z zz => absurd zz (a h' w' v' z))
          · have k0 : v8 h0 w0 v0 < 4096 * 4096 := by
              have z1 := r4w_b a.1 a.2.2.1 a.2.2.2.1
              have z2 := r4w_b (d255 h0 a.1 a.2.2.1).1 (d255 h0 a.1 a.2.2.1).2.1 a.2.2.2.2.1
              show 4096 * r4w h0 w0 + r4w (dfs 255 h0) v0 < _
              omega
            rw [if_neg (by rw [e]; exact r4n (by omega)), e]
            refine p_if (fun z => ?_) (fun z => ?_)
            · rw [nle (by omega) (by omega)] at z
              refine ih _ _ _ ⟨h + 2, by omega, by omega, rfl, f10', Or.inr ⟨h0, w0, v0, a, rfl, fun h' w' v' z1 z2 => ?_⟩⟩
              by_cases d : h' = h
              · rw [d] at z2 ⊢
                exact Nat.le_trans z (least w' v' z2)
              · have := z2.2.1
                exact b h' w' v' (by omega) z2
            · rw [nle (by omega) (by omega)] at z
              exact new (fun h' w' v' z1 z2 => by
                have := b h' w' v' z1 z2
                omega)
    rw [bit_bt (by omega)]
    have g13 : gI s 13 = gI σ 13 := hf.1 13 (by decide)
    cases hb : bt (nI h) x
    · rw [if_neg (by decide)]
      have ea : w8a (gI σ 13) x h = gI σ 13 x := if_neg (by rw [hb]; decide)
      have eb : w8b (gI σ 13) x h = (1 : Int32) <<< (nI x &&& 31) := if_neg (by rw [hb]; decide)
      unfold Cu_leastRowOfEight_J38
      rw [if_pos (show (0 : Int32) = 0 from rfl)]
      refine p_gd (fun _ => ?_)
      unfold Cu_leastRowOfEight_J63
      rw [nI_clamp (by omega), g13]
      refine p_obq _ (lr4_D (n := 8) (by decide) (by rw [hf.1 3 (by decide)]; exact h3) (by omega : h < 2 ^ 8) h4 _) (fun r8 s7 h7 => ?_)
      obtain ⟨f7, h7⟩ := h7
      rw [if_pos (show (0 : Int32) = 0 from rfl), ← eb]
      rw [g13, ← ea] at h7
      exact fin s7 r8 (fr_t hf f7) h7
    · rw [if_pos (show (if true = true then (1 : Int32) else 0) = 1 from rfl)]
      have ea : w8a (gI σ 13) x h = (1 : Int32) <<< (nI x &&& 31) := if_pos hb
      have eb : w8b (gI σ 13) x h = gI σ 13 x := if_pos hb
      unfold Cu_leastRowOfEight_J38
      rw [if_neg (show ¬ (1 : Int32) = 0 by decide)]
      unfold Cu_leastRowOfEight_J63
      refine p_obq _ (lr4_D (n := 8) (by decide) (by rw [hf.1 3 (by decide)]; exact h3) (by omega : h < 2 ^ 8) h4 _) (fun r8 s7 h7 => ?_)
      obtain ⟨f7, h7⟩ := h7
      have f7' : fr [21] [] σ s7 := fr_t hf f7
      rw [if_neg (show ¬ (1 : Int32) = 0 by decide)]
      refine p_gd (fun _ => ?_)
      rw [nI_clamp (by omega), f7'.1 13 (by decide), ← eb]
      rw [g13, ← ea] at h7
      exact fin s7 r8 f7' h7
