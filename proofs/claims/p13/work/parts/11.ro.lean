/-! set, praised, within answer alike -/
theorem kd_b (a : Int32) : (t_D_isKind a = 0 ∧ t_M_in a.toInt64 (0 : Int64) (9 : Int64) = 0) ∨ (¬ t_D_isKind a = 0 ∧ ¬ t_M_in a.toInt64 (0 : Int64) (9 : Int64) = 0 ∧ ∃ k, k < 10 ∧ a = nI k) := by
  have y0 : (0 : Int32).toInt = 0 := by decide
  have y10 : (10 : Int32).toInt = 10 := by decide
  have z0 : (0 : Int64).toInt = 0 := by decide
  have z9 : (9 : Int64).toInt = 9 := by decide
  unfold t_D_isKind
  rw [min_iff, i64, z0, z9]
  by_cases h : 0 ≤ a.toInt ∧ a.toInt ≤ 9
  · refine Or.inr ⟨?_, ?_, ?_⟩
    · rw [if_neg (by rw [i_lt, y0]; omega), if_neg (by rw [i_le, y10]; omega)]
      decide
    · rw [if_pos h]
      decide
    · obtain ⟨k, e, k1, k2, k3⟩ := rg_ex (x := a) h (by decide)
      exact ⟨k, by omega, e⟩
  · refine Or.inl ⟨?_, by rw [if_neg h]⟩
    by_cases c : a.toInt < 0
    · rw [if_pos (by rw [i_lt, y0]; exact c)]
    · rw [if_neg (by rw [i_lt, y0]; exact c), if_pos (by rw [i_le, y10]; omega)]
theorem st_Rl_set_c {N : Nat} (hN : 8589934592 ≤ N) {σ μ : Mem} (hR : Rl σ μ) (a b : Int32) : ∃ (q q2 : Int32 × Mem), f_D_set N a b σ = some (q.1, q.2) ∧ f_M_set N a b μ = some (q2.1, q2.2) ∧ Rl q.2 q2.2 ∧ q.1 = q2.1 := by
  obtain ⟨q, e1, k1⟩ := D_set_t hN (a1 := a) (a2 := b) hR.1
  obtain ⟨q2, e2, k2⟩ := M_set_t hN (a1 := a) (a2 := b) hR.2.1
  refine ⟨q, q2, e1, e2, Rl_q hR k1.2 k2.2 (by decide) (by decide), ?_⟩
  obtain ⟨s1, es1⟩ : ∃ s, s = sI μ 0 0 0 := ⟨_, rfl⟩
  obtain ⟨hR1, k0⟩ := Rl_m0 hR es1
  obtain ⟨n, h8, h3, h1, h13, hT⟩ := Rl_n hR1
  unfold f_D_set at e1
  unfold f_M_set at e2
  rw [bnd_e, ← es1] at e2
  have pD := ps_D h8 h3 b
  have pM := so_M h8 h1 b
  have no : q.1 = -1 → q2.1 = -1 → q.1 = q2.1 := fun x y => by rw [x, y]
  rcases kd_b a with ⟨p1, p2⟩ | ⟨p1, p2, k, hk, rfl⟩
  · rw [if_pos p2] at e2
    refine no ?_ (by cases e2; rfl)
    by_cases d1 : gI σ 3 0 = 0
    · rw [if_pos d1] at e1
      cases e1
      rfl
    · rw [if_neg d1, if_pos p1] at e1
      cases e1
      rfl
  · rw [if_neg p2] at e2
    by_cases hs : 1 ≤ n ∧ sub n b
    · have d1 : ¬ gI σ 3 0 = 0 := fun q => by
        have := (eq0_iff h8).mp (by rw [← h3]; exact q)
        omega
      rw [if_neg d1, if_neg p1, if_neg (fun q => pD.mp q hs.2)] at e1
      rw [if_neg (fun q => pM.mp q hs)] at e2
      obtain ⟨m, hm, rfl⟩ := sub_nI h8 hs.2
      have hp : (2 : Nat) ^ n ≤ 256 := Nat.pow_le_pow_right (n := 2) (by decide) h8
      obtain ⟨x, x1, -⟩ := Se_ofKind_t hN (a1 := nI k) (nI_rg (by omega) (by omega)) (a2 := nI m) (nI_rg (by omega) (by omega)) hR.1
      obtain ⟨y, y1, -⟩ := M_setOf_t hN (a1 := nI k) (nI_rg (by omega) (by omega)) (a2 := nI m) (nI_rg (by omega) (by omega)) hR1.2.1
      have key := kind_b hN hR.1 hR1.2.1 h8 h3 h1 h13 hT hm hk x1 y1
      rw [x1] at e1
      rw [y1] at e2
      cases e1
      cases e2
      exact key
    · rw [if_pos (pM.mpr hs)] at e2
      refine no ?_ (by cases e2; rfl)
      by_cases d1 : gI σ 3 0 = 0
      · rw [if_pos d1] at e1
        cases e1
        rfl
      · have : ¬ n = 0 := fun q => d1 (by rw [h3, q]; rfl)
        rw [if_neg d1, if_neg p1, if_pos (pD.mpr (fun q => hs ⟨by omega, q⟩))] at e1
        cases e1
        rfl
/-- what each kind gives, whatever else lies in the memories -/
theorem kval {N : Nat} (hN : 8589934592 ≤ N) {σ μ : Mem} {n m : Nat} (hD : InvD σ) (hM : InvM μ) (h8 : n ≤ 8) (h3 : gI σ 3 0 = nI n) (h1 : gI μ 1 0 = nI n) (h13 : ∀ a, a < 8 → gI μ 1 (1 + a) = gI σ 13 a) (hT : Tn n (gI σ 13)) (hm : m < 2 ^ n) : ∃ V : Nat → Int32, (∀ k s, k < 10 → gI s 3 = gI σ 3 → gI s 13 = gI σ 13 → InvD s → par (f_Se_ofKind N (nI k) (nI m) s) (fun q => q.1 = V k)) ∧ (∀ k s, k < 10 → gI s 1 = gI μ 1 → InvM s → par (f_M_setOf N (nI k) (nI m) s) (fun q => q.1 = V k)) := by
  have hp : (2 : Nat) ^ n ≤ 256 := Nat.pow_le_pow_right (n := 2) (by decide) h8
  refine ⟨fun k => match f_Se_ofKind N (nI k) (nI m) σ with | some q => q.1 | none => 0, fun k s hk e3 e13 hs q e => ?_, fun k s hk e1 hs q e => ?_⟩
  · obtain ⟨x, x1, -⟩ := Se_ofKind_t hN (a1 := nI k) (nI_rg (by omega) (by omega)) (a2 := nI m) (nI_rg (by omega) (by omega)) hD
    obtain ⟨y, y1, -⟩ := M_setOf_t hN (a1 := nI k) (nI_rg (by omega) (by omega)) (a2 := nI m) (nI_rg (by omega) (by omega)) hM
    show q.1 = match f_Se_ofKind N (nI k) (nI m) σ with | some q => q.1 | none => 0
    rw [x1]
    have a := kind_b hN hD hM h8 h3 h1 h13 hT hm hk x1 y1
    have b := kind_b hN hs hM h8 (by rw [e3]; exact h3) h1 (fun a ha => by rw [e13]; exact h13 a ha) (by rw [e13]; exact hT) hm hk e y1
    exact b.trans a.symm
  · obtain ⟨x, x1, -⟩ := Se_ofKind_t hN (a1 := nI k) (nI_rg (by omega) (by omega)) (a2 := nI m) (nI_rg (by omega) (by omega)) hD
    show q.1 = match f_Se_ofKind N (nI k) (nI m) σ with | some q => q.1 | none => 0
    rw [x1]
    exact (kind_b hN hD hs h8 h3 (by rw [e1]; exact h1) (fun a ha => by rw [e1]; exact h13 a ha) hT hm hk x1 e).symm
def pfd (V : Nat → Int32) (x : Nat) : Nat → Int32
  | 0 => 0
  | k + 1 => pfd V x k + (if bt (V k) x = true then 1 else 0)
theorem inm1 (a : Int32) : (t_M_in a.toInt64 (-1 : Int64) (8 : Int64) = 0 ∧ (a < -1 ∨ ¬ a < 9)) ∨ (¬ t_M_in a.toInt64 (-1 : Int64) (8 : Int64) = 0 ∧ ¬ a < -1 ∧ a < 9 ∧ (a = -1 ∨ ∃ p, p < 9 ∧ a = nI p)) := by
  have y1 : (-1 : Int32).toInt = -1 := by decide
  have y9 : (9 : Int32).toInt = 9 := by decide
  have z1 : (-1 : Int64).toInt = -1 := by decide
  have z8 : (8 : Int64).toInt = 8 := by decide
  rw [min_iff, i64, z1, z8]
  by_cases h : -1 ≤ a.toInt ∧ a.toInt ≤ 8
  · rw [if_pos h]
    refine Or.inr ⟨by decide, by rw [i_lt, y1]; omega, by rw [i_lt, y9]; omega, ?_⟩
    by_cases c : a.toInt = -1
    · exact Or.inl (Int32.toInt_inj.mp (by rw [c, y1]))
    · obtain ⟨p, e, p1, p2, p3⟩ := rg_ex (a := 0) (b := 8) (x := a) ⟨by omega, by omega⟩ (by decide)
      exact Or.inr ⟨p, by omega, e⟩
  · rw [if_neg h]
    refine Or.inl ⟨rfl, ?_⟩
    by_cases c : a.toInt < -1
    · exact Or.inl (by rw [i_lt, y1]; exact c)
    · exact Or.inr (by rw [i_lt, y9]; omega)
theorem st_Rl_praised_c {N : Nat} (hN : 8589934592 ≤ N) {σ μ : Mem} (hR : Rl σ μ) (a b : Int32) : ∃ (q q2 : Int32 × Mem), f_D_praised N a b σ = some (q.1, q.2) ∧ f_M_praised N a b μ = some (q2.1, q2.2) ∧ Rl q.2 q2.2 ∧ q.1 = q2.1 := by
  obtain ⟨q, e1, k1⟩ := D_praised_t hN (a1 := a) (a2 := b) hR.1
  obtain ⟨q2, e2, k2⟩ := M_praised_t hN (a1 := a) (a2 := b) hR.2.1
  refine ⟨q, q2, e1, e2, Rl_q hR k1.2 k2.2 (by decide) (by decide), ?_⟩
  obtain ⟨s1, es1⟩ : ∃ s, s = sI μ 0 0 0 := ⟨_, rfl⟩
  obtain ⟨hR1, k0⟩ := Rl_m0 hR es1
  obtain ⟨n, h8, h3, h1, h13, hT⟩ := Rl_n hR1
  have l9' : (9 : Int32) = nI 9 := rfl
  unfold f_D_praised at e1
  unfold f_M_praised at e2
  rw [bnd_e, ← es1] at e2
  have no : q.1 = -1 → q2.1 = -1 → q.1 = q2.1 := fun x y => by rw [x, y]
  rcases pl_b h8 h3 h1 a with ⟨p1, p2⟩ | ⟨p1, p2, x, hx, rfl⟩
  · rw [if_pos p1] at e1
    rw [if_pos p2] at e2
    exact no (by cases e1; rfl) (by cases e2; rfl)
  · rw [if_neg (by rw [p1]; decide)] at e1
    rw [if_neg (by rw [p2]; decide)] at e2
    rcases inm1 b with ⟨i1, i2⟩ | ⟨i1, i2, i3, i4⟩
    · rw [if_pos i1] at e2
      refine no ?_ (by cases e2; rfl)
      by_cases c : b < -1
      · rw [if_pos c] at e1
        cases e1
        rfl
      · rw [if_neg c, if_neg (i2.resolve_left c)] at e1
        cases e1
        rfl
    · rw [if_neg i1] at e2
      rw [if_neg i2, if_pos i3] at e1
      have hp : (2 : Nat) ^ n ≤ 256 := Nat.pow_le_pow_right (n := 2) (by decide) h8
      have hp0 : 0 < (2 : Nat) ^ n := Nat.pow_pos (by decide)
      obtain ⟨V, vD, vM⟩ := kval hN hR.1 hR1.2.1 h8 h3 h1 h13 hT (show 2 ^ n - 1 < 2 ^ n by omega)
      have eD : ∀ s, gI s 3 = gI σ 3 → t_Du_everybodyN s = nI (2 ^ n - 1) := fun s h => by
        unfold t_Du_everybodyN
        rw [h, h3, mask_e n h8]
      have eM : ∀ s, gI s 1 = gI s1 1 → t_M_all s = nI (2 ^ n - 1) := fun s h => by
        rw [all_e (by rw [h]; exact h1), mask_e n h8]
      rcases i4 with i4 | ⟨p, hp9, rfl⟩
      · rw [if_pos i4] at e1 e2
        have a' : par (it3 (D_praised_B54 N (nI x)) N (0 : Int32) (0 : Int32) σ) (fun q => q.1 = pfd V x 9) := by
          refine p_it3 (fun i1 i2 s => ∃ k, k ≤ 9 ∧ i2 = nI k ∧ i1 = pfd V x k ∧ KD [17, 18, 19, 20, 21, 22, 23] [] σ s) ?_ N _ _ _ ⟨0, by omega, rfl, rfl, kd_r hR.1⟩
          rintro self _ _ s ⟨k, hk, rfl, rfl, ks⟩ ih
          have g3 : gI s 3 = gI σ 3 := ks.2.1 3 (by decide)
          have g13 : gI s 13 = gI σ 13 := ks.2.1 13 (by decide)
          unfold D_praised_B54
          refine p_if (fun c => ?_) (fun c => ?_)
          · rw [l9', nle (by omega) (by omega)] at c
            have : k = 9 := by omega
            subst this
            exact p_some rfl
          · rw [l9', nle (by omega) (by omega)] at c
            rw [eD s g3, nadd1]
            refine p_obq _ (p_and (vD k s (by omega) g3 g13 ks.1) (p_tot (Se_ofKind_t hN (a1 := nI k) (nI_rg (by omega) (by omega)) (a2 := nI (2 ^ n - 1)) (nI_rg (by omega) (by omega)) ks.1))) (fun r s5 h5 => p_bnd ?_)
            obtain ⟨v1, -, v2⟩ := h5
            have v1' : r = V k := v1
            refine ih _ _ _ ⟨k + 1, by omega, rfl, ?_, kd_t ks v2 (by decide) (by decide)⟩
            rw [bit_bt (by omega), v1']
            rfl
        have b' : par (it3 (M_praised_B61 N (nI x)) N (0 : Int32) (0 : Int32) s1) (fun q => q.1 = pfd V x 9) := by
          refine p_it3 (fun i1 i2 s => ∃ k, k ≤ 9 ∧ i2 = nI k ∧ i1 = pfd V x k ∧ KM [13, 14, 15, 16, 17, 18, 19, 20, 21, 22, 23, 24] [] s1 s) ?_ N _ _ _ ⟨0, by omega, rfl, rfl, km_r hR1.2.1⟩
          rintro self _ _ s ⟨k, hk, rfl, rfl, ks⟩ ih
          have g1 : gI s 1 = gI s1 1 := ks.2.1 1 (by decide)
          unfold M_praised_B61
          refine p_if (fun c => ?_) (fun c => ?_)
          · rw [l9', nle (by omega) (by omega)] at c
            have : k = 9 := by omega
            subst this
            exact p_some rfl
          · rw [l9', nle (by omega) (by omega)] at c
            rw [eM s g1, nadd1]
            refine p_obq _ (p_and (vM k s (by omega) g1 ks.1) (p_tot (M_setOf_t hN (a1 := nI k) (nI_rg (by omega) (by omega)) (a2 := nI (2 ^ n - 1)) (nI_rg (by omega) (by omega)) ks.1))) (fun r s5 h5 => ?_)
            obtain ⟨v1, -, v2⟩ := h5
            have v1' : r = V k := v1
            have hs : pfd V x (k + 1) = pfd V x k + (if bt (V k) x = true then 1 else 0) := rfl
            rw [has_bt (by omega), v1']
            cases hb : bt (V k) x
            · rw [if_pos (by decide)]
              rw [hb, if_neg (by decide)] at hs
              exact p_bnd (ih _ _ _ ⟨k + 1, by omega, rfl, hs.symm, km_t ks v2 (by decide) (by decide)⟩)
            · rw [if_neg (by decide)]
              rw [hb, if_pos rfl] at hs
              exact p_bnd (ih _ _ _ ⟨k + 1, by omega, rfl, hs.symm, km_t ks v2 (by decide) (by decide)⟩)
        exact (a' q e1).trans (b' q2 e2).symm
      · have np : ¬ nI p = -1 := nm1 (by omega)
        rw [if_neg np] at e1 e2
        rw [eD σ rfl] at e1
        rw [eM s1 rfl] at e2
        have a' : par (ob2 (f_Se_ofKind N (nI p) (nI (2 ^ n - 1)) σ) fun r9 s8 => some ((t_D_bitOf r9 (nI x)), s8)) (fun q => q.1 = if bt (V p) x = true then 1 else 0) := p_obq _ (vD p σ (by omega) rfl rfl hR.1) (fun r s h => p_some (by
          have h' : r = V p := h
          show t_D_bitOf r (nI x) = _
          rw [bit_bt (by omega), h']))
        have b' : par (ob2 (f_M_setOf N (nI p) (nI (2 ^ n - 1)) s1) fun r11 s10 => if (t_M_has r11 (nI x)) = (0 : Int32) then (some ((0 : Int32), s10)) else (some ((1 : Int32), s10))) (fun q => q.1 = if bt (V p) x = true then 1 else 0) := p_obq _ (vM p s1 (by omega) rfl hR1.2.1) (fun r s h => by
          have h' : r = V p := h
          rw [has_bt (by omega), h']
          cases bt (V p) x
          · exact p_some rfl
          · exact p_some rfl)
        exact (a' q e1).trans (b' q2 e2).symm
-- pairs of kinds
def pwi (V : Nat → Int32) (t : Nat) : Bool := decide (¬ t / 9 = t % 9) && decide ((V (t / 9) &&& (V (t % 9) ^^^ (-1 : Int32))) = 0)
def pls (V : Nat → Int32) (t : Nat) : Bool := decide (¬ V (t / 9) = V (t % 9)) && decide ((V (t / 9) &&& (V (t % 9) ^^^ (-1 : Int32))) = 0)
def fsp (p : Nat → Bool) (T : Nat) (r : Int32) : Prop := (r = -1 ∧ ∀ t, t < T → p t = false) ∨ ∃ t, t < T ∧ p t = true ∧ (∀ s, s < t → p s = false) ∧ r = nI (10 * (t / 9) + t % 9)
theorem fsp_u {p : Nat → Bool} {T : Nat} {r r' : Int32} (h : fsp p T r) (h' : fsp p T r') : r = r' := by
  rcases h with ⟨a1, a2⟩ | ⟨t, a1, a2, a3, a4⟩
  · rcases h' with ⟨b1', b2'⟩ | ⟨s, b1', b2', b3', b4'⟩
    · rw [a1, b1']
    · rw [a2 s b1'] at b2'; cases b2'
  · rcases h' with ⟨b1', b2'⟩ | ⟨s, b1', b2', b3', b4'⟩
    · rw [b2' t a1] at a2; cases a2
    · have : t = s := by
        by_cases c : t < s
        · rw [b3' t c] at a2; cases a2
        · by_cases d : s < t
          · rw [a3 s d] at b2'; cases b2'
          · omega
      rw [a4, b4', this]
theorem fsp_s {p : Nat → Bool} {T : Nat} {r : Int32} (h : fsp p T r) (hp : p T = false ∨ ¬ r = -1) : fsp p (T + 1) r := by
  rcases h with ⟨a1, a2⟩ | ⟨t, a1, a2, a3, a4⟩
  · rcases hp with hp | hp
    · refine Or.inl ⟨a1, fun t ht => ?_⟩
      by_cases c : t = T
      · rw [c]; exact hp
      · exact a2 t (by omega)
    · exact absurd a1 hp
  · exact Or.inr ⟨t, by omega, a2, a3, a4⟩
theorem ix9 {i k : Nat} (hk : k < 9) : (9 * i + k) / 9 = i ∧ (9 * i + k) % 9 = k := by omega
