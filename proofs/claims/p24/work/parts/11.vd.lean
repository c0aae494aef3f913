/-! who is in a set of a kind by turned arrows; when that is soon seen to be no -/
theorem tp {X : Type} {o : Option X} {P : X → Prop} (h : tot o P) : par o P := fun x e => by
  obtain ⟨y, e2, hy⟩ := h
  rw [e] at e2
  cases e2
  exact hy
def Okf (n : Nat) (f : Nat → Int32) : Prop := Tn n f ∧ (∃ σ, InvD σ ∧ gI σ 3 0 = nI n ∧ gI σ 13 = f) ∧ ∃ μ, InvM μ ∧ gI μ 1 0 = nI n ∧ ∀ i, i < 8 → gI μ 1 (1 + i) = f i
def Inn (N n k x : Nat) (f : Nat → Int32) : Prop := ∀ σ q, InvD σ → gI σ 3 0 = nI n → gI σ 13 = f → f_Se_ofKind N (nI k) (nI (2 ^ n - 1)) σ = some q → bt q.1 x = true
def Rc (N n k x : Nat) : Nat → (Nat → Int32) → Prop
  | 0, f => Inn N n k x f
  | t + 1, f => ∃ a b, a < b ∧ b < n ∧ Rc N n k x t (flp f a b)
theorem Okf_f {n a b : Nat} {f : Nat → Int32} (hO : Okf n f) (ha : a < n) (hb : b < n) (hab : a ≠ b) : Okf n (flp f a b) := by
  obtain ⟨hT, ⟨σ, s1, s2, s3⟩, μ, m1, m2, m3⟩ := hO
  have h8 := hT.1
  refine ⟨flip_T hT ha hb hab (fun i => rfl), ?_, ?_⟩
  · obtain ⟨s, -, k, h⟩ := Du_flipN_s (by omega : a < 8) (by omega : b < 8) hab s1
    refine ⟨s, k.1, by rw [k.2.1 3 (by decide)]; exact s2, ?_⟩
    funext i
    rw [h i, s3]
    rfl
  · obtain ⟨s, -, k, h⟩ := M_turnNow_s (by omega : a < 8) (by omega : b < 8) hab m1
    refine ⟨s, k.1, ?_, fun i hi => ?_⟩
    · rw [h 0, if_neg (by omega), if_neg (by omega)]
      exact m2
    · rw [h (1 + i), m3 i hi]
      unfold flp
      by_cases c : i = b
      · rw [if_pos (show 1 + i = 1 + b by omega), if_pos c]
      · rw [if_neg (show ¬ 1 + i = 1 + b by omega), if_neg c]
        by_cases d : i = a
        · rw [if_pos (show 1 + i = 1 + a by omega), if_pos d]
        · rw [if_neg (show ¬ 1 + i = 1 + a by omega), if_neg d]
theorem pw_b {n : Nat} (h8 : n ≤ 8) : 1 ≤ 2 ^ n ∧ 2 ^ n ≤ 256 := ⟨Nat.pow_pos (by decide), Nat.pow_le_pow_right (n := 2) (by decide) h8⟩
theorem inn_D {N : Nat} (hN : 8589934592 ≤ N) {n k x : Nat} {f : Nat → Int32} (hk : k < 10) (hO : Okf n f) {σ : Mem} {q : Int32 × Mem} (hD : InvD σ) (h3 : gI σ 3 0 = nI n) (h13 : gI σ 13 = f) (e : f_Se_ofKind N (nI k) (nI (2 ^ n - 1)) σ = some q) : bt q.1 x = true ↔ Inn N n k x f := by
  obtain ⟨hT, -, μ, m1, m2, m3⟩ := hO
  have h8 := hT.1
  obtain ⟨p1, p2'⟩ := pw_b h8
  obtain ⟨q2, e2, -⟩ := M_setOf_t hN (nI_rg (by omega) (by omega) : rg 0 9 (nI k)) (nI_rg (by omega) (by omega) : rg 0 255 (nI (2 ^ n - 1))) m1
  have same : ∀ σ q, InvD σ → gI σ 3 0 = nI n → gI σ 13 = f → f_Se_ofKind N (nI k) (nI (2 ^ n - 1)) σ = some q → q.1 = q2.1 := fun σ q hD h3 h13 e => kind_b hN hD m1 h8 h3 m2 (fun a ha => by rw [h13]; exact m3 a ha) (by rw [h13]; exact hT) (by omega : 2 ^ n - 1 < 2 ^ n) hk e e2
  have a := same σ q hD h3 h13 e
  refine ⟨fun h σ' q' d1 d2 d3 d4 => ?_, fun h => h σ q hD h3 h13 e⟩
  rw [same σ' q' d1 d2 d3 d4, ← a]
  exact h
theorem inn_M {N : Nat} (hN : 8589934592 ≤ N) {n k x : Nat} {f : Nat → Int32} (hk : k < 10) (hO : Okf n f) {μ : Mem} {q2 : Int32 × Mem} (hM : InvM μ) (h1 : gI μ 1 0 = nI n) (h13 : ∀ i, i < 8 → gI μ 1 (1 + i) = f i) (e2 : f_M_setOf N (nI k) (nI (2 ^ n - 1)) μ = some q2) : bt q2.1 x = true ↔ Inn N n k x f := by
  obtain ⟨hT, ⟨σ, s1, s2, s3⟩, -⟩ := hO
  have h8 := hT.1
  obtain ⟨p1, p2'⟩ := pw_b h8
  obtain ⟨q, e, -⟩ := Se_ofKind_t hN (nI_rg (by omega) (by omega) : rg 0 9 (nI k)) (nI_rg (by omega) (by omega) : rg 0 255 (nI (2 ^ n - 1))) s1
  have a := kind_b hN s1 hM h8 s2 h1 (fun a ha => by rw [s3]; exact h13 a ha) (by rw [s3]; exact hT) (by omega : 2 ^ n - 1 < 2 ^ n) hk e e2
  rw [← a]
  exact inn_D hN hk ⟨hT, ⟨σ, s1, s2, s3⟩, μ, hM, h1, h13⟩ s1 s2 s3 e
theorem tb_ex {N : Nat} (hN : 8589934592 ≤ N) {n : Nat} {f : Nat → Int32} (hO : Okf n f) : ∃ τ, TB f n τ := by
  obtain ⟨hT, ⟨σ, s1, s2, s3⟩, -⟩ := hO
  have h8 := hT.1
  obtain ⟨p1, p2'⟩ := pw_b h8
  obtain ⟨s, e, -⟩ := Or_measure_t hN (nI_rg (by omega) (by omega) : rg 0 255 (nI (2 ^ n - 1))) s1
  obtain ⟨-, t0, w0', hE⟩ := meas_D h8 s2 (by omega : 2 ^ n - 1 < 2 ^ n) s e
  rw [s3] at hE
  obtain ⟨τ, h, -⟩ := tb_D h8 t0 (fun m a b => hE m a (by omega) (wi_all h8 b))
  exact ⟨τ, h⟩
theorem all_b {n : Nat} (h8 : n ≤ 8) {j : Nat} : bt (nI (2 ^ n - 1)) j = true ↔ j < n := by
  obtain ⟨p1, p2'⟩ := pw_b h8
  refine ⟨fun h => bt_lo h8 (by omega : 2 ^ n - 1 < 2 ^ n) h, fun h => ?_⟩
  rw [← mask_e n h8, bt_mask h8 (by omega)]
  exact decide_eq_true h
theorem inn_sl {N : Nat} (hN : 8589934592 ≤ N) {n x : Nat} {f : Nat → Int32} {τ : (Nat → Bool) → Nat} (hn : 1 ≤ n) (hO : Okf n f) (hτ : TB f n τ) (h : Inn N n 5 x f) : x < n ∧ be f n x (rm (bt (nI (2 ^ n - 1))) x) + τ (rm (bt (nI (2 ^ n - 1))) x) = τ (bt (nI (2 ^ n - 1))) := by
  obtain ⟨hT, ⟨σ, s1, s2, s3⟩, -⟩ := hO
  have h8 := hT.1
  obtain ⟨p1, p2'⟩ := pw_b h8
  have two : 2 ≤ (2 : Nat) ^ n := by
    have : (2 : Nat) ^ 1 ≤ 2 ^ n := Nat.pow_le_pow_right (n := 2) (by decide) hn
    omega
  obtain ⟨q, e, -⟩ := Se_ofKind_t hN (nI_rg (by omega) (by omega) : rg 0 9 (nI 5)) (nI_rg (by omega) (by omega) : rg 0 255 (nI (2 ^ n - 1))) s1
  have hb := h σ q s1 s2 s3 e
  unfold f_Se_ofKind at e
  rw [if_neg (fun z => by
    have := nI_inj (by omega) (by decide) (show nI (2 ^ n - 1) = nI 0 from z)
    omega)] at e
  have a := p_obq (k := fun (r9 : Int32) (s8 : Mem) => some (r9, s8)) (P := fun q => ∃ T W : Nat → Int32, T 0 = 0 ∧ W 0 = 1 ∧ (∀ j, 0 < j → j ≤ 2 ^ n - 1 → (nI j &&& (nI (2 ^ n - 1) ^^^ (-1 : Int32))) = 0 → eqn 64 (gI σ 13) n T W j) ∧ q.1 = bsf (pb (gI σ 13) T (2 ^ n - 1)) n) _ (sl_D (N := N) h8 s2 (by omega : 2 ^ n - 1 < 2 ^ n)) (fun r s h => p_some h)
  obtain ⟨T, W, t0, w0', hE, a'⟩ := a q e
  have a'' : q.1 = bsf (pb (gI σ 13) T (2 ^ n - 1)) n := a'
  rw [a'', bsf_bt n h8 x, Bool.and_eq_true, s3] at hb
  rw [s3] at hE
  obtain ⟨τ', h', v'⟩ := tb_D h8 t0 (fun m a b => hE m a (by omega) (wi_all h8 b))
  obtain ⟨v1, v2, v3⟩ := v' (2 ^ n - 1) (by omega)
  have pbx := hb.2
  unfold pb at pbx
  rw [Bool.and_eq_true, decide_eq_true_eq] at pbx
  obtain ⟨v4, v5⟩ := v3 x pbx.1
  have eq1 := pbx.2
  rw [v4, v1] at eq1
  have eq2 := nI_inj (by omega) (by omega) eq1
  have hA : ∀ j, bt (nI (2 ^ n - 1)) j = true → j < n := fun j hj => (all_b h8).mp hj
  have u1 := TB_u hτ h' _ (bt (nI (2 ^ n - 1))) (Nat.le_refl _) hA
  have u2 := TB_u hτ h' _ (rm (bt (nI (2 ^ n - 1))) x) (Nat.le_refl _) (rm_n hA)
  exact ⟨hA x pbx.1, by rw [u1, u2]; exact eq2⟩
theorem inn_cu {N : Nat} (hN : 8589934592 ≤ N) {n x : Nat} {f : Nat → Int32} (hn : 1 ≤ n) (hO : Okf n f) (h : Inn N n 9 x f) : n ≤ 2 ^ pc (f x) := by
  obtain ⟨hT, ⟨σ, s1, s2, s3⟩, -⟩ := hO
  have h8 := hT.1
  obtain ⟨p1, p2'⟩ := pw_b h8
  have two : 2 ≤ (2 : Nat) ^ n := by
    have : (2 : Nat) ^ 1 ≤ 2 ^ n := Nat.pow_le_pow_right (n := 2) (by decide) hn
    omega
  obtain ⟨q, e, -⟩ := Se_ofKind_t hN (nI_rg (by omega) (by omega) : rg 0 9 (nI 9)) (nI_rg (by omega) (by omega) : rg 0 255 (nI (2 ^ n - 1))) s1
  have hb := h σ q s1 s2 s3 e
  unfold f_Se_ofKind at e
  rw [if_neg (fun z => by
    have := nI_inj (by omega) (by decide) (show nI (2 ^ n - 1) = nI 0 from z)
    omega)] at e
  have a : par (ob2 (f_Cu_winners N (nI (2 ^ n - 1)) σ) fun r16 s15 => some (r16, s15)) (fun q => ∀ j, bt q.1 j = true ↔ 0 < cc (gI σ 13) n (2 ^ n - 1) j) := p_obq _ (cu_D h8 s2 (by rw [s3]; exact hT) (by omega) (by omega)) (fun r s h => p_some h)
  have := (a q e x).mp hb
  rw [s3] at this
  exact cup_w hT (by rw [← s3]; exact s1.r13 x) this
theorem inn_nc {N : Nat} (hN : 8589934592 ≤ N) {n k x : Nat} {f : Nat → Int32} (hn : 1 ≤ n) (hk1 : 1 ≤ k) (hk8 : k ≤ 8) (hO : Okf n f) (h : Inn N n k x f) : ¬ cvd f n (nI (2 ^ n - 1)) x := by
  have hO' := hO
  obtain ⟨hT, ⟨σ, s1, s2, s3⟩, μ, m1, m2, m3⟩ := hO
  subst s3
  have h8 := hT.1
  obtain ⟨p1, p2'⟩ := pw_b h8
  have two : 2 ≤ (2 : Nat) ^ n := by
    have : (2 : Nat) ^ 1 ≤ 2 ^ n := Nat.pow_le_pow_right (n := 2) (by decide) hn
    omega
  obtain ⟨m, em⟩ : ∃ m, m = 2 ^ n - 1 := ⟨_, rfl⟩
  have hm : m < 2 ^ n := by omega
  obtain ⟨q, e, -⟩ := Se_ofKind_t hN (nI_rg (by omega) (by omega) : rg 0 9 (nI k)) (nI_rg (by omega) (by omega) : rg 0 255 (nI (2 ^ n - 1))) s1
  obtain ⟨q2, e2, -⟩ := M_setOf_t hN (nI_rg (by omega) (by omega) : rg 0 9 (nI k)) (nI_rg (by omega) (by omega) : rg 0 255 (nI (2 ^ n - 1))) m1
  have hb := h σ q s1 s2 rfl e
  have hb2 := (inn_M hN (x := x) (by omega : k < 10) hO' m1 m2 m3 e2).mpr h
  unfold f_Se_ofKind at e
  unfold f_M_setOf at e2
  have nz : ¬ nI (2 ^ n - 1) = 0 := fun z => by
    have := nI_inj (by omega) (by decide) (show nI (2 ^ n - 1) = nI 0 from z)
    omega
  rw [if_neg nz] at e e2
  rw [← em] at e e2 ⊢
  have hS : ∀ j, bt (nI m) j = true → j < n := fun j h => bt_lo h8 hm h
  rcases (show k = 1 ∨ k = 2 ∨ k = 3 ∨ k = 4 ∨ k = 5 ∨ k = 6 ∨ k = 7 ∨ k = 8 by omega) with rfl | rfl | rfl | rfl | rfl | rfl | rfl | rfl
  · have a : par (ob (f_Se_most N (nI m) σ) fun r3 => some (r3, σ)) (fun q => q.1 = (mof (gI σ 13) (nI m) n).2) := p_ob _ (mo_D h8 s1 s2) (fun r h => p_some h)
    rw [a q e] at hb
    exact nc_most h8 hT hm hb
  · have a : par (ob (f_Se_uncovered N (nI m) σ) fun r4 => some (r4, σ)) (fun q => q.1 = ucs (gI σ 13) n (nI m)) := p_ob _ (uc_D h8 s2 m2 m3 _) (fun r h => p_some h)
    rw [a q e] at hb
    exact ((ucs_bt h8 hS).mp hb).2
  · have a : par (ob (f_Se_uncoveredAgain N (nI m) σ) fun r5 => some (r5, σ)) (fun q => q.1 = uit (gI σ 13) n (nI m) 8) := p_ob _ (ua_D h8 s2 m2 m3 _) (fun r h => p_some h)
    rw [a q e] at hb
    exact nc_again h8 hm hb
  · have a : par (ob2 (f_Se_banks N (nI m) σ) fun r7 s6 => some (r7, s6)) (fun q => q.1 = bsf (bkp (gI σ 13) n (nI m)) n) := p_obq _ (bk_D h8 s2) (fun r s h => p_some h)
    rw [a q e, bsf_bt n h8 x, Bool.and_eq_true] at hb
    exact nc_banks h8 hT hm hb.2
  · rintro ⟨y, y1, y2, y3, y4⟩
    obtain ⟨τ, hτ⟩ := tb_ex hN hO'
    obtain ⟨x1, x2⟩ := inn_sl hN hn hO' hτ h
    rw [← em] at x2
    have := cov_L (S := bt (nI m)) (x := x) (y := y) hT hτ hS (by rw [em]; exact (all_b h8).mpr x1) y2 y3 (fun z hz a => y4 z (by have := hS z hz; omega) a hz)
    omega
  · have a : par (ob (f_Se_leastCovering N (nI m) σ) fun r10 => some (r10, σ)) (fun q => q.1 = lcf (gI σ 13) n (nI m) (m - 1)) := p_ob _ (co_D h8 s2 m2 m3 (by omega) (by omega)) (fun r h => p_some h)
    rw [a q e] at hb
    exact nc_least h8 hT hm (by omega) hb
  · have a := p_obq (k := fun (r12 : Int32) (s11 : Mem) => some (r12, s11)) (P := fun q => ∃ P : Nat → Int32, P 0 = 1 ∧ (∀ t, 0 < t → t ≤ m → (nI t &&& (nI m ^^^ (-1 : Int32))) = 0 → pc (nI t) % 2 = 0 → pfe (gI σ 13) n P t) ∧ bal (gI σ 13) P n m m q.1 (fun _ => True)) _ (ba_D (N := N) h8 s2 hm) (fun r s h => p_some (by
        obtain ⟨-, P, p0, hE, hb⟩ := h
        refine ⟨P, p0, hE, ?_⟩
        rcases hb with ⟨t, t1, t2, t3, t4, t5, -⟩ | hb
        · exact Or.inl ⟨t, t1, t2, t3, t4, t5, trivial⟩
        · exact Or.inr hb))
    obtain ⟨P, p0, hE, ha⟩ := a q e
    rcases ha with ⟨t, t1, t2, t3, t4, t5, -⟩ | ⟨-, z⟩
    · rw [t5] at hb
      exact nc_bal h8 hT hm p0 hE t2 t3 hb
    · rw [z, bt_0] at hb
      cases hb
  · have b := p_ob (k := fun (s12 : Mem) => gd (inb (nI m) 256) (some ((gI s12 22 (nI m).toNatClampNeg), s12))) (P := fun q => ∃ T, T 0 = 0 ∧ (∀ m, 0 < m → m < 2 ^ n → kpq (gI σ 13) T (nI m)) ∧ q.1 = T m) _ (lk_M (N := N) (f := gI σ 13) h8 m2 m3) (fun s h => p_gd (fun _ => p_some ⟨gI s 22, h.2.1, h.2.2, by
        show gI s 22 (nI m).toNatClampNeg = _
        rw [nI_clamp (by omega)]⟩))
    obtain ⟨T, t1, t2, t3⟩ := b q2 e2
    rw [t3] at hb2
    exact nc_keep h8 hT t1 t2 m m (Nat.le_refl _) hm x hb2
theorem pc_x : ∀ m, m < 256 → ∀ j, j < 8 → pc (nI m ^^^ ((1 : Int32) <<< (nI j &&& 31))) ≤ pc (nI m) + 1 := by decide +kernel
theorem pc_xr {X : Int32} (h : rg 0 255 X) {j : Nat} (hj : j < 8) : pc (X ^^^ ((1 : Int32) <<< (nI j &&& 31))) ≤ pc X + 1 := by
  obtain ⟨m, e, -, m2, -⟩ := rg_ex h (by decide)
  rw [e]
  exact pc_x m (by omega) j hj
theorem rc_cu {N : Nat} (hN : 8589934592 ≤ N) {n x : Nat} (hn : 1 ≤ n) : ∀ t (f : Nat → Int32), Okf n f → Rc N n 9 x t f → n ≤ 2 ^ (pc (f x) + t)
  | 0, f, hO, h => inn_cu hN hn hO h
  | t + 1, f, hO, h => by
    obtain ⟨a, b, h1, h2, h3⟩ := h
    have h8 := hO.1.1
    have i := rc_cu hN hn t _ (Okf_f hO (by omega) h2 (by omega)) h3
    obtain ⟨σ, s1, -, s3⟩ := hO.2.1
    have r : rg 0 255 (f x) := by rw [← s3]; exact s1.r13 x
    have le : pc (flp f a b x) ≤ pc (f x) + 1 := by
      unfold flp
      by_cases c : x = b
      · rw [if_pos c]; exact pc_xr r (by omega)
      · rw [if_neg c]
        by_cases d : x = a
        · rw [if_pos d]; exact pc_xr r (by omega)
        · rw [if_neg d]; omega
    exact Nat.le_trans i (Nat.pow_le_pow_right (by decide) (by omega))
theorem rc_sl {N : Nat} (hN : 8589934592 ≤ N) {n x : Nat} (hn : 1 ≤ n) (hx : x < n) : ∀ t (f : Nat → Int32) (τ : (Nat → Bool) → Nat), Okf n f → TB f n τ → Rc N n 5 x t f → be f n x (rm (bt (nI (2 ^ n - 1))) x) + τ (rm (bt (nI (2 ^ n - 1))) x) ≤ τ (bt (nI (2 ^ n - 1))) + 2 * t
  | 0, f, τ, hO, hτ, h => by
    have := (inn_sl hN hn hO hτ h).2
    omega
  | t + 1, f, τ, hO, hτ, h => by
    obtain ⟨a, b, h1, h2, h3⟩ := h
    have h8 := hO.1.1
    have hO' := Okf_f hO (by omega : a < n) h2 (by omega)
    obtain ⟨τ', hτ'⟩ := tb_ex hN hO'
    have i := rc_sl hN hn hx t _ τ' hO' hτ' h3
    obtain ⟨⟨l1, l2⟩, l3⟩ := lip h8 (by omega : a < n) h2 (by omega) hτ hτ' _ (bt (nI (2 ^ n - 1))) (Nat.le_refl _) (fun j hj => (all_b h8).mp hj)
    have l4 := (l3 x ((all_b h8).mpr hx)).1
    have le : (if bt (nI (2 ^ n - 1)) a = true ∧ bt (nI (2 ^ n - 1)) b = true then 1 else 0) ≤ 1 := by split <;> omega
    omega
theorem sh1 : ∀ s, s < 11 → (1 : Int32) <<< (nI s &&& 31) = nI (2 ^ s) := by decide
theorem tf_D {N : Nat} (hN : 8589934592 ≤ N) {σ : Mem} {n k x t : Nat} (hD : InvD σ) (h3 : gI σ 3 0 = nI n) (hO : Okf n (gI σ 13)) (hx : x < n) (hk : k < 10) (ht : t ≤ 2) : par (f_D_isTooFar N (nI x) (nI k) (nI t) σ) (fun q => q.1 = 0 ∨ (q.1 = 1 ∧ ¬ Rc N n k x t (gI σ 13))) := by
  have hO' := hO
  obtain ⟨hT, -, μ, m1, m2, m3⟩ := hO'
  have h8 := hT.1
  obtain ⟨p1, p2'⟩ := pw_b h8
  have ev : t_Du_everybodyN σ = nI (2 ^ n - 1) := by
    unfold t_Du_everybodyN
    rw [h3, mask_e n h8]
  have l5 : (5 : Int32) = nI 5 := rfl
  have l9' : (9 : Int32) = nI 9 := rfl
  have l0' : (0 : Int32) = nI 0 := rfl
  have l2' : (2 : Int32) = nI 2 := rfl
  have J : (k = 5 → True) → par (D_isTooFar_J68 N σ (nI x) (nI k) (nI t)) (fun q => q.1 = 0 ∨ (q.1 = 1 ∧ ¬ Rc N n k x t (gI σ 13))) := fun _ => by
    unfold D_isTooFar_J68
    refine p_if (fun c => ?_) (fun _ => p_some (Or.inl rfl))
    have k5 : k = 5 := nI_inj (by omega) (by decide) (show nI k = nI 5 from c)
    subst k5
    rw [ev]
    have bb : par (f_Or_behindBest N (nI x) (nI (2 ^ n - 1)) σ) (fun q => ∃ τ, TB (gI σ 13) n τ ∧ q.1 = nI (be (gI σ 13) n x (rm (bt (nI (2 ^ n - 1))) x) + τ (rm (bt (nI (2 ^ n - 1))) x) - τ (bt (nI (2 ^ n - 1)))) ∧ be (gI σ 13) n x (rm (bt (nI (2 ^ n - 1))) x) + τ (rm (bt (nI (2 ^ n - 1))) x) - τ (bt (nI (2 ^ n - 1))) ≤ 56) := by
      unfold f_Or_behindBest
      refine p_ob _ (meas_D h8 h3 (by omega : 2 ^ n - 1 < 2 ^ n)) (fun s1 h1 => ?_)
      obtain ⟨f1, t0, w0', hE⟩ := h1
      have f1' : fr [17, 18] [] σ s1 := f1
      obtain ⟨τ, h', v'⟩ := tb_D h8 t0 (fun m a b => hE m a (by omega) (wi_all h8 b))
      obtain ⟨v1, v2, v3⟩ := v' (2 ^ n - 1) (by omega)
      have xa : bt (nI (2 ^ n - 1)) x = true := (all_b h8).mpr hx
      obtain ⟨v4, v5⟩ := v3 x xa
      have mn := ((h' (bt (nI (2 ^ n - 1))) (fun j hj => (all_b h8).mp hj)).2 ⟨x, xa⟩).1 x xa
      refine p_ob _ (twf_D (by omega) (by omega)) (fun r2 h2 => p_gd (fun _ => p_some ⟨τ, h', ?_, by omega⟩))
      have h2' : r2 = vl (gI s1 13) (gI s1 17) (2 ^ n - 1) x := h2
      show r2 - gI s1 17 (nI (2 ^ n - 1)).toNatClampNeg = _
      rw [h2', f1'.1 13 (by decide), v4, nI_clamp (by omega), v1, nsubk mn (by omega)]
    refine p_obq _ bb (fun r2 s1 h => ?_)
    obtain ⟨τ, h', e, le⟩ := h
    have e' : r2 = nI (be (gI σ 13) n x (rm (bt (nI (2 ^ n - 1))) x) + τ (rm (bt (nI (2 ^ n - 1))) x) - τ (bt (nI (2 ^ n - 1)))) := e
    rw [e', l2', nmul (by omega) (by omega)]
    refine p_if (fun _ => p_some (Or.inl rfl)) (fun c2 => p_some (Or.inr ⟨rfl, fun hr => c2 ?_⟩))
    rw [nle (by omega) (by omega)]
    have := rc_sl hN (by omega) hx t _ τ hO h' hr
    omega
  unfold f_D_isTooFar
  refine p_if (fun _ => p_some (Or.inl rfl)) (fun c0 => ?_)
  refine p_if (fun c9 => ?_) (fun c9 => ?_)
  · have k9 : k = 9 := nI_inj (by omega) (by decide) (show nI k = nI 9 from c9)
    subst k9
    rw [nI_clamp (by omega), cnt_v (hD.r13 x), nI_add, h3]
    have p8 := pc_8 (gI σ 13 x)
    rw [sh1 _ (by omega)]
    have lt : 2 ^ (pc (gI σ 13 x) + t) ≤ 2 ^ 10 := Nat.pow_le_pow_right (by decide) (by omega)
    refine p_gd (fun _ => p_if (fun _ => p_some (Or.inl rfl)) (fun c => p_some (Or.inr ⟨rfl, fun hr => c ?_⟩)))
    rw [nle (by omega) (by omega)]
    exact rc_cu hN (by omega) t _ hO hr
  · have k1 : 1 ≤ k := by
      by_cases z : k = 0
      · rw [z] at c0; exact absurd rfl c0
      · omega
    have k8 : k ≤ 8 := by
      by_cases z : k = 9
      · rw [z] at c9; exact absurd rfl c9
      · omega
    refine p_if (fun ct => ?_) (fun _ => J (fun _ => trivial))
    have t0 : t = 0 := nI_inj (by omega) (by decide) (show nI t = nI 0 from ct)
    subst t0
    rw [ev]
    refine p_ob _ (cvd_D h8 h3 m2 m3 (by omega : x < 8) _) (fun r h => ?_)
    refine p_if (fun _ => J (fun _ => trivial)) (fun c => p_some (Or.inr ⟨rfl, fun hr => ?_⟩))
    rcases h with ⟨-, h⟩ | ⟨h, -⟩
    · exact inn_nc hN (by omega) k1 k8 hO hr h
    · exact c h
