/-! chains in the reference: a stack; chain answers alike; banks -/
theorem fst_M {N : Nat} (a : Int32) : par (f_M_first N a) (fun r => (r = -1 ∧ ∀ j, j < 8 → bt a j = false) ∨ ∃ k, k < 8 ∧ r = nI k ∧ bt a k = true ∧ ∀ j, j < k → bt a j = false) := by
  unfold f_M_first
  refine p_it1 (fun i => ∃ k, k ≤ 8 ∧ i = nI k ∧ ∀ j, j < k → bt a j = false) ?_ _ _ ⟨0, by decide, rfl, fun j hj => by omega⟩
  rintro self _ ⟨k, hk, rfl, hz⟩ ih
  unfold M_first_B2
  refine p_if (fun h => ?_) (fun h => ?_)
  · have : k = 8 := by
      rw [l8, nle (by decide) (by omega)] at h
      omega
    subst this
    unfold M_first_K22
    rw [if_pos h]
    exact p_some (Or.inl ⟨rfl, hz⟩)
  · have hk8 : k < 8 := by
      rw [l8, nle (by decide) (by omega)] at h
      omega
    rw [has_bt (by omega)]
    cases e : bt a k
    · rw [if_pos (by decide), nadd1]
      refine ih _ ⟨k + 1, by omega, rfl, fun j hj => ?_⟩
      by_cases c : j = k
      · rw [c]; exact e
      · exact hz j (by omega)
    · rw [if_neg (by decide)]
      unfold M_first_K22
      rw [if_neg h]
      exact p_some (Or.inr ⟨k, hk8, rfl, e, hz⟩)
def kcp (lk : Nat → Int32) : Nat → List Nat
  | 0 => []
  | L + 1 => kcp lk L ++ [(lk L).toNatClampNeg]
theorem kcp_c {lk lk' : Nat → Int32} : ∀ L, (∀ i, i < L → lk i = lk' i) → kcp lk L = kcp lk' L
  | 0, _ => rfl
  | L + 1, h => by
    unfold kcp
    rw [kcp_c L (fun i hi => h i (by omega)), h L (by omega)]
theorem kcp_l (lk : Nat → Int32) : ∀ L, (kcp lk L).length = L
  | 0 => rfl
  | L + 1 => by
    unfold kcp
    rw [List.length_append, kcp_l lk L]
    rfl
theorem kcp_g {lk : Nat → Int32} : ∀ L i, i < L → (kcp lk L).getD i 0 = (lk i).toNatClampNeg
  | 0, i, h => absurd h (Nat.not_lt_zero _)
  | L + 1, i, h => by
    unfold kcp
    by_cases c : i < L
    · rw [List.getD_eq_getElem?_getD, List.getElem?_append_left (by rw [kcp_l]; exact c), ← List.getD_eq_getElem?_getD]
      exact kcp_g L i c
    · have : i = L := by omega
      subst this
      rw [List.getD_eq_getElem?_getD, List.getElem?_append_right (by rw [kcp_l]; exact Nat.le_refl _), kcp_l, Nat.sub_self]
      rfl
def kcg (f : Nat → Int32) (n : Nat) (B A : Int32) (L : Nat) : Nat → Option (List Nat) := fun z => kch f n (6 - L) (B &&& f z) (bs f A z)
def kcv (f : Nat → Int32) (n : Nat) (lk op ab re : Nat → Int32) : Nat → Option (List Nat)
  | 0 => none
  | L + 1 => ((kcf (kcg f n (re L) (ab L) L) (bt (op L)) n 0).map (fun l => kcp lk (L + 1) ++ l)).or (kcv f n lk op ab re L)
theorem kcv_c {f : Nat → Int32} {n : Nat} {lk op ab re lk' op' ab' re' : Nat → Int32} : ∀ L, (∀ i, i < L → lk i = lk' i) → (∀ i, i < L → op i = op' i) → (∀ i, i < L → ab i = ab' i) → (∀ i, i < L → re i = re' i) → kcv f n lk op ab re L = kcv f n lk' op' ab' re' L
  | 0, _, _, _, _ => rfl
  | L + 1, h1, h2, h3, h4 => by
    unfold kcv
    rw [kcv_c L (fun i hi => h1 i (by omega)) (fun i hi => h2 i (by omega)) (fun i hi => h3 i (by omega)) (fun i hi => h4 i (by omega)), h2 L (by omega), h3 L (by omega), h4 L (by omega), kcp_c (L + 1) h1]
def kcw (f : Nat → Int32) (n : Nat) (s : Mem) (L : Nat) : Option (List Nat) := if L = 0 then none else if gI s 15 (L - 1) = 0 then some (kcp (gI s 13) L) else kcv f n (gI s 13) (gI s 14) (gI s 15) (gI s 16) L
theorem mapor {X Y : Type} (g : X → Y) (a b : Option X) : (a.or b).map g = (a.map g).or (b.map g) := by cases a <;> rfl
theorem orass {X : Type} (a b c : Option X) : (a.or b).or c = a.or (b.or c) := by cases a <;> rfl
theorem bs_ov {s : Mem} {f : Nat → Int32} {n x : Nat} {S : Int32} (h8 : n ≤ 8) (hS : ∀ j, bt S j = true → j < n) (hx : x < 8) (h1 : gI s 1 0 = nI n) (hf : gI s 1 (1 + x) = f x) : S &&& ov s x = bs f S x := by
  apply bt_ext
  intro j hj
  rw [bt_and, ov_bt h8 h1 hx hj, bs_bt hx hj, hf]
  cases e : bt S j
  · simp
  · simp [hS j e]
def kci (f : Nat → Int32) (n : Nat) (s : Mem) (L : Nat) : Prop := gI s 17 0 = nI L ∧ L ≤ 8 ∧ (∀ i, i < L → (∀ j, bt (gI s 14 i) j = true → bt (gI s 16 i) j = true) ∧ pc (gI s 16 i) + i ≤ 7 ∧ (∀ j, bt (gI s 15 i) j = true → j < n) ∧ (∀ j, bt (gI s 16 i) j = true → j < n) ∧ rg 0 7 (gI s 13 i)) ∧ ∀ i, i + 1 < L → ¬ gI s 15 i = 0
theorem pc_0 {x : Int32} (h : pc x = 0) {j : Nat} (hj : j < 8) : bt x j = false := by
  cases e : bt x j
  · rfl
  · exfalso
    have := pc_lt (x := 0) (y := x) (fun i _ hb => by rw [bt_0] at hb; cases hb) hj (bt_0 j) e
    omega
theorem hch_M {N : Nat} {f : Nat → Int32} {n x : Nat} (h8 : n ≤ 8) (hT : Tn n f) (hx : x < n) {S : Int32} (hS : ∀ j, bt S j = true → j < n) {μ : Mem} (h1 : gI μ 1 0 = nI n) (h13 : ∀ a, a < 8 → gI μ 1 (1 + a) = f a) : par (f_M_hasChain N (nI x) S μ) (fun q => fr [13, 14, 15, 16, 17] [] μ q.2 ∧ ((kcl f n S x = none ∧ q.1 = 0) ∨ ∃ l, kcl f n S x = some l ∧ q.1 = 1 ∧ gI q.2 17 0 = nI l.length ∧ l.length ≤ 8 ∧ ∀ i, i < l.length → gI q.2 13 i = nI (l.getD i 0))) := by
  have hir : ∀ z, z < 8 → bt (f z) z = false := fun z hz => by
    cases e : bt (f z) z
    · rfl
    · exact absurd rfl (hT.2.1 z z hz e).2.2
  unfold f_M_hasChain
  refine p_let (fun s1 e1 => p_let (fun s2 e2 => ?_))
  rw [n0] at e2
  have f2 : fr [13, 14, 15, 16, 17] [] μ s2 := by rw [e2, e1]; exact fr_t (fr_sI (by decide)) (fr_sI (by decide))
  rw [beats_e (by omega), ob_s, f2.1 1 (by decide), h13 x (by omega)]
  refine p_let (fun s4 e4 => p_let (fun s5 e5 => ?_))
  rw [n0] at e4 e5
  rw [over_e (by omega), ob_s]
  refine p_let (fun s7 e7 => ?_)
  rw [n0] at e7
  have f5 : fr [13, 14, 15, 16, 17] [] μ s5 := by rw [e5, e4]; exact fr_t f2 (fr_t (fr_sI (by decide)) (fr_sI (by decide)))
  have eA : ov s5 x &&& S = bs f S x := by
    rw [Int32.and_comm]
    exact bs_ov h8 hS (by omega) (by rw [f5.1 1 (by decide)]; exact h1) (by rw [f5.1 1 (by decide)]; exact h13 x (by omega))
  rw [eA] at e7
  have f7 : fr [13, 14, 15, 16, 17] [] μ s7 := by rw [e7]; exact fr_t f5 (fr_sI (by decide))
  have a13 : gI s7 13 0 = nI x := by
    rw [e7, gI_sI, if_neg (by decide), e5, gI_sI, if_neg (by decide), e4, gI_sI, if_neg (by decide), e2, gI_sI, if_pos rfl, upd_ap, if_pos rfl]
  have a14 : gI s7 14 0 = f x &&& S := by
    rw [e7, gI_sI, if_neg (by decide), e5, gI_sI, if_neg (by decide), e4, gI_sI, if_pos rfl, upd_ap, if_pos rfl]
  have a16 : gI s7 16 0 = f x &&& S := by
    rw [e7, gI_sI, if_neg (by decide), e5, gI_sI, if_pos rfl, upd_ap, if_pos rfl, e4, gI_sI, if_pos rfl, upd_ap, if_pos rfl]
  have a15 : gI s7 15 0 = bs f S x := by
    rw [e7, gI_sI, if_pos rfl, upd_ap, if_pos rfl]
  have a17 : gI s7 17 0 = nI 1 := by
    rw [e7, gI_sI, if_neg (by decide), e5, gI_sI, if_neg (by decide), e4, gI_sI, if_neg (by decide), e2, gI_sI, if_neg (by decide), e1, gI_sI, if_pos rfl, upd_ap, if_pos rfl]
    rfl
  refine p_it1 (fun s => ∃ L, kci f n s L ∧ fr [13, 14, 15, 16, 17] [] μ s ∧ kcw f n s L = kcl f n S x) ?_ N _ ⟨1, ⟨a17, by decide, fun i hi => ?_, fun i hi => by omega⟩, f7, ?_⟩
  · rintro self s ⟨L, ⟨i17, iL, iA, iB⟩, hf, hV⟩ ih
    have g1 : gI s 1 0 = nI n := by rw [hf.1 1 (by decide)]; exact h1
    have g13 : ∀ a, a < 8 → gI s 1 (1 + a) = f a := fun a ha => by rw [hf.1 1 (by decide)]; exact h13 a ha
    unfold M_hasChain_B50
    rw [i17]
    refine p_if (fun c => ?_) (fun c => ?_)
    · rw [l0, nle (by omega) (by decide)] at c
      have : L = 0 := by omega
      subst this
      unfold M_hasChain_K216
      rw [i17, if_pos (by decide)]
      refine p_some ⟨hf, Or.inl ⟨?_, rfl⟩⟩
      rw [← hV]
      rfl
    · rw [l0, nle (by omega) (by decide)] at c
      obtain ⟨t, rfl⟩ : ∃ t, L = t + 1 := ⟨L - 1, by omega⟩
      obtain ⟨t1, t2, t3, t4, t5⟩ := iA t (by omega)
      rw [nsub1' (by omega), Nat.add_sub_cancel]
      refine p_gd (fun _ => ?_)
      rw [nI_clamp (by omega)]
      refine p_if (fun c2 => ?_) (fun c2 => ?_)
      · unfold M_hasChain_K216
        rw [i17, if_neg (by rw [l0, nle (by omega) (by decide)]; omega)]
        refine p_some ⟨hf, Or.inr ⟨kcp (gI s 13) (t + 1), ?_, rfl, by rw [kcp_l]; exact i17, by rw [kcp_l]; exact iL, fun i hi => ?_⟩⟩
        · rw [← hV]
          unfold kcw
          rw [if_neg (by omega), Nat.add_sub_cancel, if_pos c2]
        · rw [kcp_l] at hi
          rw [kcp_g _ _ hi]
          obtain ⟨k, ek, -, -, hk⟩ := rg_ex (iA i hi).2.2.2.2 (by decide)
          show gI s 13 i = _
          rw [ek, nI_clamp hk]
      · have hV2 : kcv f n (gI s 13) (gI s 14) (gI s 15) (gI s 16) (t + 1) = kcl f n S x := by
          rw [← hV]
          unfold kcw
          rw [if_neg (by omega), Nat.add_sub_cancel, if_neg c2]
        refine p_gd (fun _ => p_ob _ (fst_M _) (fun r hr => ?_))
        rcases hr with ⟨r1, r2⟩ | ⟨y, hy, r1, r2, r3⟩
        · rw [if_pos r1]
          refine p_let (fun s20 e20 => ?_)
          have q : ∀ k, k ≠ 17 → gI s20 k = gI s k := fun k hk => by rw [e20, gI_sI, if_neg hk]
          refine ih _ ⟨t, ⟨?_, by omega, fun i hi => ?_, fun i hi => ?_⟩, ?_, ?_⟩
          · rw [e20, gI_sI, if_pos rfl, upd_ap, if_pos rfl]
          · rw [q 14 (by decide), q 16 (by decide), q 15 (by decide), q 13 (by decide)]
            exact iA i (by omega)
          · rw [q 15 (by decide)]
            exact iB i (by omega)
          · rw [e20]
            exact fr_t hf (fr_sI (by decide))
          · rw [← hV2]
            unfold kcv
            rw [kcf_0 n 0 (fun j j1 j2 => r2 j (by omega)), Option.map_none, Option.none_or]
            unfold kcw
            rw [q 14 (by decide), q 16 (by decide), q 15 (by decide), q 13 (by decide)]
            by_cases ct : t = 0
            · rw [if_pos ct, ct]
              rfl
            · rw [if_neg ct, if_neg (iB (t - 1) (by omega))]
        · have y2 := t1 y r2
          have yn : y < n := t4 y y2
          have ht7 : t < 7 := by
            by_cases c7 : t < 7
            · exact c7
            · have := pc_0 (x := gI s 16 t) (by omega) hy
              rw [y2] at this
              cases this
          rw [if_neg (by rw [r1]; intro e; have := congrArg Int32.toInt e; rw [nI_toInt (by omega)] at this; have z : (-1 : Int32).toInt = -1 := by decide
                         omega)]
          refine p_gd (fun _ => p_gd (fun _ => p_let (fun s12 e12 => ?_)))
          rw [r1] at e12 ⊢
          have b17 : gI s12 17 0 = nI (t + 1) := by rw [e12, gI_sI, if_neg (by decide)]; exact i17
          rw [b17]
          refine p_gd (fun _ => p_let (fun s13 e13 => ?_))
          rw [nI_clamp (by omega)] at e13
          have c17 : gI s13 17 0 = nI (t + 1) := by rw [e13, gI_sI, if_neg (by decide)]; exact b17
          have f13 : fr [13, 14, 15, 16, 17] [] μ s13 := by rw [e13, e12]; exact fr_t hf (fr_t (fr_sI (by decide)) (fr_sI (by decide)))
          rw [c17, nsub1' (by omega), Nat.add_sub_cancel]
          refine p_gd (fun _ => ?_)
          rw [beats_e hy, ob_s, nI_clamp (by omega), nI_clamp (by omega), f13.1 1 (by decide), h13 y hy]
          refine p_gd (fun _ => p_let (fun s15 e15 => ?_))
          have d17 : gI s15 17 0 = nI (t + 1) := by rw [e15, gI_sI, if_neg (by decide)]; exact c17
          rw [d17]
          refine p_gd (fun _ => p_gd (fun _ => p_let (fun s16 e16 => ?_)))
          rw [nI_clamp (by omega)] at e16
          have e17' : gI s16 17 0 = nI (t + 1) := by rw [e16, gI_sI, if_neg (by decide)]; exact d17
          have f16 : fr [13, 14, 15, 16, 17] [] μ s16 := by rw [e16, e15]; exact fr_t f13 (fr_t (fr_sI (by decide)) (fr_sI (by decide)))
          rw [e17', nsub1' (by omega), Nat.add_sub_cancel]
          refine p_gd (fun _ => ?_)
          rw [over_e hy, ob_s, nI_clamp (by omega), nI_clamp (by omega)]
          have v13 : ∀ j, gI s16 13 j = upd (gI s 13) (t + 1) (nI y) j := fun j => by
            rw [e16, gI_sI, if_neg (by decide), e15, gI_sI, if_neg (by decide), e13, gI_sI, if_pos rfl, e12, gI_sI, if_neg (by decide)]
          have v15 : gI s16 15 = gI s 15 := by
            rw [e16, gI_sI, if_neg (by decide), e15, gI_sI, if_neg (by decide), e13, gI_sI, if_neg (by decide), e12, gI_sI, if_neg (by decide)]
          have w16 : gI s15 16 = upd (gI s 16) (t + 1) (gI s 16 t &&& f y) := by
            have z : gI s13 16 = gI s 16 := by rw [e13, gI_sI, if_neg (by decide), e12, gI_sI, if_neg (by decide)]
            rw [e15, gI_sI, if_pos rfl, z]
          have v16 : gI s16 16 = upd (gI s 16) (t + 1) (gI s 16 t &&& f y) := by
            rw [e16, gI_sI, if_neg (by decide), w16]
          have w14 : gI s15 14 = upd (gI s 14) t (clr (gI s 14 t) y) := by
            rw [e15, gI_sI, if_neg (by decide), e13, gI_sI, if_neg (by decide), e12, gI_sI, if_pos rfl]
            rfl
          have v14 : gI s16 14 = upd (upd (gI s 14) t (clr (gI s 14 t) y)) (t + 1) (gI s 16 t &&& f y) := by
            rw [e16, gI_sI, if_pos rfl, w14, w16, upd_ap, if_pos rfl]
          rw [v15, bs_ov (f := f) h8 t3 hy (by rw [f16.1 1 (by decide)]; exact h1) (by rw [f16.1 1 (by decide)]; exact h13 y hy)]
          refine p_gd (fun _ => p_let (fun s18 e18 => p_let (fun s19 e19 => ?_)))
          have u17 : gI s18 17 0 = nI (t + 1) := by rw [e18, gI_sI, if_neg (by decide)]; exact e17'
          rw [u17, nadd1] at e19
          have x17 : gI s19 17 0 = nI (t + 1 + 1) := by rw [e19, gI_sI, if_pos rfl, upd_ap, if_pos rfl]
          have x13 : gI s19 13 = upd (gI s 13) (t + 1) (nI y) := by
            funext j
            rw [e19, gI_sI, if_neg (by decide), e18, gI_sI, if_neg (by decide)]
            exact v13 j
          have x14 : gI s19 14 = upd (upd (gI s 14) t (clr (gI s 14 t) y)) (t + 1) (gI s 16 t &&& f y) := by
            rw [e19, gI_sI, if_neg (by decide), e18, gI_sI, if_neg (by decide), v14]
          have x16 : gI s19 16 = upd (gI s 16) (t + 1) (gI s 16 t &&& f y) := by
            rw [e19, gI_sI, if_neg (by decide), e18, gI_sI, if_neg (by decide), v16]
          have x15 : gI s19 15 = upd (gI s 15) (t + 1) (bs f (gI s 15 t) y) := by
            rw [e19, gI_sI, if_neg (by decide), e18, gI_sI, if_pos rfl, v15]
          have cb : ∀ j, bt (clr (gI s 14 t) y) j = (bt (gI s 14 t) j && !decide (j = y)) := fun j => by
            by_cases hj : j < 32
            · unfold clr
              rw [bt_and, bt_not _ hj, bt_one (by omega) hj]
            · rw [bt_ge (by omega), bt_ge (by omega)]
              rfl
          refine ih _ ⟨t + 1 + 1, ⟨x17, by omega, fun i hi => ?_, fun i hi => ?_⟩, ?_, ?_⟩
          · rw [x13, x14, x15, x16, upd_ap, upd_ap, upd_ap, upd_ap, upd_ap]
            by_cases ci : i = t + 1
            · rw [if_pos ci, if_pos ci, if_pos ci, if_pos ci]
              refine ⟨fun _ h => h, ?_, fun j hj => t3 j (bs_S hj), fun j hj => ?_, nI_rg (by omega) (by omega)⟩
              · have := pc_lt (x := gI s 16 t &&& f y) (y := gI s 16 t) (fun j _ hb => by rw [bt_and] at hb; exact (Bool.and_eq_true_iff.mp hb).1) hy (by rw [bt_and, hir y hy]; simp) y2
                omega
              · rw [bt_and] at hj
                exact t4 j (Bool.and_eq_true_iff.mp hj).1
            · rw [if_neg ci, if_neg ci, if_neg ci, if_neg ci]
              by_cases ct : i = t
              · rw [if_pos ct, ct]
                refine ⟨fun j hj => ?_, t2, t3, t4, t5⟩
                rw [cb j] at hj
                exact t1 j (Bool.and_eq_true_iff.mp hj).1
              · rw [if_neg ct]
                exact iA i (by omega)
          · rw [x15, upd_ap, if_neg (by omega)]
            by_cases ct : i = t
            · rw [ct]; exact c2
            · exact iB i (by omega)
          · rw [e19, e18]
            exact fr_t f16 (fr_t (fr_sI (by decide)) (fr_sI (by decide)))
          · rw [← hV2]
            have k0 : kcp (gI s19 13) (t + 1) = kcp (gI s 13) (t + 1) := kcp_c _ (fun i hi => by rw [x13, upd_ap, if_neg (by omega)])
            have k1 : kcp (gI s19 13) (t + 1 + 1) = kcp (gI s 13) (t + 1) ++ [y] := by
              show kcp (gI s19 13) (t + 1) ++ [(gI s19 13 (t + 1)).toNatClampNeg] = _
              rw [k0, x13, upd_ap, if_pos rfl, nI_clamp (by omega)]
            have y14 : gI s19 14 t = clr (gI s 14 t) y := by rw [x14, upd_ap, if_neg (by omega), upd_ap, if_pos rfl]
            have y15 : gI s19 15 t = gI s 15 t := by rw [x15, upd_ap, if_neg (by omega)]
            have y16 : gI s19 16 t = gI s 16 t := by rw [x16, upd_ap, if_neg (by omega)]
            have z14 : gI s19 14 (t + 1) = gI s 16 t &&& f y := by rw [x14, upd_ap, if_pos rfl]
            have z15 : gI s19 15 (t + 1) = bs f (gI s 15 t) y := by rw [x15, upd_ap, if_pos rfl]
            have z16 : gI s19 16 (t + 1) = gI s 16 t &&& f y := by rw [x16, upd_ap, if_pos rfl]
            have k2 : kcv f n (gI s19 13) (gI s19 14) (gI s19 15) (gI s19 16) (t + 1) = ((kcf (kcg f n (gI s 16 t) (gI s 15 t) t) (bt (clr (gI s 14 t) y)) n 0).map (fun l => kcp (gI s 13) (t + 1) ++ l)).or (kcv f n (gI s 13) (gI s 14) (gI s 15) (gI s 16) t) := by
              rw [kcv, k0, kcv_c (lk' := gI s 13) (op' := gI s 14) (ab' := gI s 15) (re' := gI s 16) t (fun i hi => by rw [x13, upd_ap, if_neg (by omega)]) (fun i hi => by rw [x14, upd_ap, if_neg (by omega), upd_ap, if_neg (by omega)]) (fun i hi => by rw [x15, upd_ap, if_neg (by omega)]) (fun i hi => by rw [x16, upd_ap, if_neg (by omega)]), y14, y15, y16]
            have k3 : kcv f n (gI s 13) (gI s 14) (gI s 15) (gI s 16) (t + 1) = (((kcg f n (gI s 16 t) (gI s 15 t) t y).map (List.cons y)).map (fun l => kcp (gI s 13) (t + 1) ++ l)).or (kcv f n (gI s19 13) (gI s19 14) (gI s19 15) (gI s19 16) (t + 1)) := by
              rw [k2, kcv, kcf_y (p' := bt (clr (gI s 14 t) y)) r2 cb n 0 (by omega) (by omega) (fun j _ hj => r3 j hj), mapor, orass]
            rw [k3]
            unfold kcw
            rw [if_neg (by omega), Nat.add_sub_cancel, z15]
            have k4 : kcg f n (gI s 16 t) (gI s 15 t) t y = if bs f (gI s 15 t) y = 0 then some [] else kcf (kcg f n (gI s 16 t &&& f y) (bs f (gI s 15 t) y) (t + 1)) (bt (gI s 16 t &&& f y)) n 0 := by
              unfold kcg
              by_cases c6 : t < 6
              · have e6 : 6 - t = (6 - (t + 1)) + 1 := by omega
                rw [e6, kch]
              · have e6 : 6 - t = 0 := by omega
                rw [e6, kch]
                by_cases cz : bs f (gI s 15 t) y = 0
                · rw [if_pos cz, if_pos cz]
                · rw [if_neg cz, if_neg cz, kcf_0 n 0 (fun j _ hj => ?_)]
                  have := pc_lt (x := gI s 16 t &&& f y) (y := gI s 16 t) (fun j _ hb => by rw [bt_and] at hb; exact (Bool.and_eq_true_iff.mp hb).1) hy (by rw [bt_and, hir y hy]; simp) y2
                  exact pc_0 (by omega) (by omega)
            rw [k4]
            by_cases cz : bs f (gI s 15 t) y = 0
            · rw [if_pos cz, if_pos cz, k1]
              rfl
            · rw [if_neg cz, if_neg cz]
              have k5 : kcv f n (gI s19 13) (gI s19 14) (gI s19 15) (gI s19 16) (t + 1 + 1) = ((kcf (kcg f n (gI s 16 t &&& f y) (bs f (gI s 15 t) y) (t + 1)) (bt (gI s 16 t &&& f y)) n 0).map (fun l => (kcp (gI s 13) (t + 1) ++ [y]) ++ l)).or (kcv f n (gI s19 13) (gI s19 14) (gI s19 15) (gI s19 16) (t + 1)) := by
                rw [kcv, k1, z14, z15, z16]
              rw [k5, Option.map_map]
              congr 1
              congr 1
              funext l
              simp
  · have i0 : i = 0 := by omega
    subst i0
    rw [a13, a14, a15, a16]
    refine ⟨fun _ h => h, ?_, fun j hj => hS j (bs_S hj), fun j hj => ?_, nI_rg (by omega) (by omega)⟩
    · have hx8 : x < 8 := by omega
      have := pc_lt (x := f x &&& S) (y := -1) (fun j hj _ => bt_m1 (by omega)) hx8 (by rw [bt_and, hir x hx8]; rfl) (bt_m1 (by omega))
      have := pc_8 (-1)
      omega
    · rw [bt_and] at hj
      exact hS j (Bool.and_eq_true_iff.mp hj).2
  · unfold kcw kcl
    rw [if_neg (by decide)]
    show (if gI s7 15 0 = 0 then _ else _) = _
    rw [a15]
    have z : kch f n 7 (f x &&& S) (bs f S x) = if bs f S x = 0 then some [] else kcf (fun z => kch f n 6 ((f x &&& S) &&& f z) (bs f (bs f S x) z)) (bt (f x &&& S)) n 0 := rfl
    have y1 : kcp (gI s7 13) 1 = [x] := by
      show [] ++ [(gI s7 13 0).toNatClampNeg] = _
      rw [a13, nI_clamp (by omega)]
      rfl
    rw [z]
    by_cases cz : bs f S x = 0
    · rw [if_pos cz, if_pos cz, y1]
      rfl
    · rw [if_neg cz, if_neg cz]
      show ((kcf (kcg f n (gI s7 16 0) (gI s7 15 0) 0) (bt (gI s7 14 0)) n 0).map (fun l => kcp (gI s7 13) 1 ++ l)).or none = _
      rw [y1, a14, a15, a16, Option.or_none]
      rfl
