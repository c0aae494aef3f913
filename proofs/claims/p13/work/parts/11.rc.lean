/-! chain answers alike -/
theorem p_obq {X T U : Type} {o : Option (T × U)} {k : T → U → Option X} {P : X → Prop} (R : T × U → Prop) (h1 : par o R) (h2 : ∀ a b, R (a, b) → par (k a b) P) : par (ob2 o k) P := by
  cases o with
  | none => intro x e; cases e
  | some a => exact h2 a.1 a.2 (h1 a rfl)
theorem sub_lt {n : Nat} {a : Int32} (h : sub n a) : ∀ j, bt a j = true → j < n := fun j hb => by
  by_cases c : j < 32
  · exact h j c hb
  · rw [bt_ge (by omega)] at hb
    cases hb
theorem st_Rl_chain_c {N : Nat} (hN : 8589934592 ≤ N) {σ μ : Mem} (hR : Rl σ μ) (a b c : Int32) : ∃ (q q2 : Int32 × Mem), f_D_chain N a b c σ = some (q.1, q.2) ∧ f_M_chain N a b c μ = some (q2.1, q2.2) ∧ Rl q.2 q2.2 ∧ q.1 = q2.1 := by
  obtain ⟨q, e1, k1⟩ := D_chain_t hN (a1 := a) (a2 := b) (a3 := c) hR.1
  obtain ⟨q2, e2, k2⟩ := M_chain_t hN (a1 := a) (a2 := b) (a3 := c) hR.2.1
  refine ⟨q, q2, e1, e2, Rl_q hR k1.2 k2.2 (by decide) (by decide), ?_⟩
  obtain ⟨s1, es1⟩ : ∃ s, s = sI μ 0 0 0 := ⟨_, rfl⟩
  obtain ⟨hR1, k0⟩ := Rl_m0 hR es1
  obtain ⟨n, h8, h3, h1, h13, hT⟩ := Rl_n hR1
  unfold f_D_chain at e1
  unfold f_M_chain at e2
  rw [bnd_e, ← es1] at e2
  have pD := ps_D h8 h3 b
  have pM := so_M h8 h1 b
  have nope : q.1 = -1 → q2.1 = -1 → q.1 = q2.1 := fun x y => by rw [x, y]
  rcases pl_b h8 h3 h1 a with ⟨p1, p2⟩ | ⟨p1, p2, x, hx, rfl⟩
  · rw [if_pos p1] at e1
    refine nope (by cases e1; rfl) ?_
    by_cases hs : t_M_isSome b s1 = 0
    · rw [if_pos hs] at e2
      cases e2
      rfl
    · rw [if_neg hs, if_pos p2] at e2
      cases e2
      rfl
  · rw [if_neg (by rw [p1]; decide)] at e1
    by_cases hs : sub n b
    · rw [if_neg (fun q => pD.mp q hs)] at e1
      rw [if_neg (fun q => pM.mp q ⟨by omega, hs⟩), if_neg (by rw [p2]; decide)] at e2
      rw [bit_bt (by omega)] at e1
      rw [has_bt (by omega)] at e2
      cases hb : bt b x
      · rw [hb, if_pos (by decide)] at e1 e2
        exact nope (by cases e1; rfl) (by cases e2; rfl)
      · rw [hb, if_neg (by decide)] at e1 e2
        by_cases hc : (-1 : Int32) ≤ c
        · rw [if_pos hc] at e1 e2
          have d' := p_ob2 (k := fun r2 s1 => if r2 = (0 : Int32) then (some ((-3 : Int32), s1)) else (if c = (-1 : Int32) then (some (r2, s1)) else (if r2 ≤ c then (some ((-1 : Int32), s1)) else (gd (inb c 8) (some ((gI s1 22 c.toNatClampNeg), s1)))))) (P := fun q => (kcl (gI σ 13) n b x = none ∧ q.1 = -3) ∨ ∃ l, kcl (gI σ 13) n b x = some l ∧ l.length ≤ 8 ∧ ((c = -1 ∧ q.1 = nI l.length) ∨ (¬ c = -1 ∧ nI l.length ≤ c ∧ q.1 = -1) ∨ (¬ c = -1 ∧ ¬ nI l.length ≤ c ∧ ∃ i, c = nI i ∧ i < l.length ∧ q.1 = nI (l.getD i 0)))) (R := fun r s => (kcl (gI σ 13) n b x = none ∧ r = 0) ∨ ∃ l, kcl (gI σ 13) n b x = some l ∧ r = nI l.length ∧ 1 ≤ l.length ∧ l.length ≤ 8 ∧ ∀ i, i < l.length → gI s 22 i = nI (l.getD i 0)) (p_mono (lch_D (f := gI σ 13) (N := N) h8 (by omega : x < 8) (S := b) h3 rfl) (fun q hq => hq.2)) (fun r s hr => by
            rcases hr with ⟨r1, r2⟩ | ⟨l, r1, r2, r3, r4, r5⟩
            · rw [if_pos r2]
              exact p_some (Or.inl ⟨r1, rfl⟩)
            · have r0 : ¬ r = 0 := fun z => by
                have := nI_inj (by omega) (by decide) (show nI l.length = nI 0 from r2.symm.trans z)
                omega
              rw [if_neg r0]
              refine p_if (fun c1 => p_some (Or.inr ⟨l, r1, r4, Or.inl ⟨c1, r2⟩⟩)) (fun c1 => ?_)
              rw [r2]
              refine p_if (fun c2 => p_some (Or.inr ⟨l, r1, r4, Or.inr (Or.inl ⟨c1, c2, rfl⟩)⟩)) (fun c2 => ?_)
              refine p_gd (fun g => p_some (Or.inr ⟨l, r1, r4, Or.inr (Or.inr ⟨c1, c2, ?_⟩)⟩))
              obtain ⟨i, hi, rfl⟩ := inb_ex (by decide) g
              rw [nle (by omega) (by omega)] at c2
              refine ⟨i, rfl, by omega, ?_⟩
              show gI s 22 (nI i).toNatClampNeg = _
              rw [nI_clamp (by omega)]
              exact r5 i (by omega)) q e1
          have m' := p_ob2 (k := fun r3 s2 => if r3 = (0 : Int32) then (some ((-3 : Int32), s2)) else (if c = (-1 : Int32) then (some ((gI s2 17 0), s2)) else (if (gI s2 17 0) ≤ c then (some ((-1 : Int32), s2)) else (gd (inb c 9) (some ((gI s2 13 c.toNatClampNeg), s2)))))) (P := fun q => (kcl (gI σ 13) n b x = none ∧ q.1 = -3) ∨ ∃ l, kcl (gI σ 13) n b x = some l ∧ l.length ≤ 8 ∧ ((c = -1 ∧ q.1 = nI l.length) ∨ (¬ c = -1 ∧ nI l.length ≤ c ∧ q.1 = -1) ∨ (¬ c = -1 ∧ ¬ nI l.length ≤ c ∧ ∃ i, c = nI i ∧ i < l.length ∧ q.1 = nI (l.getD i 0)))) (R := fun r s => (kcl (gI σ 13) n b x = none ∧ r = 0) ∨ ∃ l, kcl (gI σ 13) n b x = some l ∧ r = 1 ∧ gI s 17 0 = nI l.length ∧ l.length ≤ 8 ∧ ∀ i, i < l.length → gI s 13 i = nI (l.getD i 0)) (p_mono (hch_M (f := gI σ 13) (N := N) h8 hT hx (S := b) (sub_lt hs) h1 h13) (fun q hq => hq.2)) (fun r s hr => by
            rcases hr with ⟨r1, r2⟩ | ⟨l, r1, r2, r3, r4, r5⟩
            · rw [if_pos r2]
              exact p_some (Or.inl ⟨r1, rfl⟩)
            · rw [if_neg (by rw [r2]; decide)]
              refine p_if (fun c1 => p_some (Or.inr ⟨l, r1, r4, Or.inl ⟨c1, r3⟩⟩)) (fun c1 => ?_)
              rw [r3]
              refine p_if (fun c2 => p_some (Or.inr ⟨l, r1, r4, Or.inr (Or.inl ⟨c1, c2, rfl⟩)⟩)) (fun c2 => ?_)
              refine p_gd (fun g => p_some (Or.inr ⟨l, r1, r4, Or.inr (Or.inr ⟨c1, c2, ?_⟩)⟩))
              obtain ⟨i, hi, rfl⟩ := inb_ex (by decide) g
              rw [nle (by omega) (by omega)] at c2
              refine ⟨i, rfl, by omega, ?_⟩
              show gI s 13 (nI i).toNatClampNeg = _
              rw [nI_clamp (by omega)]
              exact r5 i (by omega)) q2 e2
          rcases d' with ⟨d1, d2⟩ | ⟨l, d1, d8, d2⟩
          · rcases m' with ⟨m1, m2⟩ | ⟨l', m1, m8, m2⟩
            · rw [d2, m2]
            · rw [d1] at m1
              cases m1
          · rcases m' with ⟨m1, m2⟩ | ⟨l', m1, m8, m2⟩
            · rw [d1] at m1
              cases m1
            · rw [d1] at m1
              cases m1
              rcases d2 with ⟨d2, d3⟩ | ⟨d2, d3, d4⟩ | ⟨d2, d3, i, d4, d5, d6⟩
              · rcases m2 with ⟨m2, m3⟩ | ⟨m2, m3, m4⟩ | ⟨m2, m3, j, m4, m5, m6⟩
                · rw [d3, m3]
                · exact absurd d2 m2
                · exact absurd d2 m2
              · rcases m2 with ⟨m2, m3⟩ | ⟨m2, m3, m4⟩ | ⟨m2, m3, j, m4, m5, m6⟩
                · exact absurd m2 d2
                · rw [d4, m4]
                · exact absurd d3 m3
              · rcases m2 with ⟨m2, m3⟩ | ⟨m2, m3, m4⟩ | ⟨m2, m3, j, m4, m5, m6⟩
                · exact absurd m2 d2
                · exact absurd m3 d3
                · have : i = j := nI_inj (by omega) (by omega) (d4.symm.trans m4)
                  rw [d6, m6, this]
        · rw [if_neg hc] at e1 e2
          exact nope (by cases e1; rfl) (by cases e2; rfl)
    · rw [if_pos (pD.mpr hs)] at e1
      rw [if_pos (pM.mpr (fun q => hs q.2))] at e2
      exact nope (by cases e1; rfl) (by cases e2; rfl)
/-- a set by a test -/
def bsf (p : Nat → Bool) : Nat → Int32
  | 0 => 0
  | k + 1 => if p k = true then bsf p k ||| ((1 : Int32) <<< (nI k &&& 31)) else bsf p k
theorem bsf_t {p : Nat → Bool} {k : Nat} (h : p k = true) : bsf p (k + 1) = bsf p k ||| ((1 : Int32) <<< (nI k &&& 31)) := if_pos h
theorem bsf_f {p : Nat → Bool} {k : Nat} (h : p k = false) : bsf p (k + 1) = bsf p k := if_neg (by rw [h]; decide)
theorem bsf_c {p p' : Nat → Bool} : ∀ k, (∀ j, j < k → p j = p' j) → bsf p k = bsf p' k
  | 0, _ => rfl
  | k + 1, h => by
    have ih := bsf_c k (fun j hj => h j (by omega))
    cases e : p k
    · rw [bsf_f e, bsf_f (by rw [← h k (by omega)]; exact e), ih]
    · rw [bsf_t e, bsf_t (by rw [← h k (by omega)]; exact e), ih]
theorem bsf_bt {p : Nat → Bool} : ∀ k, k ≤ 8 → ∀ j, bt (bsf p k) j = (decide (j < k) && p j)
  | 0, _, j => by
    show bt 0 j = _
    rw [bt_0]
    rfl
  | k + 1, h, j => by
    have ih := bsf_bt (p := p) k (by omega) j
    by_cases hj : j < 32
    · cases e : p k
      · rw [bsf_f e, ih]
        by_cases c : j = k
        · subst c
          rw [e]
          simp
        · have d : decide (j < k + 1) = decide (j < k) := decide_eq_decide.mpr (by omega)
          rw [d]
      · rw [bsf_t e, bt_or, ih, bt_one (by omega) hj]
        by_cases c : j = k
        · subst c
          rw [e]
          simp
        · have d : decide (j < k + 1) = decide (j < k) := decide_eq_decide.mpr (by omega)
          rw [d, decide_eq_false c]
          simp
    · rw [bt_ge (by omega), decide_eq_false (by omega)]
      rfl
theorem or0 (x : Int32) : x ||| (0 : Int32) = x := by
  apply bt_ext
  intro j hj
  rw [bt_or, bt_0]
  simp
theorem zor (x : Int32) : (0 : Int32) ||| x = x := by
  apply bt_ext
  intro j hj
  rw [bt_or, bt_0]
  simp
theorem andm (x : Int32) : x &&& (-1 : Int32) = x := by
  apply bt_ext
  intro j hj
  rw [bt_and, bt_m1 hj]
  simp
/-- who is first of a chain -/
def bkp (f : Nat → Int32) (n : Nat) (S : Int32) (x : Nat) : Bool := bt S x && (kcl f n S x).isSome
theorem bk_D {N : Nat} {n : Nat} (h8 : n ≤ 8) {S : Int32} {σ : Mem} (h3 : gI σ 3 0 = nI n) : par (f_Se_banks N S σ) (fun q => q.1 = bsf (bkp (gI σ 13) n S) n) := by
  unfold f_Se_banks
  refine p_it3 (fun i1 i2 s => ∃ k, k ≤ n ∧ i2 = nI k ∧ i1 = bsf (bkp (gI σ 13) n S) k ∧ fr [22] [] σ s) ?_ N _ _ _ ⟨0, by omega, rfl, rfl, fr_r _ _ _⟩
  rintro self _ _ s ⟨k, hk, rfl, rfl, hf⟩ ih
  unfold Se_banks_B4
  rw [hf.1 3 (by decide), h3]
  refine p_if (fun c => ?_) (fun c => ?_)
  · rw [nle (by omega) (by omega)] at c
    have : k = n := by omega
    subst this
    exact p_some rfl
  · rw [nle (by omega) (by omega)] at c
    rw [bit_bt (by omega), nadd1]
    cases hb : bt S k
    · rw [if_neg (by decide)]
      exact ih _ _ _ ⟨k + 1, by omega, rfl, (bsf_f (by unfold bkp; rw [hb]; rfl)).symm, hf⟩
    · rw [if_pos (by rfl)]
      refine p_obq _ (lch_D (f := gI σ 13) h8 (by omega : k < 8) (S := S) (by rw [hf.1 3 (by decide)]; exact h3) (hf.1 13 (by decide))) (fun r s2 hq => ?_)
      obtain ⟨f2, hq⟩ := hq
      rcases hq with ⟨r1, r2⟩ | ⟨l, r1, r2, r3, r4, -⟩
      · have r2' : r = 0 := r2
        rw [if_pos (by rw [r2']; decide)]
        exact ih _ _ _ ⟨k + 1, by omega, rfl, (bsf_f (by unfold bkp; rw [hb, r1]; rfl)).symm, fr_t hf f2⟩
      · have r2' : r = nI l.length := r2
        rw [if_neg (by rw [r2', l0, nle (by omega) (by decide)]; omega)]
        exact p_bnd (ih _ _ _ ⟨k + 1, by omega, rfl, (bsf_t (by unfold bkp; rw [hb, r1]; rfl)).symm, fr_t hf f2⟩)
theorem bk_M {N : Nat} {f : Nat → Int32} {n : Nat} (h8 : n ≤ 8) (hT : Tn n f) {S : Int32} (hS : ∀ j, bt S j = true → j < n) {μ : Mem} (h1 : gI μ 1 0 = nI n) (h13 : ∀ a, a < 8 → gI μ 1 (1 + a) = f a) : par (f_M_banks N S μ) (fun q => q.1 = bsf (bkp f n S) n) := by
  unfold f_M_banks
  refine p_it3 (fun i1 i2 s => ∃ k, k ≤ n ∧ i2 = nI k ∧ i1 = bsf (bkp f n S) k ∧ fr [13, 14, 15, 16, 17] [] μ s) ?_ N _ _ _ ⟨0, by omega, rfl, rfl, fr_r _ _ _⟩
  rintro self _ _ s ⟨k, hk, rfl, rfl, hf⟩ ih
  have g1 : gI s 1 0 = nI n := by rw [hf.1 1 (by decide)]; exact h1
  unfold M_banks_B4
  rw [many_e g1]
  refine p_if (fun c => ?_) (fun c => ?_)
  · rw [nle (by omega) (by omega)] at c
    have : k = n := by omega
    subst this
    exact p_some rfl
  · rw [nle (by omega) (by omega)] at c
    rw [has_bt (by omega), nadd1]
    cases hb : bt S k
    · rw [if_pos (by decide)]
      refine p_bnd ?_
      rw [or0]
      exact ih _ _ _ ⟨k + 1, by omega, rfl, (bsf_f (by unfold bkp; rw [hb]; rfl)).symm, hf⟩
    · rw [if_neg (by decide)]
      refine p_obq _ (hch_M h8 hT (by omega : k < n) hS g1 (fun a ha => by rw [hf.1 1 (by decide)]; exact h13 a ha)) (fun r s2 hq => ?_)
      obtain ⟨f2, hq⟩ := hq
      rcases hq with ⟨r1, r2⟩ | ⟨l, r1, r2, -⟩
      · have r2' : r = 0 := r2
        rw [if_pos r2']
        refine p_bnd ?_
        rw [or0]
        exact ih _ _ _ ⟨k + 1, by omega, rfl, (bsf_f (by unfold bkp; rw [hb, r1]; rfl)).symm, fr_t hf f2⟩
      · have r2' : r = 1 := r2
        rw [if_neg (by rw [r2']; decide)]
        exact p_bnd (ih _ _ _ ⟨k + 1, by omega, rfl, (bsf_t (by unfold bkp; rw [hb, r1]; rfl)).symm, fr_t hf f2⟩)
