/-! chains: the least one, by a search; one goes down by calls, the other by a stack -/
def kcf (g : Nat → Option (List Nat)) (p : Nat → Bool) : Nat → Nat → Option (List Nat)
  | 0, _ => none
  | c + 1, s => (if p s = true then (g s).map (List.cons s) else none).or (kcf g p c (s + 1))
def kch (f : Nat → Int32) (n : Nat) : Nat → Int32 → Int32 → Option (List Nat)
  | 0, _, A => if A = 0 then some [] else none
  | d + 1, B, A => if A = 0 then some [] else kcf (fun z => kch f n d (B &&& f z) (bs f A z)) (bt B) n 0
theorem kcf_0 {g : Nat → Option (List Nat)} {p : Nat → Bool} : ∀ c s, (∀ j, s ≤ j → j < s + c → p j = false) → kcf g p c s = none
  | 0, _, _ => rfl
  | c + 1, s, h => by
    unfold kcf
    rw [if_neg (by rw [h s (Nat.le_refl _) (by omega)]; decide), kcf_0 c (s + 1) (fun j h1 h2 => h j (by omega) (by omega))]
    rfl
theorem kcf_c {g g' : Nat → Option (List Nat)} {p p' : Nat → Bool} : ∀ c s, (∀ j, s ≤ j → j < s + c → p j = p' j) → (∀ j, s ≤ j → j < s + c → p j = true → g j = g' j) → kcf g p c s = kcf g' p' c s
  | 0, _, _, _ => rfl
  | c + 1, s, h, h' => by
    unfold kcf
    rw [← h s (Nat.le_refl _) (by omega), kcf_c c (s + 1) (fun j h1 h2 => h j (by omega) (by omega)) (fun j h1 h2 => h' j (by omega) (by omega))]
    cases e : p s
    · rfl
    · rw [h' s (Nat.le_refl _) (by omega) e]
theorem kcf_y {g : Nat → Option (List Nat)} {p p' : Nat → Bool} {y : Nat} (hy : p y = true) (h' : ∀ j, p' j = (p j && !decide (j = y))) : ∀ c s, s ≤ y → y < s + c → (∀ j, s ≤ j → j < y → p j = false) → kcf g p c s = ((g y).map (List.cons y)).or (kcf g p' c s)
  | 0, s, h1, h2, _ => absurd h2 (by omega)
  | c + 1, s, h1, h2, h3 => by
    unfold kcf
    by_cases e : s = y
    · subst e
      rw [if_pos hy, if_neg (by rw [h' s]; simp), Option.none_or]
      congr 1
      refine kcf_c c (s + 1) (fun j j1 j2 => ?_) (fun _ _ _ _ => rfl)
      rw [h' j, decide_eq_false (by omega)]
      simp
    · rw [if_neg (by rw [h3 s (Nat.le_refl _) (by omega)]; decide), if_neg (by rw [h' s, h3 s (Nat.le_refl _) (by omega)]; simp), Option.none_or, Option.none_or]
      exact kcf_y hy h' c (s + 1) (by omega) (by omega) (fun j j1 j2 => h3 j (by omega) j2)
def kcr (o : Option (List Nat)) (L : Nat) (q : Int32 × Mem) : Prop := (o = none ∧ q.1 = 0) ∨ ∃ l, o = some l ∧ q.1 = nI (L + l.length) ∧ L + l.length ≤ 8 ∧ ∀ i, i < l.length → gI q.2 22 (L + i) = nI (l.getD i 0)
theorem chf_D {N d : Nat} {f : Nat → Int32} {n : Nat} (h8 : n ≤ 8) {L : Nat} (hL1 : 1 ≤ L) (hL : L ≤ 8) {B A : Int32} {σ : Mem} (h3 : gI σ 3 0 = nI n) (h13 : gI σ 13 = f) : par (f_Se_chainFrom N d (nI L) B A σ) (fun q => fr [22] [] σ q.2 ∧ (∀ i, i < L → gI q.2 22 i = gI σ 22 i) ∧ kcr (kch f n (8 - L) B A) L q) := by
  have key : par (f_Se_chainFrom N d (nI L) B A σ) (fun q => fr [22] [] σ q.2 ∧ (∀ i, i < (nI L).toNatClampNeg → gI q.2 22 i = gI σ 22 i) ∧ kcr (kch f n (8 - (nI L).toNatClampNeg) B A) (nI L).toNatClampNeg q) := by
    unfold f_Se_chainFrom
    refine p_rec4 (fun a1 a2 a3 σ q => fr [22] [] σ q.2 ∧ (∀ i, i < a1.toNatClampNeg → gI q.2 22 i = gI σ 22 i) ∧ kcr (kch f n (8 - a1.toNatClampNeg) a2 a3) a1.toNatClampNeg q) (fun a1 _ _ σ => (∃ L, 1 ≤ L ∧ L ≤ 8 ∧ a1 = nI L) ∧ gI σ 3 0 = nI n ∧ gI σ 13 = f) ?_ d (nI L) B A σ ⟨⟨L, hL1, hL, rfl⟩, h3, h13⟩
    rintro self _ B A σ ⟨⟨L, hL1, hL, rfl⟩, h3, h13⟩ ih
    rw [nI_clamp (by omega)]
    unfold Se_chainFrom_R
    refine p_if (fun c => ?_) (fun c => ?_)
    · refine p_some ⟨fr_r _ _ _, fun _ _ => rfl, Or.inr ⟨[], ?_, rfl, hL, fun i hi => absurd hi (Nat.not_lt_zero _)⟩⟩
      cases 8 - L with
      | zero => unfold kch; rw [if_pos c]
      | succ d => unfold kch; rw [if_pos c]
    · refine p_if (fun c2 => ?_) (fun c2 => ?_)
      · rw [l8, nlt (by omega) (by decide)] at c2
        obtain ⟨g, hg⟩ : ∃ g : Nat → Option (List Nat), g = fun z => kch f n (8 - (L + 1)) (B &&& f z) (bs f A z) := ⟨_, rfl⟩
        have ek : kch f n (8 - L) B A = kcf g (bt B) n 0 := by
          have : 8 - L = (8 - (L + 1)) + 1 := by omega
          rw [this, kch, if_neg c, hg]
        rw [ek]
        refine p_it2 (fun i s => ∃ k, k ≤ n ∧ i = nI k ∧ fr [22] [] σ s ∧ (∀ i, i < L → gI s 22 i = gI σ 22 i) ∧ kcf g (bt B) n 0 = kcf g (bt B) (n - k) k) ?_ N _ _ ⟨0, by omega, rfl, fr_r _ _ _, fun _ _ => rfl, rfl⟩
        rintro self3 _ s ⟨k, hk, rfl, hf, hp, hv⟩ ih3
        unfold Se_chainFrom_B17
        rw [hf.1 3 (by decide), h3]
        refine p_if (fun c3 => ?_) (fun c3 => ?_)
        · rw [nle (by omega) (by omega)] at c3
          have : k = n := by omega
          subst this
          refine p_some ⟨hf, hp, Or.inl ⟨?_, rfl⟩⟩
          rw [hv, Nat.sub_self]
          rfl
        · rw [nle (by omega) (by omega)] at c3
          have hs : kcf g (bt B) (n - k) k = (if bt B k = true then (g k).map (List.cons k) else none).or (kcf g (bt B) (n - (k + 1)) (k + 1)) := by
            have : n - k = (n - (k + 1)) + 1 := by omega
            rw [this, kcf]
          rw [bit_bt (by omega), nadd1 k]
          cases hb : bt B k
          · rw [if_neg (by decide)]
            rw [hb, if_neg (by decide), Option.none_or] at hs
            exact ih3 _ _ ⟨k + 1, by omega, rfl, hf, hp, hv.trans hs⟩
          · rw [if_pos (by rfl)]
            rw [hb, if_pos rfl] at hs
            refine p_gd (fun _ => p_let (fun s4 e4 => p_gd (fun _ => ?_)))
            rw [nI_clamp (by omega)] at e4
            have f4 : fr [22] [] σ s4 := by rw [e4]; exact fr_t hf (fr_sI (by decide))
            rw [beaters_e (by omega), ob_s, nI_clamp (by omega), f4.1 13 (by decide), h13, nadd1 L]
            refine p_ob2 (fun r s6 => fr [22] [] s4 s6 ∧ (∀ i, i < L + 1 → gI s6 22 i = gI s4 22 i) ∧ kcr (g k) (L + 1) (r, s6)) ?_ (fun r s6 h6 => ?_)
            · have := ih (nI (L + 1)) (B &&& f k) (bs f A k) s4 ⟨⟨L + 1, by omega, by omega, rfl⟩, by rw [f4.1 3 (by decide)]; exact h3, by rw [f4.1 13 (by decide)]; exact h13⟩
              rw [nI_clamp (by omega)] at this
              rw [hg]
              exact this
            · obtain ⟨f6, p6, r6⟩ := h6
              have pp : ∀ i, i < L → gI s6 22 i = gI σ 22 i := fun i hi => by
                rw [p6 i (by omega), e4, gI_sI, if_pos rfl, upd_ap, if_neg (by omega)]
                exact hp i hi
              refine p_if (fun c6 => ?_) (fun c6 => ?_)
              · rcases r6 with ⟨r6, r7⟩ | ⟨l, r6, r7, r8, r9⟩
                · rw [r6, Option.map_none, Option.none_or] at hs
                  exact ih3 _ _ ⟨k + 1, by omega, rfl, fr_t f4 f6, pp, hv.trans hs⟩
                · exfalso
                  have r7' : r = nI (L + 1 + l.length) := r7
                  rw [r7', l0, nle (by omega) (by decide)] at c6
                  omega
              · rcases r6 with ⟨r6, r7⟩ | ⟨l, r6, r7, r8, r9⟩
                · exfalso
                  have r7' : r = 0 := r7
                  rw [r7'] at c6
                  exact c6 (by decide)
                · rw [r6, Option.map_some, Option.some_or] at hs
                  have r7' : r = nI (L + 1 + l.length) := r7
                  refine p_some ⟨fr_t f4 f6, pp, Or.inr ⟨k :: l, hv.trans hs, ?_, ?_, fun i hi => ?_⟩⟩
                  · exact r7'.trans (congrArg nI (by rw [List.length_cons]; omega))
                  · rw [List.length_cons]
                    omega
                  · cases i with
                    | zero =>
                      show gI s6 22 (L + 0) = nI k
                      rw [Nat.add_zero, p6 L (by omega), e4, gI_sI, if_pos rfl, upd_ap, if_pos rfl]
                    | succ i =>
                      have := r9 i (by rw [List.length_cons] at hi; omega)
                      have e : L + (i + 1) = L + 1 + i := by omega
                      rw [e]
                      exact this
      · rw [l8, nlt (by omega) (by decide)] at c2
        have : 8 - L = 0 := by omega
        rw [this]
        refine p_some ⟨fr_r _ _ _, fun _ _ => rfl, Or.inl ⟨?_, rfl⟩⟩
        unfold kch
        rw [if_neg c]
  rw [nI_clamp (by omega)] at key
  exact key
/-- the least chain of S that x is first of -/
def kcl (f : Nat → Int32) (n : Nat) (S : Int32) (x : Nat) : Option (List Nat) := (kch f n 7 (f x &&& S) (bs f S x)).map (List.cons x)
theorem lch_D {N : Nat} {f : Nat → Int32} {n x : Nat} (h8 : n ≤ 8) (hx : x < 8) {S : Int32} {σ : Mem} (h3 : gI σ 3 0 = nI n) (h13 : gI σ 13 = f) : par (f_Se_leastChain N (nI x) S σ) (fun q => fr [22] [] σ q.2 ∧ ((kcl f n S x = none ∧ q.1 = 0) ∨ ∃ l, kcl f n S x = some l ∧ q.1 = nI l.length ∧ 1 ≤ l.length ∧ l.length ≤ 8 ∧ ∀ i, i < l.length → gI q.2 22 i = nI (l.getD i 0))) := by
  unfold f_Se_leastChain
  refine p_let (fun s1 e1 => p_gd (fun _ => ?_))
  rw [n0] at e1
  have f1 : fr [22] [] σ s1 := by rw [e1]; exact fr_sI (by decide)
  rw [beaters_e hx, ob_s, nI_clamp (by omega), f1.1 13 (by decide), h13]
  have hc := chf_D (N := N) (d := 10) (f := f) (B := f x &&& S) (A := bs f S x) (σ := s1) h8 (Nat.le_refl 1) (by decide) (by rw [f1.1 3 (by decide)]; exact h3) (by rw [f1.1 13 (by decide)]; exact h13)
  refine p_ob2 (fun r s => fr [22] [] s1 s ∧ (∀ i, i < 1 → gI s 22 i = gI s1 22 i) ∧ kcr (kch f n (8 - 1) (f x &&& S) (bs f S x)) 1 (r, s)) hc (fun r s hq => p_some ?_)
  obtain ⟨f2, p2, r2⟩ := hq
  refine ⟨fr_t f1 f2, ?_⟩
  unfold kcl
  have p0 : gI s 22 0 = nI x := by
    have := p2 0 (by decide)
    rw [e1, gI_sI, if_pos rfl, upd_ap, if_pos rfl] at this
    exact this
  rcases r2 with ⟨r2, r3⟩ | ⟨l, r2, r3, r4, r5⟩
  · refine Or.inl ⟨?_, r3⟩
    have r2' : kch f n 7 (f x &&& S) (bs f S x) = none := r2
    rw [r2']
    rfl
  · have r2' : kch f n 7 (f x &&& S) (bs f S x) = some l := r2
    refine Or.inr ⟨x :: l, by rw [r2']; rfl, ?_, ?_, ?_, fun i hi => ?_⟩
    · have r3' : r = nI (1 + l.length) := r3
      show r = nI (x :: l).length
      rw [r3', List.length_cons, Nat.add_comm]
    · rw [List.length_cons]; omega
    · rw [List.length_cons]; omega
    · cases i with
      | zero => exact p0
      | succ i =>
        have := r5 i (by rw [List.length_cons] at hi; omega)
        rw [Nat.add_comm] at this
        exact this
