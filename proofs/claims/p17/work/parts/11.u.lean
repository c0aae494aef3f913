/-! sums of whole numbers; there are weights by which nobody gains -/
def si (g : Nat → Int) : Nat → Int
  | 0 => 0
  | k + 1 => si g k + g k
theorem si_c {g h : Nat → Int} : ∀ n, (∀ i, i < n → g i = h i) → si g n = si h n
  | 0, _ => rfl
  | k + 1, e => by
    show si g k + g k = si h k + h k
    rw [si_c k (fun i hi => e i (by omega)), e k (by omega)]
theorem si_add (g h : Nat → Int) : ∀ n, si (fun i => g i + h i) n = si g n + si h n
  | 0 => rfl
  | k + 1 => by
    show si (fun i => g i + h i) k + (g k + h k) = (si g k + g k) + (si h k + h k)
    rw [si_add g h k]
    omega
theorem si_mul (c : Int) (g : Nat → Int) : ∀ n, si (fun i => c * g i) n = c * si g n
  | 0 => (Int.mul_zero c).symm
  | k + 1 => by
    show si (fun i => c * g i) k + c * g k = c * (si g k + g k)
    rw [si_mul c g k, Int.mul_add]
theorem si_z {g : Nat → Int} : ∀ n, (∀ i, i < n → g i = 0) → si g n = 0
  | 0, _ => rfl
  | k + 1, h => by
    show si g k + g k = 0
    rw [si_z k (fun i hi => h i (by omega)), h k (by omega)]
    rfl
theorem si_sw (g : Nat → Nat → Int) (n : Nat) : ∀ m, si (fun i => si (fun j => g i j) n) m = si (fun j => si (fun i => g i j) m) n
  | 0 => (si_z n (fun _ _ => rfl)).symm
  | m + 1 => by
    show si (fun i => si (fun j => g i j) n) m + si (fun j => g m j) n = si (fun j => si (fun i => g i j) m + g m j) n
    rw [si_sw g n m, ← si_add]
theorem si_pk {g : Nat → Int} {y : Nat} : ∀ n, y < n → si (fun i => if i = y then g i else 0) n = g y
  | 0, h => absurd h (by omega)
  | k + 1, h => by
    show si (fun i => if i = y then g i else 0) k + (if k = y then g k else 0) = g y
    by_cases c : k = y
    · rw [if_pos c, si_z k (fun i hi => if_neg (by omega)), c]
      omega
    · rw [if_neg c, si_pk k (by omega)]
      omega
theorem si_np {g : Nat → Int} : ∀ n, (∀ i, i < n → g i ≤ 0) → si g n ≤ 0 ∧ (si g n = 0 → ∀ i, i < n → g i = 0)
  | 0, _ => ⟨Int.le_refl _, fun _ i hi => by omega⟩
  | k + 1, h => by
    obtain ⟨a, b⟩ := si_np k (fun i hi => h i (by omega))
    have c := h k (by omega)
    show si g k + g k ≤ 0 ∧ (si g k + g k = 0 → _)
    refine ⟨by omega, fun e i hi => ?_⟩
    by_cases d : i = k
    · rw [d]; omega
    · exact b (by omega) i (by omega)
theorem si_as {H : Nat → Nat → Int} {n : Nat} (h : ∀ i j, H i j = -(H j i)) : si (fun i => si (fun j => H i j) n) n = 0 := by
  have e1 := si_sw H n n
  have e2 : si (fun j => si (fun i => H i j) n) n = -(si (fun i => si (fun j => H i j) n) n) := by
    have : si (fun j => si (fun i => H i j) n) n = si (fun j => (-1) * si (fun i => H j i) n) n := si_c n (fun j _ => by
      rw [← si_mul]
      exact si_c n (fun i _ => by rw [h i j]; omega))
    rw [this, si_mul]
    omega
  omega
theorem btw1 {X : Type} (D E : X → Int) : ∀ L : List X, ∃ s t : Int, 0 < s ∧ 0 ≤ t ∧ (∀ c, c ∈ L → 0 < E c → 0 ≤ s * D c + t * E c) ∧ ((s = 1 ∧ t = 0) ∨ ∃ c, c ∈ L ∧ 0 < E c ∧ s = E c ∧ t = -(D c))
  | [] => ⟨1, 0, by decide, by decide, fun c hc => absurd hc List.not_mem_nil, Or.inl ⟨rfl, rfl⟩⟩
  | c :: L => by
    obtain ⟨s, t, hs, ht, h1, h2⟩ := btw1 D E L
    by_cases k : 0 < E c ∧ s * D c + t * E c < 0
    · obtain ⟨k1, k2⟩ := k
      have tE : 0 ≤ t * E c := Int.mul_nonneg ht (by omega)
      have dn : D c < 0 := by
        by_cases z : D c < 0
        · exact z
        · have : 0 ≤ s * D c := Int.mul_nonneg (by omega) (by omega)
          omega
      refine ⟨E c, -(D c), k1, by omega, fun d hd hE => ?_, Or.inr ⟨c, List.mem_cons_self, k1, rfl, rfl⟩⟩
      rcases List.mem_cons.mp hd with rfl | hd'
      · rw [Int.neg_mul, Int.mul_comm (D d)]
        omega
      · have g1 := h1 d hd' hE
        have g2 : 0 ≤ E c * (s * D d + t * E d) := Int.mul_nonneg (by omega) g1
        have g3 : E d * (s * D c + t * E c) ≤ 0 := Int.mul_nonpos_of_nonneg_of_nonpos (by omega) (by omega)
        have key : s * (E c * D d + -(D c) * E d) = E c * (s * D d + t * E d) - E d * (s * D c + t * E c) := by
          simp only [Int.mul_add, Int.neg_mul, Int.mul_neg, Int.mul_assoc, Int.mul_comm, Int.mul_left_comm]
          omega
        by_cases z : 0 ≤ E c * D d + -(D c) * E d
        · exact z
        · have : s * (E c * D d + -(D c) * E d) < 0 := Int.mul_neg_of_pos_of_neg hs (by omega)
          omega
    · refine ⟨s, t, hs, ht, fun d hd hE => ?_, ?_⟩
      · rcases List.mem_cons.mp hd with rfl | hd'
        · by_cases z : 0 ≤ s * D d + t * E d
          · exact z
          · exact absurd ⟨hE, by omega⟩ k
        · exact h1 d hd' hE
      · rcases h2 with h2 | ⟨d, d1, d2⟩
        · exact Or.inl h2
        · exact Or.inr ⟨d, List.mem_cons_of_mem _ d1, d2⟩
theorem btwK {X : Type} (E : X → Int) : ∀ L : List X, ∃ K : Int, 0 < K ∧ ∀ c, c ∈ L → -(E c) < K
  | [] => ⟨1, by decide, fun c hc => absurd hc List.not_mem_nil⟩
  | c :: L => by
    obtain ⟨K, k1, k2⟩ := btwK E L
    by_cases z : -(E c) < K
    · refine ⟨K, k1, fun d hd => ?_⟩
      rcases List.mem_cons.mp hd with rfl | hd'
      · exact z
      · exact k2 d hd'
    · refine ⟨-(E c) + 1, by omega, fun d hd => ?_⟩
      rcases List.mem_cons.mp hd with rfl | hd'
      · omega
      · have := k2 d hd'
        omega
theorem btw {X : Type} (D E : X → Int) (L : List X) (h1 : ∀ c, c ∈ L → E c ≤ 0 → 0 < D c) (h2 : ∀ c d, c ∈ L → d ∈ L → 0 < E c → E d < 0 → 0 < -(E d) * D c + E c * D d) : ∃ s t : Int, 0 < s ∧ 0 ≤ t ∧ ∀ c, c ∈ L → 0 < s * D c + t * E c := by
  obtain ⟨s, t, hs, ht, a, b⟩ := btw1 D E L
  obtain ⟨K, k1, k2⟩ := btwK E L
  have ng : ∀ d, d ∈ L → E d ≤ 0 → 0 < s * D d + t * E d := fun d hd hE => by
    rcases b with ⟨e1, e2⟩ | ⟨c, c1', c2', c3', c4'⟩
    · rw [e1, e2]
      have := h1 d hd hE
      omega
    · rw [c3', c4']
      by_cases z : E d = 0
      · have := Int.mul_pos c2' (h1 d hd hE)
        rw [z, Int.mul_zero]
        omega
      · have := h2 c d c1' hd c2' (by omega)
        rw [Int.neg_mul] at this ⊢
        rw [Int.mul_comm (D c)]
        omega
  refine ⟨K * s, K * t + 1, Int.mul_pos k1 hs, by have := Int.mul_nonneg (Int.le_of_lt k1) ht; omega, fun c hc => ?_⟩
  have e : K * s * D c + (K * t + 1) * E c = K * (s * D c + t * E c) + E c := by
    simp only [Int.mul_add, Int.add_mul, Int.one_mul, Int.mul_assoc]
    omega
  rw [e]
  by_cases z : 0 < E c
  · have := Int.mul_nonneg (Int.le_of_lt k1) (a c hc z)
    omega
  · have g := ng c hc (by omega)
    have := k2 c hc
    have : K * 1 ≤ K * (s * D c + t * E c) := Int.mul_le_mul_of_nonneg_left (by omega) (by omega)
    omega
theorem vil : ∀ (m : Nat) (G : (Nat → Int) → Prop), (∀ (c d : Nat → Int) (u v : Int), G c → G d → 0 < u → 0 < v → G (fun r => u * c r + v * d r)) → ∀ L : List (Nat → Int), L ≠ [] → (∀ c, c ∈ L → G c) → (∃ c, G c ∧ ∀ r, r < m → c r ≤ 0) ∨ ∃ q : Nat → Int, (∀ r, r < m → 0 ≤ q r) ∧ ∀ c, c ∈ L → 0 < si (fun r => q r * c r) m
  | 0, G, _, L, hL, hc => by
    cases L with
    | nil => exact absurd rfl hL
    | cons c L => exact Or.inl ⟨c, hc c List.mem_cons_self, fun r hr => by omega⟩
  | m + 1, G, hG, L, hL, hc => by
    have hG' : ∀ (c d : Nat → Int) (u v : Int), (G c ∧ c m ≤ 0) → (G d ∧ d m ≤ 0) → 0 < u → 0 < v → (G (fun r => u * c r + v * d r) ∧ (fun r => u * c r + v * d r) m ≤ 0) := fun c d u v h1 h2 hu hv => by
      refine ⟨hG c d u v h1.1 h2.1 hu hv, ?_⟩
      show u * c m + v * d m ≤ 0
      have a1 := Int.mul_nonpos_of_nonneg_of_nonpos (Int.le_of_lt hu) h1.2
      have a2 := Int.mul_nonpos_of_nonneg_of_nonpos (Int.le_of_lt hv) h2.2
      omega
    obtain ⟨L', eL⟩ : ∃ L', L' = L.filter (fun c => decide (c m ≤ 0)) ++ (L.filter (fun c => decide (0 < c m))).flatMap (fun c => (L.filter (fun d => decide (d m < 0))).map (fun d => fun r => -(d m) * c r + c m * d r)) := ⟨_, rfl⟩
    have in1 : ∀ c, c ∈ L → c m ≤ 0 → c ∈ L' := fun c h1 h2 => by
      rw [eL]
      exact List.mem_append_left _ (List.mem_filter.mpr ⟨h1, decide_eq_true h2⟩)
    have in2 : ∀ c d, c ∈ L → d ∈ L → 0 < c m → d m < 0 → (fun r => -(d m) * c r + c m * d r) ∈ L' := fun c d h1 h2 h3 h4 => by
      rw [eL]
      exact List.mem_append_right _ (List.mem_flatMap.mpr ⟨c, List.mem_filter.mpr ⟨h1, decide_eq_true h3⟩, List.mem_map.mpr ⟨d, List.mem_filter.mpr ⟨h2, decide_eq_true h4⟩, rfl⟩⟩)
    have out : ∀ c, c ∈ L' → G c ∧ c m ≤ 0 := fun c h => by
      rw [eL] at h
      rcases List.mem_append.mp h with h | h
      · obtain ⟨a, b⟩ := List.mem_filter.mp h
        exact ⟨hc c a, of_decide_eq_true b⟩
      · obtain ⟨d, d1, d2⟩ := List.mem_flatMap.mp h
        obtain ⟨e, e1, e2⟩ := List.mem_map.mp d2
        obtain ⟨a, b⟩ := List.mem_filter.mp d1
        obtain ⟨a', b'⟩ := List.mem_filter.mp e1
        have b1' := of_decide_eq_true b
        have b2' := of_decide_eq_true b'
        rw [← e2]
        refine ⟨hG d e _ _ (hc d a) (hc e a') (by omega) b1', ?_⟩
        show -(e m) * d m + d m * e m ≤ 0
        rw [Int.neg_mul, Int.mul_comm (e m)]
        omega
    have lin : ∀ (q c d : Nat → Int) (u v : Int), si (fun r => q r * (u * c r + v * d r)) m = u * si (fun r => q r * c r) m + v * si (fun r => q r * d r) m := fun q c d u v => by
      rw [← si_mul, ← si_mul, ← si_add]
      refine si_c m (fun r _ => ?_)
      rw [Int.mul_add, Int.mul_left_comm, Int.mul_left_comm (q r) v]
    by_cases z : L' = []
    · refine Or.inr ⟨fun r => if r = m then 1 else 0, fun r _ => by
        show 0 ≤ (if r = m then (1 : Int) else 0)
        split <;> decide, fun c h => ?_⟩
      show 0 < si (fun r => (if r = m then (1 : Int) else 0) * c r) m + (if m = m then (1 : Int) else 0) * c m
      rw [si_z m (fun i hi => by rw [if_neg (by omega), Int.zero_mul]), if_pos rfl]
      by_cases p : c m ≤ 0
      · have := in1 c h p
        rw [z] at this
        exact absurd this List.not_mem_nil
      · omega
    · rcases vil m (fun c => G c ∧ c m ≤ 0) hG' L' z out with ⟨c, ⟨g1, g2⟩, g3⟩ | ⟨q, q1, q2⟩
      · refine Or.inl ⟨c, g1, fun r hr => ?_⟩
        by_cases d : r = m
        · rw [d]; exact g2
        · exact g3 r (by omega)
      · obtain ⟨s, t, hs, ht, hst⟩ := btw (fun c : Nat → Int => si (fun r => q r * c r) m) (fun c : Nat → Int => c m) L (fun c h1 h2 => q2 c (in1 c h1 h2)) (fun c d h1 h2 h3 h4 => by
          have := q2 _ (in2 c d h1 h2 h3 h4)
          rw [lin] at this
          exact this)
        refine Or.inr ⟨fun r => if r = m then t else s * q r, fun r hr => ?_, fun c h => ?_⟩
        · show 0 ≤ (if r = m then t else s * q r)
          by_cases d : r = m
          · rw [if_pos d]; exact ht
          · rw [if_neg d]
            exact Int.mul_nonneg (Int.le_of_lt hs) (q1 r (by omega))
        · have := hst c h
          show 0 < si (fun r => (if r = m then t else s * q r) * c r) m + (if m = m then t else s * q m) * c m
          rw [if_pos rfl, si_c (h := fun r => s * (q r * c r)) m (fun r hr => by
            show (if r = m then t else s * q r) * c r = s * (q r * c r)
            rw [if_neg (by omega), Int.mul_assoc]), si_mul]
          exact this
/-- weights by which nobody gains -/
theorem opt {A : Nat → Nat → Int} {n : Nat} (a : Nat → Bool) {y0 : Nat} (hy : y0 < n) (hy0 : a y0 = true) (sk : ∀ x y, A x y = -(A y x)) (ha0 : ∀ x y, a x = false → A x y = 0) : ∃ p : Nat → Int, (∀ y, y < n → 0 ≤ p y) ∧ (∀ y, a y = false → p y = 0) ∧ (∃ y, y < n ∧ 0 < p y) ∧ ∀ x, x < n → si (fun y => A x y * p y) n ≤ 0 := by
  have ha1 : ∀ x y, a y = false → A x y = 0 := fun x y h => by rw [sk, ha0 y x h]; rfl
  rcases vil n (fun c => ∃ p : Nat → Int, (∀ y, y < n → 0 ≤ p y) ∧ (∀ y, a y = false → p y = 0) ∧ (∃ y, y < n ∧ 0 < p y) ∧ ∀ r, c r = si (fun y => A r y * p y) n) (fun c d u v h1 h2 hu hv => by
      obtain ⟨p, p1, p2, ⟨y, y1, y2⟩, p3⟩ := h1
      obtain ⟨p', p1', p2', -, p3'⟩ := h2
      refine ⟨fun y => u * p y + v * p' y, fun y hy => ?_, fun y hy => ?_, ⟨y, y1, ?_⟩, fun r => ?_⟩
      · have a1 := Int.mul_nonneg (Int.le_of_lt hu) (p1 y hy)
        have a2 := Int.mul_nonneg (Int.le_of_lt hv) (p1' y hy)
        show 0 ≤ u * p y + v * p' y
        omega
      · show u * p y + v * p' y = 0
        rw [p2 y hy, p2' y hy, Int.mul_zero, Int.mul_zero]
        rfl
      · have a1 := Int.mul_pos hu y2
        have a2 := Int.mul_nonneg (Int.le_of_lt hv) (p1' y y1)
        show 0 < u * p y + v * p' y
        omega
      · show u * c r + v * d r = _
        rw [p3 r, p3' r, ← si_mul, ← si_mul, ← si_add]
        exact si_c n (fun i _ => by
          show u * (A r i * p i) + v * (A r i * p' i) = A r i * (u * p i + v * p' i)
          rw [Int.mul_add, Int.mul_left_comm, Int.mul_left_comm v])) (((List.range n).filter a).map (fun y => fun r => A r y)) (by
      intro e
      have : (fun r => A r y0) ∈ (((List.range n).filter a).map (fun y => fun r => A r y)) := List.mem_map.mpr ⟨y0, List.mem_filter.mpr ⟨List.mem_range.mpr hy, hy0⟩, rfl⟩
      rw [e] at this
      exact absurd this List.not_mem_nil) (fun c hc => by
      obtain ⟨y, y1, y2⟩ := List.mem_map.mp hc
      obtain ⟨y3, y4⟩ := List.mem_filter.mp y1
      have y5 := List.mem_range.mp y3
      refine ⟨fun i => if i = y then 1 else 0, fun i _ => by
        show 0 ≤ (if i = y then (1 : Int) else 0)
        split <;> decide, fun i hi => ?_, ⟨y, y5, by show 0 < (if y = y then (1 : Int) else 0); rw [if_pos rfl]; decide⟩, fun r => ?_⟩
      · show (if i = y then (1 : Int) else 0) = 0
        refine if_neg (fun z => ?_)
        rw [z, y4] at hi
        cases hi
      · rw [← y2]
        show A r y = si (fun i => A r i * (if i = y then (1 : Int) else 0)) n
        rw [si_c (h := fun i => if i = y then A r i else 0) n (fun i _ => by
          show A r i * (if i = y then (1 : Int) else 0) = if i = y then A r i else 0
          by_cases z : i = y
          · rw [if_pos z, if_pos z, Int.mul_one]
          · rw [if_neg z, if_neg z, Int.mul_zero]), si_pk n y5]) with ⟨c, ⟨p, p1, p2, p3, p4⟩, h⟩ | ⟨q, q1, q2⟩
  · exact ⟨p, p1, p2, p3, fun x hx => by rw [← p4 x]; exact h x hx⟩
  · have col : ∀ y, y < n → a y = true → 0 < si (fun r => q r * A r y) n := fun y h1 h2 => q2 (fun r => A r y) (List.mem_map.mpr ⟨y, List.mem_filter.mpr ⟨List.mem_range.mpr h1, h2⟩, rfl⟩)
    have sm' : ∀ x, si (fun y => A x y * (if a y = true then q y else 0)) n = -(si (fun r => q r * A r x) n) := fun x => by
      have e : -(si (fun r => q r * A r x) n) = (-1) * si (fun r => q r * A r x) n := by omega
      rw [e, ← si_mul]
      refine si_c n (fun i _ => ?_)
      cases z : a i
      · rw [if_neg (by decide), ha0 i x z, Int.mul_zero, Int.mul_zero, Int.mul_zero]
      · rw [if_pos rfl, sk x i, Int.mul_comm (q i), Int.neg_mul]
        omega
    refine ⟨fun y => if a y = true then q y else 0, fun y hy => ?_, fun y hy => ?_, ?_, fun x hx => ?_⟩
    · show 0 ≤ (if a y = true then q y else 0)
      split
      · exact q1 y hy
      · decide
    · show (if a y = true then q y else 0) = 0
      rw [hy, if_neg (by decide)]
    · by_cases ex : ∃ y, y < n ∧ 0 < (if a y = true then q y else 0)
      · exact ex
      · exfalso
        have c0 := col y0 hy hy0
        have : si (fun r => q r * A r y0) n = 0 := si_z n (fun i hi => by
          cases z : a i
          · rw [ha0 i y0 z, Int.mul_zero]
          · have n1 : ¬ 0 < q i := fun w => ex ⟨i, hi, by rw [z, if_pos rfl]; exact w⟩
            have n2 := q1 i hi
            have : q i = 0 := by omega
            rw [this, Int.zero_mul])
        omega
    · show si (fun y => A x y * (if a y = true then q y else 0)) n ≤ 0
      rw [sm']
      cases z : a x
      · rw [si_z n (fun i _ => by rw [ha1 i x z, Int.mul_zero])]
        decide
      · have := col x hx z
        omega
/-- who weighs anything gains nothing -/
theorem opt_s {A : Nat → Nat → Int} {n : Nat} {p : Nat → Int} (sk : ∀ x y, A x y = -(A y x)) (p1 : ∀ y, y < n → 0 ≤ p y) (p4 : ∀ x, x < n → si (fun y => A x y * p y) n ≤ 0) : ∀ x, x < n → 0 < p x → si (fun y => A x y * p y) n = 0 := by
  have tot0 : si (fun x => p x * si (fun y => A x y * p y) n) n = 0 := by
    have e : si (fun x => p x * si (fun y => A x y * p y) n) n = si (fun x => si (fun y => p x * (A x y * p y)) n) n := si_c n (fun x _ => (si_mul _ _ n).symm)
    rw [e]
    exact si_as (H := fun x y => p x * (A x y * p y)) (fun i j => by
      show p i * (A i j * p j) = -(p j * (A j i * p i))
      rw [sk i j, Int.neg_mul, Int.mul_neg]
      congr 1
      rw [Int.mul_left_comm, Int.mul_left_comm (p j), Int.mul_comm (p i)])
  have np := (si_np (g := fun x => p x * si (fun y => A x y * p y) n) n (fun i hi => Int.mul_nonpos_of_nonneg_of_nonpos (p1 i hi) (p4 i hi))).2 tot0
  intro x hx hp
  have := np x hx
  rcases Int.mul_eq_zero.mp this with z | z
  · omega
  · exact z
