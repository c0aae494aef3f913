/-! sums over few places; sets of two and of four; what the table says of them -/
theorem sm_z {g : Nat → Nat} : ∀ K, (∀ h, h < K → g h = 0) → sm g K = 0
  | 0, _ => rfl
  | K + 1, h => by
    show sm g K + g K = 0
    rw [sm_z K (fun i hi => h i (by omega)), h K (by omega)]
theorem sm_pick {g : Nat → Nat} {h0 : Nat} : ∀ K, h0 < K → sm g K = g h0 + sm (fun h => if h = h0 then 0 else g h) K
  | 0, h => absurd h (Nat.not_lt_zero _)
  | K + 1, h => by
    show sm g K + g K = g h0 + (sm (fun h => if h = h0 then 0 else g h) K + (if K = h0 then 0 else g K))
    by_cases c : K = h0
    · have e : sm g h0 = sm (fun h => if h = h0 then 0 else g h) h0 := sm_c h0 (fun i hi => by
        show g i = if i = h0 then 0 else g i
        rw [if_neg (by omega)])
      rw [if_pos c, c, e]
      omega
    · have e := sm_pick (g := g) (h0 := h0) K (by omega)
      rw [if_neg c, e]
      omega
theorem sm_sup : ∀ (L : List Nat) (g : Nat → Nat) (K : Nat), L.Nodup → (∀ h, h ∈ L → h < K) → (∀ h, h < K → h ∉ L → g h = 0) → sm g K = (L.map g).sum
  | [], g, K, _, _, h3 => by
    rw [sm_z K (fun h hh => h3 h hh (fun q => by cases q))]
    rfl
  | h0 :: L, g, K, h1, h2, h3 => by
    have nd := List.nodup_cons.mp h1
    rw [sm_pick K (h2 h0 List.mem_cons_self), sm_sup L (fun h => if h = h0 then 0 else g h) K nd.2 (fun h hh => h2 h (List.mem_cons_of_mem _ hh)) (fun h hh hn => by
      by_cases c : h = h0
      · rw [if_pos c]
      · rw [if_neg c]
        exact h3 h hh (fun q => by
          rcases List.mem_cons.mp q with q | q
          · exact c q
          · exact hn q)), List.map_cons, List.sum_cons]
    congr 1
    congr 1
    refine List.map_congr_left (fun h hh => ?_)
    rw [if_neg (fun q => nd.1 (by rw [← q]; exact hh))]
def el (m k : Nat) : Nat := ((List.range 8).filter (fun j => bt (nI m) j)).getD k 8
theorem all_n {K : Nat} {p : Nat → Bool} (h : (List.range K).all p = true) {m : Nat} (hm : m < K) : p m = true := List.all_eq_true.mp h m (List.mem_range.mpr hm)
def f4b (m : Nat) : Bool := decide (el m 0 < el m 1) && (decide (el m 1 < el m 2) && (decide (el m 2 < el m 3) && (decide (el m 3 < 8) && ((List.range 8).all (fun j => bt (nI m) j == (decide (j = el m 0) || (decide (j = el m 1) || (decide (j = el m 2) || decide (j = el m 3))))) && (decide (cn (bt (nI m)) (el m 0) = 0) && (decide (cn (bt (nI m)) (el m 1) = 1) && (decide (cn (bt (nI m)) (el m 2) = 2) && (decide (cn (bt (nI m)) (el m 3) = 3) && decide (m = 2 ^ el m 0 + 2 ^ el m 1 + 2 ^ el m 2 + 2 ^ el m 3)))))))))
theorem f4_all : (List.range 256).all (fun m => !decide (pc (nI m) = 4) || f4b m) = true := by decide +kernel
theorem four_f (m : Nat) (hm : m < 256) (h4 : pc (nI m) = 4) : el m 0 < el m 1 ∧ el m 1 < el m 2 ∧ el m 2 < el m 3 ∧ el m 3 < 8 ∧ (∀ j, j < 8 → (bt (nI m) j = true ↔ j = el m 0 ∨ j = el m 1 ∨ j = el m 2 ∨ j = el m 3)) ∧ cn (bt (nI m)) (el m 0) = 0 ∧ cn (bt (nI m)) (el m 1) = 1 ∧ cn (bt (nI m)) (el m 2) = 2 ∧ cn (bt (nI m)) (el m 3) = 3 ∧ m = 2 ^ el m 0 + 2 ^ el m 1 + 2 ^ el m 2 + 2 ^ el m 3 := by
  have h := all_n f4_all hm
  rw [decide_eq_true h4] at h
  have h : f4b m = true := h
  unfold f4b at h
  simp only [Bool.and_eq_true, decide_eq_true_eq] at h
  obtain ⟨a1, a2, a3, a4, a5, a6, a7, a8, a9, a10⟩ := h
  refine ⟨a1, a2, a3, a4, fun j hj => ?_, a6, a7, a8, a9, a10⟩
  have := all_n a5 hj
  rw [eq_of_beq this]
  simp only [Bool.or_eq_true, decide_eq_true_eq]
def h4b (m h : Nat) : Bool := !decide ((nI h &&& (nI m ^^^ (-1 : Int32))) = 0) || (!decide (pc (nI h) = 2) || [2 ^ el m 0 + 2 ^ el m 1, 2 ^ el m 2 + 2 ^ el m 3, 2 ^ el m 0 + 2 ^ el m 2, 2 ^ el m 1 + 2 ^ el m 3, 2 ^ el m 0 + 2 ^ el m 3, 2 ^ el m 1 + 2 ^ el m 2].contains h)
theorem h4_all : (List.range 256).all (fun m => !decide (pc (nI m) = 4) || (List.range 256).all (h4b m)) = true := by decide +kernel
theorem four_h (m : Nat) (hm : m < 256) (h4 : pc (nI m) = 4) (h : Nat) (hh : h < 256) (hw : (nI h &&& (nI m ^^^ (-1 : Int32))) = 0) (h2 : pc (nI h) = 2) : h ∈ [2 ^ el m 0 + 2 ^ el m 1, 2 ^ el m 2 + 2 ^ el m 3, 2 ^ el m 0 + 2 ^ el m 2, 2 ^ el m 1 + 2 ^ el m 3, 2 ^ el m 0 + 2 ^ el m 3, 2 ^ el m 1 + 2 ^ el m 2] := by
  have a := all_n h4_all hm
  rw [decide_eq_true h4] at a
  have a : (List.range 256).all (h4b m) = true := a
  have b := all_n a hh
  unfold h4b at b
  rw [decide_eq_true hw, decide_eq_true h2] at b
  exact List.contains_iff_mem.mp b
theorem four_n : ∀ d, d < 8 → ∀ c, c < d → ∀ b, b < c → ∀ a, a < b → [2 ^ a + 2 ^ b, 2 ^ c + 2 ^ d, 2 ^ a + 2 ^ c, 2 ^ b + 2 ^ d, 2 ^ a + 2 ^ d, 2 ^ b + 2 ^ c].Nodup := by decide +kernel
theorem pair_f : ∀ b, b < 8 → ∀ a, a < b → 2 ^ a + 2 ^ b < 256 ∧ pc (nI (2 ^ a + 2 ^ b)) = 2 ∧ (∀ j, j < 8 → (bt (nI (2 ^ a + 2 ^ b)) j = true ↔ j = a ∨ j = b)) ∧ dfs (2 ^ a + 2 ^ b) (2 ^ a) = 2 ^ b ∧ dfs (2 ^ a + 2 ^ b) (2 ^ b) = 2 ^ a ∧ (nI (2 ^ a) &&& (nI (2 ^ a + 2 ^ b) ^^^ (-1 : Int32))) = 0 ∧ (nI (2 ^ b) &&& (nI (2 ^ a + 2 ^ b) ^^^ (-1 : Int32))) = 0 ∧ cn (bt (nI (2 ^ a + 2 ^ b))) a = 0 ∧ cn (bt (nI (2 ^ a + 2 ^ b))) b = 1 := by decide +kernel
def hpb (b a h : Nat) : Bool := !decide ((nI h &&& (nI (2 ^ a + 2 ^ b) ^^^ (-1 : Int32))) = 0) || (!decide (pc (nI h) = 1) || (decide (h = 2 ^ a) || decide (h = 2 ^ b)))
theorem hp_all : (List.range 8).all (fun b => (List.range b).all (fun a => (List.range 256).all (hpb b a))) = true := by decide +kernel
theorem pair_h (b : Nat) (hb : b < 8) (a : Nat) (ha : a < b) (h : Nat) (hh : h < 256) (hw : (nI h &&& (nI (2 ^ a + 2 ^ b) ^^^ (-1 : Int32))) = 0) (h1 : pc (nI h) = 1) : h = 2 ^ a ∨ h = 2 ^ b := by
  have c := all_n (all_n (all_n hp_all hb) ha) hh
  unfold hpb at c
  rw [decide_eq_true hw, decide_eq_true h1] at c
  simp only [Bool.not_true, Bool.false_or, Bool.or_eq_true, decide_eq_true_eq] at c
  exact c
theorem one_f : ∀ a, a < 8 → 2 ^ a < 256 ∧ pc (nI (2 ^ a)) = 1 ∧ ∀ j, j < 8 → (bt (nI (2 ^ a)) j = true ↔ j = a) := by decide +kernel
theorem two_f : ∀ m, m < 256 → pc (nI m) = 2 → el m 0 < el m 1 ∧ el m 1 < 8 ∧ m = 2 ^ el m 0 + 2 ^ el m 1 := by decide +kernel
theorem bt_8 {m j : Nat} (hm : m < 256) (hb : bt (nI m) j = true) : j < 8 := by
  by_cases c : j < 8
  · exact c
  · rw [bt_hi (nI_rg (b := 255) (by omega) (by omega)) 8 (by decide) (by omega)] at hb
    cases hb
theorem cA_o {a x : Nat} (ha : a < 8) : cA (2 ^ a) x = if x = a then 1 else 0 := by
  unfold cA
  by_cases c : x = a
  · rw [if_pos c, if_pos (((one_f a ha).2.2 x (by omega)).mpr c)]
  · rw [if_neg c, if_neg]
    intro q
    exact c (((one_f a ha).2.2 x (bt_8 (one_f a ha).1 q)).mp q)
theorem sum1 {f : Nat → Int32} {n x b : Nat} {g : Nat → Nat} (hb : b < n) (hg : ∀ y, y ≠ b → g y = 0) : sm (fun y => if bt (f x) y = true then g y else 0) n = b1 (bt (f x) b) * g b := by
  rw [sm_pick n hb, sm_z n (fun y _ => ?_), Nat.add_zero]
  · cases bt (f x) b
    · rw [if_neg (by decide)]
      show 0 = 0 * g b
      rw [Nat.zero_mul]
    · rw [if_pos rfl]
      show g b = 1 * g b
      rw [Nat.one_mul]
  · by_cases c : y = b
    · rw [if_pos c]
    · rw [if_neg c, hg y c]
      split <;> rfl
theorem sum2 {f : Nat → Int32} {n x a b : Nat} {g : Nat → Nat} (hab : a ≠ b) (ha : a < n) (hb : b < n) (hg : ∀ y, y ≠ a → y ≠ b → g y = 0) : sm (fun y => if bt (f x) y = true then g y else 0) n = b1 (bt (f x) a) * g a + b1 (bt (f x) b) * g b := by
  have e : ∀ y, (if bt (f x) y = true then g y else 0) = b1 (bt (f x) y) * g y := fun y => by
    cases bt (f x) y
    · rw [if_neg (by decide)]
      show 0 = 0 * g y
      rw [Nat.zero_mul]
    · rw [if_pos rfl]
      show g y = 1 * g y
      rw [Nat.one_mul]
  rw [sm_c (g := fun y => b1 (bt (f x) y) * g y) n (fun y _ => e y), sm_sup [a, b] (fun y => b1 (bt (f x) y) * g y) n (by simp [hab]) (fun h hh => by
    rcases List.mem_cons.mp hh with q | q
    · rw [q]; exact ha
    · rw [List.mem_singleton.mp q]; exact hb) (fun h _ hn => by
    rw [hg h (fun q => hn (by rw [q]; exact List.mem_cons_self)) (fun q => hn (by rw [q]; simp)), Nat.mul_zero])]
  show b1 (bt (f x) a) * g a + (b1 (bt (f x) b) * g b + 0) = _
  omega
def p2 (f : Nat → Int32) (a b x : Nat) : Nat := if x = a then 2 * b1 (bt (f a) b) else if x = b then 2 * b1 (bt (f b) a) else 0
theorem pw_lt {a b : Nat} (h : a < b) : 2 ^ a < 2 ^ b := Nat.pow_lt_pow_right (by decide) h
theorem cps_y {f : Nat → Int32} {n : Nat} {c : Nat → Nat → Nat} {m h x : Nat} (hw : (nI h &&& (nI m ^^^ (-1 : Int32))) = 0) (h2 : 2 * pc (nI h) = pc (nI m)) : cps f n c m h x = if bt (nI h) x = true then 2 * c h x * sm (fun y => if bt (f x) y = true then c (dfs m h) y else 0) n else 0 := if_pos ⟨hw, h2⟩
theorem cB_e {f : Nat → Int32} {n a b x : Nat} (h8 : n ≤ 8) (hab : a < b) (hb : b < n) : cB f n (2 ^ a + 2 ^ b) x = p2 f a b x := by
  obtain ⟨q1, q2, q3, q4, q5, q6, q7, -, -⟩ := pair_f b (by omega) a hab
  have o1 := one_f a (by omega)
  have o2 := one_f b (by omega)
  have pa : 0 < 2 ^ a := Nat.pow_pos (by decide)
  have pb' : 0 < 2 ^ b := Nat.pow_pos (by decide)
  have pl := pw_lt hab
  unfold cB cpn
  rw [sm_sup [2 ^ a, 2 ^ b] (fun h => cps f n cA (2 ^ a + 2 ^ b) h x) (2 ^ a + 2 ^ b) (by simp; omega) (fun h hh => by
    rcases List.mem_cons.mp hh with q | q
    · omega
    · have := List.mem_singleton.mp q; omega) (fun h hh hn => by
    unfold cps
    rw [if_neg]
    rintro ⟨c1', c2'⟩
    rcases pair_h b (by omega) a hab h (by omega) c1' (by omega) with q | q
    · exact hn (by rw [q]; exact List.mem_cons_self)
    · exact hn (by rw [q]; simp))]
  show cps f n cA (2 ^ a + 2 ^ b) (2 ^ a) x + (cps f n cA (2 ^ a + 2 ^ b) (2 ^ b) x + 0) = _
  rw [cps_y q6 (by rw [o1.2.1, q2]), cps_y q7 (by rw [o2.2.1, q2]), q4, q5, Nat.add_zero]
  have s1 : sm (fun y => if bt (f x) y = true then cA (2 ^ b) y else 0) n = b1 (bt (f x) b) := by
    rw [sum1 (b := b) hb (fun y hy => by rw [cA_o (by omega), if_neg hy]), cA_o (by omega), if_pos rfl, Nat.mul_one]
  have s2 : sm (fun y => if bt (f x) y = true then cA (2 ^ a) y else 0) n = b1 (bt (f x) a) := by
    rw [sum1 (b := a) (by omega) (fun y hy => by rw [cA_o (by omega), if_neg hy]), cA_o (by omega), if_pos rfl, Nat.mul_one]
  rw [s1, s2, cA_o (by omega), cA_o (by omega)]
  have ba : bt (nI (2 ^ a)) x = decide (x = a) := by
    by_cases c : x = a
    · rw [decide_eq_true c]
      exact (o1.2.2 x (by omega)).mpr c
    · rw [decide_eq_false c]
      cases e : bt (nI (2 ^ a)) x
      · rfl
      · exact absurd ((o1.2.2 x (bt_8 o1.1 e)).mp e) c
  have bb : bt (nI (2 ^ b)) x = decide (x = b) := by
    by_cases c : x = b
    · rw [decide_eq_true c]
      exact (o2.2.2 x (by omega)).mpr c
    · rw [decide_eq_false c]
      cases e : bt (nI (2 ^ b)) x
      · rfl
      · exact absurd ((o2.2.2 x (bt_8 o2.1 e)).mp e) c
  rw [ba, bb]
  unfold p2
  by_cases c : x = a
  · have d : ¬ x = b := by omega
    rw [decide_eq_true c, decide_eq_false d, if_pos (rfl : true = true), if_neg (show ¬ false = true by decide), if_pos c, if_pos c, c]
    omega
  · by_cases d : x = b
    · rw [decide_eq_false c, decide_eq_true d, if_neg (show ¬ false = true by decide), if_pos (rfl : true = true), if_pos d, if_neg c, if_pos d, d]
      omega
    · rw [decide_eq_false c, decide_eq_false d, if_neg (show ¬ false = true by decide), if_neg (show ¬ false = true by decide), if_neg c, if_neg d]
/-- who wins of two -/
def wN (f : Nat → Int32) (x y : Nat) : Nat := if bt (f x) y = true then x else y
def hv (f : Nat → Int32) (p q r s x : Nat) : Nat := if x = p ∨ x = q then 2 * p2 f p q x * (b1 (bt (f x) r) * (2 * b1 (bt (f r) s)) + b1 (bt (f x) s) * (2 * b1 (bt (f s) r))) else 0
theorem hv_m {f : Nat → Int32} {p q r s x : Nat} (pq : bt (f p) q = true) (qp : bt (f q) p = false) (rs : bt (f r) s = true) (sr : bt (f s) r = false) (d : p ≠ q) : hv f p q r s x = if x = p then 8 * b1 (bt (f p) r) else 0 := by
  have t1 : b1 true = 1 := rfl
  have t0 : b1 false = 0 := rfl
  unfold hv p2
  by_cases x1 : x = p
  · have o : x = p ∨ x = q := Or.inl x1
    rw [if_pos o, if_pos x1, if_pos x1, x1, pq, rs, sr, t1, t0]
    omega
  · by_cases x2 : x = q
    · have o : x = p ∨ x = q := Or.inr x2
      rw [if_pos o, if_neg x1, if_pos x2, if_neg x1, qp, t0, Nat.mul_zero, Nat.zero_mul]
    · have o : ¬ (x = p ∨ x = q) := fun w => w.elim x1 x2
      rw [if_neg o, if_neg x1]
theorem hv_s1 {f : Nat → Int32} {p q r s x : Nat} (d : p ≠ q) : hv f p q r s x = hv f q p r s x := by
  have e : p2 f p q x = p2 f q p x := by
    unfold p2
    by_cases x1 : x = p
    · have x2 : ¬ x = q := fun w => d (x1.symm.trans w)
      rw [if_pos x1, if_neg x2, if_pos x1]
    · by_cases x2 : x = q
      · rw [if_neg x1, if_pos x2, if_pos x2]
      · rw [if_neg x1, if_neg x2, if_neg x2, if_neg x1]
  unfold hv
  rw [e]
  by_cases o : x = p ∨ x = q
  · rw [if_pos o, if_pos o.symm]
  · rw [if_neg o, if_neg (fun w => o w.symm)]
theorem hv_s2 {f : Nat → Int32} {p q r s x : Nat} : hv f p q r s x = hv f p q s r x := by
  unfold hv
  rw [Nat.add_comm]
theorem wN_s {f : Nat → Int32} {n p q : Nat} (hT : Tn n f) (hp : p < n) (hq : q < n) (d : p ≠ q) : wN f p q = wN f q p := by
  have a := hT.2.2 p q hp hq d
  unfold wN
  rw [a]
  cases bt (f q) p <;> rfl
theorem wN_t {f : Nat → Int32} {p q : Nat} (h : bt (f p) q = true) : wN f p q = p := if_pos h
theorem hv_w {f : Nat → Int32} {n p q r s x : Nat} (hT : Tn n f) (hp : p < n) (hq : q < n) (hr : r < n) (hs : s < n) (pq : p ≠ q) (pr : p ≠ r) (ps : p ≠ s) (qr : q ≠ r) (qs : q ≠ s) (rs : r ≠ s) : hv f p q r s x + hv f r s p q x = 8 * (if wN f (wN f p q) (wN f r s) = x then 1 else 0) := by
  have anti : ∀ u v, u < n → v < n → u ≠ v → bt (f u) v = false → bt (f v) u = true := fun u v hu hv huv e => by
    have := hT.2.2 u v hu hv huv
    rw [e] at this
    cases e2 : bt (f v) u
    · rw [e2] at this; cases this
    · rfl
  have anti2 : ∀ u v, u < n → v < n → u ≠ v → bt (f u) v = true → bt (f v) u = false := fun u v hu hv huv e => by
    have := hT.2.2 u v hu hv huv
    rw [e] at this
    cases e2 : bt (f v) u
    · rfl
    · rw [e2] at this; cases this
  have main : ∀ p q r s, p < n → q < n → r < n → s < n → p ≠ q → r ≠ s → p ≠ r → bt (f p) q = true → bt (f r) s = true → hv f p q r s x + hv f r s p q x = 8 * (if wN f (wN f p q) (wN f r s) = x then 1 else 0) := fun p q r s hp hq hr hs pq rs pr e1 e2 => by
    rw [hv_m e1 (anti2 p q hp hq pq e1) e2 (anti2 r s hr hs rs e2) pq, hv_m e2 (anti2 r s hr hs rs e2) e1 (anti2 p q hp hq pq e1) rs, wN_t e1, wN_t e2]
    cases e3 : bt (f p) r
    · rw [anti p r hp hr pr e3]
      have w : wN f p r = r := by unfold wN; rw [e3]; rfl
      have t1 : b1 true = 1 := rfl
      have t0 : b1 false = 0 := rfl
      rw [w, t1, t0]
      by_cases x1 : x = p
      · have x2 : ¬ x = r := fun w => pr (x1.symm.trans w)
        rw [if_pos x1, if_neg x2, if_neg (fun w => x2 w.symm)]
      · by_cases x2 : x = r
        · rw [if_neg x1, if_pos x2, if_pos x2.symm]
        · rw [if_neg x1, if_neg x2, if_neg (fun w => x2 w.symm)]
    · rw [anti2 p r hp hr pr e3, wN_t e3]
      have t1 : b1 true = 1 := rfl
      have t0 : b1 false = 0 := rfl
      rw [t1, t0]
      by_cases x1 : x = p
      · have x2 : ¬ x = r := fun w => pr (x1.symm.trans w)
        rw [if_pos x1, if_neg x2, if_pos x1.symm]
      · by_cases x2 : x = r
        · rw [if_neg x1, if_pos x2, if_neg (fun w => x1 w.symm)]
        · rw [if_neg x1, if_neg x2, if_neg (fun w => x1 w.symm)]
  cases e1 : bt (f p) q
  · have e1' := anti p q hp hq pq e1
    rw [hv_s1 pq, hv_s2 (p := r), wN_s hT hp hq pq]
    cases e2 : bt (f r) s
    · have e2' := anti r s hr hs rs e2
      rw [hv_s2 (p := q), hv_s1 rs, wN_s hT hr hs rs]
      exact main q p s r hq hp hs hr (fun w => pq w.symm) (fun w => rs w.symm) qs e1' e2'
    · exact main q p r s hq hp hr hs (fun w => pq w.symm) rs qr e1' e2
  · cases e2 : bt (f r) s
    · have e2' := anti r s hr hs rs e2
      rw [hv_s2 (p := p), hv_s1 rs, wN_s hT hr hs rs]
      exact main p q s r hp hq hs hr pq (fun w => rs w.symm) ps e1 e2'
    · exact main p q r s hp hq hr hs pq rs pr e1 e2
/-- the three ways of four -/
def wy (f : Nat → Int32) (a b c d : Nat) : Nat → Nat
  | 0 => wN f (wN f a b) (wN f c d)
  | 1 => wN f (wN f a c) (wN f b d)
  | _ => wN f (wN f a d) (wN f b c)
theorem cps4 {f : Nat → Int32} {n m p q r s x : Nat} (h8 : n ≤ 8) (hm : m < 256) (h4 : pc (nI m) = 4) (pq : p < q) (rs : r < s) (hq : q < n) (hs : s < n) (hb : ∀ j, j < 8 → (bt (nI m) j = true ↔ j = p ∨ j = q ∨ j = r ∨ j = s)) (d1 : p ≠ r) (d2 : p ≠ s) (d3 : q ≠ r) (d4 : q ≠ s) : cps f n (cB f n) m (2 ^ p + 2 ^ q) x = hv f p q r s x := by
  obtain ⟨q1, q2, q3, -⟩ := pair_f q (by omega) p pq
  obtain ⟨r1, r2, r3, -⟩ := pair_f s (by omega) r rs
  have hw : (nI (2 ^ p + 2 ^ q) &&& (nI m ^^^ (-1 : Int32))) = 0 := by
    rw [wi_iff]
    intro j hj h
    have j8 := bt_8 q1 h
    rcases (q3 j j8).mp h with e | e
    · exact (hb j j8).mpr (Or.inl e)
    · exact (hb j j8).mpr (Or.inr (Or.inl e))
  have ed : dfs m (2 ^ p + 2 ^ q) = 2 ^ r + 2 ^ s := by
    have le := (dfs_e (h := 2 ^ p + 2 ^ q) hm).2
    refine nI_inj (by omega) (by omega) (bt_e8 (nI_rg (by omega) (by omega)) (nI_rg (by omega) (by omega)) (fun j hj => ?_))
    rw [dfs_bt hm (by omega)]
    have h1 := hb j hj
    have h2 := q3 j hj
    have h3 := r3 j hj
    cases e1 : bt (nI (2 ^ r + 2 ^ s)) j
    · cases e2 : bt (nI m) j
      · rfl
      · cases e3 : bt (nI (2 ^ p + 2 ^ q)) j
        · exfalso
          rcases h1.mp e2 with z | z | z | z
          · rw [h2.mpr (Or.inl z)] at e3; cases e3
          · rw [h2.mpr (Or.inr z)] at e3; cases e3
          · rw [h3.mpr (Or.inl z)] at e1; cases e1
          · rw [h3.mpr (Or.inr z)] at e1; cases e1
        · rfl
    · rcases h3.mp e1 with z | z
      · rw [h1.mpr (Or.inr (Or.inr (Or.inl z)))]
        cases e3 : bt (nI (2 ^ p + 2 ^ q)) j
        · rfl
        · rcases h2.mp e3 with y | y <;> omega
      · rw [h1.mpr (Or.inr (Or.inr (Or.inr z)))]
        cases e3 : bt (nI (2 ^ p + 2 ^ q)) j
        · rfl
        · rcases h2.mp e3 with y | y <;> omega
  unfold hv
  rw [cps_y hw (by rw [q2, h4]), ed, cB_e h8 pq hq, sum2 (a := r) (b := s) (by omega) (by omega) hs (fun y y1 y2 => by rw [cB_e h8 rs hs]; unfold p2; rw [if_neg y1, if_neg y2]), cB_e h8 rs hs, cB_e h8 rs hs]
  have e1 : p2 f r s r = 2 * b1 (bt (f r) s) := by unfold p2; rw [if_pos rfl]
  have e2 : p2 f r s s = 2 * b1 (bt (f s) r) := by unfold p2; rw [if_neg (by omega), if_pos rfl]
  rw [e1, e2]
  by_cases c : x = p ∨ x = q
  · have x8 : x < 8 := by omega
    rw [if_pos ((q3 x x8).mpr c), if_pos c]
  · rw [if_neg (fun z => c ((q3 x (bt_8 q1 z)).mp z)), if_neg c]
theorem cC_e {f : Nat → Int32} {n m x : Nat} (h8 : n ≤ 8) (hT : Tn n f) (hm : m < 2 ^ n) (h4 : pc (nI m) = 4) : cC f n m x = 8 * ((if wy f (el m 0) (el m 1) (el m 2) (el m 3) 0 = x then 1 else 0) + (if wy f (el m 0) (el m 1) (el m 2) (el m 3) 1 = x then 1 else 0) + (if wy f (el m 0) (el m 1) (el m 2) (el m 3) 2 = x then 1 else 0)) := by
  have hp : (2 : Nat) ^ n ≤ 256 := Nat.pow_le_pow_right (n := 2) (by decide) h8
  obtain ⟨f1, f2, f3, f4, f5, -, -, -, -, f6⟩ := four_f m (by omega) h4
  obtain ⟨a, ea⟩ : ∃ a, a = el m 0 := ⟨_, rfl⟩
  obtain ⟨b, eb⟩ : ∃ b, b = el m 1 := ⟨_, rfl⟩
  obtain ⟨c, ec⟩ : ∃ c, c = el m 2 := ⟨_, rfl⟩
  obtain ⟨d, ed⟩ : ∃ d, d = el m 3 := ⟨_, rfl⟩
  have fh := four_h m (by omega) h4
  simp only [← ea, ← eb, ← ec, ← ed] at f1 f2 f3 f4 f5 f6 fh ⊢
  have dn : d < n := bt_lo h8 hm ((f5 d f4).mpr (Or.inr (Or.inr (Or.inr rfl))))
  have pa : 0 < 2 ^ a := Nat.pow_pos (by decide)
  have pb' : 0 < 2 ^ b := Nat.pow_pos (by decide)
  have pc' : 0 < 2 ^ c := Nat.pow_pos (by decide)
  have pd' : 0 < 2 ^ d := Nat.pow_pos (by decide)
  have m8 : m < 256 := by omega
  unfold cC cpn
  rw [sm_sup [2 ^ a + 2 ^ b, 2 ^ c + 2 ^ d, 2 ^ a + 2 ^ c, 2 ^ b + 2 ^ d, 2 ^ a + 2 ^ d, 2 ^ b + 2 ^ c] (fun h => cps f n (cB f n) m h x) m (four_n d f4 c f3 b f2 a f1) (fun h hh => by
    simp only [List.mem_cons, List.not_mem_nil, or_false] at hh
    omega) (fun h hh hn => by
    unfold cps
    rw [if_neg]
    rintro ⟨c1', c2'⟩
    exact hn (fh h (by omega) c1' (by omega)))]
  have b1' : ∀ j, j < 8 → (bt (nI m) j = true ↔ j = c ∨ j = d ∨ j = a ∨ j = b) := fun j hj => by rw [f5 j hj]; omega
  have b2' : ∀ j, j < 8 → (bt (nI m) j = true ↔ j = a ∨ j = c ∨ j = b ∨ j = d) := fun j hj => by rw [f5 j hj]; omega
  have b3' : ∀ j, j < 8 → (bt (nI m) j = true ↔ j = b ∨ j = d ∨ j = a ∨ j = c) := fun j hj => by rw [f5 j hj]; omega
  have b4' : ∀ j, j < 8 → (bt (nI m) j = true ↔ j = a ∨ j = d ∨ j = b ∨ j = c) := fun j hj => by rw [f5 j hj]; omega
  have b5' : ∀ j, j < 8 → (bt (nI m) j = true ↔ j = b ∨ j = c ∨ j = a ∨ j = d) := fun j hj => by rw [f5 j hj]; omega
  show cps f n (cB f n) m (2 ^ a + 2 ^ b) x + (cps f n (cB f n) m (2 ^ c + 2 ^ d) x + (cps f n (cB f n) m (2 ^ a + 2 ^ c) x + (cps f n (cB f n) m (2 ^ b + 2 ^ d) x + (cps f n (cB f n) m (2 ^ a + 2 ^ d) x + (cps f n (cB f n) m (2 ^ b + 2 ^ c) x + 0))))) = _
  rw [cps4 h8 m8 h4 f1 f3 (by omega) dn f5 (by omega) (by omega) (by omega) (by omega), cps4 h8 m8 h4 f3 f1 dn (by omega) b1' (by omega) (by omega) (by omega) (by omega), cps4 h8 m8 h4 (by omega : a < c) (by omega : b < d) (by omega) dn b2' (by omega) (by omega) (by omega) (by omega), cps4 h8 m8 h4 (by omega : b < d) (by omega : a < c) dn (by omega) b3' (by omega) (by omega) (by omega) (by omega), cps4 h8 m8 h4 (by omega : a < d) f2 dn (by omega) b4' (by omega) (by omega) (by omega) (by omega), cps4 h8 m8 h4 f2 (by omega : a < d) (by omega) dn b5' (by omega) (by omega) (by omega) (by omega)]
  have w0' := hv_w (x := x) hT (by omega : a < n) (by omega : b < n) (by omega : c < n) dn (by omega) (by omega) (by omega) (by omega) (by omega) (by omega)
  have w1' := hv_w (x := x) hT (by omega : a < n) (by omega : c < n) (by omega : b < n) dn (by omega) (by omega) (by omega) (by omega) (by omega) (by omega)
  have w2' := hv_w (x := x) hT (by omega : a < n) dn (by omega : b < n) (by omega : c < n) (by omega) (by omega) (by omega) (by omega) (by omega) (by omega)
  show _ = 8 * ((if wN f (wN f a b) (wN f c d) = x then 1 else 0) + (if wN f (wN f a c) (wN f b d) = x then 1 else 0) + (if wN f (wN f a d) (wN f b c) = x then 1 else 0))
  omega
