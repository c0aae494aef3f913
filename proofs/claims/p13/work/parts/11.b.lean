/-! totality: a small logic over the pure functions -/
def tot {X : Type} (o : Option X) (P : X → Prop) : Prop := ∃ x, o = some x ∧ P x
theorem t_some {X : Type} {x : X} {P : X → Prop} (h : P x) : tot (some x) P := ⟨x, rfl, h⟩
theorem t_gd {X : Type} {b : Bool} {o : Option X} {P : X → Prop} (hb : b = true) (h : tot o P) : tot (gd b o) P := by rw [gd_t hb]; exact h
theorem t_if {X : Type} {c : Prop} {d : Decidable c} {a b : Option X} {P : X → Prop} (h1 : c → tot a P) (h2 : ¬ c → tot b P) : tot (@ite _ c d a b) P := by
  by_cases h : c
  · rw [if_pos h]; exact h1 h
  · rw [if_neg h]; exact h2 h
theorem t_bnd {X T : Type} {e : T} {k : T → Option X} {P : X → Prop} (h : tot (k e) P) : tot (bnd e k) P := h
theorem t_let {X T : Type} {e : T} {k : T → Option X} {P : X → Prop} (h : ∀ x, x = e → tot (k x) P) : tot (bnd e k) P := h e rfl
theorem t_ob {X T : Type} {o : Option T} {k : T → Option X} {P : X → Prop} (R : T → Prop) (h1 : tot o R) (h2 : ∀ a, R a → tot (k a) P) : tot (ob o k) P := by
  obtain ⟨a, rfl, ha⟩ := h1
  exact h2 a ha
theorem t_ob2 {X T U : Type} {o : Option (T × U)} {k : T → U → Option X} {P : X → Prop} (R : T → U → Prop) (h1 : tot o (fun q => R q.1 q.2)) (h2 : ∀ a b, R a b → tot (k a b) P) : tot (ob2 o k) P := by
  obtain ⟨a, rfl, ha⟩ := h1
  exact h2 a.1 a.2 ha
theorem t_mono {X : Type} {o : Option X} {P Q : X → Prop} (h : tot o P) (hPQ : ∀ x, P x → Q x) : tot o Q := by
  obtain ⟨x, h1, h2⟩ := h
  exact ⟨x, h1, hPQ x h2⟩
theorem t_swc {X : Type} {x : Int32} {P : X → Prop} : ∀ {cs : List (Int32 × Option X)} {d : Option X}, (∀ q ∈ cs, x = q.1 → tot q.2 P) → tot d P → tot (swc x cs d) P
  | [], _, _, hd => hd
  | (v, a) :: t, d, h, hd => by
    unfold swc
    refine t_if (fun e => h (v, a) List.mem_cons_self e) (fun _ => ?_)
    exact t_swc (fun q hq => h q (List.mem_cons_of_mem _ hq)) hd
theorem t_it1 {T1 X : Type} {body : (T1 → Option X) → T1 → Option X} {P : X → Prop} (I : T1 → Prop) (m : T1 → Nat) (h : ∀ (self : T1 → Option X) (a1 : T1), I a1 → (∀ (b1 : T1), I b1 → m b1 < m a1 → tot (self b1) P) → tot (body self a1) P) : ∀ (n : Nat) (a1 : T1), I a1 → m a1 < n → tot (it1 body n a1) P
  | 0, a1, _, hm => absurd hm (Nat.not_lt_zero _)
  | n + 1, a1, hI, hm => h _ a1 hI (fun b1 hI2 hm2 => t_it1 I m h n b1 hI2 (by omega))
theorem t_it2 {T1 T2 X : Type} {body : (T1 → T2 → Option X) → T1 → T2 → Option X} {P : X → Prop} (I : T1 → T2 → Prop) (m : T1 → T2 → Nat) (h : ∀ (self : T1 → T2 → Option X) (a1 : T1) (a2 : T2), I a1 a2 → (∀ (b1 : T1) (b2 : T2), I b1 b2 → m b1 b2 < m a1 a2 → tot (self b1 b2) P) → tot (body self a1 a2) P) : ∀ (n : Nat) (a1 : T1) (a2 : T2), I a1 a2 → m a1 a2 < n → tot (it2 body n a1 a2) P
  | 0, a1, a2, _, hm => absurd hm (Nat.not_lt_zero _)
  | n + 1, a1, a2, hI, hm => h _ a1 a2 hI (fun b1 b2 hI2 hm2 => t_it2 I m h n b1 b2 hI2 (by omega))
theorem t_it3 {T1 T2 T3 X : Type} {body : (T1 → T2 → T3 → Option X) → T1 → T2 → T3 → Option X} {P : X → Prop} (I : T1 → T2 → T3 → Prop) (m : T1 → T2 → T3 → Nat) (h : ∀ (self : T1 → T2 → T3 → Option X) (a1 : T1) (a2 : T2) (a3 : T3), I a1 a2 a3 → (∀ (b1 : T1) (b2 : T2) (b3 : T3), I b1 b2 b3 → m b1 b2 b3 < m a1 a2 a3 → tot (self b1 b2 b3) P) → tot (body self a1 a2 a3) P) : ∀ (n : Nat) (a1 : T1) (a2 : T2) (a3 : T3), I a1 a2 a3 → m a1 a2 a3 < n → tot (it3 body n a1 a2 a3) P
  | 0, a1, a2, a3, _, hm => absurd hm (Nat.not_lt_zero _)
  | n + 1, a1, a2, a3, hI, hm => h _ a1 a2 a3 hI (fun b1 b2 b3 hI2 hm2 => t_it3 I m h n b1 b2 b3 hI2 (by omega))
theorem t_it4 {T1 T2 T3 T4 X : Type} {body : (T1 → T2 → T3 → T4 → Option X) → T1 → T2 → T3 → T4 → Option X} {P : X → Prop} (I : T1 → T2 → T3 → T4 → Prop) (m : T1 → T2 → T3 → T4 → Nat) (h : ∀ (self : T1 → T2 → T3 → T4 → Option X) (a1 : T1) (a2 : T2) (a3 : T3) (a4 : T4), I a1 a2 a3 a4 → (∀ (b1 : T1) (b2 : T2) (b3 : T3) (b4 : T4), I b1 b2 b3 b4 → m b1 b2 b3 b4 < m a1 a2 a3 a4 → tot (self b1 b2 b3 b4) P) → tot (body self a1 a2 a3 a4) P) : ∀ (n : Nat) (a1 : T1) (a2 : T2) (a3 : T3) (a4 : T4), I a1 a2 a3 a4 → m a1 a2 a3 a4 < n → tot (it4 body n a1 a2 a3 a4) P
  | 0, a1, a2, a3, a4, _, hm => absurd hm (Nat.not_lt_zero _)
  | n + 1, a1, a2, a3, a4, hI, hm => h _ a1 a2 a3 a4 hI (fun b1 b2 b3 b4 hI2 hm2 => t_it4 I m h n b1 b2 b3 b4 hI2 (by omega))
theorem t_it5 {T1 T2 T3 T4 T5 X : Type} {body : (T1 → T2 → T3 → T4 → T5 → Option X) → T1 → T2 → T3 → T4 → T5 → Option X} {P : X → Prop} (I : T1 → T2 → T3 → T4 → T5 → Prop) (m : T1 → T2 → T3 → T4 → T5 → Nat) (h : ∀ (self : T1 → T2 → T3 → T4 → T5 → Option X) (a1 : T1) (a2 : T2) (a3 : T3) (a4 : T4) (a5 : T5), I a1 a2 a3 a4 a5 → (∀ (b1 : T1) (b2 : T2) (b3 : T3) (b4 : T4) (b5 : T5), I b1 b2 b3 b4 b5 → m b1 b2 b3 b4 b5 < m a1 a2 a3 a4 a5 → tot (self b1 b2 b3 b4 b5) P) → tot (body self a1 a2 a3 a4 a5) P) : ∀ (n : Nat) (a1 : T1) (a2 : T2) (a3 : T3) (a4 : T4) (a5 : T5), I a1 a2 a3 a4 a5 → m a1 a2 a3 a4 a5 < n → tot (it5 body n a1 a2 a3 a4 a5) P
  | 0, a1, a2, a3, a4, a5, _, hm => absurd hm (Nat.not_lt_zero _)
  | n + 1, a1, a2, a3, a4, a5, hI, hm => h _ a1 a2 a3 a4 a5 hI (fun b1 b2 b3 b4 b5 hI2 hm2 => t_it5 I m h n b1 b2 b3 b4 b5 hI2 (by omega))
theorem t_it6 {T1 T2 T3 T4 T5 T6 X : Type} {body : (T1 → T2 → T3 → T4 → T5 → T6 → Option X) → T1 → T2 → T3 → T4 → T5 → T6 → Option X} {P : X → Prop} (I : T1 → T2 → T3 → T4 → T5 → T6 → Prop) (m : T1 → T2 → T3 → T4 → T5 → T6 → Nat) (h : ∀ (self : T1 → T2 → T3 → T4 → T5 → T6 → Option X) (a1 : T1) (a2 : T2) (a3 : T3) (a4 : T4) (a5 : T5) (a6 : T6), I a1 a2 a3 a4 a5 a6 → (∀ (b1 : T1) (b2 : T2) (b3 : T3) (b4 : T4) (b5 : T5) (b6 : T6), I b1 b2 b3 b4 b5 b6 → m b1 b2 b3 b4 b5 b6 < m a1 a2 a3 a4 a5 a6 → tot (self b1 b2 b3 b4 b5 b6) P) → tot (body self a1 a2 a3 a4 a5 a6) P) : ∀ (n : Nat) (a1 : T1) (a2 : T2) (a3 : T3) (a4 : T4) (a5 : T5) (a6 : T6), I a1 a2 a3 a4 a5 a6 → m a1 a2 a3 a4 a5 a6 < n → tot (it6 body n a1 a2 a3 a4 a5 a6) P
  | 0, a1, a2, a3, a4, a5, a6, _, hm => absurd hm (Nat.not_lt_zero _)
  | n + 1, a1, a2, a3, a4, a5, a6, hI, hm => h _ a1 a2 a3 a4 a5 a6 hI (fun b1 b2 b3 b4 b5 b6 hI2 hm2 => t_it6 I m h n b1 b2 b3 b4 b5 b6 hI2 (by omega))
theorem t_it7 {T1 T2 T3 T4 T5 T6 T7 X : Type} {body : (T1 → T2 → T3 → T4 → T5 → T6 → T7 → Option X) → T1 → T2 → T3 → T4 → T5 → T6 → T7 → Option X} {P : X → Prop} (I : T1 → T2 → T3 → T4 → T5 → T6 → T7 → Prop) (m : T1 → T2 → T3 → T4 → T5 → T6 → T7 → Nat) (h : ∀ (self : T1 → T2 → T3 → T4 → T5 → T6 → T7 → Option X) (a1 : T1) (a2 : T2) (a3 : T3) (a4 : T4) (a5 : T5) (a6 : T6) (a7 : T7), I a1 a2 a3 a4 a5 a6 a7 → (∀ (b1 : T1) (b2 : T2) (b3 : T3) (b4 : T4) (b5 : T5) (b6 : T6) (b7 : T7), I b1 b2 b3 b4 b5 b6 b7 → m b1 b2 b3 b4 b5 b6 b7 < m a1 a2 a3 a4 a5 a6 a7 → tot (self b1 b2 b3 b4 b5 b6 b7) P) → tot (body self a1 a2 a3 a4 a5 a6 a7) P) : ∀ (n : Nat) (a1 : T1) (a2 : T2) (a3 : T3) (a4 : T4) (a5 : T5) (a6 : T6) (a7 : T7), I a1 a2 a3 a4 a5 a6 a7 → m a1 a2 a3 a4 a5 a6 a7 < n → tot (it7 body n a1 a2 a3 a4 a5 a6 a7) P
  | 0, a1, a2, a3, a4, a5, a6, a7, _, hm => absurd hm (Nat.not_lt_zero _)
  | n + 1, a1, a2, a3, a4, a5, a6, a7, hI, hm => h _ a1 a2 a3 a4 a5 a6 a7 hI (fun b1 b2 b3 b4 b5 b6 b7 hI2 hm2 => t_it7 I m h n b1 b2 b3 b4 b5 b6 b7 hI2 (by omega))
theorem t_it8 {T1 T2 T3 T4 T5 T6 T7 T8 X : Type} {body : (T1 → T2 → T3 → T4 → T5 → T6 → T7 → T8 → Option X) → T1 → T2 → T3 → T4 → T5 → T6 → T7 → T8 → Option X} {P : X → Prop} (I : T1 → T2 → T3 → T4 → T5 → T6 → T7 → T8 → Prop) (m : T1 → T2 → T3 → T4 → T5 → T6 → T7 → T8 → Nat) (h : ∀ (self : T1 → T2 → T3 → T4 → T5 → T6 → T7 → T8 → Option X) (a1 : T1) (a2 : T2) (a3 : T3) (a4 : T4) (a5 : T5) (a6 : T6) (a7 : T7) (a8 : T8), I a1 a2 a3 a4 a5 a6 a7 a8 → (∀ (b1 : T1) (b2 : T2) (b3 : T3) (b4 : T4) (b5 : T5) (b6 : T6) (b7 : T7) (b8 : T8), I b1 b2 b3 b4 b5 b6 b7 b8 → m b1 b2 b3 b4 b5 b6 b7 b8 < m a1 a2 a3 a4 a5 a6 a7 a8 → tot (self b1 b2 b3 b4 b5 b6 b7 b8) P) → tot (body self a1 a2 a3 a4 a5 a6 a7 a8) P) : ∀ (n : Nat) (a1 : T1) (a2 : T2) (a3 : T3) (a4 : T4) (a5 : T5) (a6 : T6) (a7 : T7) (a8 : T8), I a1 a2 a3 a4 a5 a6 a7 a8 → m a1 a2 a3 a4 a5 a6 a7 a8 < n → tot (it8 body n a1 a2 a3 a4 a5 a6 a7 a8) P
  | 0, a1, a2, a3, a4, a5, a6, a7, a8, _, hm => absurd hm (Nat.not_lt_zero _)
  | n + 1, a1, a2, a3, a4, a5, a6, a7, a8, hI, hm => h _ a1 a2 a3 a4 a5 a6 a7 a8 hI (fun b1 b2 b3 b4 b5 b6 b7 b8 hI2 hm2 => t_it8 I m h n b1 b2 b3 b4 b5 b6 b7 b8 hI2 (by omega))
