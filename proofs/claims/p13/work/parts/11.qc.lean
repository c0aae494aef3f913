/-! whatever comes out is such a thing -/
def par {X : Type} (o : Option X) (P : X → Prop) : Prop := ∀ x, o = some x → P x
theorem p_some {X : Type} {x : X} {P : X → Prop} (h : P x) : par (some x) P := fun y e => by
  cases e
  exact h
theorem p_gd {X : Type} {b : Bool} {o : Option X} {P : X → Prop} (h : b = true → par o P) : par (gd b o) P := fun x e => by
  by_cases hb : b = true
  · rw [gd_t hb] at e
    exact h hb x e
  · unfold gd at e
    rw [if_neg hb] at e
    cases e
theorem p_if {X : Type} {c : Prop} {d : Decidable c} {a b : Option X} {P : X → Prop} (h1 : c → par a P) (h2 : ¬ c → par b P) : par (@ite _ c d a b) P := by
  by_cases h : c
  · rw [if_pos h]; exact h1 h
  · rw [if_neg h]; exact h2 h
theorem p_bnd {X T : Type} {e : T} {k : T → Option X} {P : X → Prop} (h : par (k e) P) : par (bnd e k) P := h
theorem p_let {X T : Type} {e : T} {k : T → Option X} {P : X → Prop} (h : ∀ x, x = e → par (k x) P) : par (bnd e k) P := h e rfl
theorem p_ob {X T : Type} {o : Option T} {k : T → Option X} {P : X → Prop} (R : T → Prop) (h1 : par o R) (h2 : ∀ a, R a → par (k a) P) : par (ob o k) P := by
  cases o with
  | none => intro x e; cases e
  | some a => exact h2 a (h1 a rfl)
theorem p_ob2 {X T U : Type} {o : Option (T × U)} {k : T → U → Option X} {P : X → Prop} (R : T → U → Prop) (h1 : par o (fun q => R q.1 q.2)) (h2 : ∀ a b, R a b → par (k a b) P) : par (ob2 o k) P := by
  cases o with
  | none => intro x e; cases e
  | some a => exact h2 a.1 a.2 (h1 a rfl)
theorem p_mono {X : Type} {o : Option X} {P Q : X → Prop} (h : par o P) (hPQ : ∀ x, P x → Q x) : par o Q := fun x e => hPQ x (h x e)
theorem p_and {X : Type} {o : Option X} {P Q : X → Prop} (h1 : par o P) (h2 : par o Q) : par o (fun x => P x ∧ Q x) := fun x e => ⟨h1 x e, h2 x e⟩
theorem p_tot {X : Type} {o : Option X} {P : X → Prop} (h : tot o P) : par o P := fun x e => by
  obtain ⟨y, e2, hy⟩ := h
  rw [e2] at e
  cases e
  exact hy
theorem t_par {X : Type} {o : Option X} {P Q : X → Prop} (h : tot o P) (h2 : par o Q) : tot o (fun x => P x ∧ Q x) := by
  obtain ⟨y, e2, hy⟩ := h
  exact ⟨y, e2, hy, h2 y e2⟩
theorem p_sw1 {X : Type} {x v : Int32} {a d : Option X} {t : List (Int32 × Option X)} {P : X → Prop} (h1 : x = v → par a P) (h2 : ¬ x = v → par (swc x t d) P) : par (swc x ((v, a) :: t) d) P := p_if h1 h2
theorem p_sw0 {X : Type} {x : Int32} {d : Option X} {P : X → Prop} (h : par d P) : par (swc x [] d) P := h
theorem p_it1 {T1 X : Type} {body : (T1 → Option X) → T1 → Option X} {P : X → Prop} (I : T1 → Prop) (h : ∀ (self : T1 → Option X) (a1 : T1), I a1 → (∀ (b1 : T1), I b1 → par (self b1) P) → par (body self a1) P) : ∀ (n : Nat) (a1 : T1), I a1 → par (it1 body n a1) P
  | 0, _, _ => fun x e => by cases e
  | n + 1, a1, hI => h (it1 body n) a1 hI (fun b1 hb => p_it1 I h n b1 hb)
theorem p_rec1 {T1 X : Type} {body : (T1 → Option X) → T1 → Option X} (P : T1 → X → Prop) (I : T1 → Prop) (h : ∀ (self : T1 → Option X) (a1 : T1), I a1 → (∀ (b1 : T1), I b1 → par (self b1) (P b1)) → par (body self a1) (P a1)) : ∀ (n : Nat) (a1 : T1), I a1 → par (it1 body n a1) (P a1)
  | 0, _, _ => fun x e => by cases e
  | n + 1, a1, hI => h (it1 body n) a1 hI (fun b1 hb => p_rec1 P I h n b1 hb)
theorem p_it2 {T1 T2 X : Type} {body : (T1 → T2 → Option X) → T1 → T2 → Option X} {P : X → Prop} (I : T1 → T2 → Prop) (h : ∀ (self : T1 → T2 → Option X) (a1 : T1) (a2 : T2), I a1 a2 → (∀ (b1 : T1) (b2 : T2), I b1 b2 → par (self b1 b2) P) → par (body self a1 a2) P) : ∀ (n : Nat) (a1 : T1) (a2 : T2), I a1 a2 → par (it2 body n a1 a2) P
  | 0, _, _, _ => fun x e => by cases e
  | n + 1, a1, a2, hI => h (it2 body n) a1 a2 hI (fun b1 b2 hb => p_it2 I h n b1 b2 hb)
theorem p_rec2 {T1 T2 X : Type} {body : (T1 → T2 → Option X) → T1 → T2 → Option X} (P : T1 → T2 → X → Prop) (I : T1 → T2 → Prop) (h : ∀ (self : T1 → T2 → Option X) (a1 : T1) (a2 : T2), I a1 a2 → (∀ (b1 : T1) (b2 : T2), I b1 b2 → par (self b1 b2) (P b1 b2)) → par (body self a1 a2) (P a1 a2)) : ∀ (n : Nat) (a1 : T1) (a2 : T2), I a1 a2 → par (it2 body n a1 a2) (P a1 a2)
  | 0, _, _, _ => fun x e => by cases e
  | n + 1, a1, a2, hI => h (it2 body n) a1 a2 hI (fun b1 b2 hb => p_rec2 P I h n b1 b2 hb)
theorem p_it3 {T1 T2 T3 X : Type} {body : (T1 → T2 → T3 → Option X) → T1 → T2 → T3 → Option X} {P : X → Prop} (I : T1 → T2 → T3 → Prop) (h : ∀ (self : T1 → T2 → T3 → Option X) (a1 : T1) (a2 : T2) (a3 : T3), I a1 a2 a3 → (∀ (b1 : T1) (b2 : T2) (b3 : T3), I b1 b2 b3 → par (self b1 b2 b3) P) → par (body self a1 a2 a3) P) : ∀ (n : Nat) (a1 : T1) (a2 : T2) (a3 : T3), I a1 a2 a3 → par (it3 body n a1 a2 a3) P
  | 0, _, _, _, _ => fun x e => by cases e
  | n + 1, a1, a2, a3, hI => h (it3 body n) a1 a2 a3 hI (fun b1 b2 b3 hb => p_it3 I h n b1 b2 b3 hb)
theorem p_rec3 {T1 T2 T3 X : Type} {body : (T1 → T2 → T3 → Option X) → T1 → T2 → T3 → Option X} (P : T1 → T2 → T3 → X → Prop) (I : T1 → T2 → T3 → Prop) (h : ∀ (self : T1 → T2 → T3 → Option X) (a1 : T1) (a2 : T2) (a3 : T3), I a1 a2 a3 → (∀ (b1 : T1) (b2 : T2) (b3 : T3), I b1 b2 b3 → par (self b1 b2 b3) (P b1 b2 b3)) → par (body self a1 a2 a3) (P a1 a2 a3)) : ∀ (n : Nat) (a1 : T1) (a2 : T2) (a3 : T3), I a1 a2 a3 → par (it3 body n a1 a2 a3) (P a1 a2 a3)
  | 0, _, _, _, _ => fun x e => by cases e
  | n + 1, a1, a2, a3, hI => h (it3 body n) a1 a2 a3 hI (fun b1 b2 b3 hb => p_rec3 P I h n b1 b2 b3 hb)
theorem p_it4 {T1 T2 T3 T4 X : Type} {body : (T1 → T2 → T3 → T4 → Option X) → T1 → T2 → T3 → T4 → Option X} {P : X → Prop} (I : T1 → T2 → T3 → T4 → Prop) (h : ∀ (self : T1 → T2 → T3 → T4 → Option X) (a1 : T1) (a2 : T2) (a3 : T3) (a4 : T4), I a1 a2 a3 a4 → (∀ (b1 : T1) (b2 : T2) (b3 : T3) (b4 : T4), I b1 b2 b3 b4 → par (self b1 b2 b3 b4) P) → par (body self a1 a2 a3 a4) P) : ∀ (n : Nat) (a1 : T1) (a2 : T2) (a3 : T3) (a4 : T4), I a1 a2 a3 a4 → par (it4 body n a1 a2 a3 a4) P
  | 0, _, _, _, _, _ => fun x e => by cases e
  | n + 1, a1, a2, a3, a4, hI => h (it4 body n) a1 a2 a3 a4 hI (fun b1 b2 b3 b4 hb => p_it4 I h n b1 b2 b3 b4 hb)
theorem p_rec4 {T1 T2 T3 T4 X : Type} {body : (T1 → T2 → T3 → T4 → Option X) → T1 → T2 → T3 → T4 → Option X} (P : T1 → T2 → T3 → T4 → X → Prop) (I : T1 → T2 → T3 → T4 → Prop) (h : ∀ (self : T1 → T2 → T3 → T4 → Option X) (a1 : T1) (a2 : T2) (a3 : T3) (a4 : T4), I a1 a2 a3 a4 → (∀ (b1 : T1) (b2 : T2) (b3 : T3) (b4 : T4), I b1 b2 b3 b4 → par (self b1 b2 b3 b4) (P b1 b2 b3 b4)) → par (body self a1 a2 a3 a4) (P a1 a2 a3 a4)) : ∀ (n : Nat) (a1 : T1) (a2 : T2) (a3 : T3) (a4 : T4), I a1 a2 a3 a4 → par (it4 body n a1 a2 a3 a4) (P a1 a2 a3 a4)
  | 0, _, _, _, _, _ => fun x e => by cases e
  | n + 1, a1, a2, a3, a4, hI => h (it4 body n) a1 a2 a3 a4 hI (fun b1 b2 b3 b4 hb => p_rec4 P I h n b1 b2 b3 b4 hb)
theorem p_it5 {T1 T2 T3 T4 T5 X : Type} {body : (T1 → T2 → T3 → T4 → T5 → Option X) → T1 → T2 → T3 → T4 → T5 → Option X} {P : X → Prop} (I : T1 → T2 → T3 → T4 → T5 → Prop) (h : ∀ (self : T1 → T2 → T3 → T4 → T5 → Option X) (a1 : T1) (a2 : T2) (a3 : T3) (a4 : T4) (a5 : T5), I a1 a2 a3 a4 a5 → (∀ (b1 : T1) (b2 : T2) (b3 : T3) (b4 : T4) (b5 : T5), I b1 b2 b3 b4 b5 → par (self b1 b2 b3 b4 b5) P) → par (body self a1 a2 a3 a4 a5) P) : ∀ (n : Nat) (a1 : T1) (a2 : T2) (a3 : T3) (a4 : T4) (a5 : T5), I a1 a2 a3 a4 a5 → par (it5 body n a1 a2 a3 a4 a5) P
  | 0, _, _, _, _, _, _ => fun x e => by cases e
  | n + 1, a1, a2, a3, a4, a5, hI => h (it5 body n) a1 a2 a3 a4 a5 hI (fun b1 b2 b3 b4 b5 hb => p_it5 I h n b1 b2 b3 b4 b5 hb)
theorem p_rec5 {T1 T2 T3 T4 T5 X : Type} {body : (T1 → T2 → T3 → T4 → T5 → Option X) → T1 → T2 → T3 → T4 → T5 → Option X} (P : T1 → T2 → T3 → T4 → T5 → X → Prop) (I : T1 → T2 → T3 → T4 → T5 → Prop) (h : ∀ (self : T1 → T2 → T3 → T4 → T5 → Option X) (a1 : T1) (a2 : T2) (a3 : T3) (a4 : T4) (a5 : T5), I a1 a2 a3 a4 a5 → (∀ (b1 : T1) (b2 : T2) (b3 : T3) (b4 : T4) (b5 : T5), I b1 b2 b3 b4 b5 → par (self b1 b2 b3 b4 b5) (P b1 b2 b3 b4 b5)) → par (body self a1 a2 a3 a4 a5) (P a1 a2 a3 a4 a5)) : ∀ (n : Nat) (a1 : T1) (a2 : T2) (a3 : T3) (a4 : T4) (a5 : T5), I a1 a2 a3 a4 a5 → par (it5 body n a1 a2 a3 a4 a5) (P a1 a2 a3 a4 a5)
  | 0, _, _, _, _, _, _ => fun x e => by cases e
  | n + 1, a1, a2, a3, a4, a5, hI => h (it5 body n) a1 a2 a3 a4 a5 hI (fun b1 b2 b3 b4 b5 hb => p_rec5 P I h n b1 b2 b3 b4 b5 hb)
theorem p_it6 {T1 T2 T3 T4 T5 T6 X : Type} {body : (T1 → T2 → T3 → T4 → T5 → T6 → Option X) → T1 → T2 → T3 → T4 → T5 → T6 → Option X} {P : X → Prop} (I : T1 → T2 → T3 → T4 → T5 → T6 → Prop) (h : ∀ (self : T1 → T2 → T3 → T4 → T5 → T6 → Option X) (a1 : T1) (a2 : T2) (a3 : T3) (a4 : T4) (a5 : T5) (a6 : T6), I a1 a2 a3 a4 a5 a6 → (∀ (b1 : T1) (b2 : T2) (b3 : T3) (b4 : T4) (b5 : T5) (b6 : T6), I b1 b2 b3 b4 b5 b6 → par (self b1 b2 b3 b4 b5 b6) P) → par (body self a1 a2 a3 a4 a5 a6) P) : ∀ (n : Nat) (a1 : T1) (a2 : T2) (a3 : T3) (a4 : T4) (a5 : T5) (a6 : T6), I a1 a2 a3 a4 a5 a6 → par (it6 body n a1 a2 a3 a4 a5 a6) P
  | 0, _, _, _, _, _, _, _ => fun x e => by cases e
  | n + 1, a1, a2, a3, a4, a5, a6, hI => h (it6 body n) a1 a2 a3 a4 a5 a6 hI (fun b1 b2 b3 b4 b5 b6 hb => p_it6 I h n b1 b2 b3 b4 b5 b6 hb)
theorem p_rec6 {T1 T2 T3 T4 T5 T6 X : Type} {body : (T1 → T2 → T3 → T4 → T5 → T6 → Option X) → T1 → T2 → T3 → T4 → T5 → T6 → Option X} (P : T1 → T2 → T3 → T4 → T5 → T6 → X → Prop) (I : T1 → T2 → T3 → T4 → T5 → T6 → Prop) (h : ∀ (self : T1 → T2 → T3 → T4 → T5 → T6 → Option X) (a1 : T1) (a2 : T2) (a3 : T3) (a4 : T4) (a5 : T5) (a6 : T6), I a1 a2 a3 a4 a5 a6 → (∀ (b1 : T1) (b2 : T2) (b3 : T3) (b4 : T4) (b5 : T5) (b6 : T6), I b1 b2 b3 b4 b5 b6 → par (self b1 b2 b3 b4 b5 b6) (P b1 b2 b3 b4 b5 b6)) → par (body self a1 a2 a3 a4 a5 a6) (P a1 a2 a3 a4 a5 a6)) : ∀ (n : Nat) (a1 : T1) (a2 : T2) (a3 : T3) (a4 : T4) (a5 : T5) (a6 : T6), I a1 a2 a3 a4 a5 a6 → par (it6 body n a1 a2 a3 a4 a5 a6) (P a1 a2 a3 a4 a5 a6)
  | 0, _, _, _, _, _, _, _ => fun x e => by cases e
  | n + 1, a1, a2, a3, a4, a5, a6, hI => h (it6 body n) a1 a2 a3 a4 a5 a6 hI (fun b1 b2 b3 b4 b5 b6 hb => p_rec6 P I h n b1 b2 b3 b4 b5 b6 hb)
theorem p_it7 {T1 T2 T3 T4 T5 T6 T7 X : Type} {body : (T1 → T2 → T3 → T4 → T5 → T6 → T7 → Option X) → T1 → T2 → T3 → T4 → T5 → T6 → T7 → Option X} {P : X → Prop} (I : T1 → T2 → T3 → T4 → T5 → T6 → T7 → Prop) (h : ∀ (self : T1 → T2 → T3 → T4 → T5 → T6 → T7 → Option X) (a1 : T1) (a2 : T2) (a3 : T3) (a4 : T4) (a5 : T5) (a6 : T6) (a7 : T7), I a1 a2 a3 a4 a5 a6 a7 → (∀ (b1 : T1) (b2 : T2) (b3 : T3) (b4 : T4) (b5 : T5) (b6 : T6) (b7 : T7), I b1 b2 b3 b4 b5 b6 b7 → par (self b1 b2 b3 b4 b5 b6 b7) P) → par (body self a1 a2 a3 a4 a5 a6 a7) P) : ∀ (n : Nat) (a1 : T1) (a2 : T2) (a3 : T3) (a4 : T4) (a5 : T5) (a6 : T6) (a7 : T7), I a1 a2 a3 a4 a5 a6 a7 → par (it7 body n a1 a2 a3 a4 a5 a6 a7) P
  | 0, _, _, _, _, _, _, _, _ => fun x e => by cases e
  | n + 1, a1, a2, a3, a4, a5, a6, a7, hI => h (it7 body n) a1 a2 a3 a4 a5 a6 a7 hI (fun b1 b2 b3 b4 b5 b6 b7 hb => p_it7 I h n b1 b2 b3 b4 b5 b6 b7 hb)
theorem p_rec7 {T1 T2 T3 T4 T5 T6 T7 X : Type} {body : (T1 → T2 → T3 → T4 → T5 → T6 → T7 → Option X) → T1 → T2 → T3 → T4 → T5 → T6 → T7 → Option X} (P : T1 → T2 → T3 → T4 → T5 → T6 → T7 → X → Prop) (I : T1 → T2 → T3 → T4 → T5 → T6 → T7 → Prop) (h : ∀ (self : T1 → T2 → T3 → T4 → T5 → T6 → T7 → Option X) (a1 : T1) (a2 : T2) (a3 : T3) (a4 : T4) (a5 : T5) (a6 : T6) (a7 : T7), I a1 a2 a3 a4 a5 a6 a7 → (∀ (b1 : T1) (b2 : T2) (b3 : T3) (b4 : T4) (b5 : T5) (b6 : T6) (b7 : T7), I b1 b2 b3 b4 b5 b6 b7 → par (self b1 b2 b3 b4 b5 b6 b7) (P b1 b2 b3 b4 b5 b6 b7)) → par (body self a1 a2 a3 a4 a5 a6 a7) (P a1 a2 a3 a4 a5 a6 a7)) : ∀ (n : Nat) (a1 : T1) (a2 : T2) (a3 : T3) (a4 : T4) (a5 : T5) (a6 : T6) (a7 : T7), I a1 a2 a3 a4 a5 a6 a7 → par (it7 body n a1 a2 a3 a4 a5 a6 a7) (P a1 a2 a3 a4 a5 a6 a7)
  | 0, _, _, _, _, _, _, _, _ => fun x e => by cases e
  | n + 1, a1, a2, a3, a4, a5, a6, a7, hI => h (it7 body n) a1 a2 a3 a4 a5 a6 a7 hI (fun b1 b2 b3 b4 b5 b6 b7 hb => p_rec7 P I h n b1 b2 b3 b4 b5 b6 b7 hb)
theorem p_it8 {T1 T2 T3 T4 T5 T6 T7 T8 X : Type} {body : (T1 → T2 → T3 → T4 → T5 → T6 → T7 → T8 → Option X) → T1 → T2 → T3 → T4 → T5 → T6 → T7 → T8 → Option X} {P : X → Prop} (I : T1 → T2 → T3 → T4 → T5 → T6 → T7 → T8 → Prop) (h : ∀ (self : T1 → T2 → T3 → T4 → T5 → T6 → T7 → T8 → Option X) (a1 : T1) (a2 : T2) (a3 : T3) (a4 : T4) (a5 : T5) (a6 : T6) (a7 : T7) (a8 : T8), I a1 a2 a3 a4 a5 a6 a7 a8 → (∀ (b1 : T1) (b2 : T2) (b3 : T3) (b4 : T4) (b5 : T5) (b6 : T6) (b7 : T7) (b8 : T8), I b1 b2 b3 b4 b5 b6 b7 b8 → par (self b1 b2 b3 b4 b5 b6 b7 b8) P) → par (body self a1 a2 a3 a4 a5 a6 a7 a8) P) : ∀ (n : Nat) (a1 : T1) (a2 : T2) (a3 : T3) (a4 : T4) (a5 : T5) (a6 : T6) (a7 : T7) (a8 : T8), I a1 a2 a3 a4 a5 a6 a7 a8 → par (it8 body n a1 a2 a3 a4 a5 a6 a7 a8) P
  | 0, _, _, _, _, _, _, _, _, _ => fun x e => by cases e
  | n + 1, a1, a2, a3, a4, a5, a6, a7, a8, hI => h (it8 body n) a1 a2 a3 a4 a5 a6 a7 a8 hI (fun b1 b2 b3 b4 b5 b6 b7 b8 hb => p_it8 I h n b1 b2 b3 b4 b5 b6 b7 b8 hb)
theorem p_rec8 {T1 T2 T3 T4 T5 T6 T7 T8 X : Type} {body : (T1 → T2 → T3 → T4 → T5 → T6 → T7 → T8 → Option X) → T1 → T2 → T3 → T4 → T5 → T6 → T7 → T8 → Option X} (P : T1 → T2 → T3 → T4 → T5 → T6 → T7 → T8 → X → Prop) (I : T1 → T2 → T3 → T4 → T5 → T6 → T7 → T8 → Prop) (h : ∀ (self : T1 → T2 → T3 → T4 → T5 → T6 → T7 → T8 → Option X) (a1 : T1) (a2 : T2) (a3 : T3) (a4 : T4) (a5 : T5) (a6 : T6) (a7 : T7) (a8 : T8), I a1 a2 a3 a4 a5 a6 a7 a8 → (∀ (b1 : T1) (b2 : T2) (b3 : T3) (b4 : T4) (b5 : T5) (b6 : T6) (b7 : T7) (b8 : T8), I b1 b2 b3 b4 b5 b6 b7 b8 → par (self b1 b2 b3 b4 b5 b6 b7 b8) (P b1 b2 b3 b4 b5 b6 b7 b8)) → par (body self a1 a2 a3 a4 a5 a6 a7 a8) (P a1 a2 a3 a4 a5 a6 a7 a8)) : ∀ (n : Nat) (a1 : T1) (a2 : T2) (a3 : T3) (a4 : T4) (a5 : T5) (a6 : T6) (a7 : T7) (a8 : T8), I a1 a2 a3 a4 a5 a6 a7 a8 → par (it8 body n a1 a2 a3 a4 a5 a6 a7 a8) (P a1 a2 a3 a4 a5 a6 a7 a8)
  | 0, _, _, _, _, _, _, _, _, _ => fun x e => by cases e
  | n + 1, a1, a2, a3, a4, a5, a6, a7, a8, hI => h (it8 body n) a1 a2 a3 a4 a5 a6 a7 a8 hI (fun b1 b2 b3 b4 b5 b6 b7 b8 hb => p_rec8 P I h n b1 b2 b3 b4 b5 b6 b7 b8 hb)
