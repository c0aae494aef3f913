/-! names: how many orders keep all arrows; the run through all orders -/
def usd (g : Nat → Nat) : Nat → Nat → Bool
  | 0, _ => false
  | k + 1, v => usd g k v || decide (g k = v)
theorem usd_t {g : Nat → Nat} {v : Nat} : ∀ {k : Nat}, usd g k v = true ↔ ∃ y, y < k ∧ g y = v
  | 0 => ⟨fun h => (by cases h), fun ⟨y, hy, _⟩ => (by omega)⟩
  | k + 1 => by
    show (usd g k v || decide (g k = v)) = true ↔ _
    rw [Bool.or_eq_true, usd_t, decide_eq_true_iff]
    constructor
    · rintro (⟨y, hy, e⟩ | e)
      · exact ⟨y, by omega, e⟩
      · exact ⟨k, by omega, e⟩
    · rintro ⟨y, hy, e⟩
      by_cases c : y = k
      · exact Or.inr (by rw [← c]; exact e)
      · exact Or.inl ⟨y, by omega, e⟩
theorem usd_c {g g' : Nat → Nat} {v : Nat} : ∀ k, (∀ j, j < k → g j = g' j) → usd g k v = usd g' k v
  | 0, _ => rfl
  | k + 1, h => by
    show (usd g k v || decide (g k = v)) = (usd g' k v || decide (g' k = v))
    rw [usd_c k (fun j hj => h j (by omega)), h k (by omega)]
def ftb (f o : Nat → Int32) (g : Nat → Nat) (i v : Nat) : Nat → Bool
  | 0 => true
  | k + 1 => ftb f o g i v k && (bt (f i) k == bt (o v) (g k))
theorem ftb_t {f o : Nat → Int32} {g : Nat → Nat} {i v : Nat} : ∀ {k : Nat}, ftb f o g i v k = true ↔ ∀ y, y < k → bt (f i) y = bt (o v) (g y)
  | 0 => ⟨fun _ y hy => (by omega), fun _ => rfl⟩
  | k + 1 => by
    show (ftb f o g i v k && (bt (f i) k == bt (o v) (g k))) = true ↔ _
    rw [Bool.and_eq_true, ftb_t, beq_iff_eq]
    constructor
    · rintro ⟨a, b⟩ y hy
      by_cases c : y = k
      · rw [c]; exact b
      · exact a y (by omega)
    · intro h
      exact ⟨fun y hy => h y (by omega), h k (by omega)⟩
theorem ftb_c {f o : Nat → Int32} {g g' : Nat → Nat} {i v : Nat} : ∀ k, (∀ j, j < k → g j = g' j) → ftb f o g i v k = ftb f o g' i v k
  | 0, _ => rfl
  | k + 1, h => by
    show (ftb f o g i v k && (bt (f i) k == bt (o v) (g k))) = (ftb f o g' i v k && (bt (f i) k == bt (o v) (g' k)))
    rw [ftb_c k (fun j hj => h j (by omega)), h k (by omega)]
def put1 (g : Nat → Nat) (i v : Nat) : Nat → Nat := fun j => if j = i then v else g j
def Wdd (f o : Nat → Int32) (n : Nat) : Nat → (Nat → Nat) → Nat → Nat
  | 0, _, _ => 1
  | d + 1, g, i => sm (fun v => if (!usd g i v && ftb f o g i v i) = true then Wdd f o n d (put1 g i v) (i + 1) else 0) n
theorem Wdd_c {f o : Nat → Int32} {n : Nat} : ∀ d (g g' : Nat → Nat) i, (∀ j, j < i → g j = g' j) → Wdd f o n d g i = Wdd f o n d g' i
  | 0, _, _, _, _ => rfl
  | d + 1, g, g', i, h => by
    unfold Wdd
    refine sm_c n (fun v _ => ?_)
    rw [usd_c i h, ftb_c i h, Wdd_c d (put1 g i v) (put1 g' i v) (i + 1) (fun j hj => by
      unfold put1
      by_cases c : j = i
      · rw [if_pos c, if_pos c]
      · rw [if_neg c, if_neg c]
        exact h j (by omega))]
/-- all arrows by these names are those of the other -/
def nmp (f o : Nat → Int32) (n : Nat) (g : Nat → Nat) : Prop := ∀ x y, x < y → y < n → bt (f x) y = bt (o (g x)) (g y)
def pgb (f o : Nat → Int32) (g : Nat → Nat) : Nat → Bool
  | 0 => true
  | k + 1 => pgb f o g k && ftb f o g k (g k) k
theorem pgb_t {f o : Nat → Int32} {g : Nat → Nat} : ∀ {k : Nat}, pgb f o g k = true ↔ ∀ x, x < k → ∀ y, y < x → bt (f x) y = bt (o (g x)) (g y)
  | 0 => ⟨fun _ x hx => (by omega), fun _ => rfl⟩
  | k + 1 => by
    show (pgb f o g k && ftb f o g k (g k) k) = true ↔ _
    rw [Bool.and_eq_true, pgb_t, ftb_t]
    constructor
    · rintro ⟨a, b⟩ x hx
      by_cases c : x = k
      · rw [c]; exact b
      · exact a x (by omega)
    · intro h
      exact ⟨fun x hx => h x (by omega), h k (by omega)⟩
theorem pgb_c {f o : Nat → Int32} {g g' : Nat → Nat} : ∀ k, (∀ j, j < k → g j = g' j) → pgb f o g k = pgb f o g' k
  | 0, _ => rfl
  | k + 1, h => by
    show (pgb f o g k && ftb f o g k (g k) k) = (pgb f o g' k && ftb f o g' k (g' k) k)
    rw [pgb_c k (fun j hj => h j (by omega)), ftb_c k (fun j hj => h j (by omega)), h k (by omega)]
theorem nmp_b {f o : Nat → Int32} {n : Nat} {g : Nat → Nat} (hf : Tn n f) (ho : Tn n o) (hg : pmn n g) : nmp f o n g ↔ pgb f o g n = true := by
  rw [pgb_t]
  have key : ∀ x y, x < n → y < n → y ≠ x → (bt (f x) y = bt (o (g x)) (g y) ↔ bt (f y) x = bt (o (g y)) (g x)) := fun x y hx hy hne => by
    have a := hf.2.2 x y hx hy (fun w => hne w.symm)
    have b := ho.2.2 (g x) (g y) (hg.1 x hx) (hg.1 y hy) (fun w => hne (hg.2 x y hx hy w).symm)
    rw [a, b]
    cases bt (f y) x <;> cases bt (o (g y)) (g x) <;> simp
  constructor
  · intro h x hx y hy
    exact (key x y hx (by omega) (by omega)).mpr (h y x hy hx)
  · intro h x y hxy hy
    exact (key y x hy (by omega) (by omega)).mp (h y hy x hxy)
theorem sm_ext {F : Nat → Nat} {a : Nat} : ∀ d, (∀ v, a ≤ v → v < a + d → F v = 0) → sm F (a + d) = sm F a
  | 0, _ => rfl
  | d + 1, h => by
    show sm F (a + d) + F (a + d) = sm F a
    rw [sm_ext d (fun v h1 h2 => h v h1 (by omega)), h (a + d) (by omega) (by omega), Nat.add_zero]
theorem sm_ex {F : Nat → Nat} {a b : Nat} (hab : a ≤ b) (h : ∀ v, a ≤ v → v < b → F v = 0) : sm F b = sm F a := by
  have := sm_ext (F := F) (a := a) (b - a) (fun v h1 h2 => h v h1 (by omega))
  have e : a + (b - a) = b := by omega
  rw [e] at this
  exact this
def W1 (f o : Nat → Int32) (n d : Nat) (g : Nat → Nat) (i : Nat) : Nat := if pgb f o g i = true then Wdd f o n d g i else 0
def W1s (f o : Nat → Int32) (n d : Nat) (g : Nat → Nat) (i r : Nat) : Nat := if pgb f o g i = true then sm (fun v => if (!usd g i v && ftb f o g i v i) = true then Wdd f o n d (put1 g i v) (i + 1) else 0) r else 0
/-- the run through all orders that begin alike -/
theorem run_o {f o : Nat → Int32} {n : Nat} (hf : Tn n f) (ho : Tn n o) (Q E : Nat → (Nat → Nat) → Prop) (h1 : ∀ c g, pmn n g → ((nmp f o n g → E (c + 1) g) ∧ (¬ nmp f o n g → E c g)) → Q c g) (h2 : ∀ c g i, pmn n g → i + 1 < n → g i < g (i + 1) → (∀ i g', nxs n i g g' → Q c g') → E c g) : ∀ d i, i + d = n → ∀ g c, pmn n g → oas n i g → (∀ g', (∀ j, j < i → g' j = g j) → pmn n g' → ods n i g' → E (c + W1 f o n d g i) g') → Q c g
  | 0, i, hin, g, c, hp, _, hE => by
    have hn : i = n := by omega
    subst hn
    have z := hE g (fun _ _ => rfl) hp (fun a b ha hab hb => by omega)
    refine h1 c g hp ⟨fun hg => ?_, fun hg => ?_⟩
    · have : W1 f o i 0 g i = 1 := by
        unfold W1
        rw [if_pos ((nmp_b hf ho hp).mp hg)]
        rfl
      rw [this] at z
      exact z
    · have : W1 f o i 0 g i = 0 := by
        unfold W1
        rw [if_neg (fun w => hg ((nmp_b hf ho hp).mpr w))]
      rw [this, Nat.add_zero] at z
      exact z
  | d + 1, i, hin, g0, c, hp0, ha0, hE => by
    have ihr := run_o hf ho Q E h1 h2 d (i + 1) (by omega)
    have inner : ∀ e g, n - g i ≤ e → pmn n g → oas n (i + 1) g → (∀ j, j < i → g j = g0 j) → Q (c + W1s f o n d g0 i (g i)) g := fun e => by
      induction e with
      | zero =>
        intro g he hp _ _
        have := hp.1 i (by omega)
        omega
      | succ e ihe =>
        intro g he hp ha hpre
        have gi := hp.1 i (by omega)
        refine ihr g _ hp ha (fun g' hpre' hp' hd' => ?_)
        have ei : g' i = g i := hpre' i (by omega)
        have epre : ∀ j, j < i → g' j = g0 j := fun j hj => (hpre' j (by omega)).trans (hpre j hj)
        -- the count behind this block
        have cnt : c + W1s f o n d g0 i (g i) + W1 f o n d g (i + 1) = c + W1s f o n d g0 i (g i + 1) := by
          have nu : usd g0 i (g i) = false := by
            cases q : usd g0 i (g i)
            · rfl
            · obtain ⟨y, hy, e⟩ := usd_t.mp q
              rw [← hpre y hy] at e
              have := hp.2 y i (by omega) (by omega) e
              omega
          have ep : pgb f o g (i + 1) = (pgb f o g0 i && ftb f o g0 i (g i) i) := by
            show (pgb f o g i && ftb f o g i (g i) i) = _
            rw [pgb_c i hpre, ftb_c i hpre]
          have ew : Wdd f o n d g (i + 1) = Wdd f o n d (put1 g0 i (g i)) (i + 1) := Wdd_c d _ _ _ (fun j hj => by
            unfold put1
            by_cases cj : j = i
            · rw [if_pos cj, cj]
            · rw [if_neg cj]
              exact hpre j (by omega))
          unfold W1 W1s
          rw [ep, ew]
          cases q1 : pgb f o g0 i
          · rfl
          · show c + sm _ (g i) + (if (true && ftb f o g0 i (g i) i) = true then Wdd f o n d (put1 g0 i (g i)) (i + 1) else 0) = c + (sm (fun v => if (!usd g0 i v && ftb f o g0 i v i) = true then Wdd f o n d (put1 g0 i v) (i + 1) else 0) (g i) + (if (!usd g0 i (g i) && ftb f o g0 i (g i) i) = true then Wdd f o n d (put1 g0 i (g i)) (i + 1) else 0))
            rw [nu]
            show c + sm _ (g i) + (if (true && ftb f o g0 i (g i) i) = true then Wdd f o n d (put1 g0 i (g i)) (i + 1) else 0) = c + (sm _ (g i) + (if (true && ftb f o g0 i (g i) i) = true then Wdd f o n d (put1 g0 i (g i)) (i + 1) else 0))
            omega
        rw [cnt]
        have zero : ∀ v, v < n → (∃ t, t < i ∧ g' t = v) → (if (!usd g0 i v && ftb f o g0 i v i) = true then Wdd f o n d (put1 g0 i v) (i + 1) else 0) = 0 := fun v hv ⟨t, t1, t2⟩ => by
          have : usd g0 i v = true := usd_t.mpr ⟨t, t1, by rw [← epre t t1]; exact t2⟩
          rw [this, if_neg (by simp)]
        by_cases cm : i + 1 < n ∧ g' i < g' (i + 1)
        · refine h2 _ g' i hp' cm.1 cm.2 (fun i2 g2 hn2 => ?_)
          have e2 : i2 = i := by
            obtain ⟨⟨a1, a2, a3⟩, -⟩ := hn2
            by_cases c1' : i2 < i
            · have := a3 i (i + 1) (by omega) (by omega) cm.1
              have := cm.2
              omega
            · by_cases c2' : i < i2
              · have := hd' i2 (i2 + 1) (by omega) (by omega) a1
                omega
              · omega
          subst e2
          obtain ⟨-, b2, b3, ⟨t, t1, t2, t3⟩, b5, b6, b7⟩ := hn2
          have g2i := b7.1 i2 (by omega)
          have same : W1s f o n d g0 i2 (g i2 + 1) = W1s f o n d g0 i2 (g2 i2) := by
            unfold W1s
            cases pgb f o g0 i2
            · rfl
            · rw [if_pos rfl, if_pos rfl]
              refine (sm_ex (by omega) (fun v v1 v2 => zero v (by omega) ?_)).symm
              obtain ⟨u, u1, u2⟩ := surj hp' (show v < n by omega)
              by_cases c1' : u < i2
              · exact ⟨u, c1', u2⟩
              · by_cases c2' : u = i2
                · rw [c2'] at u2; omega
                · have := b5 u (by omega) u1 (by omega)
                  omega
          rw [same]
          exact ihe g2 (by omega) b7 b6 (fun j hj => (b2 j hj).trans (epre j hj))
        · have ds : ods n i g' := fun a b ha' hab hb => by
            by_cases ca : a = i
            · rw [ca]
              have h1' : ¬ g' i < g' (i + 1) := fun w => cm ⟨by omega, w⟩
              have hne : g' i ≠ g' (i + 1) := fun w => by have := hp'.2 i (i + 1) (by omega) (by omega) w; omega
              by_cases cb : b = i + 1
              · rw [cb]; omega
              · have := hd' (i + 1) b (by omega) (by omega) hb
                omega
            · exact hd' a b (by omega) hab hb
          have same : W1s f o n d g0 i (g i + 1) = W1 f o n (d + 1) g0 i := by
            unfold W1s W1
            cases pgb f o g0 i
            · rfl
            · rw [if_pos rfl, if_pos rfl]
              show _ = sm (fun v => if (!usd g0 i v && ftb f o g0 i v i) = true then Wdd f o n d (put1 g0 i v) (i + 1) else 0) n
              refine (sm_ex (by omega) (fun v v1 v2 => zero v (by omega) ?_)).symm
              obtain ⟨u, u1, u2⟩ := surj hp' (show v < n by omega)
              by_cases c1' : u < i
              · exact ⟨u, c1', u2⟩
              · by_cases c2' : u = i
                · rw [c2'] at u2; omega
                · have := ds i u (by omega) (by omega) u1
                  omega
          rw [same]
          exact hE g' epre hp' ds
    have st : W1s f o n d g0 i (g0 i) = 0 := by
      unfold W1s
      cases pgb f o g0 i
      · rfl
      · rw [if_pos rfl]
        refine sm_z _ (fun v hv => ?_)
        have gi := hp0.1 i (by omega)
        obtain ⟨u, u1, u2⟩ := surj hp0 (show v < n by omega)
        by_cases c1' : u < i
        · have : usd g0 i v = true := usd_t.mpr ⟨u, c1', u2⟩
          show (if (!usd g0 i v && ftb f o g0 i v i) = true then Wdd f o n d (put1 g0 i v) (i + 1) else 0) = 0
          rw [this, if_neg (by simp)]
        · by_cases c2' : u = i
          · rw [c2'] at u2; omega
          · have := ha0 i u (Nat.le_refl _) (by omega) u1
            omega
    have z := inner n g0 (by omega) hp0 (fun a b ha hab hb => ha0 a b (by omega) hab hb) (fun _ _ => rfl)
    rw [st, Nat.add_zero] at z
    exact z
