/-! reading a round: both read alike -/
def isNx (f : Nat → Int32) (len p p' : Nat) : Prop := p ≤ p' ∧ p' ≤ len ∧ (∀ j, p ≤ j → j < p' → f j = 32) ∧ (p' < len → ¬ f p' = 32)
theorem isNx_u {f : Nat → Int32} {len p a b : Nat} (h1 : isNx f len p a) (h2 : isNx f len p b) : a = b := by
  obtain ⟨x1, x2, x3, x4⟩ := h1
  obtain ⟨y1, y2, y3, y4⟩ := h2
  by_cases c : a < b
  · exact absurd (y3 a x1 c) (x4 (by omega))
  · by_cases d : b < a
    · exact absurd (x3 b y1 d) (y4 (by omega))
    · omega
theorem chr_eq {c b : Int32} (h : chr c b) (hb : rg (-128) 127 b) {k : Nat} (hk : k < 128) : (c = nI k) ↔ (b = nI k) := by
  unfold chr at h
  obtain ⟨b1', b2'⟩ := hb
  constructor
  · intro e
    rw [e, nI_toInt (by omega)] at h
    apply Int32.toInt_inj.mp
    rw [nI_toInt (by omega)]
    omega
  · intro e
    rw [e, nI_toInt (by omega)] at h
    apply Int32.toInt_inj.mp
    rw [nI_toInt (by omega)]
    omega
theorem Sg_next_v {N : Nat} (hN : 8589934592 ≤ N) {σ : Mem} {len p : Nat} (hl : len ≤ 300) (hp : p ≤ len) (h1 : gI σ 1 0 = nI len) (h2 : gI σ 2 0 = nI p) : tot (f_Sg_next N σ) (fun q => ∃ p', isNx (gI σ 12) len p p' ∧ fr [2] [] σ q.2 ∧ gI q.2 2 0 = nI p' ∧ q.1 = if p' < len then gI σ 12 p' else -1) := by
  unfold f_Sg_next
  refine t_it1 (fun s => ∃ r, p ≤ r ∧ r ≤ len ∧ (∀ j, p ≤ j → j < r → gI σ 12 j = 32) ∧ fr [2] [] σ s ∧ gI s 2 0 = nI r) (fun s => 300 - (gI s 2 0).toNatClampNeg) ?_ _ _ ⟨p, by omega, hp, fun j _ _ => by omega, fr_r _ _ _, h2⟩ (Nat.lt_of_le_of_lt (Nat.sub_le _ _) (by omega))
  rintro self s ⟨r, r1, r2, r3, fs, hs⟩ ih
  have s1 : gI s 1 0 = nI len := by rw [fs.1 1 (by decide)]; exact h1
  have s12 : gI s 12 = gI σ 12 := fs.1 12 (by decide)
  have hK : (r < len → ¬ gI σ 12 r = 32) → tot (Sg_next_K38 s) (fun q => ∃ p', isNx (gI σ 12) len p p' ∧ fr [2] [] σ q.2 ∧ gI q.2 2 0 = nI p' ∧ q.1 = if p' < len then gI σ 12 p' else -1) := by
    intro hnb
    unfold Sg_next_K38
    rw [s1, hs]
    refine t_if (fun h => ?_) (fun h => ?_)
    · rw [nle (by omega) (by omega)] at h
      exact t_some ⟨r, ⟨r1, r2, r3, hnb⟩, fs, hs, by rw [if_neg (by omega)]⟩
    · rw [nle (by omega) (by omega)] at h
      refine t_gd (inb_nI (by omega) (by decide)) (t_some ⟨r, ⟨r1, r2, r3, hnb⟩, fs, hs, ?_⟩)
      rw [if_pos (by omega), nI_clamp (by omega), s12]
  unfold Sg_next_B0
  rw [s1, hs]
  refine t_if (fun h => ?_) (fun h => ?_)
  · rw [nle (by omega) (by omega)] at h
    exact hK (fun q => by omega)
  · rw [nle (by omega) (by omega)] at h
    refine t_gd (inb_nI (by omega) (by decide)) ?_
    rw [nI_clamp (by omega), s12]
    refine t_if (fun h32 => ?_) (fun h32 => hK (fun _ => h32))
    rw [nadd1]
    refine t_let (fun t et => ih _ ⟨r + 1, by omega, by omega, fun j j1 j2 => ?_, by rw [et]; exact fr_t fs (fr_sI (by decide)), ?_⟩ ?_)
    · by_cases e : j = r
      · rw [e]; exact h32
      · exact r3 j j1 (by omega)
    · rw [et, gI_sI, if_pos rfl, upd_ap, if_pos rfl]
    · have q : gI t 2 0 = nI (r + 1) := by rw [et, gI_sI, if_pos rfl, upd_ap, if_pos rfl]
      rw [q, hs, nI_clamp (by omega), nI_clamp (by omega)]
      omega
theorem M_next_v {N : Nat} (hN : 8589934592 ≤ N) {σ : Mem} {len p : Nat} (hl : len ≤ 300) (hp : p ≤ len) (h1 : gI σ 7 0 = nI len) (h2 : gI σ 8 0 = nI p) : tot (f_M_next N σ) (fun q => ∃ p', isNx (gI σ 6) len p p' ∧ fr [8] [] σ q.2 ∧ gI q.2 8 0 = nI p' ∧ q.1 = if p' < len then gI σ 6 p' else 0) := by
  unfold f_M_next
  refine t_it1 (fun s => ∃ r, p ≤ r ∧ r ≤ len ∧ (∀ j, p ≤ j → j < r → gI σ 6 j = 32) ∧ fr [8] [] σ s ∧ gI s 8 0 = nI r) (fun s => 300 - (gI s 8 0).toNatClampNeg) ?_ _ _ ⟨p, by omega, hp, fun j _ _ => by omega, fr_r _ _ _, h2⟩ (Nat.lt_of_le_of_lt (Nat.sub_le _ _) (by omega))
  rintro self s ⟨r, r1, r2, r3, fs, hs⟩ ih
  have s1 : gI s 7 0 = nI len := by rw [fs.1 7 (by decide)]; exact h1
  have s12 : gI s 6 = gI σ 6 := fs.1 6 (by decide)
  have hK : (r < len → ¬ gI σ 6 r = 32) → tot (M_next_K38 s) (fun q => ∃ p', isNx (gI σ 6) len p p' ∧ fr [8] [] σ q.2 ∧ gI q.2 8 0 = nI p' ∧ q.1 = if p' < len then gI σ 6 p' else 0) := by
    intro hnb
    unfold M_next_K38
    rw [s1, hs]
    refine t_if (fun h => ?_) (fun h => ?_)
    · rw [nle (by omega) (by omega)] at h
      exact t_some ⟨r, ⟨r1, r2, r3, hnb⟩, fs, hs, by rw [if_neg (by omega)]⟩
    · rw [nle (by omega) (by omega)] at h
      refine t_gd (inb_nI (by omega) (by decide)) (t_some ⟨r, ⟨r1, r2, r3, hnb⟩, fs, hs, ?_⟩)
      rw [if_pos (by omega), nI_clamp (by omega), s12]
  unfold M_next_B0
  rw [s1, hs]
  refine t_if (fun h => ?_) (fun h => ?_)
  · rw [nle (by omega) (by omega)] at h
    exact hK (fun q => by omega)
  · rw [nle (by omega) (by omega)] at h
    refine t_gd (inb_nI (by omega) (by decide)) ?_
    rw [nI_clamp (by omega), s12]
    refine t_if (fun h32 => ?_) (fun h32 => hK (fun _ => h32))
    rw [nadd1]
    refine t_let (fun t et => ih _ ⟨r + 1, by omega, by omega, fun j j1 j2 => ?_, by rw [et]; exact fr_t fs (fr_sI (by decide)), ?_⟩ ?_)
    · by_cases e : j = r
      · rw [e]; exact h32
      · exact r3 j j1 (by omega)
    · rw [et, gI_sI, if_pos rfl, upd_ap, if_pos rfl]
    · have q : gI t 8 0 = nI (r + 1) := by rw [et, gI_sI, if_pos rfl, upd_ap, if_pos rfl]
      rw [q, hs, nI_clamp (by omega), nI_clamp (by omega)]
      omega
/-- the text of both: len signs, alike -/
def tx (len : Nat) (s t : Mem) : Prop := len ≤ 300 ∧ gI s 1 0 = nI len ∧ gI t 7 0 = nI len ∧ (∀ j, chr (gI s 12 j) (gI t 6 j)) ∧ ∀ j, rg (-128) 127 (gI t 6 j)
theorem tx_f {len : Nat} {s t s' t' : Mem} {S J S' J' : List Nat} (h : tx len s t) (f1 : fr S J s s') (f2 : fr S' J' t t') (h1 : 1 ∉ S ∧ 12 ∉ S) (h2 : 6 ∉ S' ∧ 7 ∉ S') : tx len s' t' := by
  unfold tx
  rw [f1.1 1 h1.1, f1.1 12 h1.2, f2.1 7 h2.2, f2.1 6 h2.1]
  exact h
theorem isNx_m {len p p' : Nat} {s t : Mem} (h : tx len s t) : isNx (gI s 12) len p p' → isNx (gI t 6) len p p' := by
  rintro ⟨a1, a2, a3, a4⟩
  have e : ∀ j, (gI s 12 j = 32) ↔ (gI t 6 j = 32) := fun j => chr_eq (h.2.2.2.1 j) (h.2.2.2.2 j) (k := 32) (by decide)
  exact ⟨a1, a2, fun j q1 q2 => (e j).mp (a3 j q1 q2), fun q1 q2 => a4 q1 ((e p').mpr q2)⟩
theorem next_b {N : Nat} (hN : 8589934592 ≤ N) {s t : Mem} {len p : Nat} (h : tx len s t) (hp : p ≤ len) (h2 : gI s 2 0 = nI p) (h8 : gI t 8 0 = nI p) : ∃ p' s' t', p ≤ p' ∧ p' ≤ len ∧ f_Sg_next N s = some (if p' < len then gI s 12 p' else -1, s') ∧ f_M_next N t = some (if p' < len then gI t 6 p' else 0, t') ∧ fr [2] [] s s' ∧ fr [8] [] t t' ∧ gI s' 2 0 = nI p' ∧ gI t' 8 0 = nI p' := by
  obtain ⟨q, e1, p1, n1, f1, v1, a1⟩ := Sg_next_v hN h.1 hp h.2.1 h2
  obtain ⟨q2, e2, p2, n2, f2, v2, a2⟩ := M_next_v hN h.1 hp h.2.2.1 h8
  have e : p1 = p2 := isNx_u (isNx_m h n1) n2
  subst e
  refine ⟨p1, q.2, q2.2, n1.1, n1.2.1, ?_, ?_, f1, f2, v1, v2⟩
  · rw [e1, ← a1]
  · rw [e2, ← a2]
/-- the sign there is c, or the end -/
theorem sign_at {s t : Mem} {len p : Nat} (h : tx len s t) {k : Nat} (hk1 : 1 ≤ k) (hk : k < 128) : ((if p < len then gI s 12 p else -1) = nI k ∧ p < len ∧ (if p < len then gI t 6 p else 0) = nI k) ∨ (¬ (if p < len then gI s 12 p else -1) = nI k ∧ ¬ (if p < len then gI t 6 p else 0) = nI k) := by
  have e := chr_eq (h.2.2.2.1 p) (h.2.2.2.2 p) hk
  by_cases c : p < len
  · rw [if_pos c, if_pos c]
    by_cases d : gI s 12 p = nI k
    · exact Or.inl ⟨d, c, e.mp d⟩
    · exact Or.inr ⟨d, fun q => d (e.mpr q)⟩
  · rw [if_neg c, if_neg c]
    refine Or.inr ⟨fun q => ?_, fun q => ?_⟩
    · have : (nI k).toInt = (-1 : Int32).toInt := by rw [q]
      rw [nI_toInt (by omega)] at this
      have e1 : (-1 : Int32).toInt = -1 := by decide
      omega
    · have := nI_inj (by omega) (by omega) ((l0.symm.trans q))
      omega
theorem letter_at {s t : Mem} {len p : Nat} (h : tx len s t) : (∃ a, a < 8 ∧ p < len ∧ gI s 12 p = nI (97 + a) ∧ gI t 6 p = nI (97 + a)) ∨ ((∀ a, a < 8 → ¬ (if p < len then gI s 12 p else -1) = nI (97 + a)) ∧ (∀ a, a < 8 → ¬ (if p < len then gI t 6 p else 0) = nI (97 + a))) := by
  by_cases c : ∃ a, a < 8 ∧ (if p < len then gI s 12 p else -1) = nI (97 + a)
  · obtain ⟨a, ha, e⟩ := c
    rcases sign_at (p := p) h (k := 97 + a) (by omega) (by omega) with ⟨q1, q2, q3⟩ | ⟨q1, -⟩
    · rw [if_pos q2] at q1 q3
      exact Or.inl ⟨a, ha, q2, q1, q3⟩
    · exact absurd e q1
  · refine Or.inr ⟨fun a ha q => c ⟨a, ha, q⟩, fun a ha q => ?_⟩
    rcases sign_at (p := p) h (k := 97 + a) (by omega) (by omega) with ⟨q1, -, -⟩ | ⟨-, q2⟩
    · exact c ⟨a, ha, q1⟩
    · exact q2 q
/-- a letter is next in both, or in neither -/
theorem letter_b {N : Nat} (hN : 8589934592 ≤ N) {s t : Mem} {len p : Nat} (h : tx len s t) (hp : p ≤ len) (h2 : gI s 2 0 = nI p) (h8 : gI t 8 0 = nI p) (hg : gI t 10 0 = 1) : ∃ p' s' t', p ≤ p' ∧ p' ≤ len ∧ fr [2] [] s s' ∧ fr [8] [] t t' ∧ gI s' 2 0 = nI p' ∧ gI t' 8 0 = nI p' ∧ ((∃ a, a < 8 ∧ p' < len ∧ gI t 6 p' = nI (97 + a) ∧ f_Sg_nextLetter N s = some (nI a, s') ∧ f_M_isLetterNext N t = some (1, t')) ∨ (f_Sg_nextLetter N s = some (-1, s') ∧ f_M_isLetterNext N t = some (0, t'))) := by
  obtain ⟨p', s', t', g1, g2, e1, e2, f1, f2, v1, v2⟩ := next_b hN h hp h2 h8
  refine ⟨p', s', t', g1, g2, f1, f2, v1, v2, ?_⟩
  have hl := h.1
  have hg0 : ¬ gI t 10 0 = 0 := by rw [hg]; decide
  have z48 : (97 : Int64).toInt = 97 := by decide
  have z57 : (104 : Int64).toInt = 104 := by decide
  have o97 : (97 : Int32).toInt = 97 := by decide
  have o105 : (105 : Int32).toInt = 105 := by decide
  have t7 : gI t' 7 0 = nI len := by rw [f2.1 7 (by decide)]; exact h.2.2.1
  rcases letter_at (p := p') h with ⟨a, ha, q1, q2, q3⟩ | ⟨q1, q2⟩
  · left
    refine ⟨a, ha, q1, q3, ?_, ?_⟩
    · unfold f_Sg_nextLetter
      rw [e1, ob2_s, if_pos q1, q2]
      rw [if_neg (by rw [i_lt, nI_toInt (by omega), o97]; omega), if_neg (by rw [i_le, nI_toInt (by omega), o105]; omega)]
      congr 2
      have : (97 : Int32) = nI 97 := rfl
      rw [this, pk_sub (by omega)]
      congr 1
      omega
    · unfold f_M_isLetterNext
      rw [if_neg hg0, e2, ob2_s, if_pos q1, q3, min_iff, i64, z48, z57, nI_toInt (by omega), if_pos (show (97 : Int) ≤ ((97 + a : Nat) : Int) ∧ ((97 + a : Nat) : Int) ≤ 104 by omega), if_neg n10, t7, v2, if_neg (by rw [nle (by omega) (by omega)]; omega)]
  · right
    constructor
    · unfold f_Sg_nextLetter
      rw [e1, ob2_s]
      by_cases c1 : (if p' < len then gI s 12 p' else -1) < 97
      · rw [if_pos c1]
      · rw [if_neg c1]
        by_cases c2 : (105 : Int32) ≤ (if p' < len then gI s 12 p' else -1)
        · rw [if_pos c2]
        · exfalso
          rw [i_lt] at c1
          rw [i_le] at c2
          obtain ⟨k, ek, k1, k2, -⟩ := rg_ex (a := 97) (b := 104) (x := (if p' < len then gI s 12 p' else -1)) ⟨by omega, by omega⟩ (by decide)
          exact q1 (k - 97) (by omega) (by rw [ek]; congr 1; omega)
    · unfold f_M_isLetterNext
      rw [if_neg hg0, e2, ob2_s, min_iff, i64, z48, z57]
      by_cases c1 : 97 ≤ (if p' < len then gI t 6 p' else 0).toInt ∧ (if p' < len then gI t 6 p' else 0).toInt ≤ 104
      · exfalso
        obtain ⟨k, ek, k1, k2, -⟩ := rg_ex (a := 97) (b := 104) (x := (if p' < len then gI t 6 p' else 0)) c1 (by decide)
        exact q2 (k - 97) (by omega) (by rw [ek]; congr 1; omega)
      · rw [if_neg c1, if_pos z00]
