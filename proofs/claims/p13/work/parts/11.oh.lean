/-! lines of a proof judged, the reference -/
def MLl (s : Mem) (l : Nat) (p : Nat → Nat) : Prop := l ≤ 151 ∧ gI s 32 0 = nI l ∧ gI s 31 0 = nI (p l) ∧ (∀ i, i < l → gI s 29 i = nI (p i)) ∧ (∀ i, i < l → mln s (gI s 30 i) (p i) (p (i + 1))) ∧ p l ≤ 300
theorem MLl_le {s : Mem} {l : Nat} {p : Nat → Nat} (hl : MLl s l p) {i : Nat} (hi : i ≤ l) : p i ≤ 300 := by
  have key : ∀ d, i + d ≤ l → p i ≤ p (i + d) := by
    intro d
    induction d with
    | zero => intro _; exact Nat.le_refl _
    | succ d ih =>
      intro hd
      have h1 := ih (by omega)
      have h2 := (hl.2.2.2.2.1 (i + d) (by omega)).1
      have e : i + (d + 1) = i + d + 1 := by omega
      rw [e]
      omega
  have := key (l - i) (by omega)
  have e : i + (l - i) = l := by omega
  rw [e] at this
  have := hl.2.2.2.2.2
  omega
theorem MLl_k {s t : Mem} {S J : List Nat} (h : KM S J s t) (h28 : 28 ∉ S) (h29 : 29 ∉ S) (h30 : 30 ∉ S) (h31 : 31 ∉ S) (h32 : 32 ∉ S) {l : Nat} {p : Nat → Nat} (hl : MLl s l p) : MLl t l p := by
  obtain ⟨g1, g2, g3, g4, g5, g6⟩ := hl
  exact ⟨g1, by rw [h.2.1 32 h32]; exact g2, by rw [h.2.1 31 h31]; exact g3, fun i hi => by rw [h.2.1 29 h29]; exact g4 i hi, fun i hi => by rw [h.2.1 30 h30]; exact mln_cp (cp_k h h28 _) (Nat.le_refl _) (g5 i hi), g6⟩
theorem lineEnd_e {s : Mem} {l : Nat} {p : Nat → Nat} (hl : MLl s l p) {i : Nat} (hi : i < l) : f_M_lineEnd (nI i) s = some (nI (p (i + 1))) := by
  obtain ⟨g1, g2, g3, g4, g5, g6⟩ := hl
  unfold f_M_lineEnd
  rw [g2, nadd1]
  by_cases h : l ≤ i + 1
  · rw [if_pos ((nle (by omega) (by omega)).mpr h), g3]
    have : i + 1 = l := by omega
    rw [this]
  · rw [if_neg (fun q => h ((nle (by omega) (by omega)).mp q)), gd_t (inb_nI (by omega) (by decide)), nI_clamp (by omega), g4 _ (by omega)]
theorem lettersOf_s {N : Nat} (hN : 8589934592 ≤ N) {s : Mem} {l : Nat} {p : Nat → Nat} (hl : MLl s l p) {i : Nat} (hi : i < l) : tot (f_M_lettersOf N (nI i) s) (fun _ => True) := by
  have e3 := MLl_le hl (i := i + 1) (by omega)
  have b0 := (hl.2.2.2.2.1 i hi).1
  have hl1 := hl.1
  unfold f_M_lettersOf
  refine t_gd (inb_nI (by omega) (by decide)) ?_
  rw [nI_clamp (by omega), hl.2.2.2.1 i hi]
  refine t_bnd ?_
  refine t_it2 (fun _ x => ∃ j, p i ≤ j ∧ j ≤ 300 ∧ x = nI j) (fun _ x => 301 - x.toNatClampNeg) ?_ _ _ _ ⟨p i, by omega, by omega, rfl⟩ (Nat.lt_of_le_of_lt (Nat.sub_le _ _) (by omega))
  rintro self i2 _ ⟨j, hj1, hj2, rfl⟩ ih
  unfold M_lettersOf_B9
  rw [lineEnd_e hl hi, ob_s]
  refine t_if (fun _ => t_some trivial) (fun h => ?_)
  have hje : j < p (i + 1) := by
    rw [nle (by omega) (by omega)] at h
    omega
  have g : inb (nI j) 300 = true := inb_nI (by omega) (by decide)
  have dec : 301 - (nI (j + 1)).toNatClampNeg < 301 - (nI j).toNatClampNeg := by
    rw [nI_clamp (by omega), nI_clamp (by omega)]
    omega
  rw [nadd1]
  exact t_gd g (t_if (fun _ => t_bnd (ih _ _ ⟨j + 1, by omega, by omega, rfl⟩ dec)) (fun _ => t_gd g (t_bnd (ih _ _ ⟨j + 1, by omega, by omega, rfl⟩ dec))))
theorem hasTwice_s {N : Nat} (hN : 8589934592 ≤ N) {s : Mem} {l : Nat} {p : Nat → Nat} (hl : MLl s l p) {i : Nat} (hi : i < l) : tot (f_M_hasTwice N (nI i) s) (fun _ => True) := by
  have e3 := MLl_le hl (i := i + 1) (by omega)
  have b0 := (hl.2.2.2.2.1 i hi).1
  have hl1 := hl.1
  unfold f_M_hasTwice
  refine t_gd (inb_nI (by omega) (by decide)) ?_
  rw [nI_clamp (by omega), hl.2.2.2.1 i hi]
  refine t_bnd ?_
  refine t_it2 (fun _ x => ∃ j, p i ≤ j ∧ j ≤ 300 ∧ x = nI j) (fun _ x => 301 - x.toNatClampNeg) ?_ _ _ _ ⟨p i, by omega, by omega, rfl⟩ (Nat.lt_of_le_of_lt (Nat.sub_le _ _) (by omega))
  rintro self i2 _ ⟨j, hj1, hj2, rfl⟩ ih
  unfold M_hasTwice_B9
  rw [lineEnd_e hl hi, ob_s]
  refine t_if (fun _ => ?_) (fun h => ?_)
  · unfold M_hasTwice_K43
    refine t_ob _ (lettersOf_s hN hl hi) (fun r3 _ => t_ob _ (M_sizeOf_t hN) (fun r4 _ => ?_))
    exact t_if (fun _ => t_some trivial) (fun _ => t_some trivial)
  · have hje : j < p (i + 1) := by
      rw [nle (by omega) (by omega)] at h
      omega
    have g : inb (nI j) 300 = true := inb_nI (by omega) (by decide)
    have dec : 301 - (nI (j + 1)).toNatClampNeg < 301 - (nI j).toNatClampNeg := by
      rw [nI_clamp (by omega), nI_clamp (by omega)]
      omega
    rw [nadd1]
    exact t_gd g (t_if (fun _ => t_bnd (ih _ _ ⟨j + 1, by omega, by omega, rfl⟩ dec)) (fun _ => t_bnd (ih _ _ ⟨j + 1, by omega, by omega, rfl⟩ dec)))
theorem sumOf_s {N : Nat} (hN : 8589934592 ≤ N) {s : Mem} {l : Nat} {p : Nat → Nat} (hl : MLl s l p) {i : Nat} (hi : i < l) : tot (f_M_sumOf N (nI i) s) (fun _ => True) := by
  have e3 := MLl_le hl (i := i + 1) (by omega)
  have b0 := (hl.2.2.2.2.1 i hi).1
  have hl1 := hl.1
  unfold f_M_sumOf
  refine t_gd (inb_nI (by omega) (by decide)) ?_
  rw [nI_clamp (by omega), hl.2.2.2.1 i hi]
  refine t_bnd ?_
  refine t_it2 (fun _ x => ∃ j, p i ≤ j ∧ j ≤ 300 ∧ x = nI j) (fun _ x => 301 - x.toNatClampNeg) ?_ _ _ _ ⟨p i, by omega, by omega, rfl⟩ (Nat.lt_of_le_of_lt (Nat.sub_le _ _) (by omega))
  rintro self i2 _ ⟨j, hj1, hj2, rfl⟩ ih
  unfold M_sumOf_B9
  rw [lineEnd_e hl hi, ob_s]
  refine t_if (fun _ => t_some trivial) (fun h => ?_)
  have hje : j < p (i + 1) := by
    rw [nle (by omega) (by omega)] at h
    omega
  have g : inb (nI j) 300 = true := inb_nI (by omega) (by decide)
  have dec : 301 - (nI (j + 1)).toNatClampNeg < 301 - (nI j).toNatClampNeg := by
    rw [nI_clamp (by omega), nI_clamp (by omega)]
    omega
  rw [nadd1]
  exact t_gd g (t_if (fun _ => t_bnd (ih _ _ ⟨j + 1, by omega, by omega, rfl⟩ dec)) (fun _ => t_gd g (t_bnd (ih _ _ ⟨j + 1, by omega, by omega, rfl⟩ dec))))
theorem beats_c {s : Mem} (hm : InvM s) {x : Int32} (h : rg 0 7 x) : tot (f_M_beats x s) (fun r => rg 0 255 r) := M_beats_t (rg_w h (by decide)) hm
theorem isOtherWay_s {N : Nat} (hN : 8589934592 ≤ N) {s : Mem} (hm : InvM s) {l : Nat} {p : Nat → Nat} (hl : MLl s l p) {i : Nat} (hi : i < l) : tot (f_M_isOtherWay N (nI i) s) (fun r => rg 0 1 r) := by
  have e3 := MLl_le hl (i := i + 1) (by omega)
  obtain ⟨b0, m107, -, m117, -⟩ := hl.2.2.2.2.1 i hi
  have hl1 := hl.1
  have gi : inb (nI i) 152 = true := inb_nI (by omega) (by decide)
  have ci : (nI i).toNatClampNeg = i := nI_clamp (by omega)
  have r01 : ∀ c : Prop, ∀ d : Decidable c, tot (@ite _ c d (some (1 : Int32)) (some (0 : Int32))) (fun r => rg 0 1 r) := fun c d => t_if (fun _ => t_some (by decide)) (fun _ => t_some (by decide))
  unfold f_M_isOtherWay
  refine t_gd gi ?_
  rw [ci, hl.2.2.2.1 i hi]
  refine t_bnd ?_
  rw [lineEnd_e hl hi, ob_s]
  refine t_gd gi (t_if (fun h117 => ?_) (fun h117 => ?_))
  · obtain ⟨g1, g2⟩ := m117 h117
    have c0 : rg 0 7 (gI s 28 (p i)) := g2 (p i) (by omega) (by omega)
    refine t_if (fun _ => ?_) (fun hd => ?_)
    · refine t_gd (inb_nI (by omega) (by decide)) ?_
      rw [nI_clamp (by omega), nadd1]
      exact t_ob _ (beats_c hm c0) (fun r13 _ => t_gd (inb_nI (by omega) (by decide)) (r01 _ _))
    · have e4 : p (i + 1) = p i + 3 := by
        rcases g1 with e1 | e1
        · exfalso
          apply hd
          rw [e1, ← nI_add]
          have : nI (p i) + nI 2 - nI (p i) = nI 2 := by rw [Int32.add_comm, Int32.add_sub_cancel]
          rw [this]
          rfl
        · exact e1
      have c2 : rg 0 7 (gI s 28 (p i + 2)) := g2 (p i + 2) (by omega) (by omega)
      refine t_gd (inb_nI (by omega) (by decide)) ?_
      rw [nI_clamp (by omega), nadd1, l2, nI_add, nI_clamp (by omega)]
      refine t_ob _ (beats_c hm c0) (fun r11 _ => t_gd (inb_nI (by omega) (by decide)) (t_if (fun _ => t_some (by decide)) (fun _ => ?_)))
      exact t_gd (inb_nI (by omega) (by decide)) (t_ob _ (beats_c hm c2) (fun r12 _ => t_gd (inb_nI (by omega) (by decide)) (r01 _ _)))
  · refine t_it2 (fun f x => rg 0 1 f ∧ ∃ j, p i ≤ j ∧ j ≤ 300 ∧ x = nI j) (fun _ x => 301 - x.toNatClampNeg) ?_ _ _ _ ⟨by decide, p i, by omega, by omega, rfl⟩ (Nat.lt_of_le_of_lt (Nat.sub_le _ _) (by omega))
    rintro self f _ ⟨ff, j, hj1, hj2, rfl⟩ ih
    unfold M_isOtherWay_B123
    refine t_if (fun _ => t_gd (isb_rg ff) (t_some ff)) (fun h => ?_)
    have hje : j < p (i + 1) := by
      rw [nle (by omega) (by omega)] at h
      omega
    rw [ci]
    refine t_gd gi (t_if (fun h107 => ?_) (fun _ => t_gd (isb_rg ff) (t_some ff)))
    have lt := m107 h107
    refine t_bnd ?_
    rw [nadd1]
    refine t_it2 (fun f x => rg 0 1 f ∧ ∃ k, j < k ∧ k ≤ 300 ∧ x = nI k) (fun _ x => 301 - x.toNatClampNeg) ?_ _ _ _ ⟨ff, j + 1, by omega, by omega, rfl⟩ (Nat.lt_of_le_of_lt (Nat.sub_le _ _) (by omega))
    rintro self2 f2 _ ⟨ff2, k, hk1, hk2, rfl⟩ ih2
    unfold M_isOtherWay_B146
    refine t_if (fun _ => ?_) (fun h2 => ?_)
    · rw [nadd1]
      refine ih _ _ ⟨ff2, j + 1, by omega, by omega, rfl⟩ ?_
      rw [nI_clamp (by omega), nI_clamp (by omega)]
      omega
    · have hke : k < p (i + 1) := by
        rw [nle (by omega) (by omega)] at h2
        omega
      have dec : 301 - (nI (k + 1)).toNatClampNeg < 301 - (nI k).toNatClampNeg := by
        rw [nI_clamp (by omega), nI_clamp (by omega)]
        omega
      rw [nadd1]
      have nx : ∀ v, rg 0 1 v → tot (self2 v (nI (k + 1))) (fun r => rg 0 1 r) := fun v fv => ih2 _ _ ⟨fv, k + 1, by omega, by omega, rfl⟩ dec
      refine t_if (fun _ => t_gd (inb_nI (by omega) (by decide)) ?_) (fun _ => nx _ (by decide))
      rw [nI_clamp (by omega)]
      exact t_ob _ (beats_c hm (lt j (by omega) hje)) (fun r10 _ => t_gd (inb_nI (by omega) (by decide)) (t_if (fun _ => nx _ (by decide)) (fun _ => nx _ (by decide))))
theorem isTopped_s {N : Nat} (hN : 8589934592 ≤ N) {s : Mem} (hm : InvM s) {l : Nat} {p : Nat → Nat} (hl : MLl s l p) {i : Nat} (hi : i < l) : tot (f_M_isTopped N (nI i) s) (fun r => rg 0 1 r) := by
  unfold f_M_isTopped
  refine t_it2 (fun f x => rg 0 1 f ∧ rg 0 8 x) (fun _ x => (8 - x.toInt).toNat) ?_ _ _ _ ⟨by decide, by decide⟩ (ms_u0 hN _ (by decide))
  rintro self f x ⟨ff, fx⟩ ih
  unfold M_isTopped_B4
  refine t_if (fun _ => t_gd (isb_rg ff) (t_some ff)) (fun h => ?_)
  have f7 := rg_ltL (lo := 0) (hi := 7) (i_nle h) fx hm.n1 (by decide)
  have nx : ∀ v, rg 0 1 v → tot (self v (x + 1)) (fun r => rg 0 1 r) := fun v fv => ih _ _ ⟨fv, rg_w (lo := 0) (hi := 8) (rg_add (lo := 1) (hi := 8) f7 (by decide : rg 1 1 (1 : Int32)) (by decide)) (by decide)⟩ (ms_up f7 (by decide : rg 1 1 (1 : Int32)) (by decide))
  refine t_if (fun _ => ?_) (fun _ => nx _ (by decide))
  exact t_ob _ (lettersOf_s hN hl hi) (fun r4 _ => t_ob _ (beats_c hm f7) (fun r5 _ => t_if (fun _ => nx _ (by decide)) (fun _ => nx _ (by decide))))
theorem isOtherWeights_s {N : Nat} (hN : 8589934592 ≤ N) {s : Mem} (hm : InvM s) {l : Nat} {p : Nat → Nat} (hl : MLl s l p) {i : Nat} (hi : i < l) (hk : gI s 30 i = 119) : tot (f_M_isOtherWeights N (nI i) s) (fun q => rg 0 1 q.1 ∧ KM [20, 21] [] s q.2) := by
  unfold f_M_isOtherWeights
  refine t_ob2 (fun r t => rg 0 255 r ∧ KM [20, 21] [] s t) (M_balanced_t hN (al_rg hm) hm) (fun r2 s1 ⟨_, k1⟩ => ?_)
  have hl1 := MLl_k k1 (by decide) (by decide) (by decide) (by decide) (by decide) hl
  have hk1 : gI s1 30 i = 119 := by rw [k1.2.1 30 (by decide)]; exact hk
  have e3 := MLl_le hl1 (i := i + 1) (by omega)
  have li := hl1.1
  obtain ⟨b0, -, -, -, m119⟩ := hl1.2.2.2.2.1 i hi
  obtain ⟨m, e2, lt⟩ := m119 hk1
  have h146 : ∀ y6 y7, tot (M_isOtherWeights_K146 s1 r2 y6 y7) (fun q => rg 0 1 q.1 ∧ KM [20, 21] [] s q.2) := by
    intro y6 y7
    unfold M_isOtherWeights_K146
    exact t_if (fun _ => t_if (fun _ => t_some ⟨(by decide : rg 0 1 (1 : Int32)), k1⟩) (fun _ => t_some ⟨(by decide : rg 0 1 (0 : Int32)), k1⟩)) (fun _ => t_some ⟨(by decide : rg 0 1 (1 : Int32)), k1⟩)
  have h52 : ∀ y3, tot (M_isOtherWeights_K52 N s1 (nI i) r2 y3) (fun q => rg 0 1 q.1 ∧ KM [20, 21] [] s q.2) := by
    intro y3
    unfold M_isOtherWeights_K52
    refine t_ob _ (sumOf_s hN hl1 hi) (fun r4 _ => t_gd (inb_nI (by omega) (by decide)) ?_)
    rw [nI_clamp (by omega), hl1.2.2.2.1 i hi]
    refine t_bnd ?_
    refine t_it3 (fun _ _ x => ∃ j, j ≤ m ∧ x = nI (p i + 2 * j)) (fun _ _ x => 700 - x.toNatClampNeg) ?_ _ _ _ _ ⟨0, by omega, rfl⟩ (Nat.lt_of_le_of_lt (Nat.sub_le _ _) (by omega))
    rintro self i8 i9 _ ⟨j, hj, rfl⟩ ih
    unfold M_isOtherWeights_B73
    rw [lineEnd_e hl1 hi, ob_s]
    refine t_if (fun _ => h146 _ _) (fun h => ?_)
    have hjm : j < m := by
      rw [nle (by omega) (by omega)] at h
      omega
    have e4 : nI (p i + 2 * j) + 2 = nI (p i + 2 * (j + 1)) := by
      rw [l2, nI_add]
      congr 1
    have dec : 700 - (nI (p i + 2 * (j + 1))).toNatClampNeg < 700 - (nI (p i + 2 * j)).toNatClampNeg := by
      rw [nI_clamp (by omega), nI_clamp (by omega)]
      omega
    refine t_gd (inb_nI (by omega) (by decide)) ?_
    rw [nI_clamp (by omega), e4, nadd1]
    refine t_bnd (t_bnd ?_)
    have nx : ∀ a b, tot (self a b (nI (p i + 2 * (j + 1)))) (fun q => rg 0 1 q.1 ∧ KM [20, 21] [] s q.2) := fun a b => ih _ _ _ ⟨j + 1, by omega, rfl⟩ dec
    exact t_if (fun _ => t_gd (inb_nI (by omega) (by decide)) (t_gd (inb_rg (lt j hjm) (by decide)) (t_if (fun _ => nx _ _) (fun _ => nx _ _)))) (fun _ => nx _ _)
  refine t_it2 (fun _ x => rg 0 8 x) (fun _ x => (8 - x.toInt).toNat) ?_ _ _ _ (by decide) (ms_u0 hN _ (by decide))
  rintro self f x fx ih
  unfold M_isOtherWeights_B14
  refine t_if (fun _ => h52 _) (fun h => ?_)
  have f7 := rg_ltL (lo := 0) (hi := 7) (i_nle h) fx k1.1.n1 (by decide)
  have nx : ∀ v, tot (self v (x + 1)) (fun q => rg 0 1 q.1 ∧ KM [20, 21] [] s q.2) := fun v => ih _ _ (rg_w (lo := 0) (hi := 8) (rg_add (lo := 1) (hi := 8) f7 (by decide : rg 1 1 (1 : Int32)) (by decide)) (by decide)) (ms_up f7 (by decide : rg 1 1 (1 : Int32)) (by decide))
  exact t_if (fun _ => t_bnd (nx _)) (fun _ => t_gd (inb_rg f7 (by decide)) (t_bnd (nx _)))
theorem isOtherOrder_s {N : Nat} (hN : 8589934592 ≤ N) {s : Mem} (hm : InvM s) {l : Nat} {p : Nat → Nat} (hl : MLl s l p) {i : Nat} (hi : i < l) (hk : gI s 30 i = 115) : tot (f_M_isOtherOrder N (nI i) s) (fun q => rg 0 1 q.1 ∧ KM [18, 19] [] s q.2) := by
  have e3 := MLl_le hl (i := i + 1) (by omega)
  have li := hl.1
  obtain ⟨b0, -, m115, -, -⟩ := hl.2.2.2.2.1 i hi
  obtain ⟨e2, lt⟩ := m115 hk
  unfold f_M_isOtherOrder
  refine t_gd (inb_nI (by omega) (by decide)) ?_
  rw [nI_clamp (by omega), hl.2.2.2.1 i hi, nadd1]
  refine t_bnd ?_
  have h84 : ∀ y, tot (M_isOtherOrder_K84 N s (nI (p i + 1)) y) (fun q => rg 0 1 q.1 ∧ KM [18, 19] [] s q.2) := by
    intro y
    unfold M_isOtherOrder_K84
    refine t_ob _ (M_layOrders_t hN hm) (fun s3 k3 => ?_)
    rw [nsub1' (by omega)]
    exact t_gd (inb_nI (by omega) (by decide)) (t_if (fun _ => t_gd (inb_rg (al_rg k3.1) (by decide)) (t_if (fun _ => t_some ⟨(by decide : rg 0 1 (0 : Int32)), k3⟩) (fun _ => t_some ⟨(by decide : rg 0 1 (1 : Int32)), k3⟩))) (fun _ => t_some ⟨(by decide : rg 0 1 (1 : Int32)), k3⟩))
  refine t_it2 (fun _ x => ∃ j, p i < j ∧ j ≤ 301 ∧ x = nI j) (fun _ x => 302 - x.toNatClampNeg) ?_ _ _ _ ⟨p i + 1, by omega, by omega, rfl⟩ (Nat.lt_of_le_of_lt (Nat.sub_le _ _) (by omega))
  rintro self f _ ⟨j, hj1, hj2, rfl⟩ ih
  unfold M_isOtherOrder_B14
  rw [lineEnd_e hl hi, ob_s]
  refine t_if (fun _ => h84 _) (fun h => t_bnd ?_)
  have hje : j < p (i + 1) := by
    rw [nle (by omega) (by omega)] at h
    omega
  rw [nadd1]
  refine t_it2 (fun _ x => ∃ k, j < k ∧ k ≤ 301 ∧ x = nI k) (fun _ x => 302 - x.toNatClampNeg) ?_ _ _ _ ⟨j + 1, by omega, by omega, rfl⟩ (Nat.lt_of_le_of_lt (Nat.sub_le _ _) (by omega))
  rintro self2 f2 _ ⟨k, hk1, hk2, rfl⟩ ih2
  unfold M_isOtherOrder_B30
  rw [lineEnd_e hl hi, ob_s]
  refine t_if (fun _ => ?_) (fun h2 => ?_)
  · rw [nadd1]
    refine ih _ _ ⟨j + 1, by omega, by omega, rfl⟩ ?_
    rw [nI_clamp (by omega), nI_clamp (by omega)]
    omega
  · have hke : k < p (i + 1) := by
      rw [nle (by omega) (by omega)] at h2
      omega
    have dec : 302 - (nI (k + 1)).toNatClampNeg < 302 - (nI k).toNatClampNeg := by
      rw [nI_clamp (by omega), nI_clamp (by omega)]
      omega
    rw [nadd1]
    have nx : ∀ v, tot (self2 v (nI (k + 1))) (fun q => rg 0 1 q.1 ∧ KM [18, 19] [] s q.2) := fun v => ih2 _ _ ⟨k + 1, by omega, by omega, rfl⟩ dec
    refine t_gd (inb_nI (by omega) (by decide)) ?_
    rw [nI_clamp (by omega)]
    exact t_ob _ (beats_c hm (lt k (by omega) hke)) (fun r13 _ => t_gd (inb_nI (by omega) (by decide)) (t_if (fun _ => t_bnd (nx _)) (fun _ => t_bnd (nx _))))
abbrev xS : List Nat := [18, 19, 20, 21, 22, 23]
theorem isOther_s {N : Nat} (hN : 8589934592 ≤ N) {s : Mem} (hm : InvM s) {l : Nat} {p : Nat → Nat} (hl : MLl s l p) {i : Nat} (hi : i < l) {L : Int32} (hL : f_M_lettersOf N (nI i) s = some L) (fL : rg 0 255 L) : tot (f_M_isOther N (nI i) s) (fun q => rg 0 1 q.1 ∧ KM xS [] s q.2) := by
  have li := hl.1
  have z0 : rg 0 1 (0 : Int32) := by decide
  have z1 : rg 0 1 (1 : Int32) := by decide
  unfold f_M_isOther
  refine t_gd (inb_nI (by omega) (by decide)) ?_
  rw [nI_clamp (by omega), hL]
  refine t_sw1 (fun _ => ?_) (fun _ => t_sw1 (fun _ => ?_) (fun _ => t_sw1 (fun hk => ?_) (fun _ => t_sw1 (fun hk => ?_) (fun _ => t_sw0 (t_some ⟨z0, km_r hm⟩)))))
  · rw [ob_s]
    refine t_ob2 (fun r t => rg 0 1 r ∧ KM [22, 23] [] s t) (M_isSo_t hN fL (by decide) hm) (fun r3 s2 ⟨_, k2⟩ => ?_)
    have k2' := km_t (S := xS) (J := []) (km_r hm) k2 (by decide) (by decide)
    exact t_if (fun _ => t_some ⟨z1, k2'⟩) (fun _ => t_some ⟨z0, k2'⟩)
  · rw [ob_s]
    refine t_ob2 (fun r t => rg 0 1 r ∧ KM [22, 23] [] s t) (M_isSo_t hN fL (by decide) hm) (fun r3 s2 ⟨_, k2⟩ => ?_)
    have k2' := km_t (S := xS) (J := []) (km_r hm) k2 (by decide) (by decide)
    exact t_if (fun _ => t_some ⟨z1, k2'⟩) (fun _ => t_some ⟨z0, k2'⟩)
  · refine t_ob2 (fun r t => rg 0 1 r ∧ KM [18, 19] [] s t) (isOtherOrder_s hN hm hl hi hk) (fun r8 s7 ⟨f8, k7⟩ => ?_)
    exact t_gd (isb_rg f8) (t_some ⟨f8, km_t (km_r hm) k7 (by decide) (by decide)⟩)
  · refine t_ob2 (fun r t => rg 0 1 r ∧ KM [20, 21] [] s t) (isOtherWeights_s hN hm hl hi hk) (fun r8 s7 ⟨f8, k7⟩ => ?_)
    exact t_gd (isb_rg f8) (t_some ⟨f8, km_t (km_r hm) k7 (by decide) (by decide)⟩)
theorem areAlike_s {N : Nat} (hN : 8589934592 ≤ N) {s : Mem} {l : Nat} {p : Nat → Nat} (hl : MLl s l p) {i k : Nat} (hi : i < l) (hk : k < l) : tot (f_M_areAlike N (nI i) (nI k) s) (fun r => rg 0 1 r) := by
  have li := hl.1
  have ei := MLl_le hl (i := i + 1) (by omega)
  have ek := MLl_le hl (i := k + 1) (by omega)
  have bi := (hl.2.2.2.2.1 i hi).1
  have bk := (hl.2.2.2.2.1 k hk).1
  have gi : inb (nI i) 152 = true := inb_nI (by omega) (by decide)
  have gk : inb (nI k) 152 = true := inb_nI (by omega) (by decide)
  have h47 : ∀ v, rg 0 1 v → (v = 0 ∨ p (i + 1) - p i = p (k + 1) - p k) → tot (M_areAlike_J47 N s (nI i) (nI k) v) (fun r => rg 0 1 r) := by
    intro v fv hv
    unfold M_areAlike_J47
    refine t_it2 (fun f x => rg 0 1 f ∧ (f = 0 ∨ p (i + 1) - p i = p (k + 1) - p k) ∧ ∃ j, j ≤ p (i + 1) - p i ∧ x = nI j) (fun _ x => 301 - x.toNatClampNeg) ?_ _ _ _ ⟨fv, hv, 0, by omega, rfl⟩ (by rw [n0]; omega)
    rintro self f _ ⟨ff, hf, j, hj, rfl⟩ ih
    unfold M_areAlike_B51
    rw [lineEnd_e hl hi, ob_s, nI_clamp (by omega), nI_clamp (by omega), hl.2.2.2.1 i hi, hl.2.2.2.1 k hk, pk_sub (by omega), nI_add, nI_add, nadd1]
    refine t_gd gi (t_if (fun _ => t_gd (isb_rg ff) (t_some ff)) (fun h => t_if (fun _ => t_gd (isb_rg ff) (t_some ff)) (fun h0 => ?_)))
    have hj' : j < p (i + 1) - p i := by
      rw [nle (by omega) (by omega)] at h
      omega
    have hlen : p (i + 1) - p i = p (k + 1) - p k := by
      rcases hf with e | e
      · exact absurd e h0
      · exact e
    have dec : 301 - (nI (j + 1)).toNatClampNeg < 301 - (nI j).toNatClampNeg := by
      rw [nI_clamp (by omega), nI_clamp (by omega)]
      omega
    refine t_gd gi (t_gd (inb_nI (by omega) (by decide)) (t_gd gk (t_gd (inb_nI (by omega) (by decide)) ?_)))
    exact t_if (fun _ => ih _ _ ⟨by decide, Or.inr hlen, j + 1, by omega, rfl⟩ dec) (fun _ => ih _ _ ⟨by decide, Or.inl rfl, j + 1, by omega, rfl⟩ dec)
  have h46 : tot (M_areAlike_J46 N s (nI i) (nI k)) (fun r => rg 0 1 r) := by
    unfold M_areAlike_J46
    exact h47 _ (by decide) (Or.inl rfl)
  unfold f_M_areAlike
  refine t_gd gi (t_gd gk (t_if (fun _ => ?_) (fun _ => h46)))
  rw [lineEnd_e hl hi, ob_s, lineEnd_e hl hk]
  refine t_gd gi ?_
  rw [ob_s, nI_clamp (by omega), nI_clamp (by omega), hl.2.2.2.1 i hi, hl.2.2.2.1 k hk, pk_sub (by omega), pk_sub (by omega)]
  refine t_gd gk (t_if (fun h => h47 _ (by decide) (Or.inr ?_)) (fun _ => h46))
  have e1 : (nI (p (i + 1) - p i)).toInt = (nI (p (k + 1) - p k)).toInt := by rw [h]
  rw [nI_toInt (by omega), nI_toInt (by omega)] at e1
  omega
theorem wasSaid_s {N : Nat} (hN : 8589934592 ≤ N) {s : Mem} {l : Nat} {p : Nat → Nat} (hl : MLl s l p) {i : Nat} (hi : i < l) : tot (f_M_wasSaid N (nI i) s) (fun r => rg 0 1 r) := by
  have li := hl.1
  unfold f_M_wasSaid
  refine t_it2 (fun f x => rg 0 1 f ∧ ∃ j, j ≤ i ∧ x = nI j) (fun _ x => 301 - x.toNatClampNeg) ?_ _ _ _ ⟨by decide, 0, by omega, rfl⟩ (by rw [n0]; omega)
  rintro self f _ ⟨ff, j, hj, rfl⟩ ih
  unfold M_wasSaid_B4
  refine t_if (fun _ => t_gd (isb_rg ff) (t_some ff)) (fun h => ?_)
  have hj' : j < i := by
    rw [nle (by omega) (by omega)] at h
    omega
  have dec : 301 - (nI (j + 1)).toNatClampNeg < 301 - (nI j).toNatClampNeg := by
    rw [nI_clamp (by omega), nI_clamp (by omega)]
    omega
  rw [nadd1]
  have nx : ∀ v, rg 0 1 v → tot (self v (nI (j + 1))) (fun r => rg 0 1 r) := fun v fv => ih _ _ ⟨fv, j + 1, by omega, rfl⟩ dec
  exact t_if (fun _ => t_ob _ (areAlike_s hN hl hi (by omega)) (fun r4 _ => t_if (fun _ => nx _ (by decide)) (fun _ => nx _ (by decide)))) (fun _ => nx _ (by decide))
theorem whyWrong_s {N : Nat} (hN : 8589934592 ≤ N) {s : Mem} (hm : InvM s) {l : Nat} {p : Nat → Nat} (hl : MLl s l p) {i : Nat} (hi : i < l) : tot (f_M_whyWrong N (nI i) s) (fun q => KM xS [] s q.2) := by
  have li := hl.1
  have k0 : KM xS [] s s := km_r hm
  obtain ⟨L, hL, -⟩ := lettersOf_s hN hl hi
  unfold f_M_whyWrong
  refine t_gd (inb_nI (by omega) (by decide)) (t_bnd ?_)
  rw [hL, ob_s]
  refine t_if (fun _ => t_some k0) (fun hw => ?_)
  have fL : rg 0 255 L := c_wi hw (al_rg hm) (by decide)
  have h98 : tot (M_whyWrong_J98 N s (nI i)) (fun q => KM xS [] s q.2) := by
    unfold M_whyWrong_J98
    refine t_ob2 (fun r t => rg 0 1 r ∧ KM xS [] s t) (isOther_s hN hm hl hi hL fL) (fun r6 s5 ⟨_, k5⟩ => t_if (fun _ => ?_) (fun _ => t_some k5))
    have hl5 := MLl_k k5 (by decide) (by decide) (by decide) (by decide) (by decide) hl
    exact t_ob _ (wasSaid_s hN hl5 hi) (fun r7 _ => t_if (fun _ => t_some k5) (fun _ => t_some k5))
  refine t_ob _ (hasTwice_s hN hl hi) (fun r3 _ => t_if (fun _ => ?_) (fun _ => t_some k0))
  refine t_ob _ (isOtherWay_s hN hm hl hi) (fun r4 _ => t_if (fun _ => ?_) (fun _ => t_some k0))
  refine t_if (fun _ => ?_) (fun _ => t_if (fun _ => ?_) (fun _ => t_if (fun _ => ?_) (fun _ => h98)))
  · exact t_ob _ (isTopped_s hN hm hl hi) (fun r10 _ => t_if (fun _ => h98) (fun _ => t_some k0))
  · rw [ob_s]
    exact t_if (fun _ => h98) (fun _ => t_some k0)
  · exact t_ob _ (sumOf_s hN hl hi) (fun r8 _ => t_if (fun _ => t_some k0) (fun _ => h98))
theorem M_takes_bad {N : Nat} (hN : 8589934592 ≤ N) {c : Int32} {σ : Mem} (h : gI σ 10 0 = 0) (hm : InvM σ) : tot (f_M_takes N c σ) (fun q => q.1 = 0 ∧ KM [8] [] σ q.2) := by
  unfold f_M_takes
  rw [if_pos h]
  unfold M_takes_J30 M_takes_J31
  rw [if_pos rfl]
  unfold M_takes_J46
  have e : gI σ 8 0 + 0 = gI σ 8 0 := Int32.add_zero _
  rw [e]
  exact t_lm (KM [8] [] σ) (km_s (km_r hm) (by decide) (mS8 hm (hm.r8 0))) (fun t et kt => t_gd (by decide) (t_some ⟨rfl, kt⟩))
abbrev zS : List Nat := [0, 7, 8, 9, 10, 18, 19, 20, 21, 22, 23, 28, 29, 30, 31, 32, 33, 34, 35, 36, 37]
theorem M_judge_t {N : Nat} (hN : 8589934592 ≤ N) {σ : Mem} (hm : InvM σ) : tot (f_M_judge N σ) (fun q => KM zS [] σ q.2 ∧ gI q.2 7 0 = 0) := by
  unfold f_M_judge
  refine t_lm (KM zS [] σ) (km_s (km_r hm) (by decide) (mS0 hm)) (fun s1 e1 k1 => ?_)
  refine t_if (fun _ => ?_) (fun _ => ?_)
  · refine t_lm (KM zS [] σ) (km_s k1 (by decide) (mS7 k1.1 (by decide))) (fun s33 e33 k33 => t_some ⟨k33, ?_⟩)
    rw [e33, gI_sI, if_pos rfl, upd_ap, if_pos rfl]
  · refine t_lm (KM zS [] σ) (km_s k1 (by decide) (mS8 k1.1 (by decide))) (fun s2 e2 k2 => ?_)
    refine t_lm (KM zS [] σ) (km_s k2 (by decide) (mS10 k2.1 (by decide))) (fun s3 e3 k3 => ?_)
    refine t_lm (KM zS [] σ) (km_s k3 (by decide) (mS31 k3.1 (by decide))) (fun s4 e4 k4 => ?_)
    refine t_lm (KM zS [] σ) (km_s k4 (by decide) (mS32 k4.1 (by decide))) (fun s5 e5 k5 => ?_)
    -- judging
    have h82 : ∀ s, KM zS [] σ s → (gI s 10 0 = 0 ∨ ∃ l p, MLl s l p) → tot (M_judge_J82 N s) (fun q => KM zS [] σ q.2 ∧ gI q.2 7 0 = 0) := by
      intro s ks hs
      unfold M_judge_J82
      refine t_lm (KM [7] [] s) (km_s (km_r ks.1) (by decide) (mS7 ks.1 (by decide))) (fun s9 e9 k9 => ?_)
      have q7 : gI s9 7 0 = 0 := by rw [e9, gI_sI, if_pos rfl, upd_ap, if_pos rfl]
      have k9' := km_t (S := zS) (J := []) ks k9 (by decide) (by decide)
      refine t_if (fun _ => t_some ⟨k9', q7⟩) (fun hg => ?_)
      obtain ⟨l, p, hl⟩ : ∃ l p, MLl s l p := by
        rcases hs with e | e
        · rw [k9.2.1 10 (by decide)] at hg; exact absurd e hg
        · exact e
      have hl9 := MLl_k k9 (by decide) (by decide) (by decide) (by decide) (by decide) hl
      have li := hl.1
      refine t_lm (KM [33, 34, 35, 36, 37] [] s9) (km_s (km_r k9.1) (by decide) (mS37 k9.1)) (fun s10 _ k10 => ?_)
      refine t_lm (KM [33, 34, 35, 36, 37] [] s9) (km_s k10 (by decide) (mS33 k10.1)) (fun s11 _ k11 => ?_)
      refine t_lm (KM [33, 34, 35, 36, 37] [] s9) (km_s k11 (by decide) (mS34 k11.1)) (fun s12 _ k12 => ?_)
      refine t_lm (KM [33, 34, 35, 36, 37] [] s9) (km_s k12 (by decide) (mS35 k12.1)) (fun s13 _ k13 => ?_)
      refine t_lm (KM [33, 34, 35, 36, 37] [] s9) (km_s k13 (by decide) (mS36 k13.1)) (fun s14 _ k14 => ?_)
      have fin : ∀ t, KM (xS ++ [33, 34, 35, 36, 37]) [] s9 t → KM zS [] σ t ∧ gI t 7 0 = 0 := fun t kt => ⟨km_t k9' kt (by decide) (by decide), by rw [kt.2.1 7 (by decide)]; exact q7⟩
      have hK : ∀ t, KM (xS ++ [33, 34, 35, 36, 37]) [] s9 t → tot (M_judge_K250 t) (fun q => KM zS [] σ q.2 ∧ gI q.2 7 0 = 0) := by
        intro t kt
        unfold M_judge_K250
        exact t_if (fun _ => t_some (fin t kt)) (fun _ => t_some (fin t kt))
      refine t_it2 (fun x t => KM (xS ++ [33, 34, 35, 36, 37]) [] s9 t ∧ ∃ i, i ≤ l ∧ x = nI i) (fun x _ => 301 - x.toNatClampNeg) ?_ _ _ _ ⟨km_t (km_r k9.1) k14 (by decide) (by decide), 0, by omega, rfl⟩ (by rw [n0]; omega)
      rintro self _ t ⟨kt, i, hi, rfl⟩ ih
      have hlt := MLl_k kt (by decide) (by decide) (by decide) (by decide) (by decide) hl9
      unfold M_judge_B133
      rw [hlt.2.1]
      refine t_if (fun _ => hK t kt) (fun h => ?_)
      have hil : i < l := by
        rw [nle (by omega) (by omega)] at h
        omega
      have ei := MLl_le hlt (i := i + 1) (by omega)
      have dec : 301 - (nI (i + 1)).toNatClampNeg < 301 - (nI i).toNatClampNeg := by
        rw [nI_clamp (by omega), nI_clamp (by omega)]
        omega
      refine t_if (fun _ => ?_) (fun _ => hK t kt)
      refine t_ob2 (fun _ u => KM xS [] t u) (whyWrong_s hN kt.1 hlt hil) (fun r20 s19 k19 => ?_)
      have k19' := km_t (S := xS ++ [33, 34, 35, 36, 37]) (J := []) kt k19 (by decide) (by decide)
      refine t_lm (KM (xS ++ [33, 34, 35, 36, 37]) [] s9) (km_s k19' (by decide) (mS34 k19.1)) (fun s21 e21 k21 => ?_)
      have hl21 := MLl_k k21 (by decide) (by decide) (by decide) (by decide) (by decide) hl9
      obtain ⟨b0, -, m115, -, -⟩ := hl21.2.2.2.2.1 i hil
      have gi : inb (nI i) 152 = true := inb_nI (by omega) (by decide)
      rw [nadd1]
      have nx : ∀ u, KM (xS ++ [33, 34, 35, 36, 37]) [] s9 u → tot (self (nI (i + 1)) u) (fun q => KM zS [] σ q.2 ∧ gI q.2 7 0 = 0) := fun u ku => ih _ _ ⟨ku, i + 1, by omega, rfl⟩ dec
      refine t_if (fun _ => ?_) (fun _ => ?_)
      · rw [nI_clamp (by omega), hl21.2.2.2.1 i hil]
        refine t_gd gi (t_if (fun _ => ?_) (fun _ => t_gd gi (t_if (fun hk => ?_) (fun _ => nx _ k21))))
        · refine t_gd gi (t_gd (inb_nI (by omega) (by decide)) ?_)
          exact t_lm (KM (xS ++ [33, 34, 35, 36, 37]) [] s9) (km_s k21 (by decide) (mS36 k21.1)) (fun s23 _ k23 => nx _ k23)
        · have := (m115 hk).1
          rw [nadd1]
          refine t_gd gi (t_gd (inb_nI (by omega) (by decide)) ?_)
          exact t_lm (KM (xS ++ [33, 34, 35, 36, 37]) [] s9) (km_s k21 (by decide) (mS36 k21.1)) (fun s23 _ k23 => nx _ k23)
      · exact t_lm (KM (xS ++ [33, 34, 35, 36, 37]) [] s9) (km_s k21 (by decide) (mS33 k21.1)) (fun s24 _ k24 => nx _ k24)
    have h60 : ∀ s, KM zS [] σ s → (gI s 10 0 = 0 ∨ ∃ l p, MLl s l p) → tot (M_judge_K60 N s) (fun q => KM zS [] σ q.2 ∧ gI q.2 7 0 = 0) := by
      intro s ks hs
      unfold M_judge_K60
      refine t_if (fun _ => h82 s ks hs) (fun _ => ?_)
      refine t_ob2 (fun r t => rg 0 1 r ∧ KM [8] [] s t) (M_isEnd_s hN ks.1) (fun r26 s25 ⟨_, k25⟩ => ?_)
      have k25' := km_t (S := zS) (J := []) ks k25 (by decide) (by decide)
      refine t_if (fun _ => ?_) (fun _ => h82 s25 k25' ?_)
      · refine t_ob _ (M_wrong_s k25.1) (fun s27 ⟨k27, q27⟩ => h82 s27 (km_t k25' k27 (by decide) (by decide)) (Or.inl q27))
      · rcases hs with e | ⟨l, p, e⟩
        · exact Or.inl (by rw [k25.2.1 10 (by decide)]; exact e)
        · exact Or.inr ⟨l, p, MLl_k k25 (by decide) (by decide) (by decide) (by decide) (by decide) e⟩
    -- reading the lines
    have grow : ∀ {s t : Mem} {l : Nat} {p : Nat → Nat} {c e : Nat}, MLl s l p → c = p l → l ≤ 150 → InvM t → cp s t c → Cd t e → c ≤ e → gI t 32 0 = nI (l + 1) → (∀ i, i < l → gI t 29 i = gI s 29 i ∧ gI t 30 i = gI s 30 i) → gI t 29 l = nI c → mln t (gI t 30 l) c e → MLl t (l + 1) (fun i => if i ≤ l then p i else e) := by
      intro s t l p c e hl hc hl2 hmt hcp hcd hce h32 hsame h29 hmln
      have e300 : e ≤ 300 := by
        have := hcd.2
        have := (hmt.r8 0).2
        unfold rp at *
        omega
      refine ⟨by omega, h32, ?_, fun i hi => ?_, fun i hi => ?_, ?_⟩
      · show gI t 31 0 = nI (if l + 1 ≤ l then p (l + 1) else e)
        rw [if_neg (by omega)]
        exact hcd.1
      · show gI t 29 i = nI (if i ≤ l then p i else e)
        rw [if_pos (by omega)]
        by_cases ei : i = l
        · rw [ei, h29, hc]
        · rw [(hsame i (by omega)).1]
          exact hl.2.2.2.1 i (by omega)
      · show mln t (gI t 30 i) (if i ≤ l then p i else e) (if i + 1 ≤ l then p (i + 1) else e)
        rw [if_pos (by omega)]
        by_cases ei : i = l
        · rw [if_neg (by omega), ei, ← hc]
          exact hmln
        · rw [if_pos (by omega), (hsame i (by omega)).2]
          have le : p (i + 1) ≤ c := by
            rw [hc]
            have key : ∀ d, i + 1 + d ≤ l → p (i + 1) ≤ p (i + 1 + d) := by
              intro d
              induction d with
              | zero => intro _; exact Nat.le_refl _
              | succ d ih =>
                intro hd
                have h1 := ih (by omega)
                have h2 := (hl.2.2.2.2.1 (i + 1 + d) (by omega)).1
                have e : i + 1 + (d + 1) = i + 1 + d + 1 := by omega
                rw [e]
                omega
            have := key (l - (i + 1)) (by omega)
            have e2 : i + 1 + (l - (i + 1)) = l := by omega
            rw [e2] at this
            exact this
          exact mln_cp hcp le (hl.2.2.2.2.1 i (by omega))
      · show (if l + 1 ≤ l then p (l + 1) else e) ≤ 300
        rw [if_neg (by omega)]
        exact e300
    have lp : ∀ {s : Mem} {l : Nat}, InvM s → 2 * (l : Int) ≤ rp s → l ≤ 150 := fun {s l} h h2 => by
      have := (h.r8 0).2
      unfold rp at *
      omega
    have y31 : gI s5 31 0 = nI 0 := by rw [e5, gI_sI, if_neg (by decide), e4, gI_sI, if_pos rfl, upd_ap, if_pos rfl]; rfl
    have y32 : gI s5 32 0 = nI 0 := by rw [e5, gI_sI, if_pos rfl, upd_ap, if_pos rfl]; rfl
    have y8 : rp s5 = 0 := by unfold rp; rw [e5, gI_sI, if_neg (by decide), e4, gI_sI, if_neg (by decide), e3, gI_sI, if_neg (by decide), e2, gI_sI, if_pos rfl, upd_ap, if_pos rfl]; decide
    have m5 : MLl s5 0 (fun _ => 0) := ⟨by decide, y32, y31, fun i hi => by omega, fun i hi => by omega, by decide⟩
    refine t_ob _ (M_readLine_s hN k5.1 (c := 0) (l := 0) ⟨y31, by rw [y8]; decide⟩ y32 (Or.inr (by rw [y8]; decide))) (fun s6 ⟨k6, p6, cp6, e6, _, cd6, h6⟩ => ?_)
    have k6' := km_t (S := zS) (J := []) k5 k6 (by decide) (by decide)
    refine t_it1 (fun s => KM zS [] σ s ∧ ((gI s 10 0 = 0) ∨ (∃ l p, MLl s l p ∧ Cd s (p l) ∧ 2 * (l : Int) ≤ rp s + 1))) (fun s => (300 - (gI s 8 0).toInt).toNat) ?_ _ _ ⟨k6', ?_⟩ (ms_u0 hN _ (by decide))
    · rintro self s ⟨ks, hs⟩ ih
      unfold M_judge_B44
      by_cases hg : gI s 10 0 = 0
      · refine t_ob2 (fun r u => r = 0 ∧ KM [8] [] s u) (M_takes_bad hN hg ks.1) (fun r31 s30 ⟨q31, k30⟩ => ?_)
        rw [q31, if_pos rfl]
        exact h60 s30 (km_t ks k30 (by decide) (by decide)) (Or.inl (by rw [k30.2.1 10 (by decide)]; exact hg))
      · obtain ⟨l, p, e, e2, e3⟩ : ∃ l p, MLl s l p ∧ Cd s (p l) ∧ 2 * (l : Int) ≤ rp s + 1 := by
          rcases hs with e | e
          · exact absurd e hg
          · exact e
        refine t_ob2 (fun r u => rg 0 1 r ∧ KM [8] [] s u ∧ rp s ≤ rp u ∧ (¬ r = 0 → rp s + 1 ≤ rp u)) (M_takes_s hN (by decide) ks.1) (fun r31 s30 ⟨_, k30, p30, c30⟩ => ?_)
        have k30' := km_t (S := zS) (J := []) ks k30 (by decide) (by decide)
        have ml30 := MLl_k k30 (by decide) (by decide) (by decide) (by decide) (by decide) e
        have cd30 := Cd_k k30 (by decide) e2 p30
        refine t_if (fun _ => h60 s30 k30' (Or.inr ⟨l, p, ml30⟩)) (fun hr => ?_)
        have pp := c30 hr
        refine t_ob _ (M_readLine_s hN k30.1 cd30 ml30.2.1 (Or.inr (by omega))) (fun s32 ⟨k32, p32, cp32, e32, h1, cd32, h2⟩ => ?_)
        have k32' := km_t (S := zS) (J := []) k30' k32 (by decide) (by decide)
        refine ih _ ⟨k32', ?_⟩ ?_
        · rcases h2 with e | ⟨e, a1, a2, a3, a4, a5⟩
          · exact Or.inl e
          · have := grow ml30 rfl (lp k30.1 (by omega)) k32.1 cp32 cd32 h1 a1 a3 a4 a5
            refine Or.inr ⟨l + 1, _, this, ?_, by omega⟩
            show Cd s32 (if l + 1 ≤ l then _ else e32)
            rw [if_neg (by omega)]
            exact cd32
        · have r8' := (k32.1.r8 0).2
          unfold rp at *
          omega
    · rcases h6 with e | ⟨e, a1, a2, a3, a4, a5⟩
      · exact Or.inl e
      · have := grow m5 rfl (by decide) k6.1 cp6 cd6 (by omega) a1 a3 a4 a5
        refine Or.inr ⟨1, _, this, ?_, by omega⟩
        show Cd s6 (if 0 + 1 ≤ 0 then _ else e6)
        rw [if_neg (by omega)]
        exact cd6
