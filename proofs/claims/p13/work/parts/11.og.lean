/-! lines of a proof read, the reference -/
/-- reading a line on from s7: n codes since c, letters where F says -/
def sn (s7 : Mem) (c : Nat) (F : Nat → Prop) (v : Mem) (n : Nat) : Prop := rd s7 v ∧ cp s7 v c ∧ ∃ d, c ≤ d ∧ Cd v d ∧ (gI v 10 0 = 0 ∨ (gI v 10 0 = 1 ∧ d = c + n ∧ ∀ i, i < n → F i → cl v (c + i)))
theorem snL {N : Nat} (hN : 8589934592 ≤ N) {s7 v : Mem} {c n : Nat} {F : Nat → Prop} (h : sn s7 c F v n) : tot (f_M_addLetter N v) (fun u => sn s7 c F u (n + 1)) := by
  obtain ⟨h1, h2, d, h3, h4, h5⟩ := h
  refine t_mono (addLetter_s hN h1.1.1 h4) (fun u hu => ⟨rd_a h1 hu, cp_t h2 hu.2.2.1 h3, ?_⟩)
  rcases hu.2.2.2 with ⟨e, cd⟩ | ⟨e, cd, -, e0, lt⟩
  · exact ⟨d, h3, cd, Or.inl e⟩
  · refine ⟨d + 1, by omega, cd, Or.inr ⟨e, ?_, fun i hi hF => ?_⟩⟩
    · rcases h5 with e5 | ⟨-, e5, -⟩
      · rw [e0] at e5; exact absurd e5 (by decide)
      · omega
    · rcases h5 with e5 | ⟨-, e5, e6⟩
      · rw [e0] at e5; exact absurd e5 (by decide)
      · by_cases ei : i = n
        · rw [ei, ← e5]; exact lt
        · exact cl_cp hu.2.2.1 (by omega) (e6 i (by omega) hF)
theorem snN {N : Nat} (hN : 8589934592 ≤ N) {s7 v : Mem} {c n : Nat} {F : Nat → Prop} (h : sn s7 c F v n) (hF : ¬ F n) : tot (f_M_addNumber N v) (fun u => sn s7 c F u (n + 1)) := by
  obtain ⟨h1, h2, d, h3, h4, h5⟩ := h
  refine t_mono (addNumber_s hN h1.1.1 h4) (fun u hu => ⟨rd_a h1 hu, cp_t h2 hu.2.2.1 h3, ?_⟩)
  rcases hu.2.2.2 with ⟨e, cd⟩ | ⟨e, cd, -, e0, -⟩
  · exact ⟨d, h3, cd, Or.inl e⟩
  · refine ⟨d + 1, by omega, cd, Or.inr ⟨e, ?_, fun i hi hF' => ?_⟩⟩
    · rcases h5 with e5 | ⟨-, e5, -⟩
      · rw [e0] at e5; exact absurd e5 (by decide)
      · omega
    · rcases h5 with e5 | ⟨-, e5, e6⟩
      · rw [e0] at e5; exact absurd e5 (by decide)
      · by_cases ei : i = n
        · rw [ei] at hF'; exact absurd hF' hF
        · exact cl_cp hu.2.2.1 (by omega) (e6 i (by omega) hF')
/-- a line read to its end -/
def lnE (s7 : Mem) (c : Nat) (K : Int32) (t : Mem) : Prop := rd s7 t ∧ cp s7 t c ∧ ∃ e, c ≤ e ∧ Cd t e ∧ (gI t 10 0 = 0 ∨ (gI t 10 0 = 1 ∧ mln t K c e))
theorem J159_s {N : Nat} (hN : 8589934592 ≤ N) {K : Int32} {s7 v : Mem} {c n : Nat} {F : Nat → Prop} (h : sn s7 c F v n) : tot (M_readLine_J159 N K v) (fun t => rd s7 t ∧ cp s7 t c ∧ ∃ e, c ≤ e ∧ Cd t e ∧ (gI t 10 0 = 0 ∨ (gI t 10 0 = 1 ∧ c + n ≤ e ∧ (∀ i, i < n → F i → cl t (c + i)) ∧ (¬ K = 119 → ∀ j, c + n ≤ j → j < e → cl t j) ∧ (K = 119 → ∃ m, e = c + n + 2 * m ∧ ∀ j, j < m → cl t (c + n + 2 * j)) ∧ (K = 117 → e ≤ c + n + 1)))) := by
  obtain ⟨h1, h2, d, h3, h4, h5⟩ := h
  unfold M_readLine_J159
  refine t_ob2 (fun r u => rg 0 1 r ∧ KM [8] [] v u ∧ rp v ≤ rp u ∧ (¬ r = 0 → ltr u)) (M_isLetterNext_s hN h1.1.1) (fun r13 s12 ⟨_, k12, p12, l12⟩ => ?_)
  have r12 := rd_k h1 k12 p12
  have cd12 := Cd_k k12 (by decide) h4 p12
  have q10 := i10_k k12 (by decide)
  have cp12 : cp v s12 d := cp_k k12 (by decide) d
  refine t_mono (more_s hN k12.1 l12 cd12) (fun t ⟨rt, e, he, cdt, cpt, ht⟩ => ⟨⟨km_t r12.1 rt.1 (by decide) (by decide), Int.le_trans r12.2 rt.2⟩, cp_t (cp_t h2 cp12 h3) cpt h3, e, by omega, cdt, ?_⟩)
  rcases ht with e1 | ⟨e1, e2, e3, e4⟩
  · exact Or.inl e1
  · rcases h5 with e5 | ⟨e5, e6, e7⟩
    · left
      rw [e1, q10]
      exact e5
    · rw [e6] at he e2 e3 e4 cpt cp12
      exact Or.inr ⟨by rw [e1, q10]; exact e5, he, fun i hi hF => cl_cp cpt (by omega) (cl_cp cp12 (by omega) (e7 i hi hF)), e2, e3, e4⟩
theorem J82_s {N : Nat} (hN : 8589934592 ≤ N) {K : Int32} (hK : K = 117 ∨ K = 107 ∨ K = 115 ∨ K = 119 ∨ K = 99 ∨ K = 114) {s7 : Mem} (hm : InvM s7) {c : Nat} (hc : Cd s7 c) (hg : gI s7 10 0 = 1) : tot (if K = (115 : Int32) then (ob (f_M_addNumber N s7) fun s24 => M_readLine_J135 N K s24) else (M_readLine_J135 N K s7)) (fun t => lnE s7 c K t) := by
  have st : ∀ F, sn s7 c F s7 0 := fun F => ⟨⟨km_r hm, Int.le_refl _⟩, cp_r _ _, c, Nat.le_refl _, hc, Or.inr ⟨hg, rfl, fun i hi => by omega⟩⟩
  by_cases h115 : K = 115
  · subst h115
    rw [if_pos rfl]
    refine t_ob _ (snN hN (st (fun i => i ≠ 0)) (fun h => h rfl)) (fun s24 h24 => ?_)
    unfold M_readLine_J135
    refine t_ob _ (snL hN h24) (fun s9 h9 => ?_)
    rw [if_neg (by decide)]
    unfold M_readLine_J149
    rw [if_neg (by decide)]
    refine t_mono (J159_s hN h9) (fun t ⟨t1, t2, e, t3, t4, t5⟩ => ⟨t1, t2, e, t3, t4, ?_⟩)
    rcases t5 with e1 | ⟨e1, e2, e3, e4, -, -⟩
    · exact Or.inl e1
    · refine Or.inr ⟨e1, by omega, fun q => absurd q (by decide), fun _ => ⟨by omega, fun j q1 q2 => ?_⟩, fun q => absurd q (by decide), fun q => absurd q (by decide)⟩
      by_cases ej : j = c + 1
      · rw [ej]; exact e3 1 (by decide) (by decide)
      · exact e4 (by decide) j (by omega) q2
  · rw [if_neg h115]
    unfold M_readLine_J135
    by_cases h117 : K = 117
    · subst h117
      refine t_ob _ (snL hN (st (fun _ => True))) (fun s9 h9 => ?_)
      rw [if_pos rfl]
      refine t_ob _ (snL hN h9) (fun s23 h23 => ?_)
      unfold M_readLine_J149
      rw [if_neg (by decide)]
      refine t_mono (J159_s hN h23) (fun t ⟨t1, t2, e, t3, t4, t5⟩ => ⟨t1, t2, e, t3, t4, ?_⟩)
      rcases t5 with e1 | ⟨e1, e2, e3, e4, -, e6⟩
      · exact Or.inl e1
      · have := e6 rfl
        refine Or.inr ⟨e1, by omega, fun q => absurd q (by decide), fun q => absurd q (by decide), fun _ => ⟨by omega, fun j q1 q2 => ?_⟩, fun q => absurd q (by decide)⟩
        by_cases ej : j < c + 2
        · obtain ⟨i, rfl⟩ : ∃ i, j = c + i := ⟨j - c, by omega⟩
          exact e3 i (by omega) trivial
        · exact e4 (by decide) j (by omega) q2
    · by_cases h119 : K = 119
      · subst h119
        refine t_ob _ (snL hN (st (fun i => i = 0))) (fun s9 h9 => ?_)
        rw [if_neg (by decide)]
        unfold M_readLine_J149
        rw [if_pos rfl]
        refine t_ob _ (snN hN h9 (by decide)) (fun s22 h22 => ?_)
        refine t_mono (J159_s hN h22) (fun t ⟨t1, t2, e, t3, t4, t5⟩ => ⟨t1, t2, e, t3, t4, ?_⟩)
        rcases t5 with e1 | ⟨e1, e2, e3, -, e5, -⟩
        · exact Or.inl e1
        · obtain ⟨m, m1, m2⟩ := e5 rfl
          refine Or.inr ⟨e1, by omega, fun q => absurd q (by decide), fun q => absurd q (by decide), fun q => absurd q (by decide), fun _ => ⟨m + 1, by omega, fun j hj => ?_⟩⟩
          by_cases ej : j = 0
          · rw [ej]; exact e3 0 (by decide) rfl
          · have : c + 2 * j = c + (0 + 1 + 1) + 2 * (j - 1) := by omega
            rw [this]
            exact m2 (j - 1) (by omega)
      · refine t_ob _ (snL hN (st (fun _ => True))) (fun s9 h9 => ?_)
        rw [if_neg h117]
        unfold M_readLine_J149
        rw [if_neg h119]
        refine t_mono (J159_s hN h9) (fun t ⟨t1, t2, e, t3, t4, t5⟩ => ⟨t1, t2, e, t3, t4, ?_⟩)
        rcases t5 with e1 | ⟨e1, e2, e3, e4, -, -⟩
        · exact Or.inl e1
        · refine Or.inr ⟨e1, by omega, fun _ j q1 q2 => ?_, fun q => absurd q h115, fun q => absurd q h117, fun q => absurd q h119⟩
          by_cases ej : j = c
          · rw [ej]; exact e3 0 (by decide) trivial
          · exact e4 h119 j (by omega) q2
abbrev vS : List Nat := [8, 9, 10, 28, 29, 30, 31, 32]
theorem M_readLine_s {N : Nat} (hN : 8589934592 ≤ N) {s : Mem} (hm : InvM s) {c l : Nat} (hc : Cd s c) (hl : gI s 32 0 = nI l) (hb : gI s 10 0 = 0 ∨ 2 * (l : Int) ≤ rp s) : tot (f_M_readLine N s) (fun t => KM vS [] s t ∧ rp s ≤ rp t ∧ cp s t c ∧ ∃ e, c ≤ e ∧ Cd t e ∧ (gI t 10 0 = 0 ∨ (gI t 10 0 = 1 ∧ gI t 32 0 = nI (l + 1) ∧ 2 * (l : Int) + 1 ≤ rp t ∧ (∀ i, i < l → gI t 29 i = gI s 29 i ∧ gI t 30 i = gI s 30 i) ∧ gI t 29 l = nI c ∧ mln t (gI t 30 l) c e))) := by
  unfold f_M_readLine
  refine t_ob2 (fun r t => KM [8] [] s t ∧ rp s ≤ rp t ∧ (¬ gI t 7 0 ≤ gI t 8 0 → rg 0 299 (gI t 8 0) ∧ r = gI t 6 (gI t 8 0).toNatClampNeg) ∧ (gI t 7 0 ≤ gI t 8 0 → r = 0)) (M_next_s hN hm) (fun r2 s1 ⟨k1, p1, c1', _⟩ => ?_)
  have k1' := km_t (S := vS) (J := []) (km_r hm) k1 (by decide) (by decide)
  have cd1 := Cd_k k1 (by decide) hc p1
  have q10 := i10_k k1 (by decide)
  have h73 : tot (M_readLine_J73 s1) (fun t => KM vS [] s t ∧ rp s ≤ rp t ∧ cp s t c ∧ ∃ e, c ≤ e ∧ Cd t e ∧ (gI t 10 0 = 0 ∨ (gI t 10 0 = 1 ∧ gI t 32 0 = nI (l + 1) ∧ 2 * (l : Int) + 1 ≤ rp t ∧ (∀ i, i < l → gI t 29 i = gI s 29 i ∧ gI t 30 i = gI s 30 i) ∧ gI t 29 l = nI c ∧ mln t (gI t 30 l) c e))) := by
    unfold M_readLine_J73
    refine t_ob _ (M_wrong_s k1.1) (fun u ⟨ku, q⟩ => t_some ?_)
    have q8 : rp u = rp s1 := by unfold rp; rw [ku.2.1 8 (by decide)]
    refine ⟨km_t k1' ku (by decide) (by decide), by omega, cp_t (cp_k k1 (by decide) c) (cp_k ku (by decide) c) (Nat.le_refl _), c, Nat.le_refl _, ⟨by rw [ku.2.1 31 (by decide)]; exact cd1.1, ?_⟩, Or.inl q⟩
    have := cd1.2
    omega
  refine t_if (fun _ => h73) (fun hg => t_if (fun _ => h73) (fun hr => t_if (fun _ => h73) (fun _ => ?_)))
  have hg1 : gI s1 10 0 = 1 := g10 k1.1 hg
  obtain ⟨f8, -⟩ := c1' hr
  have h2l : 2 * (l : Int) ≤ rp s := by
    rcases hb with e | e
    · rw [← q10] at e; exact absurd e hg
    · exact e
  have hl149 : l ≤ 150 := by
    have := (hm.r8 0).2
    unfold rp at *
    omega
  have h82 : (r2 = 117 ∨ r2 = 107 ∨ r2 = 115 ∨ r2 = 119 ∨ r2 = 99 ∨ r2 = 114) → tot (M_readLine_J82 N s1 r2) (fun t => KM vS [] s t ∧ rp s ≤ rp t ∧ cp s t c ∧ ∃ e, c ≤ e ∧ Cd t e ∧ (gI t 10 0 = 0 ∨ (gI t 10 0 = 1 ∧ gI t 32 0 = nI (l + 1) ∧ 2 * (l : Int) + 1 ≤ rp t ∧ (∀ i, i < l → gI t 29 i = gI s 29 i ∧ gI t 30 i = gI s 30 i) ∧ gI t 29 l = nI c ∧ mln t (gI t 30 l) c e))) := by
    intro hK
    unfold M_readLine_J82
    refine t_lm (KM vS [] s) (km_s k1' (by decide) (mS8 k1.1 (rg_add f8 (by decide : rg 1 1 (1 : Int32)) (by decide)))) (fun s4 e4 k4 => ?_)
    have p4 := rp_up f8 e4
    have q32 : gI s4 32 0 = nI l := by rw [e4, gI_sI, if_neg (by decide), k1.2.1 32 (by decide)]; exact hl
    have q31 : gI s4 31 0 = nI c := by rw [e4, gI_sI, if_neg (by decide)]; exact cd1.1
    rw [q32, q31]
    have c300 : c ≤ 300 := by
      have := cd1.2
      have := (k1.1.r8 0).2
      unfold rp at *
      omega
    refine t_gd (inb_nI (by omega) (by decide)) ?_
    rw [nI_clamp (by omega)]
    refine t_lm (KM vS [] s) (km_s k4 (by decide) (mS29 k4.1 (nI_rg (by omega) (by omega)))) (fun s5 e5 k5 => ?_)
    have q32b : gI s5 32 0 = nI l := by rw [e5, gI_sI, if_neg (by decide)]; exact q32
    rw [q32b]
    refine t_gd (inb_nI (by omega) (by decide)) ?_
    rw [nI_clamp (by omega)]
    refine t_lm (KM vS [] s) (km_s k5 (by decide) (mS30 k5.1)) (fun s6 e6 k6 => ?_)
    have q32c : gI s6 32 0 = nI l := by rw [e6, gI_sI, if_neg (by decide)]; exact q32b
    rw [q32c, nadd1]
    refine t_lm (KM vS [] s) (km_s k6 (by decide) (mS32 k6.1 (nI_rg (by omega) (by omega)))) (fun s7 e7 k7 => ?_)
    have y8 : rp s7 = rp s4 := by unfold rp; rw [e7, gI_sI, if_neg (by decide), e6, gI_sI, if_neg (by decide), e5, gI_sI, if_neg (by decide)]
    have y31 : gI s7 31 0 = nI c := by rw [e7, gI_sI, if_neg (by decide), e6, gI_sI, if_neg (by decide), e5, gI_sI, if_neg (by decide)]; exact q31
    have y10 : gI s7 10 0 = 1 := by rw [e7, gI_sI, if_neg (by decide), e6, gI_sI, if_neg (by decide), e5, gI_sI, if_neg (by decide), e4, gI_sI, if_neg (by decide)]; exact hg1
    have y28 : gI s7 28 = gI s 28 := by rw [e7, gI_sI, if_neg (by decide), e6, gI_sI, if_neg (by decide), e5, gI_sI, if_neg (by decide), e4, gI_sI, if_neg (by decide), k1.2.1 28 (by decide)]
    have x29 : gI s4 29 = gI s 29 := by rw [e4, gI_sI, if_neg (by decide), k1.2.1 29 (by decide)]
    have x30 : gI s5 30 = gI s 30 := by rw [e5, gI_sI, if_neg (by decide), e4, gI_sI, if_neg (by decide), k1.2.1 30 (by decide)]
    have y29 : ∀ i, gI s7 29 i = if i = l then nI c else gI s 29 i := fun i => by
      rw [e7, gI_sI, if_neg (by decide), e6, gI_sI, if_neg (by decide), e5, gI_sI, if_pos rfl, upd_ap, x29]
    have y30 : ∀ i, gI s7 30 i = if i = l then r2 else gI s 30 i := fun i => by
      rw [e7, gI_sI, if_neg (by decide), e6, gI_sI, if_pos rfl, upd_ap, x30]
    have y32 : gI s7 32 0 = nI (l + 1) := by rw [e7, gI_sI, if_pos rfl, upd_ap, if_pos rfl]
    have cd1b := cd1.2
    refine t_mono (J82_s hN hK k7.1 (c := c) ⟨y31, by omega⟩ y10) (fun t ⟨t1, t2, e, t3, t4, t5⟩ => ⟨km_t k7 t1.1 (by decide) (by decide), by have := t1.2; omega, fun j hj => by rw [t2 j hj, y28], e, t3, t4, ?_⟩)
    rcases t5 with e1 | ⟨e1, e2⟩
    · exact Or.inl e1
    · have z29 : gI t 29 = gI s7 29 := t1.1.2.1 29 (by decide)
      have z30 : gI t 30 = gI s7 30 := t1.1.2.1 30 (by decide)
      refine Or.inr ⟨e1, by rw [t1.1.2.1 32 (by decide)]; exact y32, by have := t1.2; omega, fun i hi => ⟨?_, ?_⟩, ?_, ?_⟩
      · rw [z29, y29, if_neg (by omega)]
      · rw [z30, y30, if_neg (by omega)]
      · rw [z29, y29, if_pos rfl]
      · rw [z30, y30, if_pos rfl]
        exact e2
  exact t_if (fun h => h82 (Or.inl h)) (fun _ => t_if (fun h => h82 (Or.inr (Or.inl h))) (fun _ => t_if (fun h => h82 (Or.inr (Or.inr (Or.inl h)))) (fun _ => t_if (fun h => h82 (Or.inr (Or.inr (Or.inr (Or.inl h))))) (fun _ => t_if (fun h => h82 (Or.inr (Or.inr (Or.inr (Or.inr (Or.inl h)))))) (fun _ => t_if (fun h => h82 (Or.inr (Or.inr (Or.inr (Or.inr (Or.inr h)))))) (fun _ => h73))))))
