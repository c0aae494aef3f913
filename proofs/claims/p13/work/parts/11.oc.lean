/-! reading a round, the reference -/
def rp (s : Mem) : Int := (gI s 8 0).toInt
theorem M_next_s {N : Nat} (hN : 8589934592 ≤ N) {σ : Mem} (hm : InvM σ) : tot (f_M_next N σ) (fun q => KM [8] [] σ q.2 ∧ rp σ ≤ rp q.2 ∧ (¬ gI q.2 7 0 ≤ gI q.2 8 0 → rg 0 299 (gI q.2 8 0) ∧ q.1 = gI q.2 6 (gI q.2 8 0).toNatClampNeg) ∧ (gI q.2 7 0 ≤ gI q.2 8 0 → q.1 = 0)) := by
  unfold f_M_next
  refine t_it1 (fun s => KM [8] [] σ s ∧ rp σ ≤ rp s) (fun s => (300 - (gI s 8 0).toInt).toNat) ?_ _ _ ⟨km_r hm, Int.le_refl _⟩ (ms_u0 hN _ (by decide))
  rintro self s ⟨ks, hs⟩ ih
  have hK : tot (M_next_K38 s) (fun q => KM [8] [] σ q.2 ∧ rp σ ≤ rp q.2 ∧ (¬ gI q.2 7 0 ≤ gI q.2 8 0 → rg 0 299 (gI q.2 8 0) ∧ q.1 = gI q.2 6 (gI q.2 8 0).toNatClampNeg) ∧ (gI q.2 7 0 ≤ gI q.2 8 0 → q.1 = 0)) := by
    unfold M_next_K38
    refine t_if (fun h => t_some ⟨ks, hs, fun h2 => absurd h h2, fun _ => rfl⟩) (fun h => ?_)
    have f := rg_ltL (lo := 0) (hi := 299) (i_nle h) (ks.1.r8 0) (ks.1.r7 0) (by decide)
    exact t_gd (inb_rg f (by decide)) (t_some ⟨ks, hs, fun _ => ⟨f, rfl⟩, fun h2 => absurd h2 h⟩)
  unfold M_next_B0
  refine t_if (fun _ => hK) (fun h => ?_)
  have f := rg_ltL (lo := 0) (hi := 299) (i_nle h) (ks.1.r8 0) (ks.1.r7 0) (by decide)
  refine t_gd (inb_rg f (by decide)) (t_if (fun _ => ?_) (fun _ => hK))
  refine t_lm (KM [8] [] σ) (km_s ks (by decide) (mS8 ks.1 (rg_add f (by decide : rg 1 1 (1 : Int32)) (by decide)))) (fun s4 e4 k4 => ?_)
  have q : gI s4 8 0 = gI s 8 0 + 1 := by rw [e4, gI_sI, if_pos rfl, upd_ap, if_pos rfl]
  have e1 : (1 : Int32).toInt = 1 := by decide
  refine ih _ ⟨k4, ?_⟩ ?_
  · unfold rp at *
    rw [q, i_add (by rw [e1]; omega) (by rw [e1]; omega)]
    omega
  · rw [q]
    exact ms_up f (by decide : rg 1 1 (1 : Int32)) (by decide)
/-- a letter stands at the reading place -/
def ltr (s : Mem) : Prop := gI s 10 0 = 1 ∧ rg 0 299 (gI s 8 0) ∧ rg 97 104 (gI s 6 (gI s 8 0).toNatClampNeg)
theorem g10 {s : Mem} (h : InvM s) (h0 : ¬ gI s 10 0 = 0) : gI s 10 0 = 1 := rg_pt (rg_neL h0 (h.r10 0) (by decide : rg 0 0 (0 : Int32)) (lo := 1) (hi := 1) (by decide)) (by decide)
theorem M_isLetterNext_s {N : Nat} (hN : 8589934592 ≤ N) {σ : Mem} (hm : InvM σ) : tot (f_M_isLetterNext N σ) (fun q => rg 0 1 q.1 ∧ KM [8] [] σ q.2 ∧ rp σ ≤ rp q.2 ∧ (¬ q.1 = 0 → ltr q.2)) := by
  unfold f_M_isLetterNext
  have z : ¬ (0 : Int32) = 0 → ltr σ := fun h => absurd rfl h
  refine t_if (fun _ => t_some ⟨(by decide : rg 0 1 (0 : Int32)), km_r hm, Int.le_refl _, z⟩) (fun h => ?_)
  refine t_ob2 (fun r s => KM [8] [] σ s ∧ rp σ ≤ rp s ∧ (¬ gI s 7 0 ≤ gI s 8 0 → rg 0 299 (gI s 8 0) ∧ r = gI s 6 (gI s 8 0).toNatClampNeg) ∧ (gI s 7 0 ≤ gI s 8 0 → r = 0)) (M_next_s hN hm) (fun r2 s1 ⟨k1, p1, c1', _⟩ => ?_)
  refine t_if (fun _ => t_some ⟨(by decide : rg 0 1 (0 : Int32)), k1, p1, fun h => absurd rfl h⟩) (fun h2 => t_if (fun _ => t_some ⟨(by decide : rg 0 1 (0 : Int32)), k1, p1, fun h => absurd rfl h⟩) (fun h3 => ?_))
  have f := c_in (lo := 97) (hi := 104) h2 (by decide)
  refine t_some ⟨(by decide : rg 0 1 (1 : Int32)), k1, p1, fun _ => ⟨?_, (c1' h3).1, ?_⟩⟩
  · show gI s1 10 0 = 1
    rw [k1.2.1 10 (by decide)]
    exact g10 hm h
  · rw [(c1' h3).2] at f
    exact f
theorem M_wrong_s {a1 : Int32} {σ : Mem} (hm : InvM σ) : tot (f_M_wrong a1 σ) (fun s => KM [9, 10] [] σ s ∧ gI s 10 0 = 0) := by
  have hJ : ∀ v, tot (M_wrong_J16 σ v) (fun s => KM [9, 10] [] σ s ∧ gI s 10 0 = 0) := by
    intro v
    unfold M_wrong_J16
    refine t_lm (KM [9, 10] [] σ) (km_s (km_r hm) (by decide) (mS9 hm)) (fun s2 e2 k2 => ?_)
    refine t_lm (KM [9, 10] [] σ) (km_s k2 (by decide) (mS10 k2.1 (by decide))) (fun s3 e3 k3 => t_some ⟨k3, ?_⟩)
    rw [e3, gI_sI, if_pos rfl, upd_ap, if_pos rfl]
  unfold f_M_wrong
  exact t_if (fun _ => hJ _) (fun _ => hJ _)
abbrev tS : List Nat := [8, 9, 10]
theorem rp_up {s t : Mem} (f : rg 0 299 (gI s 8 0)) (e : t = sI s 8 0 (gI s 8 0 + 1)) : rp t = rp s + 1 := by
  have q : gI t 8 0 = gI s 8 0 + 1 := by rw [e, gI_sI, if_pos rfl, upd_ap, if_pos rfl]
  have e1 : (1 : Int32).toInt = 1 := by decide
  have := f.2
  unfold rp
  rw [q, i_add (by rw [e1]; omega) (by rw [e1]; omega), e1]
theorem M_letter_s {N : Nat} (hN : 8589934592 ≤ N) {σ : Mem} (hm : InvM σ) : tot (f_M_letter N σ) (fun q => rg 0 7 q.1 ∧ KM tS [] σ q.2 ∧ rp σ ≤ rp q.2 ∧ (gI q.2 10 0 = 0 ∨ (rp σ + 1 ≤ rp q.2 ∧ gI σ 10 0 = 1))) := by
  unfold f_M_letter
  refine t_ob2 (fun r s => rg 0 1 r ∧ KM [8] [] σ s ∧ rp σ ≤ rp s ∧ (¬ r = 0 → ltr s)) (M_isLetterNext_s hN hm) (fun r2 s1 ⟨f2, k1, p1, c1'⟩ => ?_)
  have k1' := km_t (S := tS) (J := []) (km_r hm) k1 (by decide) (by decide)
  refine t_if (fun _ => ?_) (fun h => ?_)
  · refine t_ob _ (M_wrong_s k1.1) (fun s4 ⟨k4, q4⟩ => t_some ⟨(by decide : rg 0 7 (0 : Int32)), km_t k1' k4 (by decide) (by decide), ?_, Or.inl q4⟩)
    show rp σ ≤ rp s4
    unfold rp at *
    rw [k4.2.1 8 (by decide)]
    exact p1
  · obtain ⟨h10, h8, h6⟩ := c1' h
    refine t_lm (KM tS [] σ) (km_s k1' (by decide) (mS8 k1.1 (rg_add h8 (by decide : rg 1 1 (1 : Int32)) (by decide)))) (fun s3 e3 k3 => ?_)
    have q : gI s3 8 0 = gI s1 8 0 + 1 := by rw [e3, gI_sI, if_pos rfl, upd_ap, if_pos rfl]
    have q6 : gI s3 6 = gI s1 6 := by rw [e3, gI_sI, if_neg (by decide)]
    have e : gI s1 8 0 + 1 - 1 = gI s1 8 0 := by rw [Int32.add_sub_cancel]
    rw [q, e, q6]
    have := rp_up h8 e3
    refine t_gd (inb_rg h8 (by decide)) (t_some ⟨rg_sub h6 (by decide : rg 97 97 (97 : Int32)) (by decide), k3, ?_, Or.inr ⟨?_, ?_⟩⟩)
    · show rp σ ≤ rp s3
      omega
    · show rp σ + 1 ≤ rp s3
      omega
    · rw [k1.2.1 10 (by decide)] at h10
      exact h10
theorem M_takes_s {N : Nat} (hN : 8589934592 ≤ N) {c : Int32} (hc : ¬ c = 0) {σ : Mem} (hm : InvM σ) : tot (f_M_takes N c σ) (fun q => rg 0 1 q.1 ∧ KM [8] [] σ q.2 ∧ rp σ ≤ rp q.2 ∧ (¬ q.1 = 0 → rp σ + 1 ≤ rp q.2)) := by
  have h0 : ∀ s, KM [8] [] σ s → rp σ ≤ rp s → tot (M_takes_J30 s) (fun q => rg 0 1 q.1 ∧ KM [8] [] σ q.2 ∧ rp σ ≤ rp q.2 ∧ (¬ q.1 = 0 → rp σ + 1 ≤ rp q.2)) := by
    intro s ks ps
    unfold M_takes_J30 M_takes_J31
    rw [if_pos rfl]
    unfold M_takes_J46
    have e : gI s 8 0 + 0 = gI s 8 0 := Int32.add_zero _
    rw [e]
    refine t_lm (KM [8] [] σ) (km_s ks (by decide) (mS8 ks.1 (ks.1.r8 0))) (fun t et kt => t_gd (by decide) (t_some ⟨(by decide : rg 0 1 (0 : Int32)), kt, ?_, fun h => absurd rfl h⟩))
    show rp σ ≤ rp t
    have q : gI t 8 0 = gI s 8 0 := by rw [et, gI_sI, if_pos rfl, upd_ap, if_pos rfl]
    unfold rp at *
    rw [q]
    exact ps
  unfold f_M_takes
  refine t_if (fun _ => h0 _ (km_r hm) (Int.le_refl _)) (fun h => ?_)
  refine t_ob2 (fun r s => KM [8] [] σ s ∧ rp σ ≤ rp s ∧ (¬ gI s 7 0 ≤ gI s 8 0 → rg 0 299 (gI s 8 0) ∧ r = gI s 6 (gI s 8 0).toNatClampNeg) ∧ (gI s 7 0 ≤ gI s 8 0 → r = 0)) (M_next_s hN hm) (fun r2 s1 ⟨k1, p1, c1', _⟩ => ?_)
  refine t_if (fun _ => t_if (fun _ => h0 _ k1 p1) (fun h3 => ?_)) (fun _ => h0 _ k1 p1)
  unfold M_takes_J31
  rw [if_neg (by decide)]
  unfold M_takes_J46
  refine t_lm (KM [8] [] σ) (km_s k1 (by decide) (mS8 k1.1 (rg_add (c1' h3).1 (by decide : rg 1 1 (1 : Int32)) (by decide)))) (fun t et kt => ?_)
  have := rp_up (c1' h3).1 et
  refine t_gd (by decide) (t_some ⟨(by decide : rg 0 1 (1 : Int32)), kt, ?_, fun _ => ?_⟩)
  · show rp σ ≤ rp t
    omega
  · show rp σ + 1 ≤ rp t
    omega
theorem M_isEnd_s {N : Nat} (hN : 8589934592 ≤ N) {σ : Mem} (hm : InvM σ) : tot (f_M_isEnd N σ) (fun q => rg 0 1 q.1 ∧ KM [8] [] σ q.2) := by
  unfold f_M_isEnd
  refine t_ob2 (fun r s => KM [8] [] σ s ∧ rp σ ≤ rp s ∧ (¬ gI s 7 0 ≤ gI s 8 0 → rg 0 299 (gI s 8 0) ∧ r = gI s 6 (gI s 8 0).toNatClampNeg) ∧ (gI s 7 0 ≤ gI s 8 0 → r = 0)) (M_next_s hN hm) (fun r2 s1 ⟨k1, p1, c1', _⟩ => ?_)
  exact t_if (fun _ => t_if (fun _ => t_some ⟨(by decide : rg 0 1 (0 : Int32)), k1⟩) (fun _ => t_some ⟨(by decide : rg 0 1 (1 : Int32)), k1⟩)) (fun _ => t_some ⟨(by decide : rg 0 1 (0 : Int32)), k1⟩)
/-- nobody in the draft beats itself -/
def drf (s : Mem) : Prop := ∀ a, a < 8 → bt (gI s 12 a) a = false
abbrev qS : List Nat := [8, 9, 10, 11, 12]
def rdP (σ s : Mem) : Prop := KM qS [] σ s ∧ drf s ∧ rp σ ≤ rp s
theorem rdP_t {σ s t : Mem} {S : List Nat} (h : rdP σ s) (k : KM S [] s t) (hS : ∀ k ∈ S, k ∈ qS) (h12 : 12 ∉ S) (hp : rp s ≤ rp t) : rdP σ t := by
  refine ⟨km_t h.1 k hS (by decide), ?_, Int.le_trans h.2.2 hp⟩
  unfold drf
  rw [k.2.1 12 h12]
  exact h.2.1
theorem M_readPair_s {N : Nat} (hN : 8589934592 ≤ N) {σ : Mem} (hm : InvM σ) (hd : drf σ) : tot (f_M_readPair N σ) (fun s => rdP σ s) := by
  have r0 : rdP σ σ := ⟨km_r hm, hd, Int.le_refl _⟩
  have h82 : ∀ a b s, a < 8 → b < 8 → (a ≠ b ∨ gI s 10 0 = 0) → rdP σ s → tot (M_readPair_J82 (nI a) (nI b) s) (fun s => rdP σ s) := by
    intro a b s ha hb hab hs
    unfold M_readPair_J82
    refine t_if (fun _ => t_some hs) (fun h => ?_)
    have hab : a ≠ b := by
      rcases hab with e | e
      · exact e
      · exact absurd e h
    refine t_gd (inb_nI ha (by decide)) (t_gd (inb_nI ha (by decide)) ?_)
    refine t_lm (KM qS [] σ) (km_s hs.1 (by decide) (mS11 hs.1.1 (rg_or 8 (hs.1.1.r11 _) (o255 hb) (by decide)))) (fun s10 e10 k10 => ?_)
    refine t_gd (inb_nI hb (by decide)) (t_gd (inb_nI hb (by decide)) ?_)
    refine t_lm (KM qS [] σ) (km_s k10 (by decide) (mS11 k10.1 (rg_or 8 (k10.1.r11 _) (o255 ha) (by decide)))) (fun s11 e11 k11 => ?_)
    refine t_gd (inb_nI ha (by decide)) (t_gd (inb_nI ha (by decide)) ?_)
    rw [nI_clamp (by omega)]
    refine t_lm (KM qS [] σ) (km_s k11 (by decide) (mS12 k11.1 (rg_or 8 (k11.1.r12 _) (o255 hb) (by decide)))) (fun s12 e12 k12 => t_some ⟨k12, ?_, ?_⟩)
    · intro c hc
      have q : gI s11 12 = gI s 12 := by rw [e11, gI_sI, if_neg (by decide), e10, gI_sI, if_neg (by decide)]
      rw [e12, gI_sI, if_pos rfl, upd_ap, q]
      by_cases e : c = a
      · rw [if_pos e, e, bt_or, hs.2.1 a ha, bt_one (by omega) (by omega), decide_eq_false hab]
        rfl
      · rw [if_neg e]
        exact hs.2.1 c hc
    · have q : gI s12 8 = gI s 8 := by rw [e12, gI_sI, if_neg (by decide), e11, gI_sI, if_neg (by decide), e10, gI_sI, if_neg (by decide)]
      unfold rp
      rw [q]
      exact hs.2.2
  have h77 : ∀ a b x s, a < 8 → b < 8 → rdP σ s → tot (M_readPair_J77 s (nI a) x (nI b)) (fun s => rdP σ s) := by
    intro a b x s ha hb hs
    unfold M_readPair_J77
    refine t_ob _ (M_wrong_s hs.1.1) (fun s13 ⟨k13, q13⟩ => h82 a b s13 ha hb (Or.inr q13) ?_)
    refine rdP_t hs k13 (by decide) (by decide) ?_
    unfold rp
    rw [k13.2.1 8 (by decide)]
    exact Int.le_refl _
  have h51 : ∀ a b r x s, a < 8 → b < 8 → rdP σ s → tot (M_readPair_J51 (nI a) r x (nI b) s) (fun s => rdP σ s) := by
    intro a b r x s ha hb hs
    unfold M_readPair_J51
    refine t_if (fun _ => h77 a b x s ha hb hs) (fun _ => t_if (fun _ => h77 a b x s ha hb hs) (fun hne => t_gd (inb_nI ha (by decide)) (t_if (fun _ => h82 a b s ha hb (Or.inl (fun e => hne (by rw [e]))) hs) (fun _ => h77 a b x s ha hb hs))))
  have h29 : ∀ a s, a < 8 → rdP σ s → tot (M_readPair_J29 N (nI a) s) (fun s => rdP σ s) := by
    intro a s ha hs
    unfold M_readPair_J29
    refine t_ob2 (fun r t => rg 0 1 r ∧ KM [8] [] s t ∧ rp s ≤ rp t ∧ (¬ r = 0 → ltr t)) (M_isLetterNext_s hN hs.1.1) (fun r5 s4 ⟨_, k4, p4, _⟩ => t_bnd ?_)
    have h4 := rdP_t hs k4 (by decide) (by decide) p4
    refine t_if (fun _ => h51 a 0 _ _ _ ha (by decide) h4) (fun _ => ?_)
    refine t_ob2 (fun r t => rg 0 7 r ∧ KM tS [] s4 t ∧ rp s4 ≤ rp t ∧ (gI t 10 0 = 0 ∨ (rp s4 + 1 ≤ rp t ∧ gI s4 10 0 = 1))) (M_letter_s hN k4.1) (fun r15 s14 ⟨f15, k14, p14, _⟩ => ?_)
    obtain ⟨b, rfl, -, hb, -⟩ := rg_ex f15 (by decide)
    exact h51 a b _ _ _ ha (by omega) (rdP_t h4 k14 (by decide) (by decide) p14)
  unfold f_M_readPair
  refine t_ob2 (fun r t => rg 0 7 r ∧ KM tS [] σ t ∧ rp σ ≤ rp t ∧ (gI t 10 0 = 0 ∨ (rp σ + 1 ≤ rp t ∧ gI σ 10 0 = 1))) (M_letter_s hN hm) (fun r2 s1 ⟨f2, k1, p1, _⟩ => ?_)
  obtain ⟨a, rfl, -, ha, -⟩ := rg_ex f2 (by decide)
  have h1 := rdP_t r0 k1 (by decide) (by decide) p1
  refine t_if (fun _ => h29 a s1 (by omega) h1) (fun _ => ?_)
  refine t_ob2 (fun r t => rg 0 1 r ∧ KM [8] [] s1 t ∧ rp s1 ≤ rp t ∧ (¬ r = 0 → rp s1 + 1 ≤ rp t)) (M_takes_s hN (by decide) k1.1) (fun r17 s16 ⟨_, k16, p16, _⟩ => ?_)
  have h16 := rdP_t h1 k16 (by decide) (by decide) p16
  refine t_if (fun _ => ?_) (fun _ => h29 a s16 (by omega) h16)
  refine t_ob _ (M_wrong_s k16.1) (fun s18 ⟨k18, _⟩ => h29 a s18 (by omega) (rdP_t h16 k18 (by decide) (by decide) ?_))
  unfold rp
  rw [k18.2.1 8 (by decide)]
  exact Int.le_refl _
abbrev nS : List Nat := [0, 1, 3, 5, 7, 8, 9, 10, 11, 12]
theorem M_round_t {N : Nat} (hN : 8589934592 ≤ N) {σ : Mem} (hm : InvM σ) : tot (f_M_round N σ) (fun q => KM nS [] σ q.2 ∧ gI q.2 7 0 = 0) := by
  unfold f_M_round
  refine t_lm (KM nS [] σ) (km_s (km_r hm) (by decide) (mS0 hm)) (fun s1 e1 k1 => ?_)
  refine t_lm (KM nS [] σ) (km_s k1 (by decide) (mS8 k1.1 (by decide))) (fun s2 e2 k2 => ?_)
  refine t_lm (KM nS [] σ) (km_s k2 (by decide) (mS10 k2.1 (by decide))) (fun s3 e3 k3 => ?_)
  have h126 : ∀ y s, rg 0 8 y → KM nS [] σ s → drf s → tot (M_round_J126 N y s) (fun q => KM nS [] σ q.2 ∧ gI q.2 7 0 = 0) := by
    intro y s fy ks ds
    unfold M_round_J126
    refine t_lm (KM nS [] σ) (km_s ks (by decide) (mS7 ks.1 (by decide))) (fun s9 e9 k9 => ?_)
    have q7 : gI s9 7 0 = 0 := by rw [e9, gI_sI, if_pos rfl, upd_ap, if_pos rfl]
    have q12 : gI s9 12 = gI s 12 := by rw [e9, gI_sI, if_neg (by decide)]
    refine t_if (fun _ => t_some ⟨k9, q7⟩) (fun _ => ?_)
    refine t_ob _ (M_begin_s hN fy k9.1) (fun s10 ⟨k10, _⟩ => ?_)
    have w7 : gI s10 7 0 = 0 := by rw [k10.2.1 7 (by decide)]; exact q7
    have d10 : drf s10 := by
      unfold drf
      rw [k10.2.1 12 (by decide), q12]
      exact ds
    refine t_it2 (fun i s => (∃ k, k ≤ 8 ∧ i = nI k) ∧ KM nS [] σ s ∧ gI s 7 0 = 0 ∧ drf s) (fun i _ => 8 - i.toNatClampNeg) ?_ _ _ _ ⟨⟨0, by decide, rfl⟩, km_t k9 k10 (by decide) (by decide), w7, d10⟩ (by rw [n0]; omega)
    rintro self _ t ⟨⟨k, hk, rfl⟩, kt, t7, dt⟩ ih
    unfold M_round_B154
    refine t_if (fun _ => t_some ⟨kt, t7⟩) (fun h => ?_)
    have hk8 : k < 8 := by
      rw [l8, nle (by decide) (by omega)] at h
      omega
    rw [n1add]
    refine t_gd (inb_nI hk8 (by decide)) (t_gd (inb_nI (by omega) (by decide)) ?_)
    rw [nI_clamp (by omega), nI_clamp (by omega), nadd1]
    refine t_lm (KM nS [] σ) (km_s kt (by decide) (mS1 kt.1 (kt.1.r12 _) (fun e => by omega) (fun a ha e => ?_))) (fun u eu ku => ?_)
    · have : a = k := by omega
      rw [this]
      exact dt k hk8
    · refine ih _ _ ⟨⟨k + 1, by omega, rfl⟩, ku, ?_, ?_⟩ ?_
      · rw [eu, gI_sI, if_neg (by decide)]; exact t7
      · unfold drf
        rw [eu, gI_sI, if_neg (by decide)]; exact dt
      · rw [nI_clamp (by omega), nI_clamp (by omega)]
        omega
  have h118 : ∀ y s, rg 0 8 y → KM nS [] σ s → drf s → tot (M_round_J118 N s y) (fun q => KM nS [] σ q.2 ∧ gI q.2 7 0 = 0) := by
    intro y s fy ks ds
    unfold M_round_J118
    refine t_ob _ (M_wrong_s ks.1) (fun s17 ⟨k17, _⟩ => h126 y s17 fy (km_t ks k17 (by decide) (by decide)) ?_)
    unfold drf
    rw [k17.2.1 12 (by decide)]
    exact ds
  have h96 : ∀ y s, rg 0 8 y → KM nS [] σ s → drf s → tot (M_round_K96 N s y) (fun q => KM nS [] σ q.2 ∧ gI q.2 7 0 = 0) := by
    intro y s fy ks ds
    unfold M_round_K96
    refine t_if (fun _ => h126 y s fy ks ds) (fun _ => ?_)
    refine t_ob2 (fun r t => rg 0 1 r ∧ KM [8] [] s t) (M_isEnd_s hN ks.1) (fun r16 s15 ⟨_, k15⟩ => ?_)
    have k15' := km_t (S := nS) (J := []) ks k15 (by decide) (by decide)
    have d15 : drf s15 := by
      unfold drf
      rw [k15.2.1 12 (by decide)]
      exact ds
    refine t_if (fun _ => h118 y s15 fy k15' d15) (fun _ => ?_)
    exact t_ob _ (M_isWholeRound_t hN fy k15.1) (fun r18 _ => t_if (fun _ => h118 y s15 fy k15' d15) (fun _ => h126 y s15 fy k15' d15))
  have h63 : ∀ s, KM nS [] σ s → drf s → tot (M_round_K63 N s) (fun q => KM nS [] σ q.2 ∧ gI q.2 7 0 = 0) := by
    intro s ks ds
    unfold M_round_K63
    refine t_it2 (fun y i => rg 0 8 y ∧ rg 0 8 i) (fun _ i => (8 - i.toInt).toNat) ?_ _ _ _ ⟨by decide, by decide⟩ (ms_u0 hN _ (by decide))
    rintro self y i ⟨fy, fi⟩ ih
    unfold M_round_B67
    refine t_if (fun _ => h96 y s fy ks ds) (fun h => ?_)
    have f7 := rg_ltL (lo := 0) (hi := 7) (i_nle h) fi (by decide : rg 8 8 (8 : Int32)) (by decide)
    have nx := rg_w (lo := 0) (hi := 8) (rg_add (lo := 1) (hi := 8) f7 (by decide : rg 1 1 (1 : Int32)) (by decide)) (by decide)
    have ms := ms_up (m := 8) f7 (by decide : rg 1 1 (1 : Int32)) (by decide)
    exact t_gd (inb_rg f7 (by decide)) (t_if (fun _ => ih _ _ ⟨fy, nx⟩ ms) (fun _ => t_bnd (ih _ _ ⟨nx, nx⟩ ms)))
  have h43 : ∀ s, KM nS [] σ s → drf s → tot (M_round_K43 N s) (fun q => KM nS [] σ q.2 ∧ gI q.2 7 0 = 0) := by
    intro s ks ds
    unfold M_round_K43
    refine t_ob _ (M_readPair_s hN ks.1 ds) (fun s5 h5 => ?_)
    refine t_it1 (fun s => KM nS [] σ s ∧ drf s) (fun s => (300 - (gI s 8 0).toInt).toNat) ?_ _ _ ⟨km_t ks h5.1 (by decide) (by decide), h5.2.1⟩ (ms_u0 hN _ (by decide))
    rintro self t ⟨kt, dt⟩ ih
    unfold M_round_B47
    refine t_ob2 (fun r u => rg 0 1 r ∧ KM [8] [] t u ∧ rp t ≤ rp u ∧ (¬ r = 0 → rp t + 1 ≤ rp u)) (M_takes_s hN (by decide) kt.1) (fun r26 s25 ⟨_, k25, p25, c25⟩ => ?_)
    have k25' := km_t (S := nS) (J := []) kt k25 (by decide) (by decide)
    have d25 : drf s25 := by
      unfold drf
      rw [k25.2.1 12 (by decide)]
      exact dt
    refine t_if (fun _ => h63 s25 k25' d25) (fun h => ?_)
    refine t_ob _ (M_readPair_s hN k25.1 d25) (fun s27 h27 => ?_)
    refine ih _ ⟨km_t k25' h27.1 (by decide) (by decide), h27.2.1⟩ ?_
    have a1 := c25 h
    have a2 := h27.2.2
    have a3 := (h27.1.1.r8 0).2
    unfold rp at *
    omega
  refine t_it2 (fun i s => (∃ k, k ≤ 8 ∧ i = nI k ∧ ∀ j, j < k → gI s 12 j = 0) ∧ KM nS [] σ s) (fun i _ => 8 - i.toNatClampNeg) ?_ _ _ _ ⟨⟨0, by decide, rfl, fun j hj => by omega⟩, k3⟩ (by rw [n0]; omega)
  rintro self _ s ⟨⟨k, hk, rfl, hz⟩, ks⟩ ih
  unfold M_round_B17
  refine t_if (fun h => h43 s ks (fun a ha => ?_)) (fun h => ?_)
  · have hk8 : k = 8 := by
      rw [l8, nle (by decide) (by omega)] at h
      omega
    rw [hz a (by omega)]
    exact bt_0 a
  · have hk8 : k < 8 := by
      rw [l8, nle (by decide) (by omega)] at h
      omega
    refine t_gd (inb_nI hk8 (by decide)) ?_
    refine t_lm (KM nS [] σ) (km_s ks (by decide) (mS11 ks.1 (by decide))) (fun t et kt => ?_)
    refine t_gd (inb_nI hk8 (by decide)) ?_
    refine t_lm (KM nS [] σ) (km_s kt (by decide) (mS12 kt.1 (by decide))) (fun u eu ku => ?_)
    rw [nadd1]
    rw [nI_clamp (by omega)] at eu
    refine ih _ _ ⟨⟨k + 1, by omega, rfl, fun j hj => ?_⟩, ku⟩ ?_
    · rw [eu, gI_sI, if_pos rfl, upd_ap]
      by_cases e : j = k
      · rw [if_pos e]
      · rw [if_neg e, et, gI_sI, if_neg (by decide)]
        exact hz j (by omega)
    · rw [nI_clamp (by omega), nI_clamp (by omega)]
      omega
