/-! a proof read, the reference -/
def Cd (s : Mem) (c : Nat) : Prop := gI s 31 0 = nI c ∧ (c : Int) ≤ rp s
def cl (s : Mem) (j : Nat) : Prop := rg 0 7 (gI s 28 j)
def cp (s t : Mem) (w : Nat) : Prop := ∀ j, j < w → gI t 28 j = gI s 28 j
theorem cp_r (s : Mem) (w : Nat) : cp s s w := fun _ _ => rfl
theorem cp_t {s t u : Mem} {w w' : Nat} (h1 : cp s t w) (h2 : cp t u w') (h : w ≤ w') : cp s u w := fun j hj => (h2 j (by omega)).trans (h1 j hj)
theorem cp_k {s t : Mem} {S J : List Nat} (h : KM S J s t) (hS : 28 ∉ S) (w : Nat) : cp s t w := fun j _ => by rw [h.2.1 28 hS]
theorem Cd_k {s t : Mem} {S J : List Nat} {w : Nat} (h : KM S J s t) (hS : 31 ∉ S) (hw : Cd s w) (hp : rp s ≤ rp t) : Cd t w := ⟨by rw [h.2.1 31 hS]; exact hw.1, Int.le_trans hw.2 hp⟩
theorem cl_cp {s t : Mem} {w j : Nat} (h : cp s t w) (hj : j < w) (hl : cl s j) : cl t j := by
  unfold cl
  rw [h j hj]
  exact hl
abbrev cS : List Nat := [8, 9, 10, 28, 31]
/-- one code more, or it has gone wrong -/
def add1 (s t : Mem) (c : Nat) (Q : Prop) : Prop := KM cS [] s t ∧ rp s ≤ rp t ∧ cp s t c ∧ ((gI t 10 0 = 0 ∧ Cd t c) ∨ (gI t 10 0 = 1 ∧ Cd t (c + 1) ∧ rp s + 1 ≤ rp t ∧ gI s 10 0 = 1 ∧ Q))
theorem addLetter_s {N : Nat} (hN : 8589934592 ≤ N) {s : Mem} (hm : InvM s) {c : Nat} (hc : Cd s c) : tot (f_M_addLetter N s) (fun t => add1 s t c (cl t c)) := by
  unfold f_M_addLetter
  refine t_ob2 (fun r t => rg 0 7 r ∧ KM tS [] s t ∧ rp s ≤ rp t ∧ (gI t 10 0 = 0 ∨ (rp s + 1 ≤ rp t ∧ gI s 10 0 = 1))) (M_letter_s hN hm) (fun r2 s1 ⟨f2, k1, p1, h1⟩ => ?_)
  have k1' := km_t (S := cS) (J := []) (km_r hm) k1 (by decide) (by decide)
  have c1' := Cd_k k1 (by decide) hc p1
  refine t_if (fun h => t_some ⟨k1', p1, cp_k k1 (by decide) c, Or.inl ⟨h, c1'⟩⟩) (fun h => ?_)
  obtain ⟨hp, hg⟩ : rp s + 1 ≤ rp s1 ∧ gI s 10 0 = 1 := by
    rcases h1 with e | e
    · exact absurd e h
    · exact e
  have hc2 := hc.2
  have r8 := (k1.1.r8 0).2
  have hc3 : c < 300 := by
    unfold rp at *
    omega
  rw [c1'.1]
  refine t_gd (inb_nI hc3 (by decide)) ?_
  rw [nI_clamp (by omega)]
  refine t_lm (KM cS [] s) (km_s k1' (by decide) (mS28 k1.1)) (fun s3 e3 k3 => ?_)
  have q31 : gI s3 31 0 = nI c := by rw [e3, gI_sI, if_neg (by decide)]; exact c1'.1
  rw [q31, nadd1]
  refine t_lm (KM cS [] s) (km_s k3 (by decide) (mS31 k3.1 (nI_rg (by omega) (by omega)))) (fun s4 e4 k4 => ?_)
  have q8 : gI s4 8 = gI s1 8 := by rw [e4, gI_sI, if_neg (by decide), e3, gI_sI, if_neg (by decide)]
  have qp : rp s4 = rp s1 := by unfold rp; rw [q8]
  refine t_some ⟨k4, by omega, fun j hj => ?_, Or.inr ⟨?_, ⟨?_, by omega⟩, by omega, hg, ?_⟩⟩
  · rw [e4, gI_sI, if_neg (by decide), e3, gI_sI, if_pos rfl, upd_ap, if_neg (by omega), k1.2.1 28 (by decide)]
  · rw [e4, gI_sI, if_neg (by decide), e3, gI_sI, if_neg (by decide)]
    exact g10 k1.1 h
  · rw [e4, gI_sI, if_pos rfl, upd_ap, if_pos rfl]
  · unfold cl
    rw [e4, gI_sI, if_neg (by decide), e3, gI_sI, if_pos rfl, upd_ap, if_pos rfl]
    exact f2
def dgt (s : Mem) : Prop := gI s 10 0 = 1 ∧ ¬ gI s 7 0 ≤ gI s 8 0 ∧ ¬ t_M_in ((gI s 6 (gI s 8 0).toNatClampNeg).toInt64) (48 : Int64) (57 : Int64) = 0
theorem M_isDigitNext_s {N : Nat} (hN : 8589934592 ≤ N) {σ : Mem} (hm : InvM σ) : tot (f_M_isDigitNext N σ) (fun q => rg 0 1 q.1 ∧ KM [8] [] σ q.2 ∧ rp σ ≤ rp q.2 ∧ (¬ q.1 = 0 → dgt q.2)) := by
  unfold f_M_isDigitNext
  have z : ¬ (0 : Int32) = 0 → dgt σ := fun h => absurd rfl h
  refine t_if (fun _ => t_some ⟨(by decide : rg 0 1 (0 : Int32)), km_r hm, Int.le_refl _, z⟩) (fun h => ?_)
  refine t_ob2 (fun r s => KM [8] [] σ s ∧ rp σ ≤ rp s ∧ (¬ gI s 7 0 ≤ gI s 8 0 → rg 0 299 (gI s 8 0) ∧ r = gI s 6 (gI s 8 0).toNatClampNeg) ∧ (gI s 7 0 ≤ gI s 8 0 → r = 0)) (M_next_s hN hm) (fun r2 s1 ⟨k1, p1, c1', _⟩ => ?_)
  refine t_if (fun _ => t_some ⟨(by decide : rg 0 1 (0 : Int32)), k1, p1, fun h => absurd rfl h⟩) (fun h2 => t_if (fun _ => t_some ⟨(by decide : rg 0 1 (0 : Int32)), k1, p1, fun h => absurd rfl h⟩) (fun h3 => ?_))
  refine t_some ⟨(by decide : rg 0 1 (1 : Int32)), k1, p1, fun _ => ⟨?_, h3, ?_⟩⟩
  · show gI s1 10 0 = 1
    rw [k1.2.1 10 (by decide)]
    exact g10 hm h
  · rw [(c1' h3).2] at h2
    exact h2
theorem addNumber_s {N : Nat} (hN : 8589934592 ≤ N) {s : Mem} (hm : InvM s) {c : Nat} (hc : Cd s c) : tot (f_M_addNumber N s) (fun t => add1 s t c True) := by
  unfold f_M_addNumber
  refine t_ob2 (fun r t => rg 0 1 r ∧ KM [8] [] s t ∧ rp s ≤ rp t ∧ (¬ r = 0 → dgt t)) (M_isDigitNext_s hN hm) (fun r2 s1 ⟨_, k1, p1, h1⟩ => ?_)
  have k1' := km_t (S := cS) (J := []) (km_r hm) k1 (by decide) (by decide)
  have c1' := Cd_k k1 (by decide) hc p1
  have wr : ∀ {t : Mem} (a : Int32), KM cS [] s t → cp s t c → rp s ≤ rp t → gI t 31 0 = nI c → tot (f_M_wrong a t) (fun u => add1 s u c True) := by
    intro t a kt ct pt h31
    refine t_mono (M_wrong_s kt.1) (fun u ⟨ku, q⟩ => ?_)
    have q8 : rp u = rp t := by unfold rp; rw [ku.2.1 8 (by decide)]
    have hc2 := hc.2
    exact ⟨km_t kt ku (by decide) (by decide), by omega, cp_t ct (cp_k ku (by decide) c) (Nat.le_refl _), Or.inl ⟨q, by rw [ku.2.1 31 (by decide)]; exact h31, by omega⟩⟩
  have h134 : gI s 10 0 = 1 → ∀ y t, KM cS [] s t → cp s t c → rp s + 1 ≤ rp t → gI t 31 0 = nI c → gI t 10 0 = 1 → tot (M_addNumber_J134 t y) (fun u => add1 s u c True) := by
    intro hg y t kt ct pt h31 h10
    have hc2 := hc.2
    have r8 := (kt.1.r8 0).2
    have hc3 : c < 300 := by
      unfold rp at *
      omega
    unfold M_addNumber_J134
    rw [h31]
    refine t_gd (inb_nI hc3 (by decide)) ?_
    rw [nI_clamp (by omega)]
    refine t_lm (KM cS [] s) (km_s kt (by decide) (mS28 kt.1)) (fun s3 e3 k3 => ?_)
    have q31 : gI s3 31 0 = nI c := by rw [e3, gI_sI, if_neg (by decide)]; exact h31
    rw [q31, nadd1]
    refine t_lm (KM cS [] s) (km_s k3 (by decide) (mS31 k3.1 (nI_rg (by omega) (by omega)))) (fun s4 e4 k4 => ?_)
    have q8 : gI s4 8 = gI t 8 := by rw [e4, gI_sI, if_neg (by decide), e3, gI_sI, if_neg (by decide)]
    have qp : rp s4 = rp t := by unfold rp; rw [q8]
    refine t_some ⟨k4, by omega, fun j hj => ?_, Or.inr ⟨?_, ⟨?_, by omega⟩, by omega, hg, trivial⟩⟩
    · rw [e4, gI_sI, if_neg (by decide), e3, gI_sI, if_pos rfl, upd_ap, if_neg (by omega)]
      exact ct j hj
    · rw [e4, gI_sI, if_neg (by decide), e3, gI_sI, if_neg (by decide)]
      exact h10
    · rw [e4, gI_sI, if_pos rfl, upd_ap, if_pos rfl]
  have h92 : gI s 10 0 = 1 → ∀ y t, KM cS [] s t → cp s t c → rp s + 1 ≤ rp t → gI t 31 0 = nI c → gI t 10 0 = 1 → tot (M_addNumber_K92 y t) (fun u => add1 s u c True) := by
    intro hg y t kt ct pt h31 h10
    unfold M_addNumber_K92
    refine t_if (fun _ => h134 hg y t kt ct pt h31 h10) (fun h => ?_)
    have f := rg_ltL (lo := 0) (hi := 299) (i_nle h) (kt.1.r8 0) (kt.1.r7 0) (by decide)
    refine t_gd (inb_rg f (by decide)) (t_if (fun _ => h134 hg y t kt ct pt h31 h10) (fun _ => ?_))
    exact t_ob _ (wr _ kt ct (by omega) h31) (fun u hu => t_some hu)
  refine t_if (fun _ => t_ob _ (wr _ k1' (cp_k k1 (by decide) c) p1 c1'.1) (fun u hu => t_some hu)) (fun h => ?_)
  have hd := h1 h
  have hg : gI s 10 0 = 1 := by
    have := hd.1
    rw [k1.2.1 10 (by decide)] at this
    exact this
  refine t_it3 (fun _ i9 t => rg 0 3 i9 ∧ KM cS [] s t ∧ cp s t c ∧ rp s ≤ rp t ∧ gI t 31 0 = nI c ∧ gI t 10 0 = 1 ∧ (rp s + 1 ≤ rp t ∨ (i9 = 0 ∧ dgt t))) (fun _ i9 _ => (3 - i9.toInt).toNat) ?_ _ _ _ _ ⟨by decide, k1', cp_k k1 (by decide) c, p1, c1'.1, hd.1, Or.inr ⟨rfl, hd⟩⟩ (ms_u0 hN _ (by decide))
  rintro self i8 i9 t ⟨f9, kt, ct, pt, h31, h10, hor⟩ ih
  unfold M_addNumber_B20
  refine t_if (fun h3 => ?_) (fun h3 => t_if (fun h4 => ?_) (fun h4 => ?_))
  · refine h92 hg _ t kt ct ?_ h31 h10
    rcases hor with e | ⟨e, -⟩
    · exact e
    · rw [e] at h3; exact absurd h3 (by decide)
  · refine h92 hg _ t kt ct ?_ h31 h10
    rcases hor with e | ⟨-, e⟩
    · exact e
    · exact absurd h4 e.2.1
  · have f := rg_ltL (lo := 0) (hi := 299) (i_nle h4) (kt.1.r8 0) (kt.1.r7 0) (by decide)
    refine t_gd (inb_rg f (by decide)) (t_if (fun h5 => ?_) (fun h5 => ?_))
    · refine h92 hg _ t kt ct ?_ h31 h10
      rcases hor with e | ⟨-, e⟩
      · exact e
      · exact absurd h5 e.2.2
    · have f9' := rg_ltL (lo := 0) (hi := 2) (i_nle h3) f9 (by decide : rg 3 3 (3 : Int32)) (by decide)
      refine t_gd (inb_rg f (by decide)) (t_bnd ?_)
      refine t_lm (KM cS [] s) (km_s kt (by decide) (mS8 kt.1 (rg_add f (by decide : rg 1 1 (1 : Int32)) (by decide)))) (fun u eu ku => ?_)
      have := rp_up f eu
      refine ih _ _ _ ⟨rg_w (lo := 0) (hi := 3) (rg_add (lo := 1) (hi := 3) f9' (by decide : rg 1 1 (1 : Int32)) (by decide)) (by decide), ku, fun j hj => ?_, by omega, ?_, ?_, Or.inl (by omega)⟩ (ms_up f9' (by decide : rg 1 1 (1 : Int32)) (by decide))
      · rw [eu, gI_sI, if_neg (by decide)]
        exact ct j hj
      · rw [eu, gI_sI, if_neg (by decide)]; exact h31
      · rw [eu, gI_sI, if_neg (by decide)]; exact h10
/-- a line of codes of kind K, from place b to ahead of e -/
def mln (s : Mem) (K : Int32) (b e : Nat) : Prop := b + 1 ≤ e ∧ (K = 107 → ∀ j, b ≤ j → j < e → cl s j) ∧ (K = 115 → b + 2 ≤ e ∧ ∀ j, b < j → j < e → cl s j) ∧ (K = 117 → (e = b + 2 ∨ e = b + 3) ∧ ∀ j, b ≤ j → j < e → cl s j) ∧ (K = 119 → ∃ m, e = b + 2 * m ∧ ∀ j, j < m → cl s (b + 2 * j))
theorem mln_cp {s t : Mem} {K : Int32} {b e w : Nat} (h : cp s t w) (he : e ≤ w) (hl : mln s K b e) : mln t K b e := by
  obtain ⟨h0, h1, h2, h3, h4⟩ := hl
  refine ⟨h0, fun q j q1 q2 => cl_cp h (by omega) (h1 q j q1 q2), fun q => ⟨(h2 q).1, fun j q1 q2 => cl_cp h (by omega) ((h2 q).2 j q1 q2)⟩, fun q => ⟨(h3 q).1, fun j q1 q2 => cl_cp h (by omega) ((h3 q).2 j q1 q2)⟩, fun q => ?_⟩
  obtain ⟨m, e1, e2⟩ := h4 q
  exact ⟨m, e1, fun j hj => cl_cp h (by omega) (e2 j hj)⟩
/-- what reading on has done since s, with codes c then -/
def rd (s t : Mem) : Prop := KM cS [] s t ∧ rp s ≤ rp t
theorem rd_a {s t u : Mem} {c : Nat} {Q : Prop} (h : rd s t) (h2 : add1 t u c Q) : rd s u := ⟨km_t h.1 h2.1 (by decide) (by decide), Int.le_trans h.2 h2.2.1⟩
theorem rd_k {s t u : Mem} (h : rd s t) (k : KM [8] [] t u) (hp : rp t ≤ rp u) : rd s u := ⟨km_t h.1 k (by decide) (by decide), Int.le_trans h.2 hp⟩
theorem i10_k {s t : Mem} {S J : List Nat} (h : KM S J s t) (hS : 10 ∉ S) : gI t 10 0 = gI s 10 0 := by rw [h.2.1 10 hS]
theorem add1_bad {s t : Mem} {c : Nat} {Q : Prop} (h : add1 s t c Q) : ∃ c', c ≤ c' ∧ c' ≤ c + 1 ∧ Cd t c' := by
  rcases h.2.2.2 with ⟨-, e⟩ | ⟨-, e, -, -⟩
  · exact ⟨c, by omega, by omega, e⟩
  · exact ⟨c + 1, by omega, by omega, e⟩
/-- more letters (with weights), until no letter is next: all codes from c on -/
theorem more_s {N : Nat} (hN : 8589934592 ≤ N) {K : Int32} {s : Mem} (hm : InvM s) {i : Int32} (hi : ¬ i = 0 → ltr s) {c : Nat} (hc : Cd s c) : tot (it2 (M_readLine_B164 N K) N i s) (fun t => rd s t ∧ ∃ c', c ≤ c' ∧ Cd t c' ∧ cp s t c ∧ (gI t 10 0 = 0 ∨ (gI t 10 0 = gI s 10 0 ∧ (¬ K = 119 → ∀ j, c ≤ j → j < c' → cl t j) ∧ (K = 119 → ∃ m, c' = c + 2 * m ∧ ∀ j, j < m → cl t (c + 2 * j)) ∧ (K = 117 → c' ≤ c + 1)))) := by
  refine t_it2 (fun i t => rd s t ∧ (¬ i = 0 → ltr t) ∧ ∃ c', c ≤ c' ∧ Cd t c' ∧ cp s t c ∧ (gI t 10 0 = 0 ∨ (gI t 10 0 = gI s 10 0 ∧ (¬ K = 119 → ∀ j, c ≤ j → j < c' → cl t j) ∧ (K = 119 → ∃ m, c' = c + 2 * m ∧ ∀ j, j < m → cl t (c + 2 * j)) ∧ (K = 117 → c' ≤ c + (if i = 0 then 1 else 0))))) (fun i t => (300 - (gI t 8 0).toInt).toNat * 2 + (if i = 0 then 0 else 1)) ?_ _ _ _ ⟨⟨km_r hm, Int.le_refl _⟩, hi, c, Nat.le_refl _, hc, cp_r s c, Or.inr ⟨rfl, fun _ j q1 q2 => by omega, fun _ => ⟨0, by omega, fun j hj => by omega⟩, fun _ => by omega⟩⟩ (by have := (hm.r8 0).1; split <;> omega)
  rintro self i t ⟨ht, hti, c', hcc, cd, cpt, hor⟩ ih
  unfold M_readLine_B164
  refine t_if (fun h => t_some ⟨ht, c', hcc, cd, cpt, ?_⟩) (fun h => ?_)
  · rcases hor with e | ⟨e1, e2, e3, e4⟩
    · exact Or.inl e
    · refine Or.inr ⟨e1, e2, e3, fun q => ?_⟩
      have := e4 q
      rw [if_pos h] at this
      exact this
  · have hl := hti h
    rw [if_neg h] at ih
    have h10 : gI t 10 0 = gI s 10 0 := by
      rcases hor with e | ⟨e1, -, -, -⟩
      · rw [hl.1] at e; exact absurd e (by decide)
      · exact e1
    obtain ⟨-, o2, o3, o4⟩ : gI t 10 0 = gI s 10 0 ∧ (¬ K = 119 → ∀ j, c ≤ j → j < c' → cl t j) ∧ (K = 119 → ∃ m, c' = c + 2 * m ∧ ∀ j, j < m → cl t (c + 2 * j)) ∧ (K = 117 → c' ≤ c + (if i = 0 then 1 else 0)) := by
      rcases hor with e | e
      · rw [hl.1] at e; exact absurd e (by decide)
      · exact e
    rw [if_neg h] at o4
    refine t_ob _ (addLetter_s hN ht.1.1 cd) (fun s17 h17 => ?_)
    have r17 := rd_a ht h17
    have cp17 := cp_t cpt h17.2.2.1 hcc
    -- going on from a state v with codes d
    have J : ∀ v d, rd s v → rp s17 ≤ rp v → c ≤ d → Cd v d → cp s v c → (gI v 10 0 = 0 ∨ (gI v 10 0 = gI s 10 0 ∧ rp t + 1 ≤ rp v ∧ (¬ K = 119 → ∀ j, c ≤ j → j < d → cl v j) ∧ (K = 119 → ∃ m, d = c + 2 * m ∧ ∀ j, j < m → cl v (c + 2 * j)) ∧ (K = 117 → d ≤ c + 1))) → tot (M_readLine_J182 N K self v) (fun t => rd s t ∧ ∃ c', c ≤ c' ∧ Cd t c' ∧ cp s t c ∧ (gI t 10 0 = 0 ∨ (gI t 10 0 = gI s 10 0 ∧ (¬ K = 119 → ∀ j, c ≤ j → j < c' → cl t j) ∧ (K = 119 → ∃ m, c' = c + 2 * m ∧ ∀ j, j < m → cl t (c + 2 * j)) ∧ (K = 117 → c' ≤ c + 1)))) := by
      intro v d rv pv hcd cdv cpv hv
      have p17 := h17.2.1
      have r8 := (rv.1.1.r8 0).2
      have r8t := (ht.1.1.r8 0).2
      unfold M_readLine_J182
      refine t_if (fun h117 => ?_) (fun h117 => ?_)
      · refine ih _ _ ⟨rv, fun h => absurd rfl h, d, hcd, cdv, cpv, ?_⟩ ?_
        · rcases hv with e | ⟨e1, -, e2, e3, e4⟩
          · exact Or.inl e
          · exact Or.inr ⟨e1, e2, e3, fun q => by rw [if_pos rfl]; exact e4 q⟩
        · rw [if_pos rfl]
          unfold rp at *
          omega
      · refine t_ob2 (fun r u => rg 0 1 r ∧ KM [8] [] v u ∧ rp v ≤ rp u ∧ (¬ r = 0 → ltr u)) (M_isLetterNext_s hN rv.1.1) (fun r20 s19 ⟨_, k19, p19, l19⟩ => ?_)
        have r19 := rd_k rv k19 p19
        have q10 := i10_k k19 (by decide)
        have cp19 : cp v s19 d := cp_k k19 (by decide) d
        have c19 := Cd_k k19 (by decide) cdv p19
        have r8' := (k19.1.r8 0).2
        have st : gI s19 10 0 = 0 ∨ (gI s19 10 0 = gI s 10 0 ∧ (¬ K = 119 → ∀ j, c ≤ j → j < d → cl s19 j) ∧ (K = 119 → ∃ m, d = c + 2 * m ∧ ∀ j, j < m → cl s19 (c + 2 * j)) ∧ (K = 117 → False)) := by
          rcases hv with e | ⟨e1, -, e2, e3, -⟩
          · exact Or.inl (by rw [q10]; exact e)
          · refine Or.inr ⟨by rw [q10]; exact e1, fun q j q1 q2 => cl_cp cp19 q2 (e2 q j q1 q2), fun q => ?_, fun q => h117 q⟩
            obtain ⟨m, m1, m2⟩ := e3 q
            exact ⟨m, m1, fun j hj => cl_cp cp19 (by omega) (m2 j hj)⟩
        refine t_if (fun h20 => ?_) (fun h20 => ?_)
        · refine ih _ _ ⟨r19, fun h => absurd rfl h, d, hcd, c19, cp_t cpv cp19 hcd, ?_⟩ ?_
          · rcases st with e | ⟨e1, e2, e3, e4⟩
            · exact Or.inl e
            · exact Or.inr ⟨e1, e2, e3, fun q => absurd q (fun q => e4 q)⟩
          · rw [if_pos rfl]
            unfold rp at *
            omega
        · have l19' := l19 h20
          refine ih _ _ ⟨r19, fun _ => l19', d, hcd, c19, cp_t cpv cp19 hcd, ?_⟩ ?_
          · rcases st with e | ⟨e1, e2, e3, e4⟩
            · exact Or.inl e
            · exact Or.inr ⟨e1, e2, e3, fun q => absurd q (fun q => e4 q)⟩
          · have : rp t + 1 ≤ rp v := by
              rcases hv with e | ⟨-, e, -, -, -⟩
              · rw [← q10, l19'.1] at e; exact absurd e (by decide)
              · exact e
            rw [if_neg (by decide)]
            unfold rp at *
            omega
    have p17 := h17.2.1
    have c17 := h17.2.2.1
    refine t_if (fun h119 => ?_) (fun h119 => ?_)
    · rcases h17.2.2.2 with ⟨e, cd17⟩ | ⟨e, cd17, pp, -, lt⟩
      · refine t_ob _ (addNumber_s hN r17.1.1 cd17) (fun s21 h21 => ?_)
        have bad : gI s21 10 0 = 0 := by
          rcases h21.2.2.2 with ⟨e2, -⟩ | ⟨-, -, -, e2, -⟩
          · exact e2
          · rw [e] at e2; exact absurd e2 (by decide)
        obtain ⟨d, g1, g2, cd21⟩ := add1_bad h21
        exact J s21 d (rd_a r17 h21) h21.2.1 (by omega) cd21 (cp_t cp17 h21.2.2.1 hcc) (Or.inl bad)
      · refine t_ob _ (addNumber_s hN r17.1.1 cd17) (fun s21 h21 => ?_)
        have cp21 := cp_t cp17 h21.2.2.1 (by omega)
        rcases h21.2.2.2 with ⟨e2, cd21⟩ | ⟨e2, cd21, pp2, -, -⟩
        · exact J s21 _ (rd_a r17 h21) h21.2.1 (by omega) cd21 cp21 (Or.inl e2)
        · refine J s21 _ (rd_a r17 h21) h21.2.1 (by omega) cd21 cp21 (Or.inr ⟨by rw [e2, ← h10]; exact hl.1.symm, by omega, fun q => absurd h119 q, fun _ => ?_, fun q => ?_⟩)
          · obtain ⟨m, m1, m2⟩ := o3 h119
            refine ⟨m + 1, by omega, fun j hj => ?_⟩
            by_cases ej : j = m
            · rw [ej, ← m1]
              exact cl_cp h21.2.2.1 (by omega) lt
            · exact cl_cp h21.2.2.1 (by omega) (cl_cp c17 (by omega) (m2 j (by omega)))
          · rw [h119] at q; exact absurd q (by decide)
    · rcases h17.2.2.2 with ⟨e, cd17⟩ | ⟨e, cd17, pp, -, lt⟩
      · exact J s17 c' r17 (Int.le_refl _) hcc cd17 cp17 (Or.inl e)
      · refine J s17 (c' + 1) r17 (Int.le_refl _) (by omega) cd17 cp17 (Or.inr ⟨by rw [e, ← h10]; exact hl.1.symm, pp, fun q j q1 q2 => ?_, fun q => absurd q h119, fun q => ?_⟩)
        · by_cases ej : j = c'
          · rw [ej]; exact lt
          · exact cl_cp c17 (by omega) (o2 q j q1 (by omega))
        · have := o4 q
          omega
