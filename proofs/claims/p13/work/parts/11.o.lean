/-! again, alike, sign, end, duel, fewest of the first of the two -/
theorem isKept_s {a1 : Int32} {σ : Mem} : tot (f_Pa_isKept a1 σ) (fun r => rg 0 1 r ∧ (¬ r = 0 → rg 0 1 a1)) := by
  unfold f_Pa_isKept
  have z : rg 0 1 (0 : Int32) ∧ (¬ (0 : Int32) = 0 → rg 0 1 a1) := ⟨by decide, fun h => absurd rfl h⟩
  refine t_if (fun _ => t_some z) (fun h1 => t_if (fun _ => t_some z) (fun h2 => ?_))
  have f := rg_ltL (lo := 0) (hi := 1) (i_nle h2) (rg_leR (lo := 0) (hi := 2147483647) (i_nlt h1) (by decide : rg 0 0 (0 : Int32)) (rg_f a1) (by decide)) (by decide : rg 2 2 (2 : Int32)) (by decide)
  exact t_gd (inb_rg f (by decide)) (t_if (fun _ => t_some z) (fun _ => t_some ⟨by decide, fun _ => f⟩))
theorem D_again_t {N : Nat} (hN : 8589934592 ≤ N) {a1 : Int32} {σ : Mem} (hm : InvD σ) : tot (f_D_again N a1 σ) (fun q => KD [3, 5, 13] [15] σ q.2) := by
  unfold f_D_again
  refine t_ob _ isKept_s (fun r1 ⟨_, h1⟩ => t_if (fun _ => t_some (kd_r hm)) (fun h => ?_))
  refine t_ob _ (Du_packedN_t hN hm) (fun r2 j2 => ?_)
  refine t_ob _ (Pa_remember_t j2 hm) (fun s3 k3 => ?_)
  refine t_gd (inb_rg (h1 h) (by decide)) ?_
  refine t_ob _ (Du_unpackN_t hN (k3.1.j16 _) k3.1) (fun s4 k4 => t_some ?_)
  exact kd_t (kd_t (kd_r hm) k3 (by decide) (by decide)) k4 (by decide) (by decide)
theorem D_alike_t {N : Nat} (hN : 8589934592 ≤ N) {a1 a2 : Int32} {σ : Mem} (hm : InvD σ) : tot (f_D_alike N a1 a2 σ) (fun q => KD [4, 14, 27] [] σ q.2) := by
  unfold f_D_alike
  refine t_ob _ isKept_s (fun r1 ⟨_, h1⟩ => t_if (fun _ => t_some (kd_r hm)) (fun h => t_if (fun _ => t_some (kd_r hm)) (fun _ => t_if (fun _ => ?_) (fun _ => t_some (kd_r hm)))))
  refine t_gd (inb_rg (h1 h) (by decide)) ?_
  refine t_ob _ (Du_unpackS_t hN (hm.j16 _) hm) (fun s2 k2 => ?_)
  have k2' := kd_t (S := [4, 14, 27]) (J := []) (kd_r hm) k2 (by decide) (by decide)
  refine t_if (fun _ => ?_) (fun _ => ?_)
  · refine t_ob2 (fun _ s => KD [27] [] s2 s) (t_mono (Na_waysToRenameNS_t hN k2.1) (fun q h => h.2)) (fun r5 s4 k4 => ?_)
    have k4' := kd_t (S := [4, 14, 27]) (J := []) k2' k4 (by decide) (by decide)
    exact t_if (fun _ => t_some k4') (fun _ => t_some k4')
  · exact t_ob _ (Du_arrowsUnlikeN_t hN k2.1) (fun r3 _ => t_some k2')
theorem D_end_t {a1 : Int32} {σ : Mem} (hm : InvD σ) : tot (f_D_end a1 σ) (fun q => KD [1] [] σ q.2 ∧ if 0 ≤ a1.toInt ∧ a1.toInt ≤ (gI σ 1 0).toInt then q.1 = 1 ∧ gI q.2 1 0 = a1 else q.1 = 0 ∧ gI q.2 1 0 = gI σ 1 0) := by
  unfold f_D_end
  refine t_ob2 (fun r s => KD [1] [] σ s ∧ if 0 ≤ a1.toInt ∧ a1.toInt ≤ (gI σ 1 0).toInt then r = 1 ∧ gI s 1 0 = a1 else r = 0 ∧ gI s 1 0 = gI σ 1 0) ?_ (fun r s h => t_gd ?_ (t_some h))
  · unfold f_Sg_cutTo
    have f7 := (hm.r1 0).2
    refine t_if (fun h => t_some ⟨kd_r hm, ?_⟩) (fun h => t_if (fun h2 => ?_) (fun h2 => t_some ⟨kd_r hm, ?_⟩))
    · rw [i_lt] at h
      have : (0 : Int32).toInt = 0 := by decide
      rw [if_neg (by omega)]
      exact ⟨rfl, rfl⟩
    · rw [i_lt] at h
      rw [i_le] at h2
      have : (0 : Int32).toInt = 0 := by decide
      refine t_lm (KD [1] [] σ) (kd_s (kd_r hm) (by decide) (dS1 hm ⟨by omega, by omega⟩)) (fun s1 e1 k1 => t_some ⟨k1, ?_⟩)
      rw [if_pos (by omega)]
      refine ⟨rfl, ?_⟩
      rw [e1, gI_sI, if_pos rfl, upd_ap, if_pos rfl]
    · rw [i_le] at h2
      rw [if_neg (by omega)]
      exact ⟨rfl, rfl⟩
  · have h := h.2
    split at h
    · rw [h.1]; decide
    · rw [h.1]; decide
theorem D_sign_t {N : Nat} (hN : 8589934592 ≤ N) {a1 : Int32} {σ : Mem} (hm : InvD σ) : tot (f_D_sign N a1 σ) (fun q => KD [1, 12] [] σ q.2 ∧ ∃ k, k ≤ 300 ∧ gI σ 1 0 = nI k ∧ if k + 4 ≤ 300 then q.1 = nI (k + 4) ∧ gI q.2 1 0 = nI (k + 4) else q.1 = -1 ∧ gI q.2 1 0 = nI k) := by
  unfold f_D_sign
  refine t_ob2 (fun r s => KD [1, 12] [] σ s ∧ ∃ k, k ≤ 300 ∧ gI σ 1 0 = nI k ∧ if k + 4 ≤ 300 then r = nI (k + 4) ∧ gI s 1 0 = nI (k + 4) else r = -1 ∧ gI s 1 0 = nI k) ?_ (fun r s h => t_some h)
  unfold f_Sg_addFour
  obtain ⟨n, hn, -, hn3, -⟩ := rg_ex (hm.r1 0) (by decide)
  rw [hn, l4, nI_add, l300]
  refine t_if (fun h => ?_) (fun h => ?_)
  · have h2 : n + 4 ≤ 300 := by rwa [nle (by omega) (by decide)] at h
    refine t_it2 (fun i s => (∃ k, k ≤ 4 ∧ i = nI (8 * (4 - k)) + (-8) ∧ gI s 1 0 = nI (n + k)) ∧ KD [1, 12] [] σ s) (fun i _ => (i + 8).toNatClampNeg) ?_ N _ _ ⟨⟨0, by decide, by decide, hn⟩, kd_r hm⟩ (Nat.lt_of_le_of_lt (by decide : ((24 : Int32) + 8).toNatClampNeg ≤ 32) (by omega))
    rintro self _ s ⟨⟨k, hk, rfl, hs⟩, ks⟩ ih
    unfold Sg_addFour_B17
    have ei : ∀ j, j < 5 → ((nI (8 * (4 - j)) + (-8) < 0) ↔ j = 4) := by decide
    refine t_if (fun h3 => ?_) (fun h3 => ?_)
    · have : k = 4 := (ei k (by omega)).mp h3
      subst this
      refine t_some ⟨ks, n, by omega, rfl, ?_⟩
      rw [if_pos h2]
      exact ⟨hs, hs⟩
    · have hk4 : k < 4 := by
        have : k ≠ 4 := fun e => h3 ((ei k (by omega)).mpr e)
        omega
      rw [hs]
      refine t_gd (inb_nI (by omega) (by decide)) ?_
      have fb : ∀ x : Int32, rg 0 65535 (vp_nar .char x) := by
        intro x
        show rg 0 65535 (x.toUInt32 % 65536).toInt32
        have h1 : (x.toUInt32 % 65536).toInt32.toBitVec.toNat < 65536 := by
          show (x.toUInt32 % 65536).toNat < 65536
          rw [UInt32.toNat_mod]
          exact Nat.mod_lt _ (by decide)
        have := i_of_nat (x := (x.toUInt32 % 65536).toInt32) (by omega)
        unfold rg
        omega
      refine t_lm (KD [1, 12] [] σ) (kd_s ks (by decide) (dS12 ks.1 (fb _))) (fun t et kt => ?_)
      have qt : gI t 1 0 = nI (n + k) := by rw [et, gI_sI, if_neg (by decide)]; exact hs
      rw [qt, nadd1]
      refine t_lm (KD [1, 12] [] σ) (kd_s kt (by decide) (dS1 kt.1 (nI_rg (by omega) (by omega)))) (fun u eu ku => ?_)
      have ej : ∀ j, j < 4 → nI (8 * (4 - j)) + (-8) + (-8) = nI (8 * (4 - (j + 1))) + (-8) := by decide
      have em : ∀ j, j < 4 → (nI (8 * (4 - (j + 1))) + (-8) + 8).toNatClampNeg < (nI (8 * (4 - j)) + (-8) + 8).toNatClampNeg := by decide
      rw [ej k hk4]
      refine ih _ _ ⟨⟨k + 1, by omega, rfl, ?_⟩, ku⟩ (em k hk4)
      rw [eu, gI_sI, if_pos rfl, upd_ap, if_pos rfl]
      rfl
  · have h2 : ¬ n + 4 ≤ 300 := by rwa [nle (by omega) (by decide)] at h
    refine t_some ⟨kd_r hm, n, by omega, rfl, ?_⟩
    rw [if_neg h2]
    exact ⟨rfl, hn⟩
theorem D_duel_t {N : Nat} (hN : 8589934592 ≤ N) {a1 a2 a3 : Int32} {σ : Mem} (hm : InvD σ) : tot (f_D_duel N a1 a2 a3 σ) (fun _ => True) := by
  unfold f_D_duel
  refine t_if (fun _ => t_some trivial) (fun h1 => t_if (fun _ => t_some trivial) (fun h2 => t_if (fun _ => t_some trivial) (fun h3 => ?_)))
  have f1 := c_pl h1 hm
  have f2 := c_pl h2 hm
  refine t_sw1 (fun _ => ?_) (fun _ => t_sw1 (fun _ => ?_) (fun _ => t_sw1 (fun _ => ?_) (fun _ => t_sw0 (t_some trivial))))
  · exact t_ob _ (Du_isBeatingN_t f1 hm) (fun _ _ => t_if (fun _ => t_some trivial) (fun _ => t_some trivial))
  · exact t_ob _ (Se_isCovering_t f1 f2 (ev_rg hm) hm) (fun _ _ => t_if (fun _ => t_some trivial) (fun _ => t_some trivial))
  · exact t_gd (inb_rg f1 (by decide)) (t_ob _ (Du_beatersOfN_t f2 (ev_rg hm) hm) (fun _ _ => t_ob _ (D_lowestOf_t hN) (fun _ _ => t_some trivial)))
theorem t_rec5 {T1 T2 T3 T4 T5 X : Type} {body : (T1 → T2 → T3 → T4 → T5 → Option X) → T1 → T2 → T3 → T4 → T5 → Option X} (P : T1 → T2 → T3 → T4 → T5 → X → Prop) (I : T1 → T2 → T3 → T4 → T5 → Prop) (m : T1 → T2 → T3 → T4 → T5 → Nat) (h : ∀ (self : T1 → T2 → T3 → T4 → T5 → Option X) (a1 : T1) (a2 : T2) (a3 : T3) (a4 : T4) (a5 : T5), I a1 a2 a3 a4 a5 → (∀ (b1 : T1) (b2 : T2) (b3 : T3) (b4 : T4) (b5 : T5), I b1 b2 b3 b4 b5 → m b1 b2 b3 b4 b5 < m a1 a2 a3 a4 a5 → tot (self b1 b2 b3 b4 b5) (P b1 b2 b3 b4 b5)) → tot (body self a1 a2 a3 a4 a5) (P a1 a2 a3 a4 a5)) : ∀ (n : Nat) (a1 : T1) (a2 : T2) (a3 : T3) (a4 : T4) (a5 : T5), I a1 a2 a3 a4 a5 → m a1 a2 a3 a4 a5 < n → tot (it5 body n a1 a2 a3 a4 a5) (P a1 a2 a3 a4 a5)
  | 0, _, _, _, _, _, _, hm => absurd hm (Nat.not_lt_zero _)
  | n + 1, a1, a2, a3, a4, a5, hI, hm => h _ a1 a2 a3 a4 a5 hI (fun b1 b2 b3 b4 b5 hI2 hm2 => t_rec5 P I m h n b1 b2 b3 b4 b5 hI2 (by omega))
theorem Du_flipN_s {a b : Nat} (ha : a < 8) (hb : b < 8) (hab : a ≠ b) {σ : Mem} (hm : InvD σ) : tot (f_Du_flipN (nI a) (nI b) σ) (fun s => KD [13] [] σ s ∧ ∀ i, gI s 13 i = if i = b then gI σ 13 i ^^^ ((1 : Int32) <<< (nI a &&& 31)) else if i = a then gI σ 13 i ^^^ ((1 : Int32) <<< (nI b &&& 31)) else gI σ 13 i) := by
  unfold f_Du_flipN
  refine t_gd (inb_nI ha (by decide)) (t_gd (inb_nI ha (by decide)) ?_)
  rw [nI_clamp (by omega)]
  refine t_lm (KD [13] [] σ) (kd_s (kd_r hm) (by decide) (dS13 hm (rg_xor 8 (hm.r13 _) (o255 hb) (by decide)))) (fun s1 e1 k1 => ?_)
  refine t_gd (inb_nI hb (by decide)) (t_gd (inb_nI hb (by decide)) ?_)
  rw [nI_clamp (by omega)]
  refine t_lm (KD [13] [] σ) (kd_s k1 (by decide) (dS13 k1.1 (rg_xor 8 (k1.1.r13 _) (o255 ha) (by decide)))) (fun s2 e2 k2 => ?_)
  refine t_some ⟨k2, fun i => ?_⟩
  rw [e2, gI_sI, if_pos rfl, upd_ap]
  by_cases h1 : i = b
  · rw [if_pos h1, if_pos h1, e1, gI_sI, if_pos rfl, upd_ap, if_neg (by omega), h1]
  · rw [if_neg h1, if_neg h1, e1, gI_sI, if_pos rfl, upd_ap]
    by_cases h2 : i = a
    · rw [if_pos h2, if_pos h2, h2]
    · rw [if_neg h2, if_neg h2]
theorem flip_back {a b : Nat} {f g h : Nat → Int32} (h1 : ∀ i, g i = if i = b then f i ^^^ ((1 : Int32) <<< (nI a &&& 31)) else if i = a then f i ^^^ ((1 : Int32) <<< (nI b &&& 31)) else f i) (h2 : ∀ i, h i = if i = b then g i ^^^ ((1 : Int32) <<< (nI a &&& 31)) else if i = a then g i ^^^ ((1 : Int32) <<< (nI b &&& 31)) else g i) : h = f := by
  funext i
  rw [h2, h1]
  by_cases e1 : i = b
  · rw [if_pos e1, if_pos e1, xx]
  · rw [if_neg e1, if_neg e1]
    by_cases e2 : i = a
    · rw [if_pos e2, if_pos e2, xx]
    · rw [if_neg e2, if_neg e2]
abbrev dS : List Nat := [17, 18, 19, 20, 21, 22, 23]
theorem kd_flip {σ s t u v : Mem} {a b : Nat} (h0 : KD dS [] σ s) (h1 : KD [13] [] s t ∧ ∀ i, gI t 13 i = if i = b then gI s 13 i ^^^ ((1 : Int32) <<< (nI a &&& 31)) else if i = a then gI s 13 i ^^^ ((1 : Int32) <<< (nI b &&& 31)) else gI s 13 i) (h2 : KD dS [] t u) (h3 : KD [13] [] u v ∧ ∀ i, gI v 13 i = if i = b then gI u 13 i ^^^ ((1 : Int32) <<< (nI a &&& 31)) else if i = a then gI u 13 i ^^^ ((1 : Int32) <<< (nI b &&& 31)) else gI u 13 i) : KD dS [] σ v := by
  refine ⟨h3.1.1, fun k hk => ?_, fun k hk => ?_⟩
  · by_cases e : k = 13
    · subst e
      have q := h2.2.1 13 (by decide)
      have := h3.2
      rw [q] at this
      rw [flip_back h1.2 this]
      exact h0.2.1 13 hk
    · rw [h3.1.2.1 k (by simpa using e), h2.2.1 k hk, h1.1.2.1 k (by simpa using e)]
      exact h0.2.1 k hk
  · rw [h3.1.2.2 k (by simp), h2.2.2 k hk, h1.1.2.2 k (by simp)]
    exact h0.2.2 k hk
theorem D_getsInto_t {N : Nat} (hN : 8589934592 ≤ N) {a1 a2 a3 a4 : Int32} (h_a1 : rg 0 7 a1) (h_a2 : rg 0 9 a2) (h_a3 : rg 0 2 a3) (h_a4 : rg 0 64 a4) {σ : Mem} (hm : InvD σ) : tot (f_D_getsInto N 10 a1 a2 a3 a4 σ) (fun q => rg 0 1 q.1 ∧ KD dS [] σ q.2) := by
  unfold f_D_getsInto
  refine t_rec5 (fun _ _ _ _ (σ : Mem) (q : Int32 × Mem) => rg 0 1 q.1 ∧ KD dS [] σ q.2) (fun a1 a2 a3 a4 σ => rg 0 7 a1 ∧ rg 0 9 a2 ∧ rg 0 2 a3 ∧ rg 0 64 a4 ∧ InvD σ) (fun _ _ a3 _ _ => (a3.toInt - (-1)).toNat) ?_ 10 _ _ _ _ _ ⟨h_a1, h_a2, h_a3, h_a4, hm⟩ (by have := h_a3.2; omega)
  rintro self a1 a2 a3 a4 σ ⟨f1, f2, f3, f4, hm⟩ ih
  unfold D_getsInto_R
  refine t_ob2 (fun r s => rg 0 1 r ∧ KD [17, 18] [] σ s) (D_isTooFar_t hN f1 f2 f3 hm) (fun r2 s1 ⟨_, k1⟩ => ?_)
  have k1' := kd_t (S := dS) (J := []) (kd_r hm) k1 (by decide) (by decide)
  refine t_if (fun _ => ?_) (fun _ => t_some ⟨(by decide : rg 0 1 (0 : Int32)), k1'⟩)
  refine t_if (fun h3 => ?_) (fun h3 => ?_)
  · have f3' := rg_ltR (lo := 1) (hi := 2) h3 (by decide : rg 0 0 (0 : Int32)) f3 (by decide)
    refine t_it2 (fun i s => rg 0 64 i ∧ KD dS [] σ s) (fun i _ => (64 - i.toInt).toNat) ?_ _ _ _ ⟨f4, k1'⟩ (ms_u0 hN _ (by decide))
    rintro self2 i s ⟨fi, ks⟩ ih2
    unfold D_getsInto_B49
    refine t_if (fun _ => t_some ⟨(by decide : rg 0 1 (0 : Int32)), ks⟩) (fun h4 => ?_)
    have fi' := rg_ltL (lo := 0) (hi := 63) (i_nle h4) fi (by decide : rg 64 64 (64 : Int32)) (by decide)
    have nx := rg_w (lo := 0) (hi := 64) (rg_add (lo := 1) (hi := 64) fi' (by decide : rg 1 1 (1 : Int32)) (by decide)) (by decide)
    have ms := ms_up (m := 64) fi' (by decide : rg 1 1 (1 : Int32)) (by decide)
    refine t_le 0 7 (rg_div fi' (by decide : rg 8 8 (8 : Int32)) (by decide)) (fun x6 _ f6 => ?_)
    refine t_le 0 7 (rg_mod fi' (by decide : rg 8 8 (8 : Int32)) (by decide)) (fun x7 _ f7 => ?_)
    refine t_if (fun _ => ih2 _ _ ⟨nx, ks⟩ ms) (fun h67 => t_if (fun _ => ?_) (fun _ => ih2 _ _ ⟨nx, ks⟩ ms))
    obtain ⟨a, rfl, -, ha, -⟩ := rg_ex f6 (by decide)
    obtain ⟨b, rfl, -, hb, -⟩ := rg_ex f7 (by decide)
    have hab : a ≠ b := fun e => h67 (by rw [e, i_le]; exact Int.le_refl _)
    refine t_ob _ (Du_flipN_s (by omega) (by omega) hab ks.1) (fun s8 h8 => ?_)
    refine t_ob2 (fun r u => rg 0 1 r ∧ KD dS [] s8 u) (ih _ _ _ _ _ ⟨f1, f2, rg_sub f3' (by decide : rg 1 1 (1 : Int32)) (by decide), nx, h8.1.1⟩ (ms_ds f3' (by decide : rg 1 1 (1 : Int32)) (by decide))) (fun r10 s9 ⟨_, k9⟩ => ?_)
    refine t_ob _ (Du_flipN_s (by omega) (by omega) hab k9.1) (fun s11 h11 => ?_)
    have k11 := kd_flip ks h8 k9 h11
    exact t_if (fun _ => ih2 _ _ ⟨nx, k11⟩ ms) (fun _ => t_some ⟨(by decide : rg 0 1 (1 : Int32)), k11⟩)
  · refine t_ob2 (fun r s => rg 0 255 r ∧ KD dS [] s1 s) (Se_ofKind_t hN f2 (ev_rg k1.1) k1.1) (fun r13 s12 ⟨_, k12⟩ => ?_)
    have k12' := kd_t (S := dS) (J := []) k1' k12 (by decide) (by decide)
    exact t_if (fun _ => t_some ⟨(by decide : rg 0 1 (1 : Int32)), k12'⟩) (fun _ => t_some ⟨(by decide : rg 0 1 (0 : Int32)), k12'⟩)
theorem D_fewest_t {N : Nat} (hN : 8589934592 ≤ N) {a1 a2 : Int32} {σ : Mem} (hm : InvD σ) : tot (f_D_fewest N a1 a2 σ) (fun q => KD dS [] σ q.2) := by
  unfold f_D_fewest
  refine t_if (fun _ => t_some (kd_r hm)) (fun h1 => t_if (fun _ => t_some (kd_r hm)) (fun h2 => ?_))
  have f1 := c_pl h1 hm
  have f2 := c_kind h2
  refine t_it2 (fun i s => rg 0 3 i ∧ KD dS [] σ s) (fun i _ => (3 - i.toInt).toNat) ?_ _ _ _ ⟨by decide, kd_r hm⟩ (ms_u0 hN _ (by decide))
  rintro self i s ⟨fi, ks⟩ ih
  unfold D_fewest_B22
  refine t_if (fun _ => t_some ks) (fun h4 => ?_)
  have fi' := rg_leL (lo := 0) (hi := 2) (i_nlt h4) fi (by decide : rg 2 2 (2 : Int32)) (by decide)
  refine t_ob2 (fun r u => rg 0 1 r ∧ KD dS [] s u) (D_getsInto_t hN f1 f2 fi' (by decide) ks.1) (fun r5 s4 ⟨_, k4⟩ => ?_)
  have k4' := kd_t (S := dS) (J := []) ks k4 (by decide) (by decide)
  exact t_if (fun _ => ih _ _ ⟨rg_w (lo := 0) (hi := 3) (rg_add (lo := 1) (hi := 3) fi' (by decide : rg 1 1 (1 : Int32)) (by decide)) (by decide), k4'⟩ (ms_up fi' (by decide : rg 1 1 (1 : Int32)) (by decide))) (fun _ => t_some k4')
