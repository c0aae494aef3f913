/-! the fewest turned arrows: the search of the component -/
def DS (N n k x : Nat) : Nat → Nat → (Nat → Int32) → Prop
  | 0, _, f => Inn N n k x f
  | t + 1, p, f => ∃ r, p ≤ r ∧ r < 64 ∧ r / 8 < r % 8 ∧ r % 8 < n ∧ DS N n k x t (r + 1) (flp f (r / 8) (r % 8))
theorem ds_rc {N n k x : Nat} : ∀ t p (f : Nat → Int32), DS N n k x t p f → Rc N n k x t f
  | 0, _, _, h => h
  | t + 1, p, f, h => by
    obtain ⟨r, -, -, h3, h4, h5⟩ := h
    exact ⟨r / 8, r % 8, h3, h4, ds_rc t _ _ h5⟩
theorem gi_D {N d : Nat} (hN : 8589934592 ≤ N) {n k x t p : Nat} (hx : x < n) (hk : k < 10) (ht : t ≤ 2) (hp : p ≤ 64) {σ : Mem} (hD : InvD σ) (h3 : gI σ 3 0 = nI n) (hO : Okf n (gI σ 13)) : par (f_D_getsInto N d (nI x) (nI k) (nI t) (nI p) σ) (fun q => KD dS [] σ q.2 ∧ ((q.1 = 1 ∧ DS N n k x t p (gI σ 13)) ∨ (q.1 = 0 ∧ ¬ DS N n k x t p (gI σ 13)))) := by
  have h8 := hO.1.1
  have l8' : (8 : Int32) = nI 8 := rfl
  have l64 : (64 : Int32) = nI 64 := rfl
  have key := p_rec5 (body := D_getsInto_R N) (fun _ _ a3 a4 (σ : Mem) (q : Int32 × Mem) => KD dS [] σ q.2 ∧ ((q.1 = 1 ∧ DS N n k x a3.toNatClampNeg a4.toNatClampNeg (gI σ 13)) ∨ (q.1 = 0 ∧ ¬ DS N n k x a3.toNatClampNeg a4.toNatClampNeg (gI σ 13)))) (fun a1 a2 a3 a4 σ => a1 = nI x ∧ a2 = nI k ∧ (∃ t, t ≤ 2 ∧ a3 = nI t) ∧ (∃ p, p ≤ 64 ∧ a4 = nI p) ∧ InvD σ ∧ gI σ 3 0 = nI n ∧ Okf n (gI σ 13)) ?_ d (nI x) (nI k) (nI t) (nI p) σ ⟨rfl, rfl, ⟨t, ht, rfl⟩, ⟨p, hp, rfl⟩, hD, h3, hO⟩
  · rw [nI_clamp (by omega), nI_clamp (by omega)] at key
    exact key
  · clear ht hp hD h3 hO
    rintro self _ _ _ _ σ ⟨rfl, rfl, ⟨t, ht, rfl⟩, ⟨p, hp, rfl⟩, hD, h3, hO⟩ ih
    rw [nI_clamp (by omega), nI_clamp (by omega)]
    unfold D_getsInto_R
    refine p_obq _ (p_and (tf_D hN hD h3 hO hx hk ht) (tp (D_isTooFar_t hN (nI_rg (by omega) (by omega) : rg 0 7 (nI x)) (nI_rg (by omega) (by omega) : rg 0 9 (nI k)) (nI_rg (by omega) (by omega) : rg 0 2 (nI t)) hD))) (fun r2 s1 h => ?_)
    obtain ⟨hr, -, k1⟩ := h
    have k1' : KD dS [] σ s1 := kd_t (S := dS) (J := []) (kd_r hD) k1 (by decide) (by decide)
    have g13 : gI s1 13 = gI σ 13 := k1'.2.1 13 (by decide)
    have g3 : gI s1 3 0 = nI n := by rw [k1'.2.1 3 (by decide)]; exact h3
    refine p_if (fun _ => ?_) (fun c => ?_)
    · refine p_if (fun c3 => ?_) (fun c3 => ?_)
      · have t1 : 1 ≤ t := by
          by_cases z : t = 0
          · rw [z] at c3
            exact absurd c3 (by decide)
          · omega
        obtain ⟨t', et⟩ : ∃ t', t = t' + 1 := ⟨t - 1, by omega⟩
        subst et
        refine p_it2 (fun i s => ∃ r, p ≤ r ∧ r ≤ 64 ∧ i = nI r ∧ KD dS [] σ s ∧ ∀ r', p ≤ r' → r' < r → ¬ (r' / 8 < r' % 8 ∧ r' % 8 < n ∧ DS N n k x t' (r' + 1) (flp (gI σ 13) (r' / 8) (r' % 8)))) ?_ N _ _ ⟨p, Nat.le_refl _, hp, rfl, k1', fun r' a b => by omega⟩
        rintro self2 _ s ⟨r, pr1, pr2, rfl, ks, hno⟩ ih2
        unfold D_getsInto_B49
        refine p_if (fun c => ?_) (fun c => p_bnd (p_bnd ?_))
        · rw [l64, nle (by omega) (by omega)] at c
          refine p_some ⟨ks, Or.inr ⟨rfl, ?_⟩⟩
          rintro ⟨r', q1, q2, q3, q4, q5⟩
          exact hno r' q1 (by omega) ⟨q3, q4, q5⟩
        · rw [l64, nle (by omega) (by omega)] at c
          have s13 : gI s 13 = gI σ 13 := ks.2.1 13 (by decide)
          have s3 : gI s 3 0 = nI n := by rw [ks.2.1 3 (by decide)]; exact h3
          rw [l8', nmod (by omega) (by omega) (by omega), ndiv (by omega) (by omega) (by omega), nadd1, s3]
          have next : ∀ s', KD dS [] σ s' → ¬ (r / 8 < r % 8 ∧ r % 8 < n ∧ DS N n k x t' (r + 1) (flp (gI σ 13) (r / 8) (r % 8))) → par (self2 (nI (r + 1)) s') (fun q => KD dS [] σ q.2 ∧ ((q.1 = 1 ∧ DS N n k x (t' + 1) p (gI σ 13)) ∨ (q.1 = 0 ∧ ¬ DS N n k x (t' + 1) p (gI σ 13)))) := fun s' ks' hn => by
            refine ih2 _ _ ⟨r + 1, by omega, by omega, rfl, ks', fun r' a b => ?_⟩
            by_cases cr : r' = r
            · rw [cr]; exact hn
            · exact hno r' a (by omega)
          refine p_if (fun c67 => ?_) (fun c67 => ?_)
          · rw [nle (by omega) (by omega)] at c67
            exact next s ks (fun q => by omega)
          · rw [nle (by omega) (by omega)] at c67
            refine p_if (fun c7 => ?_) (fun c7 => ?_)
            · rw [nlt (by omega) (by omega)] at c7
              have ab : r / 8 ≠ r % 8 := by omega
              refine p_ob _ (tp (Du_flipN_s (by omega) (by omega) ab ks.1)) (fun s8 h8' => ?_)
              have f8 : gI s8 13 = flp (gI σ 13) (r / 8) (r % 8) := by
                funext i
                rw [h8'.2 i, s13]
                rfl
              have Of : Okf n (gI s8 13) := by
                rw [f8]
                exact Okf_f hO (by omega) (by omega) ab
              rw [nsub1' (by omega)]
              have e1 : t' + 1 - 1 = t' := by omega
              rw [e1]
              refine p_obq _ (ih (nI x) (nI k) (nI t') (nI (r + 1)) s8 ⟨rfl, rfl, ⟨t', by omega, rfl⟩, ⟨r + 1, by omega, rfl⟩, h8'.1.1, by rw [h8'.1.2.1 3 (by decide)]; exact s3, Of⟩) (fun r10 s9 h10 => ?_)
              obtain ⟨k9, h10⟩ := h10
              rw [nI_clamp (by omega), nI_clamp (by omega), f8] at h10
              refine p_ob _ (tp (Du_flipN_s (by omega) (by omega) ab k9.1)) (fun s11 h11 => ?_)
              have k11 := kd_flip ks h8' k9 h11
              refine p_if (fun c10 => ?_) (fun c10 => p_some ⟨k11, ?_⟩)
              · refine next s11 k11 (fun q => ?_)
                rcases h10 with ⟨z, -⟩ | ⟨-, z⟩
                · have z' : r10 = 1 := z
                  rw [z'] at c10
                  exact absurd c10 (by decide)
                · exact z q.2.2
              · rcases h10 with ⟨-, z⟩ | ⟨z, -⟩
                · exact Or.inl ⟨rfl, r, pr1, by omega, by omega, c7, z⟩
                · exact absurd z c10
            · rw [nlt (by omega) (by omega)] at c7
              exact next s ks (fun q => c7 q.2.1)
      · have t0 : t = 0 := by
          by_cases z : t = 0
          · exact z
          · rcases (show t = 1 ∨ t = 2 by omega) with w | w <;> rw [w] at c3 <;> exact absurd (by decide) c3
        subst t0
        have ev : t_Du_everybodyN s1 = nI (2 ^ n - 1) := by
          unfold t_Du_everybodyN
          rw [g3, mask_e n h8]
        obtain ⟨p1, p2'⟩ := pw_b h8
        rw [ev]
        refine p_obq _ (p_and (P := fun q => bt q.1 x = true ↔ Inn N n k x (gI σ 13)) (fun q e => inn_D hN hk hO k1.1 g3 g13 e) (tp (Se_ofKind_t hN (nI_rg (by omega) (by omega) : rg 0 9 (nI k)) (nI_rg (by omega) (by omega) : rg 0 255 (nI (2 ^ n - 1))) k1.1))) (fun r13 s12 h => ?_)
        obtain ⟨hi, -, k12⟩ := h
        have hi' : bt r13 x = true ↔ Inn N n k x (gI σ 13) := hi
        have k12' : KD dS [] σ s12 := kd_t (S := dS) (J := []) k1' k12 (by decide) (by decide)
        rw [bit_bt (by omega)]
        cases c : bt r13 x
        · rw [if_neg (show ¬ (if false = true then (1 : Int32) else 0) = 1 by decide)]
          refine p_some ⟨k12', Or.inr ⟨rfl, fun q => ?_⟩⟩
          rw [hi'.mpr q] at c
          cases c
        · rw [if_pos (show (if true = true then (1 : Int32) else 0) = 1 from rfl)]
          exact p_some ⟨k12', Or.inl ⟨rfl, hi'.mp c⟩⟩
    · refine p_some ⟨k1', Or.inr ⟨rfl, fun q => ?_⟩⟩
      rcases hr with z | ⟨-, z⟩
      · exact c z
      · exact z (ds_rc t p _ q)
theorem few_D {N : Nat} (hN : 8589934592 ≤ N) {n k x : Nat} (hx : x < n) (hk : k < 10) {σ : Mem} (hD : InvD σ) (h3 : gI σ 3 0 = nI n) (hO : Okf n (gI σ 13)) : par (it2 (D_fewest_B22 N (nI x) (nI k)) N (0 : Int32) σ) (fun q => (∃ t, t ≤ 2 ∧ q.1 = nI t ∧ DS N n k x t 0 (gI σ 13) ∧ ∀ t', t' < t → ¬ DS N n k x t' 0 (gI σ 13)) ∨ (q.1 = -2 ∧ ∀ t, t ≤ 2 → ¬ DS N n k x t 0 (gI σ 13))) := by
  have l2' : (2 : Int32) = nI 2 := rfl
  refine p_it2 (fun i s => ∃ t, t ≤ 3 ∧ i = nI t ∧ KD dS [] σ s ∧ ∀ t', t' < t → ¬ DS N n k x t' 0 (gI σ 13)) ?_ N _ _ ⟨0, by omega, rfl, kd_r hD, fun t' h => by omega⟩
  rintro self _ s ⟨t, ht, rfl, ks, hno⟩ ih
  unfold D_fewest_B22
  refine p_if (fun c => ?_) (fun c => ?_)
  · rw [l2', nlt (by omega) (by omega)] at c
    exact p_some (Or.inr ⟨rfl, fun t' h => hno t' (by omega)⟩)
  · rw [l2', nlt (by omega) (by omega)] at c
    have s13 : gI s 13 = gI σ 13 := ks.2.1 13 (by decide)
    have s3 : gI s 3 0 = nI n := by rw [ks.2.1 3 (by decide)]; exact h3
    refine p_obq _ (gi_D (d := 10) (p := 0) hN hx hk (by omega : t ≤ 2) (by omega) ks.1 s3 (by rw [s13]; exact hO)) (fun r5 s4 h => ?_)
    obtain ⟨k4, h⟩ := h
    rw [s13] at h
    have k4' : KD dS [] σ s4 := kd_t (S := dS) (J := []) ks k4 (by decide) (by decide)
    rw [nadd1]
    refine p_if (fun c5 => ?_) (fun c5 => ?_)
    · refine ih _ _ ⟨t + 1, by omega, rfl, k4', fun t' ht' => ?_⟩
      by_cases ct : t' = t
      · rw [ct]
        rcases h with ⟨z, -⟩ | ⟨-, z⟩
        · have z' : r5 = 1 := z
          rw [z'] at c5
          exact absurd c5 (by decide)
        · exact z
      · exact hno t' (by omega)
    · rcases h with ⟨-, z⟩ | ⟨z, -⟩
      · exact p_some (Or.inl ⟨t, by omega, rfl, z, hno⟩)
      · exact absurd z c5
