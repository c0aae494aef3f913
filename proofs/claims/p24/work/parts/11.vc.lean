/-! the table of fewest turned arrows as numbers of sets; who wins a cup beats enough -/
theorem num_e {m m' : Nat} (hm : m < 256) (hm' : m' < 256) (h : bt (nI m) = bt (nI m')) : m = m' := nI_inj (by omega) (by omega) (bt_ext (fun j _ => by rw [h]))
theorem fo_mn {f T W : Nat → Int32} {m : Nat} {c : Nat → Nat} (hc : ∀ x, x < 8 → bt (nI m) x = true → vl f T m x = nI (c x) ∧ c x < 64) : ∀ k, k ≤ 8 → ∃ r, (fo 64 f T W m k).1 = nI r ∧ r ≤ 64 ∧ (∀ x, x < k → bt (nI m) x = true → r ≤ c x) ∧ ((r = 64 ∧ ∀ x, x < k → bt (nI m) x = false) ∨ ∃ x, x < k ∧ bt (nI m) x = true ∧ r = c x)
  | 0, _ => ⟨64, rfl, Nat.le_refl _, fun x hx => by omega, Or.inl ⟨rfl, fun x hx => by omega⟩⟩
  | k + 1, hk => by
    obtain ⟨r, r1, r2, r3, r4⟩ := fo_mn (W := W) hc k (by omega)
    have e : fo 64 f T W m (k + 1) = if bt (nI m) k = true then stp (fo 64 f T W m k) (vl f T m k) (W (clr (nI m) k).toNatClampNeg) else fo 64 f T W m k := rfl
    rw [e]
    by_cases d : bt (nI m) k = true
    · obtain ⟨v1, v2⟩ := hc k (by omega) d
      rw [if_pos d, v1]
      unfold stp
      rw [r1]
      by_cases q : c k < r
      · rw [if_pos ((nlt (by omega) (by omega)).mpr q)]
        refine ⟨c k, rfl, by omega, fun x hx hb => ?_, Or.inr ⟨k, by omega, d, rfl⟩⟩
        by_cases cx : x = k
        · rw [cx]; exact Nat.le_refl _
        · have := r3 x (by omega) hb
          omega
      · rw [if_neg (fun w => q ((nlt (by omega) (by omega)).mp w))]
        refine ⟨r, ?_, r2, fun x hx hb => ?_, ?_⟩
        · split
          · rfl
          · exact r1
        · by_cases cx : x = k
          · rw [cx]; omega
          · exact r3 x (by omega) hb
        · rcases r4 with ⟨z, -⟩ | ⟨x, x1, x2, x3⟩
          · omega
          · exact Or.inr ⟨x, by omega, x2, x3⟩
    · rw [if_neg d]
      refine ⟨r, r1, r2, fun x hx hb => ?_, ?_⟩
      · by_cases cx : x = k
        · rw [cx] at hb; exact absurd hb d
        · exact r3 x (by omega) hb
      · rcases r4 with ⟨z, z2⟩ | ⟨x, x1, x2, x3⟩
        · refine Or.inl ⟨z, fun x hx => ?_⟩
          by_cases cx : x = k
          · rw [cx]
            cases q : bt (nI m) k
            · rfl
            · exact absurd q d
          · exact z2 x (by omega)
        · exact Or.inr ⟨x, by omega, x2, x3⟩
theorem clr_s {m x : Nat} (hm : m < 256) (hx : x < 8) (hb : bt (nI m) x = true) : bt (nI (clr (nI m) x).toNatClampNeg) = rm (bt (nI m)) x ∧ (clr (nI m) x).toNatClampNeg < m ∧ pc (nI (clr (nI m) x).toNatClampNeg) + 1 = pc (nI m) := by
  obtain ⟨c1', c2', c3'⟩ := clr_f m hm x hx
  obtain ⟨c4, c5⟩ := c3' hb
  refine ⟨?_, c4, by rw [← c2']; exact c5⟩
  rw [← c2']
  funext i
  by_cases i32 : i < 32
  · rw [clr_bt hx i32]
    rfl
  · rw [bt_ge (by omega)]
    cases z : rm (bt (nI m)) x i
    · rfl
    · have := (rm_t.mp z).1
      rw [bt_ge (by omega)] at this
      cases this
theorem be_pc {f : Nat → Int32} {n m x : Nat} (h8 : n ≤ 8) (hm : m < 2 ^ n) (hx : x < 8) : pc (clr (nI m) x &&& (f x ^^^ (-1 : Int32))) = be f n x (rm (bt (nI m)) x) := by
  have bits : ∀ j, j < 32 → bt (clr (nI m) x &&& (f x ^^^ (-1 : Int32))) j = (rm (bt (nI m)) x j && !bt (f x) j) := fun j hj => by
    rw [bt_and, bt_not _ hj, clr_bt hx hj]
    rfl
  obtain ⟨u, u1, u2⟩ := sub_nI (n := n) h8 (a := clr (nI m) x &&& (f x ^^^ (-1 : Int32))) (fun j hj h => by
    rw [bits j hj, Bool.and_eq_true] at h
    exact bt_lo h8 hm (rm_t.mp h.1).1)
  have e := cn_pcb n (by omega) u u1
  rw [← u2] at e
  rw [← e]
  exact cn_c n (fun j hj => bits j (by omega))
theorem tb_D {f T W : Nat → Int32} {n : Nat} (h8 : n ≤ 8) (h0 : T 0 = 0) (hE : ∀ m, 0 < m → m < 2 ^ n → eqn 64 f n T W m) : ∃ τ : (Nat → Bool) → Nat, TB f n τ ∧ ∀ m, m < 2 ^ n → T m = nI (τ (bt (nI m))) ∧ τ (bt (nI m)) ≤ 56 ∧ ∀ x, bt (nI m) x = true → vl f T m x = nI (be f n x (rm (bt (nI m)) x) + τ (rm (bt (nI m)) x)) ∧ be f n x (rm (bt (nI m)) x) + τ (rm (bt (nI m)) x) ≤ 56 := by
  have hp : (2 : Nat) ^ n ≤ 256 := Nat.pow_le_pow_right (n := 2) (by decide) h8
  have idS : ∀ S : Nat → Bool, (∀ j, S j = true → j < n) → mkm S n < 2 ^ n ∧ bt (nI (mkm S n)) = S := fun S hS => by
    obtain ⟨a, b⟩ := mkm_f S n h8
    refine ⟨a, ?_⟩
    funext j
    rw [b j]
    cases c : S j
    · rfl
    · rw [decide_eq_true (hS j c)]
      rfl
  have idm : ∀ m, m < 2 ^ n → mkm (bt (nI m)) n = m := fun m hm => by
    obtain ⟨a, b⟩ := idS (bt (nI m)) (fun j hj => bt_lo h8 hm hj)
    exact num_e (by omega) (by omega) b
  obtain ⟨τ, eτ⟩ : ∃ τ : (Nat → Bool) → Nat, τ = fun S => (T (mkm S n)).toNatClampNeg := ⟨_, rfl⟩
  have tm : ∀ m r, m < 2 ^ n → T m = nI r → r < 1000 → τ (bt (nI m)) = r := fun m r hm h hr => by
    rw [eτ]
    show (T (mkm (bt (nI m)) n)).toNatClampNeg = r
    rw [idm m hm, h, nI_clamp (by omega)]
  have main : ∀ b m, m ≤ b → m < 2 ^ n → (∃ r, T m = nI r ∧ r ≤ 7 * pc (nI m) ∧ (0 < m → (∀ x, bt (nI m) x = true → r ≤ be f n x (rm (bt (nI m)) x) + τ (rm (bt (nI m)) x)) ∧ ∃ x, bt (nI m) x = true ∧ r = be f n x (rm (bt (nI m)) x) + τ (rm (bt (nI m)) x))) ∧ ∀ x, bt (nI m) x = true → vl f T m x = nI (be f n x (rm (bt (nI m)) x) + τ (rm (bt (nI m)) x)) ∧ be f n x (rm (bt (nI m)) x) + τ (rm (bt (nI m)) x) ≤ 7 * pc (nI m) := fun b => by
    induction b with
    | zero =>
      intro m h1 hm
      have e : m = 0 := by omega
      subst e
      refine ⟨⟨0, h0, Nat.zero_le _, fun q => by omega⟩, fun x hx => ?_⟩
      rw [show nI 0 = (0 : Int32) from rfl, bt_0] at hx
      cases hx
    | succ b ih =>
      intro m h1 hm
      by_cases m0 : m = 0
      · subst m0
        refine ⟨⟨0, h0, Nat.zero_le _, fun q => by omega⟩, fun x hx => ?_⟩
        rw [show nI 0 = (0 : Int32) from rfl, bt_0] at hx
        cases hx
      have vx : ∀ x, bt (nI m) x = true → vl f T m x = nI (be f n x (rm (bt (nI m)) x) + τ (rm (bt (nI m)) x)) ∧ be f n x (rm (bt (nI m)) x) + τ (rm (bt (nI m)) x) ≤ 7 * pc (nI m) := fun x hx => by
        have xn := bt_lo h8 hm hx
        obtain ⟨c1', c2', c3'⟩ := clr_s (by omega : m < 256) (by omega : x < 8) hx
        obtain ⟨⟨r, r1, r2, -⟩, -⟩ := ih (clr (nI m) x).toNatClampNeg (by omega) (by omega)
        have p8 := pc_8 (nI (clr (nI m) x).toNatClampNeg)
        have t1 := tm _ r (by omega) r1 (by omega)
        rw [c1'] at t1
        have p7 := pc_le7 (f := f) (by omega : x < 8) hx (f x ^^^ (-1 : Int32))
        have eb := be_pc (f := f) h8 hm (by omega : x < 8)
        unfold vl
        rw [r1, eb, t1, nI_add]
        exact ⟨rfl, by omega⟩
      refine ⟨?_, vx⟩
      have p8 := pc_8 (nI m)
      obtain ⟨r, r1, r2, r3, r4⟩ := fo_mn (f := f) (T := T) (W := W) (m := m) (c := fun x => be f n x (rm (bt (nI m)) x) + τ (rm (bt (nI m)) x)) (fun x _ hx => ⟨(vx x hx).1, by have := (vx x hx).2; show _ < 64; omega⟩) n h8
      obtain ⟨y, ya, yb⟩ := bt_ne0 (x := nI m) (nI_rg (by omega) (by omega)) (fun q => by
        have := nI_inj (by omega) (by decide) (show nI m = nI 0 from q)
        omega)
      have yn := bt_lo h8 hm yb
      rcases r4 with ⟨-, z⟩ | ⟨x, x1, x2, x3⟩
      · rw [z y yn] at yb
        cases yb
      · have x3' : r = be f n x (rm (bt (nI m)) x) + τ (rm (bt (nI m)) x) := x3
        refine ⟨r, (hE m (by omega) hm).1.trans r1, by have := (vx x x2).2; omega, fun _ => ⟨fun w hw => r3 w (bt_lo h8 hm hw) hw, x, x2, x3'⟩⟩
  refine ⟨τ, fun S hS => ?_, fun m hm => ?_⟩
  · obtain ⟨a, b⟩ := idS S hS
    obtain ⟨⟨r, r1, r2, r3⟩, -⟩ := main _ _ (Nat.le_refl _) a
    have p8 := pc_8 (nI (mkm S n))
    have t1 := tm _ r a r1 (by omega)
    rw [b] at t1 r3
    rw [t1]
    refine ⟨fun z => ?_, fun ⟨j, hj⟩ => ?_⟩
    · have : mkm S n = 0 := num_e (by omega) (by decide) (by
        rw [b]
        funext j
        rw [z j]
        exact (bt_0 j).symm)
      rw [this, h0] at r1
      exact (nI_inj (by decide) (by omega) (show nI 0 = nI r from r1)).symm
    · refine r3 ?_
      by_cases z : mkm S n = 0
      · rw [z] at b
        rw [← b, show nI 0 = (0 : Int32) from rfl, bt_0] at hj
        cases hj
      · omega
  · obtain ⟨⟨r, r1, r2, r3⟩, v⟩ := main _ _ (Nat.le_refl _) hm
    have p8 := pc_8 (nI m)
    have t1 := tm _ r hm r1 (by omega)
    rw [t1]
    exact ⟨r1, by omega, fun x hx => ⟨(v x hx).1, by have := (v x hx).2; omega⟩⟩
theorem TB_u {f : Nat → Int32} {n : Nat} {τ τ' : (Nat → Bool) → Nat} (hτ : TB f n τ) (hτ' : TB f n τ') : ∀ (k : Nat) (S : Nat → Bool), cn S n ≤ k → (∀ j, S j = true → j < n) → τ S = τ' S := by
  intro k
  induction k with
  | zero =>
    intro S hc hS
    have z : ∀ j, S j = false := fun j => by
      cases q : S j
      · rfl
      · have := cn_z n (by omega : cn S n = 0) j (hS j q)
        rw [q] at this
        cases this
    rw [(hτ S hS).1 z, (hτ' S hS).1 z]
  | succ k ih =>
    intro S hc hS
    by_cases ne : ∃ j, S j = true
    · obtain ⟨l1, x1, x2, x3⟩ := (hτ S hS).2 ne
      obtain ⟨l2, y1, y2, y3⟩ := (hτ' S hS).2 ne
      have each : ∀ x, S x = true → τ (rm S x) = τ' (rm S x) := fun x hx => by
        have m1 := cn_rm hx n
        rw [if_pos (hS x hx)] at m1
        exact ih (rm S x) (by omega) (rm_n hS)
      have p1 := each y1 y2
      have p2 := each x1 x2
      have p3 := l1 y1 y2
      have p4 := l2 x1 x2
      omega
    · have z : ∀ j, S j = false := fun j => by
        cases q : S j
        · rfl
        · exact absurd ⟨j, q⟩ ne
      rw [(hτ S hS).1 z, (hτ' S hS).1 z]
/-- who wins by a way beats two of the four -/
theorem w4_b {f : Nat → Int32} {n p q r s x : Nat} (hT : Tn n f) (hp : p < n) (hq : q < n) (hr : r < n) (hs : s < n) (pq : p ≠ q) (pr' : p ≠ r) (ps : p ≠ s) (qr : q ≠ r) (qs : q ≠ s) (rs : r ≠ s) (h : wN f (wN f p q) (wN f r s) = x) : ∃ u v, u ≠ v ∧ (u = p ∨ u = q ∨ u = r ∨ u = s) ∧ (v = p ∨ v = q ∨ v = r ∨ v = s) ∧ bt (f x) u = true ∧ bt (f x) v = true := by
  have win : ∀ a b, a < n → b < n → a ≠ b → (wN f a b = a ∧ bt (f a) b = true) ∨ (wN f a b = b ∧ bt (f b) a = true) := fun a b ha hb ab => by
    by_cases c : bt (f a) b = true
    · exact Or.inl ⟨wN_t c, c⟩
    · exact Or.inr ⟨if_neg c, Tn_y hT ha hb ab c⟩
  rcases win p q hp hq pq with ⟨e1, b1'⟩ | ⟨e1, b1'⟩ <;> rcases win r s hr hs rs with ⟨e2, b2'⟩ | ⟨e2, b2'⟩ <;> rw [e1, e2] at h
  · rcases win p r hp hr pr' with ⟨e3, b3'⟩ | ⟨e3, b3'⟩ <;> rw [e3] at h <;> rw [← h]
    · exact ⟨q, r, qr, by omega, by omega, b1', b3'⟩
    · exact ⟨s, p, ps.symm, by omega, by omega, b2', b3'⟩
  · rcases win p s hp hs ps with ⟨e3, b3'⟩ | ⟨e3, b3'⟩ <;> rw [e3] at h <;> rw [← h]
    · exact ⟨q, s, qs, by omega, by omega, b1', b3'⟩
    · exact ⟨r, p, pr'.symm, by omega, by omega, b2', b3'⟩
  · rcases win q r hq hr qr with ⟨e3, b3'⟩ | ⟨e3, b3'⟩ <;> rw [e3] at h <;> rw [← h]
    · exact ⟨p, r, pr', by omega, by omega, b1', b3'⟩
    · exact ⟨s, q, qs.symm, by omega, by omega, b2', b3'⟩
  · rcases win q s hq hs qs with ⟨e3, b3'⟩ | ⟨e3, b3'⟩ <;> rw [e3] at h <;> rw [← h]
    · exact ⟨p, s, ps, by omega, by omega, b1', b3'⟩
    · exact ⟨r, q, qr.symm, by omega, by omega, b2', b3'⟩
theorem wm_b {f : Nat → Int32} {n m w x : Nat} (hT : Tn n f) (hm : m < 2 ^ n) (h4 : pc (nI m) = 4) (hw : w < 3) (h : wm f m w = x) : ∃ u v, u ≠ v ∧ bt (nI m) u = true ∧ bt (nI m) v = true ∧ bt (f x) u = true ∧ bt (f x) v = true := by
  have h8 := hT.1
  have hp : (2 : Nat) ^ n ≤ 256 := Nat.pow_le_pow_right (n := 2) (by decide) h8
  obtain ⟨f1, f2, f3, f4, f5, -⟩ := four_f m (by omega) h4
  have i0 := (el_in (m := m) (by omega) h4 (by decide : 0 < 4)).2
  have i1 := (el_in (m := m) (by omega) h4 (by decide : 1 < 4)).2
  have i2 := (el_in (m := m) (by omega) h4 (by decide : 2 < 4)).2
  have i3 := (el_in (m := m) (by omega) h4 (by decide : 3 < 4)).2
  have n3 := bt_lo h8 hm i3
  have fin : ∀ u, (u = el m 0 ∨ u = el m 1 ∨ u = el m 2 ∨ u = el m 3) → bt (nI m) u = true := fun u hu => by
    rcases hu with z | z | z | z <;> rw [z] <;> assumption
  rcases (show w = 0 ∨ w = 1 ∨ w = 2 by omega) with rfl | rfl | rfl
  · obtain ⟨u, v, a1, a2, a3, a4, a5⟩ := w4_b hT (by omega) (by omega) (by omega) n3 (by omega) (by omega) (by omega) (by omega) (by omega) (by omega) (show wN f (wN f (el m 0) (el m 1)) (wN f (el m 2) (el m 3)) = x from h)
    exact ⟨u, v, a1, fin u a2, fin v a3, a4, a5⟩
  · obtain ⟨u, v, a1, a2, a3, a4, a5⟩ := w4_b hT (by omega) (by omega) (by omega) n3 (by omega) (by omega) (by omega) (by omega) (by omega) (by omega) (show wN f (wN f (el m 0) (el m 2)) (wN f (el m 1) (el m 3)) = x from h)
    exact ⟨u, v, a1, fin u (by omega), fin v (by omega), a4, a5⟩
  · obtain ⟨u, v, a1, a2, a3, a4, a5⟩ := w4_b hT (by omega) n3 (by omega) (by omega) (by omega) (by omega) (by omega) (by omega) (by omega) (by omega) (show wN f (wN f (el m 0) (el m 3)) (wN f (el m 1) (el m 2)) = x from h)
    exact ⟨u, v, a1, fin u (by omega), fin v (by omega), a4, a5⟩
theorem pc1 {X : Int32} (hX : rg 0 255 X) {u : Nat} (hu : u < 8) (h : bt X u = true) : ∃ Y, rg 0 255 Y ∧ pc X = pc Y + 1 ∧ ∀ v, v < 8 → v ≠ u → bt X v = true → bt Y v = true := by
  obtain ⟨m, e, -, m2, -⟩ := rg_ex hX (by decide)
  subst e
  obtain ⟨c1', c2', c3'⟩ := clr_f m (by omega) u hu
  obtain ⟨c4, c5⟩ := c3' h
  refine ⟨clr (nI m) u, by rw [c2']; exact nI_rg (by omega) (by omega), c5.symm, fun v hv d hb => ?_⟩
  rw [clr_bt hu (by omega), hb, decide_eq_false d]
  rfl
theorem cup_w {f : Nat → Int32} {n x : Nat} (hT : Tn n f) (hr : rg 0 255 (f x)) (h : 0 < cc f n (2 ^ n - 1) x) : n ≤ 2 ^ pc (f x) := by
  have h8 := hT.1
  have hp : (2 : Nat) ^ n ≤ 256 := Nat.pow_le_pow_right (n := 2) (by decide) h8
  have po : 0 < 2 ^ n := Nat.pow_pos (by decide)
  have xn := (cc_b h8 hT (by omega : 2 ^ n - 1 < 2 ^ n)).2 h
  have mono : ∀ k, k ≤ pc (f x) → 2 ^ k ≤ 2 ^ pc (f x) := fun k hk => Nat.pow_le_pow_right (by decide) hk
  have two : ∀ u v, u < 8 → v < 8 → u ≠ v → bt (f x) u = true → bt (f x) v = true → 2 ≤ pc (f x) := fun u v hu hv uv a b => by
    obtain ⟨Y, Y1, Y2, Y3⟩ := pc1 hr hu a
    obtain ⟨Z, Z1, Z2, -⟩ := pc1 Y1 hv (Y3 v hv (fun q => uv q.symm) b)
    omega
  rcases (show n = 0 ∨ n = 1 ∨ n = 2 ∨ n = 3 ∨ n = 4 ∨ n = 5 ∨ n = 6 ∨ n = 7 ∨ n = 8 by omega) with rfl | rfl | rfl | rfl | rfl | rfl | rfl | rfl | rfl
  · omega
  · exact Nat.pow_pos (by decide)
  · have e : cc f 2 (2 ^ 2 - 1) x = p2 f 0 1 x := by
      have p : pc (nI (2 ^ 2 - 1)) = 2 := by decide
      unfold cc
      rw [if_neg (by omega), if_pos p]
      exact cB_e (f := f) (n := 2) (a := 0) (b := 1) (x := x) (by decide) (by decide) (by decide)
    rw [e] at h
    have w := (p2_p hT (by decide : 0 < 2) (by decide : 1 < 2) (by decide)).1.mp h
    have : 1 ≤ pc (f x) := by
      by_cases c : bt (f 0) 1 = true
      · rw [wN_t c] at w
        rw [w] at c
        obtain ⟨Y, -, Y2, -⟩ := pc1 hr (by decide : 1 < 8) c
        omega
      · have z : wN f 0 1 = 1 := if_neg c
        rw [z] at w
        have c' := Tn_y hT (by decide) (by decide) (by decide) c
        rw [w] at c'
        obtain ⟨Y, -, Y2, -⟩ := pc1 hr (by decide : 0 < 8) c'
        omega
    exact mono 1 this
  · exact absurd h (by unfold cc; rw [if_neg (by decide), if_neg (by decide), if_neg (by decide), if_neg (by decide)]; decide)
  · have p : pc (nI (2 ^ 4 - 1)) = 4 := by decide
    have e : cc f 4 (2 ^ 4 - 1) x = cC f 4 (2 ^ 4 - 1) x := by
      unfold cc
      rw [if_neg (by omega), if_neg (by omega), if_pos p]
    rw [e] at h
    obtain ⟨w, w1, w2⟩ := (cC_p (by decide) hT (by decide : 2 ^ 4 - 1 < 2 ^ 4) p).1.mp h
    obtain ⟨u, v, a1, a2, a3, a4, a5⟩ := wm_b hT (by decide : 2 ^ 4 - 1 < 2 ^ 4) p w1 w2
    have u8 := bt_lo (n := 4) (by decide) (by decide : 2 ^ 4 - 1 < 2 ^ 4) a2
    have v8' := bt_lo (n := 4) (by decide) (by decide : 2 ^ 4 - 1 < 2 ^ 4) a3
    exact mono 2 (two u v (by omega) (by omega) a1 a4 a5)
  · exact absurd h (by unfold cc; rw [if_neg (by decide), if_neg (by decide), if_neg (by decide), if_neg (by decide)]; decide)
  · exact absurd h (by unfold cc; rw [if_neg (by decide), if_neg (by decide), if_neg (by decide), if_neg (by decide)]; decide)
  · exact absurd h (by unfold cc; rw [if_neg (by decide), if_neg (by decide), if_neg (by decide), if_neg (by decide)]; decide)
  · have p : pc (nI (2 ^ 8 - 1)) = 8 := by decide
    have e : cc f 8 (2 ^ 8 - 1) x = cD f 8 255 x := by
      unfold cc
      rw [if_neg (by omega), if_neg (by omega), if_neg (by omega), if_pos p]
    rw [e] at h
    obtain ⟨hh, h1, h2, ⟨w, w1, w2⟩, v, v1, v2⟩ := (cD_p hT).1.mp h
    obtain ⟨d1, d2, -⟩ := d255 hh h1 h2
    obtain ⟨u, u', a1, a2, a3, a4, a5⟩ := wm_b hT (by omega : hh < 2 ^ 8) h2 w1 w2
    have wi := wm_in (f := f) (w := v) d1 d2
    have u8 := bt_lo (n := 8) (by decide) (by omega : hh < 2 ^ 8) a2
    have u8' := bt_lo (n := 8) (by decide) (by omega : hh < 2 ^ 8) a3
    have ne : ∀ z, z < 8 → bt (nI hh) z = true → z ≠ wm f (dfs 255 hh) v := fun z hz hb q => by
      have := dfs_b hh h1 z hz
      rw [hb, q, wi.1] at this
      exact absurd this (by decide)
    obtain ⟨Y, Y1, Y2, Y3⟩ := pc1 hr u8 a4
    obtain ⟨Z, Z1, Z2, Z3⟩ := pc1 Y1 u8' (Y3 u' u8' (fun q => a1 q.symm) a5)
    obtain ⟨V, -, V2, -⟩ := pc1 Z1 wi.2 (Z3 _ wi.2 (fun q => ne u' u8' a3 q.symm) (Y3 _ wi.2 (fun q => ne u u8 a2 q.symm) v2))
    exact mono 3 (by omega)
