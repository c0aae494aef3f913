def Lw_c0 (N L : Nat) (xs : Nat → Int32) (self : Int32 → Mem → Mem → Option Unit) (i : Int32) (σ μ : Mem) : Option Unit :=
  gd (inb (i + (1 : Int32)) L) (ob2 (f_D_sign N (xs (i + (1 : Int32)).toNatClampNeg) σ) fun r1 s2 =>
  gd (inb (i + (1 : Int32)) L) (ob2 (f_M_sign N (xs (i + (1 : Int32)).toNatClampNeg) μ) fun r3 s4 =>
  self (i + (4 : Int32)) s2 s4))
def Lw_c1 (N L : Nat) (xs : Nat → Int32) (self : Int32 → Mem → Mem → Option Unit) (i : Int32) (σ μ : Mem) : Option Unit :=
  gd (inb (i + (1 : Int32)) L) (ob2 (f_D_end (xs (i + (1 : Int32)).toNatClampNeg) σ) fun r5 s6 =>
  gd (inb (i + (1 : Int32)) L) (ob2 (f_M_end (xs (i + (1 : Int32)).toNatClampNeg) μ) fun r7 s8 =>
  self (i + (4 : Int32)) s6 s8))
def Lw_c2 (N L : Nat) (xs : Nat → Int32) (self : Int32 → Mem → Mem → Option Unit) (i : Int32) (σ μ : Mem) : Option Unit :=
  ob2 (f_D_round N σ) fun r9 s10 =>
  ob2 (f_M_round N μ) fun r11 s12 =>
  self (i + (4 : Int32)) s10 s12
def Lw_c3 (N L : Nat) (xs : Nat → Int32) (self : Int32 → Mem → Mem → Option Unit) (i : Int32) (σ μ : Mem) : Option Unit :=
  gd (inb (i + (1 : Int32)) L) (gd (inb (i + (2 : Int32)) L) (ob2 (f_D_drawn N (xs (i + (1 : Int32)).toNatClampNeg) (xs (i + (2 : Int32)).toNatClampNeg) σ) fun r13 s14 =>
  gd (inb (i + (1 : Int32)) L) (gd (inb (i + (2 : Int32)) L) (ob2 (f_M_drawn N (xs (i + (1 : Int32)).toNatClampNeg) (xs (i + (2 : Int32)).toNatClampNeg) μ) fun r15 s16 =>
  self (i + (4 : Int32)) s14 s16))))
def Lw_c4 (N L : Nat) (xs : Nat → Int32) (self : Int32 → Mem → Mem → Option Unit) (i : Int32) (σ μ : Mem) : Option Unit :=
  gd (inb (i + (1 : Int32)) L) (gd (inb (i + (2 : Int32)) L) (gd (inb (i + (3 : Int32)) L) (ob (f_D_duel N (xs (i + (1 : Int32)).toNatClampNeg) (xs (i + (2 : Int32)).toNatClampNeg) (xs (i + (3 : Int32)).toNatClampNeg) σ) fun x17 =>
  gd (inb (i + (1 : Int32)) L) (gd (inb (i + (2 : Int32)) L) (gd (inb (i + (3 : Int32)) L) (ob2 (f_M_duel N (xs (i + (1 : Int32)).toNatClampNeg) (xs (i + (2 : Int32)).toNatClampNeg) (xs (i + (3 : Int32)).toNatClampNeg) μ) fun r18 s19 =>
  if (t_M_thrown s19) = (dK x17) then
  (if (dK x17) = (0 : Int32) then
  (gd (inb (0 : Int32) 1) (if (lg_cmp (gJ (dM σ x17) 28 (0 : Int32).toNatClampNeg) (r18.toInt64)) = (0 : Int32) then
  (self (i + (4 : Int32)) (dM σ x17) s19)
  else
  (none)))
  else
  (self (i + (4 : Int32)) (dM σ x17) s19))
  else
  (none)))))))
def Lw_c5 (N L : Nat) (xs : Nat → Int32) (self : Int32 → Mem → Mem → Option Unit) (i : Int32) (σ μ : Mem) : Option Unit :=
  gd (inb (i + (1 : Int32)) L) (gd (inb (i + (2 : Int32)) L) (ob (f_D_beaten (xs (i + (1 : Int32)).toNatClampNeg) (xs (i + (2 : Int32)).toNatClampNeg) σ) fun r20 =>
  gd (inb (i + (1 : Int32)) L) (gd (inb (i + (2 : Int32)) L) (ob2 (f_M_beaten (xs (i + (1 : Int32)).toNatClampNeg) (xs (i + (2 : Int32)).toNatClampNeg) μ) fun r21 s22 =>
  self (i + (4 : Int32)) σ s22))))
def Lw_c6 (N L : Nat) (xs : Nat → Int32) (self : Int32 → Mem → Mem → Option Unit) (i : Int32) (σ μ : Mem) : Option Unit :=
  gd (inb (i + (1 : Int32)) L) (gd (inb (i + (2 : Int32)) L) (ob2 (f_D_turn N (xs (i + (1 : Int32)).toNatClampNeg) (xs (i + (2 : Int32)).toNatClampNeg) σ) fun r23 s24 =>
  gd (inb (i + (1 : Int32)) L) (gd (inb (i + (2 : Int32)) L) (ob2 (f_M_turn N (xs (i + (1 : Int32)).toNatClampNeg) (xs (i + (2 : Int32)).toNatClampNeg) μ) fun r25 s26 =>
  self (i + (4 : Int32)) s24 s26))))
def Lw_c7 (N L : Nat) (xs : Nat → Int32) (self : Int32 → Mem → Mem → Option Unit) (i : Int32) (σ μ : Mem) : Option Unit :=
  gd (inb (i + (1 : Int32)) L) (ob2 (f_D_join N (xs (i + (1 : Int32)).toNatClampNeg) σ) fun r27 s28 =>
  gd (inb (i + (1 : Int32)) L) (ob2 (f_M_join N (xs (i + (1 : Int32)).toNatClampNeg) μ) fun r29 s30 =>
  self (i + (4 : Int32)) s28 s30))
def Lw_c8 (N L : Nat) (xs : Nat → Int32) (self : Int32 → Mem → Mem → Option Unit) (i : Int32) (σ μ : Mem) : Option Unit :=
  gd (inb (i + (1 : Int32)) L) (ob2 (f_D_drop N (xs (i + (1 : Int32)).toNatClampNeg) σ) fun r31 s32 =>
  gd (inb (i + (1 : Int32)) L) (ob2 (f_M_drop N (xs (i + (1 : Int32)).toNatClampNeg) μ) fun r33 s34 =>
  self (i + (4 : Int32)) s32 s34))
def Lw_c9 (N L : Nat) (xs : Nat → Int32) (self : Int32 → Mem → Mem → Option Unit) (i : Int32) (σ μ : Mem) : Option Unit :=
  gd (inb (i + (1 : Int32)) L) (gd (inb (i + (2 : Int32)) L) (ob2 (f_D_set N (xs (i + (1 : Int32)).toNatClampNeg) (xs (i + (2 : Int32)).toNatClampNeg) σ) fun r35 s36 =>
  gd (inb (i + (1 : Int32)) L) (gd (inb (i + (2 : Int32)) L) (ob2 (f_M_set N (xs (i + (1 : Int32)).toNatClampNeg) (xs (i + (2 : Int32)).toNatClampNeg) μ) fun r37 s38 =>
  self (i + (4 : Int32)) s36 s38))))
def Lw_c10 (N L : Nat) (xs : Nat → Int32) (self : Int32 → Mem → Mem → Option Unit) (i : Int32) (σ μ : Mem) : Option Unit :=
  gd (inb (i + (1 : Int32)) L) (gd (inb (i + (2 : Int32)) L) (ob2 (f_D_praised N (xs (i + (1 : Int32)).toNatClampNeg) (xs (i + (2 : Int32)).toNatClampNeg) σ) fun r39 s40 =>
  gd (inb (i + (1 : Int32)) L) (gd (inb (i + (2 : Int32)) L) (ob2 (f_M_praised N (xs (i + (1 : Int32)).toNatClampNeg) (xs (i + (2 : Int32)).toNatClampNeg) μ) fun r41 s42 =>
  self (i + (4 : Int32)) s40 s42))))
def Lw_c11 (N L : Nat) (xs : Nat → Int32) (self : Int32 → Mem → Mem → Option Unit) (i : Int32) (σ μ : Mem) : Option Unit :=
  gd (inb (i + (1 : Int32)) L) (ob2 (f_D_within N (xs (i + (1 : Int32)).toNatClampNeg) σ) fun r43 s44 =>
  gd (inb (i + (1 : Int32)) L) (ob2 (f_M_within N (xs (i + (1 : Int32)).toNatClampNeg) μ) fun r45 s46 =>
  self (i + (4 : Int32)) s44 s46))
def Lw_c12 (N L : Nat) (xs : Nat → Int32) (self : Int32 → Mem → Mem → Option Unit) (i : Int32) (σ μ : Mem) : Option Unit :=
  gd (inb (i + (1 : Int32)) L) (gd (inb (i + (2 : Int32)) L) (gd (inb (i + (3 : Int32)) L) (ob2 (f_D_chain N (xs (i + (1 : Int32)).toNatClampNeg) (xs (i + (2 : Int32)).toNatClampNeg) (xs (i + (3 : Int32)).toNatClampNeg) σ) fun r47 s48 =>
  gd (inb (i + (1 : Int32)) L) (gd (inb (i + (2 : Int32)) L) (gd (inb (i + (3 : Int32)) L) (ob2 (f_M_chain N (xs (i + (1 : Int32)).toNatClampNeg) (xs (i + (2 : Int32)).toNatClampNeg) (xs (i + (3 : Int32)).toNatClampNeg) μ) fun r49 s50 =>
  self (i + (4 : Int32)) s48 s50))))))
def Lw_c13 (N L : Nat) (xs : Nat → Int32) (self : Int32 → Mem → Mem → Option Unit) (i : Int32) (σ μ : Mem) : Option Unit :=
  gd (inb (i + (1 : Int32)) L) (ob2 (f_D_best N (xs (i + (1 : Int32)).toNatClampNeg) σ) fun r51 s52 =>
  gd (inb (i + (1 : Int32)) L) (ob2 (f_M_best N (xs (i + (1 : Int32)).toNatClampNeg) μ) fun r53 s54 =>
  self (i + (4 : Int32)) s52 s54))
def Lw_c14 (N L : Nat) (xs : Nat → Int32) (self : Int32 → Mem → Mem → Option Unit) (i : Int32) (σ μ : Mem) : Option Unit :=
  gd (inb (i + (1 : Int32)) L) (ob2 (f_D_byWins N (xs (i + (1 : Int32)).toNatClampNeg) σ) fun r55 s56 =>
  gd (inb (i + (1 : Int32)) L) (ob2 (f_M_byWins N (xs (i + (1 : Int32)).toNatClampNeg) μ) fun r57 s58 =>
  self (i + (4 : Int32)) s56 s58))
def Lw_c15 (N L : Nat) (xs : Nat → Int32) (self : Int32 → Mem → Mem → Option Unit) (i : Int32) (σ μ : Mem) : Option Unit :=
  gd (inb (i + (1 : Int32)) L) (gd (inb (i + (2 : Int32)) L) (ob2 (f_D_weight N (xs (i + (1 : Int32)).toNatClampNeg) (xs (i + (2 : Int32)).toNatClampNeg) σ) fun r59 s60 =>
  gd (inb (i + (1 : Int32)) L) (gd (inb (i + (2 : Int32)) L) (ob2 (f_M_weight N (xs (i + (1 : Int32)).toNatClampNeg) (xs (i + (2 : Int32)).toNatClampNeg) μ) fun r61 s62 =>
  self (i + (4 : Int32)) s60 s62))))
def Lw_c16 (N L : Nat) (xs : Nat → Int32) (self : Int32 → Mem → Mem → Option Unit) (i : Int32) (σ μ : Mem) : Option Unit :=
  gd (inb (i + (1 : Int32)) L) (gd (inb (i + (2 : Int32)) L) (ob2 (f_D_keeps N (xs (i + (1 : Int32)).toNatClampNeg) (xs (i + (2 : Int32)).toNatClampNeg) σ) fun r63 s64 =>
  gd (inb (i + (1 : Int32)) L) (gd (inb (i + (2 : Int32)) L) (ob2 (f_M_keeps N (xs (i + (1 : Int32)).toNatClampNeg) (xs (i + (2 : Int32)).toNatClampNeg) μ) fun r65 s66 =>
  self (i + (4 : Int32)) s64 s66))))
def Lw_c17 (N L : Nat) (xs : Nat → Int32) (self : Int32 → Mem → Mem → Option Unit) (i : Int32) (σ μ : Mem) : Option Unit :=
  gd (inb (i + (1 : Int32)) L) (gd (inb (i + (2 : Int32)) L) (ob2 (f_D_is N (xs (i + (1 : Int32)).toNatClampNeg) (xs (i + (2 : Int32)).toNatClampNeg) σ) fun r67 s68 =>
  gd (inb (i + (1 : Int32)) L) (gd (inb (i + (2 : Int32)) L) (ob2 (f_M_is N (xs (i + (1 : Int32)).toNatClampNeg) (xs (i + (2 : Int32)).toNatClampNeg) μ) fun r69 s70 =>
  self (i + (4 : Int32)) s68 s70))))
def Lw_c18 (N L : Nat) (xs : Nat → Int32) (self : Int32 → Mem → Mem → Option Unit) (i : Int32) (σ μ : Mem) : Option Unit :=
  gd (inb (i + (1 : Int32)) L) (gd (inb (i + (2 : Int32)) L) (ob2 (f_D_cup N (xs (i + (1 : Int32)).toNatClampNeg) (xs (i + (2 : Int32)).toNatClampNeg) σ) fun r71 s72 =>
  gd (inb (i + (1 : Int32)) L) (gd (inb (i + (2 : Int32)) L) (ob2 (f_M_cup N (xs (i + (1 : Int32)).toNatClampNeg) (xs (i + (2 : Int32)).toNatClampNeg) μ) fun r73 s74 =>
  self (i + (4 : Int32)) s72 s74))))
def Lw_c19 (N L : Nat) (xs : Nat → Int32) (self : Int32 → Mem → Mem → Option Unit) (i : Int32) (σ μ : Mem) : Option Unit :=
  gd (inb (i + (1 : Int32)) L) (ob2 (f_D_winner N (xs (i + (1 : Int32)).toNatClampNeg) σ) fun r75 s76 =>
  gd (inb (i + (1 : Int32)) L) (ob2 (f_M_winner N (xs (i + (1 : Int32)).toNatClampNeg) μ) fun r77 s78 =>
  self (i + (4 : Int32)) s76 s78))
def Lw_c20 (N L : Nat) (xs : Nat → Int32) (self : Int32 → Mem → Mem → Option Unit) (i : Int32) (σ μ : Mem) : Option Unit :=
  ob2 (f_D_judge N σ) fun r79 s80 =>
  ob2 (f_M_judge N μ) fun r81 s82 =>
  self (i + (4 : Int32)) s80 s82
def Lw_c21 (N L : Nat) (xs : Nat → Int32) (self : Int32 → Mem → Mem → Option Unit) (i : Int32) (σ μ : Mem) : Option Unit :=
  gd (inb (i + (1 : Int32)) L) (gd (inb (i + (1 : Int32)) L) (ob2 (f_M_judged (xs (i + (1 : Int32)).toNatClampNeg) μ) fun r83 s84 =>
  self (i + (4 : Int32)) σ s84))
def Lw_c22 (N L : Nat) (xs : Nat → Int32) (self : Int32 → Mem → Mem → Option Unit) (i : Int32) (σ μ : Mem) : Option Unit :=
  gd (inb (i + (1 : Int32)) L) (gd (inb (i + (2 : Int32)) L) (ob2 (f_D_fewest N (xs (i + (1 : Int32)).toNatClampNeg) (xs (i + (2 : Int32)).toNatClampNeg) σ) fun r85 s86 =>
  gd (inb (i + (1 : Int32)) L) (gd (inb (i + (2 : Int32)) L) (ob2 (f_M_fewest N (xs (i + (1 : Int32)).toNatClampNeg) (xs (i + (2 : Int32)).toNatClampNeg) μ) fun r87 s88 =>
  self (i + (4 : Int32)) s86 s88))))
def Lw_c23 (N L : Nat) (xs : Nat → Int32) (self : Int32 → Mem → Mem → Option Unit) (i : Int32) (σ μ : Mem) : Option Unit :=
  ob2 (f_D_selves N σ) fun r89 s90 =>
  ob2 (f_M_selves N μ) fun r91 s92 =>
  self (i + (4 : Int32)) s90 s92
def Lw_c24 (N L : Nat) (xs : Nat → Int32) (self : Int32 → Mem → Mem → Option Unit) (i : Int32) (σ μ : Mem) : Option Unit :=
  ob2 (f_D_undo N σ) fun r93 s94 =>
  ob2 (f_M_undo N μ) fun r95 s96 =>
  self (i + (4 : Int32)) s94 s96
def Lw_c25 (N L : Nat) (xs : Nat → Int32) (self : Int32 → Mem → Mem → Option Unit) (i : Int32) (σ μ : Mem) : Option Unit :=
  gd (inb (i + (1 : Int32)) L) (ob2 (f_D_keep N (xs (i + (1 : Int32)).toNatClampNeg) σ) fun r97 s98 =>
  gd (inb (i + (1 : Int32)) L) (ob2 (f_M_keep N (xs (i + (1 : Int32)).toNatClampNeg) μ) fun r99 s100 =>
  self (i + (4 : Int32)) s98 s100))
def Lw_c26 (N L : Nat) (xs : Nat → Int32) (self : Int32 → Mem → Mem → Option Unit) (i : Int32) (σ μ : Mem) : Option Unit :=
  gd (inb (i + (1 : Int32)) L) (ob2 (f_D_again N (xs (i + (1 : Int32)).toNatClampNeg) σ) fun r101 s102 =>
  gd (inb (i + (1 : Int32)) L) (ob2 (f_M_again N (xs (i + (1 : Int32)).toNatClampNeg) μ) fun r103 s104 =>
  self (i + (4 : Int32)) s102 s104))
def Lw_c27 (N L : Nat) (xs : Nat → Int32) (self : Int32 → Mem → Mem → Option Unit) (i : Int32) (σ μ : Mem) : Option Unit :=
  gd (inb (i + (1 : Int32)) L) (gd (inb (i + (2 : Int32)) L) (ob2 (f_D_alike N (xs (i + (1 : Int32)).toNatClampNeg) (xs (i + (2 : Int32)).toNatClampNeg) σ) fun r105 s106 =>
  gd (inb (i + (1 : Int32)) L) (gd (inb (i + (2 : Int32)) L) (ob2 (f_M_alike N (xs (i + (1 : Int32)).toNatClampNeg) (xs (i + (2 : Int32)).toNatClampNeg) μ) fun r107 s108 =>
  self (i + (4 : Int32)) s106 s108))))
def Lw_c28 (N L : Nat) (xs : Nat → Int32) (self : Int32 → Mem → Mem → Option Unit) (i : Int32) (σ μ : Mem) : Option Unit :=
  gd (inb (i + (1 : Int32)) L) (ob (f_D_count N (xs (i + (1 : Int32)).toNatClampNeg) σ) fun r109 =>
  gd (inb (i + (1 : Int32)) L) (ob2 (f_M_count N (xs (i + (1 : Int32)).toNatClampNeg) μ) fun r110 s111 =>
  self (i + (4 : Int32)) σ s111))
def Lw_B (N L : Nat) (xs : Nat → Int32) (self : Int32 → Mem → Mem → Option Unit) (i : Int32) (σ μ : Mem) : Option Unit :=
  if ((nI L) - (4 : Int32)) < i then
  (some ())
  else
  (gd (inb i L) (swc ((xs i.toNatClampNeg) &&& (31 : Int32)) [((0 : Int32), Lw_c0 N L xs self i σ μ),
  ((1 : Int32), Lw_c1 N L xs self i σ μ),
  ((2 : Int32), Lw_c2 N L xs self i σ μ),
  ((3 : Int32), Lw_c3 N L xs self i σ μ),
  ((4 : Int32), Lw_c4 N L xs self i σ μ),
  ((5 : Int32), Lw_c5 N L xs self i σ μ),
  ((6 : Int32), Lw_c6 N L xs self i σ μ),
  ((7 : Int32), Lw_c7 N L xs self i σ μ),
  ((8 : Int32), Lw_c8 N L xs self i σ μ),
  ((9 : Int32), Lw_c9 N L xs self i σ μ),
  ((10 : Int32), Lw_c10 N L xs self i σ μ),
  ((11 : Int32), Lw_c11 N L xs self i σ μ),
  ((12 : Int32), Lw_c12 N L xs self i σ μ),
  ((13 : Int32), Lw_c13 N L xs self i σ μ),
  ((14 : Int32), Lw_c14 N L xs self i σ μ),
  ((15 : Int32), Lw_c15 N L xs self i σ μ),
  ((16 : Int32), Lw_c16 N L xs self i σ μ),
  ((17 : Int32), Lw_c17 N L xs self i σ μ),
  ((18 : Int32), Lw_c18 N L xs self i σ μ),
  ((19 : Int32), Lw_c19 N L xs self i σ μ),
  ((20 : Int32), Lw_c20 N L xs self i σ μ),
  ((21 : Int32), Lw_c21 N L xs self i σ μ),
  ((22 : Int32), Lw_c22 N L xs self i σ μ),
  ((23 : Int32), Lw_c23 N L xs self i σ μ),
  ((24 : Int32), Lw_c24 N L xs self i σ μ),
  ((25 : Int32), Lw_c25 N L xs self i σ μ),
  ((26 : Int32), Lw_c26 N L xs self i σ μ),
  ((27 : Int32), Lw_c27 N L xs self i σ μ),
  ((28 : Int32), Lw_c28 N L xs self i σ μ)]
  (self (i + (4 : Int32)) σ μ)))
def f_law (N L : Nat) (xs : Nat → Int32) (σ μ : Mem) : Option Unit := it3 (Lw_B N L xs) 513 (0 : Int32) σ μ
theorem lroom1 {j : Nat} (h : j ≤ 513) : 54 + j + 1 ≤ 601024 := by omega
theorem lroom2 {j : Nat} (h : j ≤ 513) : 5889 + 6 * j + 6 ≤ 7293034 := by omega
theorem lroom3 {j : Nat} (h : j ≤ 513) : 54 + j ≤ 601024 := by omega
theorem lroom4 {j : Nat} (h : j ≤ 513) : 5889 + 6 * j ≤ 7293034 := by omega
/-- an end of the law: what is owed of a return with 1 -/
def lEnd (κ : Ctx) (Z : State → Prop) : Prop := ∀ (H : Heap) (ls : Array Slot) (pc : Nat), decode cL_law pc = .ok (.ireturn, 1) → W (kp κ) (kl κ) (ke κ) (kR κ) (ks κ) (km κ) (ka κ) (kb κ) (kmeth κ) (kc κ) H [] 601024 7293034 Z (F0 (km κ) pc ls [.int 1])
theorem g_end {κ : Ctx} {w1 w2 : Wenv} {σ μ : Mem} {Z : State → Prop} {j : Nat} {lv : List (Option Value)} (hC : okG κ cL_law 7 RL) (hR : kR κ = room_1) (hZ : lEnd κ Z) (hj : j ≤ 513) : wG κ 7 (fun _ : Unit => Z) (lP κ w1 w2 σ μ) (54 + j) (5889 + 6 * j) 1062 lv [] (some ()) := fun z hz H locs ls h1 h3 => by
  refine va_forget h1.2.2.2.2 ?_
  refine lv_iconst (v := 1) hC.1 hC.2.1 dL_law_1062 (by decide) ?_
  exact W.widen (by omega) (by omega) (hZ H ls 1063 dL_law_1063)
set_option maxRecDepth 100000 in
set_option maxHeartbeats 8000000 in
theorem w_law {κ : Ctx} {w1 w2 : Wenv} {b L sa : Nat} {xs : Nat → Int32} {Z : State → Prop} (hR : kR κ = room_1) (hC : okG κ cL_law 7 RL) (hK : lok κ w1 w2 b L xs sa) (hZ : lEnd κ Z) (N : Nat) : ∀ (n j : Nat), n + j = 513 → ∀ (i : Int32) (σ μ : Mem), wG κ 7 (fun _ : Unit => Z) (lP κ w1 w2 σ μ) (54 + j) (5889 + 6 * j) 23 [some (.ref b), some (.ref (w1.2.2.1 0)), some (.ref (w2.2.2.1 0)), some (.ref (w1.2.2.1 28)), some (.int i), none, none] [] (it3 (Lw_B N L xs) n i σ μ)
  | 0, _, _, _, _, _ => fun x hx => by cases hx
  | n + 1, j, hnj, i, σ, μ => by
    have hj : j ≤ 513 := by omega
    have ih : ∀ (i : Int32) (σ μ : Mem), wG κ 7 (fun _ : Unit => Z) (lP κ w1 w2 σ μ) (54 + (j + 1)) (5889 + 6 * (j + 1)) 23 [some (.ref b), some (.ref (w1.2.2.1 0)), some (.ref (w2.2.2.1 0)), some (.ref (w1.2.2.1 28)), some (.int i), none, none] [] (it3 (Lw_B N L xs) n i σ μ) := fun i σ μ => w_law hR hC hK hZ N n (j + 1) (by omega) i σ μ
    show wG κ 7 (fun _ : Unit => Z) (lP κ w1 w2 σ μ) (54 + j) (5889 + 6 * j) 23 [some (.ref b), some (.ref (w1.2.2.1 0)), some (.ref (w2.2.2.1 0)), some (.ref (w1.2.2.1 28)), some (.int i), none, none] [] (Lw_B N L xs (it3 (Lw_B N L xs) n) i σ μ)
    generalize it3 (Lw_B N L xs) n = self at ih ⊢
    unfold Lw_B
    refine g_iload (pc := 23) hC rfl dL_law_23 ?_
    refine g_aload_n (pc := 25) hC rfl dL_law_25 ?_
    refine g_slen (pc := 26) hC hK dL_law_26 ?_
    refine g_iconst (pc := 27) hC (v := (4 : Int32)) (by decide) dL_law_27 ?_
    refine g_isub (pc := 28) hC dL_law_28 ?_
    refine g_icmp_gt (pc := 29) (tgt := 1062) hC dL_law_29 (by decide) ?_ ?_
    · exact g_end hC hR hZ hj
    · refine g_aload_n (pc := 32) hC rfl dL_law_32 ?_
      refine g_iload (pc := 33) hC rfl dL_law_33 ?_
      refine g_sld (pc := 35) hC hK dL_law_35 ?_
      refine g_bipush (pc := 36) hC (v := (31 : Int32)) (by decide) dL_law_36 ?_
      refine g_iand (pc := 38) hC dL_law_38 ?_
      refine g_table (pc := 39) (tg := fun i => ([168, 193, 218, 231, 268, 348, 385, 422, 447, 472, 509, 546, 571, 620, 645, 670, 707, 744, 781, 818, 843, 856, 881, 918, 931, 944, 969, 994, 1031] : List Nat).getD i 0) (dt := 1056) hC 29 dL_law_39 (by decide) (by decide) rfl (fun i9 hi => ?_) ?_
      · rcases (show i9 = 0 ∨ i9 = 1 ∨ i9 = 2 ∨ i9 = 3 ∨ i9 = 4 ∨ i9 = 5 ∨ i9 = 6 ∨ i9 = 7 ∨ i9 = 8 ∨ i9 = 9 ∨ i9 = 10 ∨ i9 = 11 ∨ i9 = 12 ∨ i9 = 13 ∨ i9 = 14 ∨ i9 = 15 ∨ i9 = 16 ∨ i9 = 17 ∨ i9 = 18 ∨ i9 = 19 ∨ i9 = 20 ∨ i9 = 21 ∨ i9 = 22 ∨ i9 = 23 ∨ i9 = 24 ∨ i9 = 25 ∨ i9 = 26 ∨ i9 = 27 ∨ i9 = 28 by omega) with rfl | rfl | rfl | rfl | rfl | rfl | rfl | rfl | rfl | rfl | rfl | rfl | rfl | rfl | rfl | rfl | rfl | rfl | rfl | rfl | rfl | rfl | rfl | rfl | rfl | rfl | rfl | rfl | rfl
        · refine ⟨_, _, _, rfl, by decide, rfl, by decide, ?_⟩
          unfold Lw_c0
          refine g_aload_n (pc := 168) hC rfl dL_law_168 ?_
          refine g_aload_n (pc := 169) hC rfl dL_law_169 ?_
          refine g_iload (pc := 170) hC rfl dL_law_170 ?_
          refine g_iconst (pc := 172) hC (v := (1 : Int32)) (by decide) dL_law_172 ?_
          refine g_iadd (pc := 173) hC dL_law_173 ?_
          refine g_sld (pc := 174) hC hK dL_law_174 ?_
          refine g_ob2 (fun r1 s2 hf => ?_)
          refine g_callC (pc := 175) (rest := []) [.int (xs (i + (1 : Int32)).toNatClampNeg)] hC hK (c_D_sign (kl κ) w1 hK.1 N (xs (i + (1 : Int32)).toNatClampNeg) σ r1 s2 hf) o_X9_sign k_345 (ci := 9) rfl rfl ⟨by rw [hR]; exact Nat.le_of_ble_eq_true rfl, by rw [hR]; exact Nat.le_of_ble_eq_true rfl⟩ ⟨by rw [hR]; exact lroom3 hj, by rw [hR]; exact lroom4 hj⟩ rfl (Nat.le_of_ble_eq_true rfl) dL_law_175 ?_
          refine g_pop (pc := 178) hC rfl dL_law_178 ?_
          refine g_aload_n (pc := 179) hC rfl dL_law_179 ?_
          refine g_aload_n (pc := 180) hC rfl dL_law_180 ?_
          refine g_iload (pc := 181) hC rfl dL_law_181 ?_
          refine g_iconst (pc := 183) hC (v := (1 : Int32)) (by decide) dL_law_183 ?_
          refine g_iadd (pc := 184) hC dL_law_184 ?_
          refine g_sld (pc := 185) hC hK dL_law_185 ?_
          refine g_ob2 (fun r3 s4 hf => ?_)
          refine g_callM (pc := 186) (rest := []) [.int (xs (i + (1 : Int32)).toNatClampNeg)] hC hK (c_M_sign (kl κ) w2 hK.2.1 N (xs (i + (1 : Int32)).toNatClampNeg) μ r3 s4 hf) o_X10_sign k_1157 (ci := 10) rfl rfl ⟨by rw [hR]; exact Nat.le_of_ble_eq_true rfl, by rw [hR]; exact Nat.le_of_ble_eq_true rfl⟩ ⟨by rw [hR]; exact lroom3 hj, by rw [hR]; exact lroom4 hj⟩ rfl (Nat.le_of_ble_eq_true rfl) dL_law_186 ?_
          refine g_pop (pc := 189) hC rfl dL_law_189 ?_
          refine g_goto (pc := 190) (tgt := 1056) hC dL_law_190 (by decide) ?_
          refine g_iinc (pc := 1056) hC (v := (4 : Int32)) rfl (by decide) rfl rfl dL_law_1056 ?_
          refine g_goto (pc := 1059) (tgt := 23) hC dL_law_1059 (by decide) ?_
          exact g_wd (by omega) (by omega) (ih (i + (4 : Int32)) s2 s4)
        · refine ⟨_, _, _, rfl, by decide, rfl, by decide, ?_⟩
          unfold Lw_c1
          refine g_aload_n (pc := 193) hC rfl dL_law_193 ?_
          refine g_aload_n (pc := 194) hC rfl dL_law_194 ?_
          refine g_iload (pc := 195) hC rfl dL_law_195 ?_
          refine g_iconst (pc := 197) hC (v := (1 : Int32)) (by decide) dL_law_197 ?_
          refine g_iadd (pc := 198) hC dL_law_198 ?_
          refine g_sld (pc := 199) hC hK dL_law_199 ?_
          refine g_ob2 (fun r5 s6 hf => ?_)
          refine g_callC (pc := 200) (rest := []) [.int (xs (i + (1 : Int32)).toNatClampNeg)] hC hK (c_D_end (kl κ) w1 hK.1 (xs (i + (1 : Int32)).toNatClampNeg) σ r5 s6 hf) o_X9_end k_353 (ci := 9) rfl rfl ⟨by rw [hR]; exact Nat.le_of_ble_eq_true rfl, by rw [hR]; exact Nat.le_of_ble_eq_true rfl⟩ ⟨by rw [hR]; exact lroom3 hj, by rw [hR]; exact lroom4 hj⟩ rfl (Nat.le_of_ble_eq_true rfl) dL_law_200 ?_
          refine g_pop (pc := 203) hC rfl dL_law_203 ?_
          refine g_aload_n (pc := 204) hC rfl dL_law_204 ?_
          refine g_aload_n (pc := 205) hC rfl dL_law_205 ?_
          refine g_iload (pc := 206) hC rfl dL_law_206 ?_
          refine g_iconst (pc := 208) hC (v := (1 : Int32)) (by decide) dL_law_208 ?_
          refine g_iadd (pc := 209) hC dL_law_209 ?_
          refine g_sld (pc := 210) hC hK dL_law_210 ?_
          refine g_ob2 (fun r7 s8 hf => ?_)
          refine g_callM (pc := 211) (rest := []) [.int (xs (i + (1 : Int32)).toNatClampNeg)] hC hK (c_M_end (kl κ) w2 hK.2.1 (xs (i + (1 : Int32)).toNatClampNeg) μ r7 s8 hf) o_X10_end k_1161 (ci := 10) rfl rfl ⟨by rw [hR]; exact Nat.le_of_ble_eq_true rfl, by rw [hR]; exact Nat.le_of_ble_eq_true rfl⟩ ⟨by rw [hR]; exact lroom3 hj, by rw [hR]; exact lroom4 hj⟩ rfl (Nat.le_of_ble_eq_true rfl) dL_law_211 ?_
          refine g_pop (pc := 214) hC rfl dL_law_214 ?_
          refine g_goto (pc := 215) (tgt := 1056) hC dL_law_215 (by decide) ?_
          refine g_iinc (pc := 1056) hC (v := (4 : Int32)) rfl (by decide) rfl rfl dL_law_1056 ?_
          refine g_goto (pc := 1059) (tgt := 23) hC dL_law_1059 (by decide) ?_
          exact g_wd (by omega) (by omega) (ih (i + (4 : Int32)) s6 s8)
        · refine ⟨_, _, _, rfl, by decide, rfl, by decide, ?_⟩
          unfold Lw_c2
          refine g_aload_n (pc := 218) hC rfl dL_law_218 ?_
          refine g_ob2 (fun r9 s10 hf => ?_)
          refine g_callC (pc := 219) (rest := []) [] hC hK (c_D_round (kl κ) w1 hK.1 N σ r9 s10 hf) o_X9_round k_361 (ci := 9) rfl rfl ⟨by rw [hR]; exact Nat.le_of_ble_eq_true rfl, by rw [hR]; exact Nat.le_of_ble_eq_true rfl⟩ ⟨by rw [hR]; exact lroom3 hj, by rw [hR]; exact lroom4 hj⟩ rfl (Nat.le_of_ble_eq_true rfl) dL_law_219 ?_
          refine g_pop (pc := 222) hC rfl dL_law_222 ?_
          refine g_aload_n (pc := 223) hC rfl dL_law_223 ?_
          refine g_ob2 (fun r11 s12 hf => ?_)
          refine g_callM (pc := 224) (rest := []) [] hC hK (c_M_round (kl κ) w2 hK.2.1 N μ r11 s12 hf) o_X10_round k_1168 (ci := 10) rfl rfl ⟨by rw [hR]; exact Nat.le_of_ble_eq_true rfl, by rw [hR]; exact Nat.le_of_ble_eq_true rfl⟩ ⟨by rw [hR]; exact lroom3 hj, by rw [hR]; exact lroom4 hj⟩ rfl (Nat.le_of_ble_eq_true rfl) dL_law_224 ?_
          refine g_pop (pc := 227) hC rfl dL_law_227 ?_
          refine g_goto (pc := 228) (tgt := 1056) hC dL_law_228 (by decide) ?_
          refine g_iinc (pc := 1056) hC (v := (4 : Int32)) rfl (by decide) rfl rfl dL_law_1056 ?_
          refine g_goto (pc := 1059) (tgt := 23) hC dL_law_1059 (by decide) ?_
          exact g_wd (by omega) (by omega) (ih (i + (4 : Int32)) s10 s12)
        · refine ⟨_, _, _, rfl, by decide, rfl, by decide, ?_⟩
          unfold Lw_c3
          refine g_aload_n (pc := 231) hC rfl dL_law_231 ?_
          refine g_aload_n (pc := 232) hC rfl dL_law_232 ?_
          refine g_iload (pc := 233) hC rfl dL_law_233 ?_
          refine g_iconst (pc := 235) hC (v := (1 : Int32)) (by decide) dL_law_235 ?_
          refine g_iadd (pc := 236) hC dL_law_236 ?_
          refine g_sld (pc := 237) hC hK dL_law_237 ?_
          refine g_aload_n (pc := 238) hC rfl dL_law_238 ?_
          refine g_iload (pc := 239) hC rfl dL_law_239 ?_
          refine g_iconst (pc := 241) hC (v := (2 : Int32)) (by decide) dL_law_241 ?_
          refine g_iadd (pc := 242) hC dL_law_242 ?_
          refine g_sld (pc := 243) hC hK dL_law_243 ?_
          refine g_ob2 (fun r13 s14 hf => ?_)
          refine g_callC (pc := 244) (rest := []) [.int (xs (i + (1 : Int32)).toNatClampNeg), .int (xs (i + (2 : Int32)).toNatClampNeg)] hC hK (c_D_drawn (kl κ) w1 hK.1 N (xs (i + (1 : Int32)).toNatClampNeg) (xs (i + (2 : Int32)).toNatClampNeg) σ r13 s14 hf) o_X9_drawn k_437 (ci := 9) rfl rfl ⟨by rw [hR]; exact Nat.le_of_ble_eq_true rfl, by rw [hR]; exact Nat.le_of_ble_eq_true rfl⟩ ⟨by rw [hR]; exact lroom3 hj, by rw [hR]; exact lroom4 hj⟩ rfl (Nat.le_of_ble_eq_true rfl) dL_law_244 ?_
          refine g_pop (pc := 247) hC rfl dL_law_247 ?_
          refine g_aload_n (pc := 248) hC rfl dL_law_248 ?_
          refine g_aload_n (pc := 249) hC rfl dL_law_249 ?_
          refine g_iload (pc := 250) hC rfl dL_law_250 ?_
          refine g_iconst (pc := 252) hC (v := (1 : Int32)) (by decide) dL_law_252 ?_
          refine g_iadd (pc := 253) hC dL_law_253 ?_
          refine g_sld (pc := 254) hC hK dL_law_254 ?_
          refine g_aload_n (pc := 255) hC rfl dL_law_255 ?_
          refine g_iload (pc := 256) hC rfl dL_law_256 ?_
          refine g_iconst (pc := 258) hC (v := (2 : Int32)) (by decide) dL_law_258 ?_
          refine g_iadd (pc := 259) hC dL_law_259 ?_
          refine g_sld (pc := 260) hC hK dL_law_260 ?_
          refine g_ob2 (fun r15 s16 hf => ?_)
          refine g_callM (pc := 261) (rest := []) [.int (xs (i + (1 : Int32)).toNatClampNeg), .int (xs (i + (2 : Int32)).toNatClampNeg)] hC hK (c_M_drawn (kl κ) w2 hK.2.1 N (xs (i + (1 : Int32)).toNatClampNeg) (xs (i + (2 : Int32)).toNatClampNeg) μ r15 s16 hf) o_X10_drawn k_1213 (ci := 10) rfl rfl ⟨by rw [hR]; exact Nat.le_of_ble_eq_true rfl, by rw [hR]; exact Nat.le_of_ble_eq_true rfl⟩ ⟨by rw [hR]; exact lroom3 hj, by rw [hR]; exact lroom4 hj⟩ rfl (Nat.le_of_ble_eq_true rfl) dL_law_261 ?_
          refine g_pop (pc := 264) hC rfl dL_law_264 ?_
          refine g_goto (pc := 265) (tgt := 1056) hC dL_law_265 (by decide) ?_
          refine g_iinc (pc := 1056) hC (v := (4 : Int32)) rfl (by decide) rfl rfl dL_law_1056 ?_
          refine g_goto (pc := 1059) (tgt := 23) hC dL_law_1059 (by decide) ?_
          exact g_wd (by omega) (by omega) (ih (i + (4 : Int32)) s14 s16)
        · refine ⟨_, _, _, rfl, by decide, rfl, by decide, ?_⟩
          unfold Lw_c4
          refine g_aload_n (pc := 268) hC rfl dL_law_268 ?_
          refine g_aload_n (pc := 269) hC rfl dL_law_269 ?_
          refine g_iload (pc := 270) hC rfl dL_law_270 ?_
          refine g_iconst (pc := 272) hC (v := (1 : Int32)) (by decide) dL_law_272 ?_
          refine g_iadd (pc := 273) hC dL_law_273 ?_
          refine g_sld (pc := 274) hC hK dL_law_274 ?_
          refine g_aload_n (pc := 275) hC rfl dL_law_275 ?_
          refine g_iload (pc := 276) hC rfl dL_law_276 ?_
          refine g_iconst (pc := 278) hC (v := (2 : Int32)) (by decide) dL_law_278 ?_
          refine g_iadd (pc := 279) hC dL_law_279 ?_
          refine g_sld (pc := 280) hC hK dL_law_280 ?_
          refine g_aload_n (pc := 281) hC rfl dL_law_281 ?_
          refine g_iload (pc := 282) hC rfl dL_law_282 ?_
          refine g_iconst (pc := 284) hC (v := (3 : Int32)) (by decide) dL_law_284 ?_
          refine g_iadd (pc := 285) hC dL_law_285 ?_
          refine g_sld (pc := 286) hC hK dL_law_286 ?_
          refine g_aload_n (pc := 287) hC rfl dL_law_287 ?_
          refine g_ob (fun x17 hf => ?_)
          refine g_duel (pc := 288) (rest := []) hC hK hf k_954 ⟨by rw [hR]; exact Nat.le_of_ble_eq_true rfl, by rw [hR]; exact Nat.le_of_ble_eq_true rfl⟩ ⟨by rw [hR]; exact lroom1 hj, by rw [hR]; exact lroom2 hj⟩ (Nat.le_of_ble_eq_true rfl) dL_law_288 ?_
          refine g_istore (pc := 291) hC rfl rfl dL_law_291 ?_
          refine g_aload_n (pc := 293) hC rfl dL_law_293 ?_
          refine g_aload_n (pc := 294) hC rfl dL_law_294 ?_
          refine g_iload (pc := 295) hC rfl dL_law_295 ?_
          refine g_iconst (pc := 297) hC (v := (1 : Int32)) (by decide) dL_law_297 ?_
          refine g_iadd (pc := 298) hC dL_law_298 ?_
          refine g_sld (pc := 299) hC hK dL_law_299 ?_
          refine g_aload_n (pc := 300) hC rfl dL_law_300 ?_
          refine g_iload (pc := 301) hC rfl dL_law_301 ?_
          refine g_iconst (pc := 303) hC (v := (2 : Int32)) (by decide) dL_law_303 ?_
          refine g_iadd (pc := 304) hC dL_law_304 ?_
          refine g_sld (pc := 305) hC hK dL_law_305 ?_
          refine g_aload_n (pc := 306) hC rfl dL_law_306 ?_
          refine g_iload (pc := 307) hC rfl dL_law_307 ?_
          refine g_iconst (pc := 309) hC (v := (3 : Int32)) (by decide) dL_law_309 ?_
          refine g_iadd (pc := 310) hC dL_law_310 ?_
          refine g_sld (pc := 311) hC hK dL_law_311 ?_
          refine g_ob2 (fun r18 s19 hf => ?_)
          refine g_callM (pc := 312) (rest := []) [.int (xs (i + (1 : Int32)).toNatClampNeg), .int (xs (i + (2 : Int32)).toNatClampNeg), .int (xs (i + (3 : Int32)).toNatClampNeg)] hC hK (c_M_duel (kl κ) w2 hK.2.1 N (xs (i + (1 : Int32)).toNatClampNeg) (xs (i + (2 : Int32)).toNatClampNeg) (xs (i + (3 : Int32)).toNatClampNeg) μ r18 s19 hf) o_X10_duel k_1220 (ci := 10) rfl rfl ⟨by rw [hR]; exact Nat.le_of_ble_eq_true rfl, by rw [hR]; exact Nat.le_of_ble_eq_true rfl⟩ ⟨by rw [hR]; exact lroom1 hj, by rw [hR]; exact lroom2 hj⟩ rfl (Nat.le_of_ble_eq_true rfl) dL_law_312 ?_
          refine g_istore (pc := 315) hC rfl rfl dL_law_315 ?_
          refine g_aload_n (pc := 317) hC rfl dL_law_317 ?_
          refine g_callM (pc := 318) (rest := []) [] hC hK (c_M_thrown (kl κ) w2 hK.2.1 s19) o_X10_thrown k_1153 (ci := 10) rfl rfl ⟨by rw [hR]; exact Nat.le_of_ble_eq_true rfl, by rw [hR]; exact Nat.le_of_ble_eq_true rfl⟩ ⟨by rw [hR]; exact lroom1 hj, by rw [hR]; exact lroom2 hj⟩ rfl (Nat.le_of_ble_eq_true rfl) dL_law_318 ?_
          refine g_iload (pc := 321) hC rfl dL_law_321 ?_
          refine g_icmp_eq (pc := 323) (tgt := 328) hC dL_law_323 (by decide) ?_ ?_
          · refine g_iload (pc := 328) hC rfl dL_law_328 ?_
            refine g_if_ne (pc := 330) (tgt := 345) hC dL_law_330 (by decide) ?_ ?_
            · refine g_goto (pc := 345) (tgt := 1056) hC dL_law_345 (by decide) ?_
              refine g_iinc (pc := 1056) hC (v := (4 : Int32)) rfl (by decide) rfl rfl dL_law_1056 ?_
              refine g_goto (pc := 1059) (tgt := 23) hC dL_law_1059 (by decide) ?_
              exact g_wd (by omega) (by omega) (g_wk [true, true, true, true, true, false, false] (ih (i + (4 : Int32)) (dM σ x17) s19))
            · refine g_aload_n (pc := 333) hC rfl dL_law_333 ?_
              refine g_iconst (pc := 334) hC (v := (0 : Int32)) (by decide) dL_law_334 ?_
              refine g_out (pc := 335) hC hK dL_law_335 ?_
              refine g_iload (pc := 336) hC rfl dL_law_336 ?_
              refine g_i2l (pc := 338) hC dL_law_338 ?_
              refine g_lcmp (pc := 339) hC dL_law_339 ?_
              refine g_if_eq (pc := 340) (tgt := 345) hC dL_law_340 (by decide) ?_ ?_
              · refine g_goto (pc := 345) (tgt := 1056) hC dL_law_345 (by decide) ?_
                refine g_iinc (pc := 1056) hC (v := (4 : Int32)) rfl (by decide) rfl rfl dL_law_1056 ?_
                refine g_goto (pc := 1059) (tgt := 23) hC dL_law_1059 (by decide) ?_
                exact g_wd (by omega) (by omega) (g_wk [true, true, true, true, true, false, false] (ih (i + (4 : Int32)) (dM σ x17) s19))
              · exact g_no
          · exact g_no
        · refine ⟨_, _, _, rfl, by decide, rfl, by decide, ?_⟩
          unfold Lw_c5
          refine g_aload_n (pc := 348) hC rfl dL_law_348 ?_
          refine g_aload_n (pc := 349) hC rfl dL_law_349 ?_
          refine g_iload (pc := 350) hC rfl dL_law_350 ?_
          refine g_iconst (pc := 352) hC (v := (1 : Int32)) (by decide) dL_law_352 ?_
          refine g_iadd (pc := 353) hC dL_law_353 ?_
          refine g_sld (pc := 354) hC hK dL_law_354 ?_
          refine g_aload_n (pc := 355) hC rfl dL_law_355 ?_
          refine g_iload (pc := 356) hC rfl dL_law_356 ?_
          refine g_iconst (pc := 358) hC (v := (2 : Int32)) (by decide) dL_law_358 ?_
          refine g_iadd (pc := 359) hC dL_law_359 ?_
          refine g_sld (pc := 360) hC hK dL_law_360 ?_
          refine g_ob (fun r20 hf => ?_)
          refine g_callC (pc := 361) (rest := []) [.int (xs (i + (1 : Int32)).toNatClampNeg), .int (xs (i + (2 : Int32)).toNatClampNeg)] hC hK (c_D_beaten (kl κ) w1 hK.1 (xs (i + (1 : Int32)).toNatClampNeg) (xs (i + (2 : Int32)).toNatClampNeg) σ r20 hf) o_X9_beaten k_443 (ci := 9) rfl rfl ⟨by rw [hR]; exact Nat.le_of_ble_eq_true rfl, by rw [hR]; exact Nat.le_of_ble_eq_true rfl⟩ ⟨by rw [hR]; exact lroom3 hj, by rw [hR]; exact lroom4 hj⟩ rfl (Nat.le_of_ble_eq_true rfl) dL_law_361 ?_
          refine g_pop (pc := 364) hC rfl dL_law_364 ?_
          refine g_aload_n (pc := 365) hC rfl dL_law_365 ?_
          refine g_aload_n (pc := 366) hC rfl dL_law_366 ?_
          refine g_iload (pc := 367) hC rfl dL_law_367 ?_
          refine g_iconst (pc := 369) hC (v := (1 : Int32)) (by decide) dL_law_369 ?_
          refine g_iadd (pc := 370) hC dL_law_370 ?_
          refine g_sld (pc := 371) hC hK dL_law_371 ?_
          refine g_aload_n (pc := 372) hC rfl dL_law_372 ?_
          refine g_iload (pc := 373) hC rfl dL_law_373 ?_
          refine g_iconst (pc := 375) hC (v := (2 : Int32)) (by decide) dL_law_375 ?_
          refine g_iadd (pc := 376) hC dL_law_376 ?_
          refine g_sld (pc := 377) hC hK dL_law_377 ?_
          refine g_ob2 (fun r21 s22 hf => ?_)
          refine g_callM (pc := 378) (rest := []) [.int (xs (i + (1 : Int32)).toNatClampNeg), .int (xs (i + (2 : Int32)).toNatClampNeg)] hC hK (c_M_beaten (kl κ) w2 hK.2.1 (xs (i + (1 : Int32)).toNatClampNeg) (xs (i + (2 : Int32)).toNatClampNeg) μ r21 s22 hf) o_X10_beaten k_1250 (ci := 10) rfl rfl ⟨by rw [hR]; exact Nat.le_of_ble_eq_true rfl, by rw [hR]; exact Nat.le_of_ble_eq_true rfl⟩ ⟨by rw [hR]; exact lroom3 hj, by rw [hR]; exact lroom4 hj⟩ rfl (Nat.le_of_ble_eq_true rfl) dL_law_378 ?_
          refine g_pop (pc := 381) hC rfl dL_law_381 ?_
          refine g_goto (pc := 382) (tgt := 1056) hC dL_law_382 (by decide) ?_
          refine g_iinc (pc := 1056) hC (v := (4 : Int32)) rfl (by decide) rfl rfl dL_law_1056 ?_
          refine g_goto (pc := 1059) (tgt := 23) hC dL_law_1059 (by decide) ?_
          exact g_wd (by omega) (by omega) (ih (i + (4 : Int32)) σ s22)
        · refine ⟨_, _, _, rfl, by decide, rfl, by decide, ?_⟩
          unfold Lw_c6
          refine g_aload_n (pc := 385) hC rfl dL_law_385 ?_
          refine g_aload_n (pc := 386) hC rfl dL_law_386 ?_
          refine g_iload (pc := 387) hC rfl dL_law_387 ?_
          refine g_iconst (pc := 389) hC (v := (1 : Int32)) (by decide) dL_law_389 ?_
          refine g_iadd (pc := 390) hC dL_law_390 ?_
          refine g_sld (pc := 391) hC hK dL_law_391 ?_
          refine g_aload_n (pc := 392) hC rfl dL_law_392 ?_
          refine g_iload (pc := 393) hC rfl dL_law_393 ?_
          refine g_iconst (pc := 395) hC (v := (2 : Int32)) (by decide) dL_law_395 ?_
          refine g_iadd (pc := 396) hC dL_law_396 ?_
          refine g_sld (pc := 397) hC hK dL_law_397 ?_
          refine g_ob2 (fun r23 s24 hf => ?_)
          refine g_callC (pc := 398) (rest := []) [.int (xs (i + (1 : Int32)).toNatClampNeg), .int (xs (i + (2 : Int32)).toNatClampNeg)] hC hK (c_D_turn (kl κ) w1 hK.1 N (xs (i + (1 : Int32)).toNatClampNeg) (xs (i + (2 : Int32)).toNatClampNeg) σ r23 s24 hf) o_X9_turn k_459 (ci := 9) rfl rfl ⟨by rw [hR]; exact Nat.le_of_ble_eq_true rfl, by rw [hR]; exact Nat.le_of_ble_eq_true rfl⟩ ⟨by rw [hR]; exact lroom3 hj, by rw [hR]; exact lroom4 hj⟩ rfl (Nat.le_of_ble_eq_true rfl) dL_law_398 ?_
          refine g_pop (pc := 401) hC rfl dL_law_401 ?_
          refine g_aload_n (pc := 402) hC rfl dL_law_402 ?_
          refine g_aload_n (pc := 403) hC rfl dL_law_403 ?_
          refine g_iload (pc := 404) hC rfl dL_law_404 ?_
          refine g_iconst (pc := 406) hC (v := (1 : Int32)) (by decide) dL_law_406 ?_
          refine g_iadd (pc := 407) hC dL_law_407 ?_
          refine g_sld (pc := 408) hC hK dL_law_408 ?_
          refine g_aload_n (pc := 409) hC rfl dL_law_409 ?_
          refine g_iload (pc := 410) hC rfl dL_law_410 ?_
          refine g_iconst (pc := 412) hC (v := (2 : Int32)) (by decide) dL_law_412 ?_
          refine g_iadd (pc := 413) hC dL_law_413 ?_
          refine g_sld (pc := 414) hC hK dL_law_414 ?_
          refine g_ob2 (fun r25 s26 hf => ?_)
          refine g_callM (pc := 415) (rest := []) [.int (xs (i + (1 : Int32)).toNatClampNeg), .int (xs (i + (2 : Int32)).toNatClampNeg)] hC hK (c_M_turn (kl κ) w2 hK.2.1 N (xs (i + (1 : Int32)).toNatClampNeg) (xs (i + (2 : Int32)).toNatClampNeg) μ r25 s26 hf) o_X10_turn k_1262 (ci := 10) rfl rfl ⟨by rw [hR]; exact Nat.le_of_ble_eq_true rfl, by rw [hR]; exact Nat.le_of_ble_eq_true rfl⟩ ⟨by rw [hR]; exact lroom3 hj, by rw [hR]; exact lroom4 hj⟩ rfl (Nat.le_of_ble_eq_true rfl) dL_law_415 ?_
          refine g_pop (pc := 418) hC rfl dL_law_418 ?_
          refine g_goto (pc := 419) (tgt := 1056) hC dL_law_419 (by decide) ?_
          refine g_iinc (pc := 1056) hC (v := (4 : Int32)) rfl (by decide) rfl rfl dL_law_1056 ?_
          refine g_goto (pc := 1059) (tgt := 23) hC dL_law_1059 (by decide) ?_
          exact g_wd (by omega) (by omega) (ih (i + (4 : Int32)) s24 s26)
        · refine ⟨_, _, _, rfl, by decide, rfl, by decide, ?_⟩
          unfold Lw_c7
          refine g_aload_n (pc := 422) hC rfl dL_law_422 ?_
          refine g_aload_n (pc := 423) hC rfl dL_law_423 ?_
          refine g_iload (pc := 424) hC rfl dL_law_424 ?_
          refine g_iconst (pc := 426) hC (v := (1 : Int32)) (by decide) dL_law_426 ?_
          refine g_iadd (pc := 427) hC dL_law_427 ?_
          refine g_sld (pc := 428) hC hK dL_law_428 ?_
          refine g_ob2 (fun r27 s28 hf => ?_)
          refine g_callC (pc := 429) (rest := []) [.int (xs (i + (1 : Int32)).toNatClampNeg)] hC hK (c_D_join (kl κ) w1 hK.1 N (xs (i + (1 : Int32)).toNatClampNeg) σ r27 s28 hf) o_X9_join k_478 (ci := 9) rfl rfl ⟨by rw [hR]; exact Nat.le_of_ble_eq_true rfl, by rw [hR]; exact Nat.le_of_ble_eq_true rfl⟩ ⟨by rw [hR]; exact lroom3 hj, by rw [hR]; exact lroom4 hj⟩ rfl (Nat.le_of_ble_eq_true rfl) dL_law_429 ?_
          refine g_pop (pc := 432) hC rfl dL_law_432 ?_
          refine g_aload_n (pc := 433) hC rfl dL_law_433 ?_
          refine g_aload_n (pc := 434) hC rfl dL_law_434 ?_
          refine g_iload (pc := 435) hC rfl dL_law_435 ?_
          refine g_iconst (pc := 437) hC (v := (1 : Int32)) (by decide) dL_law_437 ?_
          refine g_iadd (pc := 438) hC dL_law_438 ?_
          refine g_sld (pc := 439) hC hK dL_law_439 ?_
          refine g_ob2 (fun r29 s30 hf => ?_)
          refine g_callM (pc := 440) (rest := []) [.int (xs (i + (1 : Int32)).toNatClampNeg)] hC hK (c_M_join (kl κ) w2 hK.2.1 N (xs (i + (1 : Int32)).toNatClampNeg) μ r29 s30 hf) o_X10_join k_1274 (ci := 10) rfl rfl ⟨by rw [hR]; exact Nat.le_of_ble_eq_true rfl, by rw [hR]; exact Nat.le_of_ble_eq_true rfl⟩ ⟨by rw [hR]; exact lroom3 hj, by rw [hR]; exact lroom4 hj⟩ rfl (Nat.le_of_ble_eq_true rfl) dL_law_440 ?_
          refine g_pop (pc := 443) hC rfl dL_law_443 ?_
          refine g_goto (pc := 444) (tgt := 1056) hC dL_law_444 (by decide) ?_
          refine g_iinc (pc := 1056) hC (v := (4 : Int32)) rfl (by decide) rfl rfl dL_law_1056 ?_
          refine g_goto (pc := 1059) (tgt := 23) hC dL_law_1059 (by decide) ?_
          exact g_wd (by omega) (by omega) (ih (i + (4 : Int32)) s28 s30)
        · refine ⟨_, _, _, rfl, by decide, rfl, by decide, ?_⟩
          unfold Lw_c8
          refine g_aload_n (pc := 447) hC rfl dL_law_447 ?_
          refine g_aload_n (pc := 448) hC rfl dL_law_448 ?_
          refine g_iload (pc := 449) hC rfl dL_law_449 ?_
          refine g_iconst (pc := 451) hC (v := (1 : Int32)) (by decide) dL_law_451 ?_
          refine g_iadd (pc := 452) hC dL_law_452 ?_
          refine g_sld (pc := 453) hC hK dL_law_453 ?_
          refine g_ob2 (fun r31 s32 hf => ?_)
          refine g_callC (pc := 454) (rest := []) [.int (xs (i + (1 : Int32)).toNatClampNeg)] hC hK (c_D_drop (kl κ) w1 hK.1 N (xs (i + (1 : Int32)).toNatClampNeg) σ r31 s32 hf) o_X9_drop k_486 (ci := 9) rfl rfl ⟨by rw [hR]; exact Nat.le_of_ble_eq_true rfl, by rw [hR]; exact Nat.le_of_ble_eq_true rfl⟩ ⟨by rw [hR]; exact lroom3 hj, by rw [hR]; exact lroom4 hj⟩ rfl (Nat.le_of_ble_eq_true rfl) dL_law_454 ?_
          refine g_pop (pc := 457) hC rfl dL_law_457 ?_
          refine g_aload_n (pc := 458) hC rfl dL_law_458 ?_
          refine g_aload_n (pc := 459) hC rfl dL_law_459 ?_
          refine g_iload (pc := 460) hC rfl dL_law_460 ?_
          refine g_iconst (pc := 462) hC (v := (1 : Int32)) (by decide) dL_law_462 ?_
          refine g_iadd (pc := 463) hC dL_law_463 ?_
          refine g_sld (pc := 464) hC hK dL_law_464 ?_
          refine g_ob2 (fun r33 s34 hf => ?_)
          refine g_callM (pc := 465) (rest := []) [.int (xs (i + (1 : Int32)).toNatClampNeg)] hC hK (c_M_drop (kl κ) w2 hK.2.1 N (xs (i + (1 : Int32)).toNatClampNeg) μ r33 s34 hf) o_X10_drop k_1282 (ci := 10) rfl rfl ⟨by rw [hR]; exact Nat.le_of_ble_eq_true rfl, by rw [hR]; exact Nat.le_of_ble_eq_true rfl⟩ ⟨by rw [hR]; exact lroom3 hj, by rw [hR]; exact lroom4 hj⟩ rfl (Nat.le_of_ble_eq_true rfl) dL_law_465 ?_
          refine g_pop (pc := 468) hC rfl dL_law_468 ?_
          refine g_goto (pc := 469) (tgt := 1056) hC dL_law_469 (by decide) ?_
          refine g_iinc (pc := 1056) hC (v := (4 : Int32)) rfl (by decide) rfl rfl dL_law_1056 ?_
          refine g_goto (pc := 1059) (tgt := 23) hC dL_law_1059 (by decide) ?_
          exact g_wd (by omega) (by omega) (ih (i + (4 : Int32)) s32 s34)
        · refine ⟨_, _, _, rfl, by decide, rfl, by decide, ?_⟩
          unfold Lw_c9
          refine g_aload_n (pc := 472) hC rfl dL_law_472 ?_
          refine g_aload_n (pc := 473) hC rfl dL_law_473 ?_
          refine g_iload (pc := 474) hC rfl dL_law_474 ?_
          refine g_iconst (pc := 476) hC (v := (1 : Int32)) (by decide) dL_law_476 ?_
          refine g_iadd (pc := 477) hC dL_law_477 ?_
          refine g_sld (pc := 478) hC hK dL_law_478 ?_
          refine g_aload_n (pc := 479) hC rfl dL_law_479 ?_
          refine g_iload (pc := 480) hC rfl dL_law_480 ?_
          refine g_iconst (pc := 482) hC (v := (2 : Int32)) (by decide) dL_law_482 ?_
          refine g_iadd (pc := 483) hC dL_law_483 ?_
          refine g_sld (pc := 484) hC hK dL_law_484 ?_
          refine g_ob2 (fun r35 s36 hf => ?_)
          refine g_callC (pc := 485) (rest := []) [.int (xs (i + (1 : Int32)).toNatClampNeg), .int (xs (i + (2 : Int32)).toNatClampNeg)] hC hK (c_D_set (kl κ) w1 hK.1 N (xs (i + (1 : Int32)).toNatClampNeg) (xs (i + (2 : Int32)).toNatClampNeg) σ r35 s36 hf) o_X9_set k_494 (ci := 9) rfl rfl ⟨by rw [hR]; exact Nat.le_of_ble_eq_true rfl, by rw [hR]; exact Nat.le_of_ble_eq_true rfl⟩ ⟨by rw [hR]; exact lroom3 hj, by rw [hR]; exact lroom4 hj⟩ rfl (Nat.le_of_ble_eq_true rfl) dL_law_485 ?_
          refine g_pop (pc := 488) hC rfl dL_law_488 ?_
          refine g_aload_n (pc := 489) hC rfl dL_law_489 ?_
          refine g_aload_n (pc := 490) hC rfl dL_law_490 ?_
          refine g_iload (pc := 491) hC rfl dL_law_491 ?_
          refine g_iconst (pc := 493) hC (v := (1 : Int32)) (by decide) dL_law_493 ?_
          refine g_iadd (pc := 494) hC dL_law_494 ?_
          refine g_sld (pc := 495) hC hK dL_law_495 ?_
          refine g_aload_n (pc := 496) hC rfl dL_law_496 ?_
          refine g_iload (pc := 497) hC rfl dL_law_497 ?_
          refine g_iconst (pc := 499) hC (v := (2 : Int32)) (by decide) dL_law_499 ?_
          refine g_iadd (pc := 500) hC dL_law_500 ?_
          refine g_sld (pc := 501) hC hK dL_law_501 ?_
          refine g_ob2 (fun r37 s38 hf => ?_)
          refine g_callM (pc := 502) (rest := []) [.int (xs (i + (1 : Int32)).toNatClampNeg), .int (xs (i + (2 : Int32)).toNatClampNeg)] hC hK (c_M_set (kl κ) w2 hK.2.1 N (xs (i + (1 : Int32)).toNatClampNeg) (xs (i + (2 : Int32)).toNatClampNeg) μ r37 s38 hf) o_X10_set k_1289 (ci := 10) rfl rfl ⟨by rw [hR]; exact Nat.le_of_ble_eq_true rfl, by rw [hR]; exact Nat.le_of_ble_eq_true rfl⟩ ⟨by rw [hR]; exact lroom3 hj, by rw [hR]; exact lroom4 hj⟩ rfl (Nat.le_of_ble_eq_true rfl) dL_law_502 ?_
          refine g_pop (pc := 505) hC rfl dL_law_505 ?_
          refine g_goto (pc := 506) (tgt := 1056) hC dL_law_506 (by decide) ?_
          refine g_iinc (pc := 1056) hC (v := (4 : Int32)) rfl (by decide) rfl rfl dL_law_1056 ?_
          refine g_goto (pc := 1059) (tgt := 23) hC dL_law_1059 (by decide) ?_
          exact g_wd (by omega) (by omega) (ih (i + (4 : Int32)) s36 s38)
        · refine ⟨_, _, _, rfl, by decide, rfl, by decide, ?_⟩
          unfold Lw_c10
          refine g_aload_n (pc := 509) hC rfl dL_law_509 ?_
          refine g_aload_n (pc := 510) hC rfl dL_law_510 ?_
          refine g_iload (pc := 511) hC rfl dL_law_511 ?_
          refine g_iconst (pc := 513) hC (v := (1 : Int32)) (by decide) dL_law_513 ?_
          refine g_iadd (pc := 514) hC dL_law_514 ?_
          refine g_sld (pc := 515) hC hK dL_law_515 ?_
          refine g_aload_n (pc := 516) hC rfl dL_law_516 ?_
          refine g_iload (pc := 517) hC rfl dL_law_517 ?_
          refine g_iconst (pc := 519) hC (v := (2 : Int32)) (by decide) dL_law_519 ?_
          refine g_iadd (pc := 520) hC dL_law_520 ?_
          refine g_sld (pc := 521) hC hK dL_law_521 ?_
          refine g_ob2 (fun r39 s40 hf => ?_)
          refine g_callC (pc := 522) (rest := []) [.int (xs (i + (1 : Int32)).toNatClampNeg), .int (xs (i + (2 : Int32)).toNatClampNeg)] hC hK (c_D_praised (kl κ) w1 hK.1 N (xs (i + (1 : Int32)).toNatClampNeg) (xs (i + (2 : Int32)).toNatClampNeg) σ r39 s40 hf) o_X9_praised k_655 (ci := 9) rfl rfl ⟨by rw [hR]; exact Nat.le_of_ble_eq_true rfl, by rw [hR]; exact Nat.le_of_ble_eq_true rfl⟩ ⟨by rw [hR]; exact lroom3 hj, by rw [hR]; exact lroom4 hj⟩ rfl (Nat.le_of_ble_eq_true rfl) dL_law_522 ?_
          refine g_pop (pc := 525) hC rfl dL_law_525 ?_
          refine g_aload_n (pc := 526) hC rfl dL_law_526 ?_
          refine g_aload_n (pc := 527) hC rfl dL_law_527 ?_
          refine g_iload (pc := 528) hC rfl dL_law_528 ?_
          refine g_iconst (pc := 530) hC (v := (1 : Int32)) (by decide) dL_law_530 ?_
          refine g_iadd (pc := 531) hC dL_law_531 ?_
          refine g_sld (pc := 532) hC hK dL_law_532 ?_
          refine g_aload_n (pc := 533) hC rfl dL_law_533 ?_
          refine g_iload (pc := 534) hC rfl dL_law_534 ?_
          refine g_iconst (pc := 536) hC (v := (2 : Int32)) (by decide) dL_law_536 ?_
          refine g_iadd (pc := 537) hC dL_law_537 ?_
          refine g_sld (pc := 538) hC hK dL_law_538 ?_
          refine g_ob2 (fun r41 s42 hf => ?_)
          refine g_callM (pc := 539) (rest := []) [.int (xs (i + (1 : Int32)).toNatClampNeg), .int (xs (i + (2 : Int32)).toNatClampNeg)] hC hK (c_M_praised (kl κ) w2 hK.2.1 N (xs (i + (1 : Int32)).toNatClampNeg) (xs (i + (2 : Int32)).toNatClampNeg) μ r41 s42 hf) o_X10_praised k_1399 (ci := 10) rfl rfl ⟨by rw [hR]; exact Nat.le_of_ble_eq_true rfl, by rw [hR]; exact Nat.le_of_ble_eq_true rfl⟩ ⟨by rw [hR]; exact lroom3 hj, by rw [hR]; exact lroom4 hj⟩ rfl (Nat.le_of_ble_eq_true rfl) dL_law_539 ?_
          refine g_pop (pc := 542) hC rfl dL_law_542 ?_
          refine g_goto (pc := 543) (tgt := 1056) hC dL_law_543 (by decide) ?_
          refine g_iinc (pc := 1056) hC (v := (4 : Int32)) rfl (by decide) rfl rfl dL_law_1056 ?_
          refine g_goto (pc := 1059) (tgt := 23) hC dL_law_1059 (by decide) ?_
          exact g_wd (by omega) (by omega) (ih (i + (4 : Int32)) s40 s42)
        · refine ⟨_, _, _, rfl, by decide, rfl, by decide, ?_⟩
          unfold Lw_c11
          refine g_aload_n (pc := 546) hC rfl dL_law_546 ?_
          refine g_aload_n (pc := 547) hC rfl dL_law_547 ?_
          refine g_iload (pc := 548) hC rfl dL_law_548 ?_
          refine g_iconst (pc := 550) hC (v := (1 : Int32)) (by decide) dL_law_550 ?_
          refine g_iadd (pc := 551) hC dL_law_551 ?_
          refine g_sld (pc := 552) hC hK dL_law_552 ?_
          refine g_ob2 (fun r43 s44 hf => ?_)
          refine g_callC (pc := 553) (rest := []) [.int (xs (i + (1 : Int32)).toNatClampNeg)] hC hK (c_D_within (kl κ) w1 hK.1 N (xs (i + (1 : Int32)).toNatClampNeg) σ r43 s44 hf) o_X9_within k_660 (ci := 9) rfl rfl ⟨by rw [hR]; exact Nat.le_of_ble_eq_true rfl, by rw [hR]; exact Nat.le_of_ble_eq_true rfl⟩ ⟨by rw [hR]; exact lroom3 hj, by rw [hR]; exact lroom4 hj⟩ rfl (Nat.le_of_ble_eq_true rfl) dL_law_553 ?_
          refine g_pop (pc := 556) hC rfl dL_law_556 ?_
          refine g_aload_n (pc := 557) hC rfl dL_law_557 ?_
          refine g_aload_n (pc := 558) hC rfl dL_law_558 ?_
          refine g_iload (pc := 559) hC rfl dL_law_559 ?_
          refine g_iconst (pc := 561) hC (v := (1 : Int32)) (by decide) dL_law_561 ?_
          refine g_iadd (pc := 562) hC dL_law_562 ?_
          refine g_sld (pc := 563) hC hK dL_law_563 ?_
          refine g_ob2 (fun r45 s46 hf => ?_)
          refine g_callM (pc := 564) (rest := []) [.int (xs (i + (1 : Int32)).toNatClampNeg)] hC hK (c_M_within (kl κ) w2 hK.2.1 N (xs (i + (1 : Int32)).toNatClampNeg) μ r45 s46 hf) o_X10_within k_1404 (ci := 10) rfl rfl ⟨by rw [hR]; exact Nat.le_of_ble_eq_true rfl, by rw [hR]; exact Nat.le_of_ble_eq_true rfl⟩ ⟨by rw [hR]; exact lroom3 hj, by rw [hR]; exact lroom4 hj⟩ rfl (Nat.le_of_ble_eq_true rfl) dL_law_564 ?_
          refine g_pop (pc := 567) hC rfl dL_law_567 ?_
          refine g_goto (pc := 568) (tgt := 1056) hC dL_law_568 (by decide) ?_
          refine g_iinc (pc := 1056) hC (v := (4 : Int32)) rfl (by decide) rfl rfl dL_law_1056 ?_
          refine g_goto (pc := 1059) (tgt := 23) hC dL_law_1059 (by decide) ?_
          exact g_wd (by omega) (by omega) (ih (i + (4 : Int32)) s44 s46)
        · refine ⟨_, _, _, rfl, by decide, rfl, by decide, ?_⟩
          unfold Lw_c12
          refine g_aload_n (pc := 571) hC rfl dL_law_571 ?_
          refine g_aload_n (pc := 572) hC rfl dL_law_572 ?_
          refine g_iload (pc := 573) hC rfl dL_law_573 ?_
          refine g_iconst (pc := 575) hC (v := (1 : Int32)) (by decide) dL_law_575 ?_
          refine g_iadd (pc := 576) hC dL_law_576 ?_
          refine g_sld (pc := 577) hC hK dL_law_577 ?_
          refine g_aload_n (pc := 578) hC rfl dL_law_578 ?_
          refine g_iload (pc := 579) hC rfl dL_law_579 ?_
          refine g_iconst (pc := 581) hC (v := (2 : Int32)) (by decide) dL_law_581 ?_
          refine g_iadd (pc := 582) hC dL_law_582 ?_
          refine g_sld (pc := 583) hC hK dL_law_583 ?_
          refine g_aload_n (pc := 584) hC rfl dL_law_584 ?_
          refine g_iload (pc := 585) hC rfl dL_law_585 ?_
          refine g_iconst (pc := 587) hC (v := (3 : Int32)) (by decide) dL_law_587 ?_
          refine g_iadd (pc := 588) hC dL_law_588 ?_
          refine g_sld (pc := 589) hC hK dL_law_589 ?_
          refine g_ob2 (fun r47 s48 hf => ?_)
          refine g_callC (pc := 590) (rest := []) [.int (xs (i + (1 : Int32)).toNatClampNeg), .int (xs (i + (2 : Int32)).toNatClampNeg), .int (xs (i + (3 : Int32)).toNatClampNeg)] hC hK (c_D_chain (kl κ) w1 hK.1 N (xs (i + (1 : Int32)).toNatClampNeg) (xs (i + (2 : Int32)).toNatClampNeg) (xs (i + (3 : Int32)).toNatClampNeg) σ r47 s48 hf) o_X9_chain k_672 (ci := 9) rfl rfl ⟨by rw [hR]; exact Nat.le_of_ble_eq_true rfl, by rw [hR]; exact Nat.le_of_ble_eq_true rfl⟩ ⟨by rw [hR]; exact lroom3 hj, by rw [hR]; exact lroom4 hj⟩ rfl (Nat.le_of_ble_eq_true rfl) dL_law_590 ?_
          refine g_pop (pc := 593) hC rfl dL_law_593 ?_
          refine g_aload_n (pc := 594) hC rfl dL_law_594 ?_
          refine g_aload_n (pc := 595) hC rfl dL_law_595 ?_
          refine g_iload (pc := 596) hC rfl dL_law_596 ?_
          refine g_iconst (pc := 598) hC (v := (1 : Int32)) (by decide) dL_law_598 ?_
          refine g_iadd (pc := 599) hC dL_law_599 ?_
          refine g_sld (pc := 600) hC hK dL_law_600 ?_
          refine g_aload_n (pc := 601) hC rfl dL_law_601 ?_
          refine g_iload (pc := 602) hC rfl dL_law_602 ?_
          refine g_iconst (pc := 604) hC (v := (2 : Int32)) (by decide) dL_law_604 ?_
          refine g_iadd (pc := 605) hC dL_law_605 ?_
          refine g_sld (pc := 606) hC hK dL_law_606 ?_
          refine g_aload_n (pc := 607) hC rfl dL_law_607 ?_
          refine g_iload (pc := 608) hC rfl dL_law_608 ?_
          refine g_iconst (pc := 610) hC (v := (3 : Int32)) (by decide) dL_law_610 ?_
          refine g_iadd (pc := 611) hC dL_law_611 ?_
          refine g_sld (pc := 612) hC hK dL_law_612 ?_
          refine g_ob2 (fun r49 s50 hf => ?_)
          refine g_callM (pc := 613) (rest := []) [.int (xs (i + (1 : Int32)).toNatClampNeg), .int (xs (i + (2 : Int32)).toNatClampNeg), .int (xs (i + (3 : Int32)).toNatClampNeg)] hC hK (c_M_chain (kl κ) w2 hK.2.1 N (xs (i + (1 : Int32)).toNatClampNeg) (xs (i + (2 : Int32)).toNatClampNeg) (xs (i + (3 : Int32)).toNatClampNeg) μ r49 s50 hf) o_X10_chain k_1408 (ci := 10) rfl rfl ⟨by rw [hR]; exact Nat.le_of_ble_eq_true rfl, by rw [hR]; exact Nat.le_of_ble_eq_true rfl⟩ ⟨by rw [hR]; exact lroom3 hj, by rw [hR]; exact lroom4 hj⟩ rfl (Nat.le_of_ble_eq_true rfl) dL_law_613 ?_
          refine g_pop (pc := 616) hC rfl dL_law_616 ?_
          refine g_goto (pc := 617) (tgt := 1056) hC dL_law_617 (by decide) ?_
          refine g_iinc (pc := 1056) hC (v := (4 : Int32)) rfl (by decide) rfl rfl dL_law_1056 ?_
          refine g_goto (pc := 1059) (tgt := 23) hC dL_law_1059 (by decide) ?_
          exact g_wd (by omega) (by omega) (ih (i + (4 : Int32)) s48 s50)
        · refine ⟨_, _, _, rfl, by decide, rfl, by decide, ?_⟩
          unfold Lw_c13
          refine g_aload_n (pc := 620) hC rfl dL_law_620 ?_
          refine g_aload_n (pc := 621) hC rfl dL_law_621 ?_
          refine g_iload (pc := 622) hC rfl dL_law_622 ?_
          refine g_iconst (pc := 624) hC (v := (1 : Int32)) (by decide) dL_law_624 ?_
          refine g_iadd (pc := 625) hC dL_law_625 ?_
          refine g_sld (pc := 626) hC hK dL_law_626 ?_
          refine g_ob2 (fun r51 s52 hf => ?_)
          refine g_callC (pc := 627) (rest := []) [.int (xs (i + (1 : Int32)).toNatClampNeg)] hC hK (c_D_best (kl κ) w1 hK.1 N (xs (i + (1 : Int32)).toNatClampNeg) σ r51 s52 hf) o_X9_best k_677 (ci := 9) rfl rfl ⟨by rw [hR]; exact Nat.le_of_ble_eq_true rfl, by rw [hR]; exact Nat.le_of_ble_eq_true rfl⟩ ⟨by rw [hR]; exact lroom3 hj, by rw [hR]; exact lroom4 hj⟩ rfl (Nat.le_of_ble_eq_true rfl) dL_law_627 ?_
          refine g_pop (pc := 630) hC rfl dL_law_630 ?_
          refine g_aload_n (pc := 631) hC rfl dL_law_631 ?_
          refine g_aload_n (pc := 632) hC rfl dL_law_632 ?_
          refine g_iload (pc := 633) hC rfl dL_law_633 ?_
          refine g_iconst (pc := 635) hC (v := (1 : Int32)) (by decide) dL_law_635 ?_
          refine g_iadd (pc := 636) hC dL_law_636 ?_
          refine g_sld (pc := 637) hC hK dL_law_637 ?_
          refine g_ob2 (fun r53 s54 hf => ?_)
          refine g_callM (pc := 638) (rest := []) [.int (xs (i + (1 : Int32)).toNatClampNeg)] hC hK (c_M_best (kl κ) w2 hK.2.1 N (xs (i + (1 : Int32)).toNatClampNeg) μ r53 s54 hf) o_X10_best k_1412 (ci := 10) rfl rfl ⟨by rw [hR]; exact Nat.le_of_ble_eq_true rfl, by rw [hR]; exact Nat.le_of_ble_eq_true rfl⟩ ⟨by rw [hR]; exact lroom3 hj, by rw [hR]; exact lroom4 hj⟩ rfl (Nat.le_of_ble_eq_true rfl) dL_law_638 ?_
          refine g_pop (pc := 641) hC rfl dL_law_641 ?_
          refine g_goto (pc := 642) (tgt := 1056) hC dL_law_642 (by decide) ?_
          refine g_iinc (pc := 1056) hC (v := (4 : Int32)) rfl (by decide) rfl rfl dL_law_1056 ?_
          refine g_goto (pc := 1059) (tgt := 23) hC dL_law_1059 (by decide) ?_
          exact g_wd (by omega) (by omega) (ih (i + (4 : Int32)) s52 s54)
        · refine ⟨_, _, _, rfl, by decide, rfl, by decide, ?_⟩
          unfold Lw_c14
          refine g_aload_n (pc := 645) hC rfl dL_law_645 ?_
          refine g_aload_n (pc := 646) hC rfl dL_law_646 ?_
          refine g_iload (pc := 647) hC rfl dL_law_647 ?_
          refine g_iconst (pc := 649) hC (v := (1 : Int32)) (by decide) dL_law_649 ?_
          refine g_iadd (pc := 650) hC dL_law_650 ?_
          refine g_sld (pc := 651) hC hK dL_law_651 ?_
          refine g_ob2 (fun r55 s56 hf => ?_)
          refine g_callC (pc := 652) (rest := []) [.int (xs (i + (1 : Int32)).toNatClampNeg)] hC hK (c_D_byWins (kl κ) w1 hK.1 N (xs (i + (1 : Int32)).toNatClampNeg) σ r55 s56 hf) o_X9_byWins k_697 (ci := 9) rfl rfl ⟨by rw [hR]; exact Nat.le_of_ble_eq_true rfl, by rw [hR]; exact Nat.le_of_ble_eq_true rfl⟩ ⟨by rw [hR]; exact lroom3 hj, by rw [hR]; exact lroom4 hj⟩ rfl (Nat.le_of_ble_eq_true rfl) dL_law_652 ?_
          refine g_pop (pc := 655) hC rfl dL_law_655 ?_
          refine g_aload_n (pc := 656) hC rfl dL_law_656 ?_
          refine g_aload_n (pc := 657) hC rfl dL_law_657 ?_
          refine g_iload (pc := 658) hC rfl dL_law_658 ?_
          refine g_iconst (pc := 660) hC (v := (1 : Int32)) (by decide) dL_law_660 ?_
          refine g_iadd (pc := 661) hC dL_law_661 ?_
          refine g_sld (pc := 662) hC hK dL_law_662 ?_
          refine g_ob2 (fun r57 s58 hf => ?_)
          refine g_callM (pc := 663) (rest := []) [.int (xs (i + (1 : Int32)).toNatClampNeg)] hC hK (c_M_byWins (kl κ) w2 hK.2.1 N (xs (i + (1 : Int32)).toNatClampNeg) μ r57 s58 hf) o_X10_byWins k_1421 (ci := 10) rfl rfl ⟨by rw [hR]; exact Nat.le_of_ble_eq_true rfl, by rw [hR]; exact Nat.le_of_ble_eq_true rfl⟩ ⟨by rw [hR]; exact lroom3 hj, by rw [hR]; exact lroom4 hj⟩ rfl (Nat.le_of_ble_eq_true rfl) dL_law_663 ?_
          refine g_pop (pc := 666) hC rfl dL_law_666 ?_
          refine g_goto (pc := 667) (tgt := 1056) hC dL_law_667 (by decide) ?_
          refine g_iinc (pc := 1056) hC (v := (4 : Int32)) rfl (by decide) rfl rfl dL_law_1056 ?_
          refine g_goto (pc := 1059) (tgt := 23) hC dL_law_1059 (by decide) ?_
          exact g_wd (by omega) (by omega) (ih (i + (4 : Int32)) s56 s58)
        · refine ⟨_, _, _, rfl, by decide, rfl, by decide, ?_⟩
          unfold Lw_c15
          refine g_aload_n (pc := 670) hC rfl dL_law_670 ?_
          refine g_aload_n (pc := 671) hC rfl dL_law_671 ?_
          refine g_iload (pc := 672) hC rfl dL_law_672 ?_
          refine g_iconst (pc := 674) hC (v := (1 : Int32)) (by decide) dL_law_674 ?_
          refine g_iadd (pc := 675) hC dL_law_675 ?_
          refine g_sld (pc := 676) hC hK dL_law_676 ?_
          refine g_aload_n (pc := 677) hC rfl dL_law_677 ?_
          refine g_iload (pc := 678) hC rfl dL_law_678 ?_
          refine g_iconst (pc := 680) hC (v := (2 : Int32)) (by decide) dL_law_680 ?_
          refine g_iadd (pc := 681) hC dL_law_681 ?_
          refine g_sld (pc := 682) hC hK dL_law_682 ?_
          refine g_ob2 (fun r59 s60 hf => ?_)
          refine g_callC (pc := 683) (rest := []) [.int (xs (i + (1 : Int32)).toNatClampNeg), .int (xs (i + (2 : Int32)).toNatClampNeg)] hC hK (c_D_weight (kl κ) w1 hK.1 N (xs (i + (1 : Int32)).toNatClampNeg) (xs (i + (2 : Int32)).toNatClampNeg) σ r59 s60 hf) o_X9_weight k_706 (ci := 9) rfl rfl ⟨by rw [hR]; exact Nat.le_of_ble_eq_true rfl, by rw [hR]; exact Nat.le_of_ble_eq_true rfl⟩ ⟨by rw [hR]; exact lroom3 hj, by rw [hR]; exact lroom4 hj⟩ rfl (Nat.le_of_ble_eq_true rfl) dL_law_683 ?_
          refine g_pop (pc := 686) hC rfl dL_law_686 ?_
          refine g_aload_n (pc := 687) hC rfl dL_law_687 ?_
          refine g_aload_n (pc := 688) hC rfl dL_law_688 ?_
          refine g_iload (pc := 689) hC rfl dL_law_689 ?_
          refine g_iconst (pc := 691) hC (v := (1 : Int32)) (by decide) dL_law_691 ?_
          refine g_iadd (pc := 692) hC dL_law_692 ?_
          refine g_sld (pc := 693) hC hK dL_law_693 ?_
          refine g_aload_n (pc := 694) hC rfl dL_law_694 ?_
          refine g_iload (pc := 695) hC rfl dL_law_695 ?_
          refine g_iconst (pc := 697) hC (v := (2 : Int32)) (by decide) dL_law_697 ?_
          refine g_iadd (pc := 698) hC dL_law_698 ?_
          refine g_sld (pc := 699) hC hK dL_law_699 ?_
          refine g_ob2 (fun r61 s62 hf => ?_)
          refine g_callM (pc := 700) (rest := []) [.int (xs (i + (1 : Int32)).toNatClampNeg), .int (xs (i + (2 : Int32)).toNatClampNeg)] hC hK (c_M_weight (kl κ) w2 hK.2.1 N (xs (i + (1 : Int32)).toNatClampNeg) (xs (i + (2 : Int32)).toNatClampNeg) μ r61 s62 hf) o_X10_weight k_1425 (ci := 10) rfl rfl ⟨by rw [hR]; exact Nat.le_of_ble_eq_true rfl, by rw [hR]; exact Nat.le_of_ble_eq_true rfl⟩ ⟨by rw [hR]; exact lroom3 hj, by rw [hR]; exact lroom4 hj⟩ rfl (Nat.le_of_ble_eq_true rfl) dL_law_700 ?_
          refine g_pop (pc := 703) hC rfl dL_law_703 ?_
          refine g_goto (pc := 704) (tgt := 1056) hC dL_law_704 (by decide) ?_
          refine g_iinc (pc := 1056) hC (v := (4 : Int32)) rfl (by decide) rfl rfl dL_law_1056 ?_
          refine g_goto (pc := 1059) (tgt := 23) hC dL_law_1059 (by decide) ?_
          exact g_wd (by omega) (by omega) (ih (i + (4 : Int32)) s60 s62)
        · refine ⟨_, _, _, rfl, by decide, rfl, by decide, ?_⟩
          unfold Lw_c16
          refine g_aload_n (pc := 707) hC rfl dL_law_707 ?_
          refine g_aload_n (pc := 708) hC rfl dL_law_708 ?_
          refine g_iload (pc := 709) hC rfl dL_law_709 ?_
          refine g_iconst (pc := 711) hC (v := (1 : Int32)) (by decide) dL_law_711 ?_
          refine g_iadd (pc := 712) hC dL_law_712 ?_
          refine g_sld (pc := 713) hC hK dL_law_713 ?_
          refine g_aload_n (pc := 714) hC rfl dL_law_714 ?_
          refine g_iload (pc := 715) hC rfl dL_law_715 ?_
          refine g_iconst (pc := 717) hC (v := (2 : Int32)) (by decide) dL_law_717 ?_
          refine g_iadd (pc := 718) hC dL_law_718 ?_
          refine g_sld (pc := 719) hC hK dL_law_719 ?_
          refine g_ob2 (fun r63 s64 hf => ?_)
          refine g_callC (pc := 720) (rest := []) [.int (xs (i + (1 : Int32)).toNatClampNeg), .int (xs (i + (2 : Int32)).toNatClampNeg)] hC hK (c_D_keeps (kl κ) w1 hK.1 N (xs (i + (1 : Int32)).toNatClampNeg) (xs (i + (2 : Int32)).toNatClampNeg) σ r63 s64 hf) o_X9_keeps k_713 (ci := 9) rfl rfl ⟨by rw [hR]; exact Nat.le_of_ble_eq_true rfl, by rw [hR]; exact Nat.le_of_ble_eq_true rfl⟩ ⟨by rw [hR]; exact lroom3 hj, by rw [hR]; exact lroom4 hj⟩ rfl (Nat.le_of_ble_eq_true rfl) dL_law_720 ?_
          refine g_pop (pc := 723) hC rfl dL_law_723 ?_
          refine g_aload_n (pc := 724) hC rfl dL_law_724 ?_
          refine g_aload_n (pc := 725) hC rfl dL_law_725 ?_
          refine g_iload (pc := 726) hC rfl dL_law_726 ?_
          refine g_iconst (pc := 728) hC (v := (1 : Int32)) (by decide) dL_law_728 ?_
          refine g_iadd (pc := 729) hC dL_law_729 ?_
          refine g_sld (pc := 730) hC hK dL_law_730 ?_
          refine g_aload_n (pc := 731) hC rfl dL_law_731 ?_
          refine g_iload (pc := 732) hC rfl dL_law_732 ?_
          refine g_iconst (pc := 734) hC (v := (2 : Int32)) (by decide) dL_law_734 ?_
          refine g_iadd (pc := 735) hC dL_law_735 ?_
          refine g_sld (pc := 736) hC hK dL_law_736 ?_
          refine g_ob2 (fun r65 s66 hf => ?_)
          refine g_callM (pc := 737) (rest := []) [.int (xs (i + (1 : Int32)).toNatClampNeg), .int (xs (i + (2 : Int32)).toNatClampNeg)] hC hK (c_M_keeps (kl κ) w2 hK.2.1 N (xs (i + (1 : Int32)).toNatClampNeg) (xs (i + (2 : Int32)).toNatClampNeg) μ r65 s66 hf) o_X10_keeps k_1430 (ci := 10) rfl rfl ⟨by rw [hR]; exact Nat.le_of_ble_eq_true rfl, by rw [hR]; exact Nat.le_of_ble_eq_true rfl⟩ ⟨by rw [hR]; exact lroom3 hj, by rw [hR]; exact lroom4 hj⟩ rfl (Nat.le_of_ble_eq_true rfl) dL_law_737 ?_
          refine g_pop (pc := 740) hC rfl dL_law_740 ?_
          refine g_goto (pc := 741) (tgt := 1056) hC dL_law_741 (by decide) ?_
          refine g_iinc (pc := 1056) hC (v := (4 : Int32)) rfl (by decide) rfl rfl dL_law_1056 ?_
          refine g_goto (pc := 1059) (tgt := 23) hC dL_law_1059 (by decide) ?_
          exact g_wd (by omega) (by omega) (ih (i + (4 : Int32)) s64 s66)
        · refine ⟨_, _, _, rfl, by decide, rfl, by decide, ?_⟩
          unfold Lw_c17
          refine g_aload_n (pc := 744) hC rfl dL_law_744 ?_
          refine g_aload_n (pc := 745) hC rfl dL_law_745 ?_
          refine g_iload (pc := 746) hC rfl dL_law_746 ?_
          refine g_iconst (pc := 748) hC (v := (1 : Int32)) (by decide) dL_law_748 ?_
          refine g_iadd (pc := 749) hC dL_law_749 ?_
          refine g_sld (pc := 750) hC hK dL_law_750 ?_
          refine g_aload_n (pc := 751) hC rfl dL_law_751 ?_
          refine g_iload (pc := 752) hC rfl dL_law_752 ?_
          refine g_iconst (pc := 754) hC (v := (2 : Int32)) (by decide) dL_law_754 ?_
          refine g_iadd (pc := 755) hC dL_law_755 ?_
          refine g_sld (pc := 756) hC hK dL_law_756 ?_
          refine g_ob2 (fun r67 s68 hf => ?_)
          refine g_callC (pc := 757) (rest := []) [.int (xs (i + (1 : Int32)).toNatClampNeg), .int (xs (i + (2 : Int32)).toNatClampNeg)] hC hK (c_D_is (kl κ) w1 hK.1 N (xs (i + (1 : Int32)).toNatClampNeg) (xs (i + (2 : Int32)).toNatClampNeg) σ r67 s68 hf) o_X9_is k_718 (ci := 9) rfl rfl ⟨by rw [hR]; exact Nat.le_of_ble_eq_true rfl, by rw [hR]; exact Nat.le_of_ble_eq_true rfl⟩ ⟨by rw [hR]; exact lroom3 hj, by rw [hR]; exact lroom4 hj⟩ rfl (Nat.le_of_ble_eq_true rfl) dL_law_757 ?_
          refine g_pop (pc := 760) hC rfl dL_law_760 ?_
          refine g_aload_n (pc := 761) hC rfl dL_law_761 ?_
          refine g_aload_n (pc := 762) hC rfl dL_law_762 ?_
          refine g_iload (pc := 763) hC rfl dL_law_763 ?_
          refine g_iconst (pc := 765) hC (v := (1 : Int32)) (by decide) dL_law_765 ?_
          refine g_iadd (pc := 766) hC dL_law_766 ?_
          refine g_sld (pc := 767) hC hK dL_law_767 ?_
          refine g_aload_n (pc := 768) hC rfl dL_law_768 ?_
          refine g_iload (pc := 769) hC rfl dL_law_769 ?_
          refine g_iconst (pc := 771) hC (v := (2 : Int32)) (by decide) dL_law_771 ?_
          refine g_iadd (pc := 772) hC dL_law_772 ?_
          refine g_sld (pc := 773) hC hK dL_law_773 ?_
          refine g_ob2 (fun r69 s70 hf => ?_)
          refine g_callM (pc := 774) (rest := []) [.int (xs (i + (1 : Int32)).toNatClampNeg), .int (xs (i + (2 : Int32)).toNatClampNeg)] hC hK (c_M_is (kl κ) w2 hK.2.1 N (xs (i + (1 : Int32)).toNatClampNeg) (xs (i + (2 : Int32)).toNatClampNeg) μ r69 s70 hf) o_X10_is k_1434 (ci := 10) rfl rfl ⟨by rw [hR]; exact Nat.le_of_ble_eq_true rfl, by rw [hR]; exact Nat.le_of_ble_eq_true rfl⟩ ⟨by rw [hR]; exact lroom3 hj, by rw [hR]; exact lroom4 hj⟩ rfl (Nat.le_of_ble_eq_true rfl) dL_law_774 ?_
          refine g_pop (pc := 777) hC rfl dL_law_777 ?_
          refine g_goto (pc := 778) (tgt := 1056) hC dL_law_778 (by decide) ?_
          refine g_iinc (pc := 1056) hC (v := (4 : Int32)) rfl (by decide) rfl rfl dL_law_1056 ?_
          refine g_goto (pc := 1059) (tgt := 23) hC dL_law_1059 (by decide) ?_
          exact g_wd (by omega) (by omega) (ih (i + (4 : Int32)) s68 s70)
        · refine ⟨_, _, _, rfl, by decide, rfl, by decide, ?_⟩
          unfold Lw_c18
          refine g_aload_n (pc := 781) hC rfl dL_law_781 ?_
          refine g_aload_n (pc := 782) hC rfl dL_law_782 ?_
          refine g_iload (pc := 783) hC rfl dL_law_783 ?_
          refine g_iconst (pc := 785) hC (v := (1 : Int32)) (by decide) dL_law_785 ?_
          refine g_iadd (pc := 786) hC dL_law_786 ?_
          refine g_sld (pc := 787) hC hK dL_law_787 ?_
          refine g_aload_n (pc := 788) hC rfl dL_law_788 ?_
          refine g_iload (pc := 789) hC rfl dL_law_789 ?_
          refine g_iconst (pc := 791) hC (v := (2 : Int32)) (by decide) dL_law_791 ?_
          refine g_iadd (pc := 792) hC dL_law_792 ?_
          refine g_sld (pc := 793) hC hK dL_law_793 ?_
          refine g_ob2 (fun r71 s72 hf => ?_)
          refine g_callC (pc := 794) (rest := []) [.int (xs (i + (1 : Int32)).toNatClampNeg), .int (xs (i + (2 : Int32)).toNatClampNeg)] hC hK (c_D_cup (kl κ) w1 hK.1 N (xs (i + (1 : Int32)).toNatClampNeg) (xs (i + (2 : Int32)).toNatClampNeg) σ r71 s72 hf) o_X9_cup k_727 (ci := 9) rfl rfl ⟨by rw [hR]; exact Nat.le_of_ble_eq_true rfl, by rw [hR]; exact Nat.le_of_ble_eq_true rfl⟩ ⟨by rw [hR]; exact lroom3 hj, by rw [hR]; exact lroom4 hj⟩ rfl (Nat.le_of_ble_eq_true rfl) dL_law_794 ?_
          refine g_pop (pc := 797) hC rfl dL_law_797 ?_
          refine g_aload_n (pc := 798) hC rfl dL_law_798 ?_
          refine g_aload_n (pc := 799) hC rfl dL_law_799 ?_
          refine g_iload (pc := 800) hC rfl dL_law_800 ?_
          refine g_iconst (pc := 802) hC (v := (1 : Int32)) (by decide) dL_law_802 ?_
          refine g_iadd (pc := 803) hC dL_law_803 ?_
          refine g_sld (pc := 804) hC hK dL_law_804 ?_
          refine g_aload_n (pc := 805) hC rfl dL_law_805 ?_
          refine g_iload (pc := 806) hC rfl dL_law_806 ?_
          refine g_iconst (pc := 808) hC (v := (2 : Int32)) (by decide) dL_law_808 ?_
          refine g_iadd (pc := 809) hC dL_law_809 ?_
          refine g_sld (pc := 810) hC hK dL_law_810 ?_
          refine g_ob2 (fun r73 s74 hf => ?_)
          refine g_callM (pc := 811) (rest := []) [.int (xs (i + (1 : Int32)).toNatClampNeg), .int (xs (i + (2 : Int32)).toNatClampNeg)] hC hK (c_M_cup (kl κ) w2 hK.2.1 N (xs (i + (1 : Int32)).toNatClampNeg) (xs (i + (2 : Int32)).toNatClampNeg) μ r73 s74 hf) o_X10_cup k_1446 (ci := 10) rfl rfl ⟨by rw [hR]; exact Nat.le_of_ble_eq_true rfl, by rw [hR]; exact Nat.le_of_ble_eq_true rfl⟩ ⟨by rw [hR]; exact lroom3 hj, by rw [hR]; exact lroom4 hj⟩ rfl (Nat.le_of_ble_eq_true rfl) dL_law_811 ?_
          refine g_pop (pc := 814) hC rfl dL_law_814 ?_
          refine g_goto (pc := 815) (tgt := 1056) hC dL_law_815 (by decide) ?_
          refine g_iinc (pc := 1056) hC (v := (4 : Int32)) rfl (by decide) rfl rfl dL_law_1056 ?_
          refine g_goto (pc := 1059) (tgt := 23) hC dL_law_1059 (by decide) ?_
          exact g_wd (by omega) (by omega) (ih (i + (4 : Int32)) s72 s74)
        · refine ⟨_, _, _, rfl, by decide, rfl, by decide, ?_⟩
          unfold Lw_c19
          refine g_aload_n (pc := 818) hC rfl dL_law_818 ?_
          refine g_aload_n (pc := 819) hC rfl dL_law_819 ?_
          refine g_iload (pc := 820) hC rfl dL_law_820 ?_
          refine g_iconst (pc := 822) hC (v := (1 : Int32)) (by decide) dL_law_822 ?_
          refine g_iadd (pc := 823) hC dL_law_823 ?_
          refine g_sld (pc := 824) hC hK dL_law_824 ?_
          refine g_ob2 (fun r75 s76 hf => ?_)
          refine g_callC (pc := 825) (rest := []) [.int (xs (i + (1 : Int32)).toNatClampNeg)] hC hK (c_D_winner (kl κ) w1 hK.1 N (xs (i + (1 : Int32)).toNatClampNeg) σ r75 s76 hf) o_X9_winner k_764 (ci := 9) rfl rfl ⟨by rw [hR]; exact Nat.le_of_ble_eq_true rfl, by rw [hR]; exact Nat.le_of_ble_eq_true rfl⟩ ⟨by rw [hR]; exact lroom3 hj, by rw [hR]; exact lroom4 hj⟩ rfl (Nat.le_of_ble_eq_true rfl) dL_law_825 ?_
          refine g_pop (pc := 828) hC rfl dL_law_828 ?_
          refine g_aload_n (pc := 829) hC rfl dL_law_829 ?_
          refine g_aload_n (pc := 830) hC rfl dL_law_830 ?_
          refine g_iload (pc := 831) hC rfl dL_law_831 ?_
          refine g_iconst (pc := 833) hC (v := (1 : Int32)) (by decide) dL_law_833 ?_
          refine g_iadd (pc := 834) hC dL_law_834 ?_
          refine g_sld (pc := 835) hC hK dL_law_835 ?_
          refine g_ob2 (fun r77 s78 hf => ?_)
          refine g_callM (pc := 836) (rest := []) [.int (xs (i + (1 : Int32)).toNatClampNeg)] hC hK (c_M_winner (kl κ) w2 hK.2.1 N (xs (i + (1 : Int32)).toNatClampNeg) μ r77 s78 hf) o_X10_winner k_1466 (ci := 10) rfl rfl ⟨by rw [hR]; exact Nat.le_of_ble_eq_true rfl, by rw [hR]; exact Nat.le_of_ble_eq_true rfl⟩ ⟨by rw [hR]; exact lroom3 hj, by rw [hR]; exact lroom4 hj⟩ rfl (Nat.le_of_ble_eq_true rfl) dL_law_836 ?_
          refine g_pop (pc := 839) hC rfl dL_law_839 ?_
          refine g_goto (pc := 840) (tgt := 1056) hC dL_law_840 (by decide) ?_
          refine g_iinc (pc := 1056) hC (v := (4 : Int32)) rfl (by decide) rfl rfl dL_law_1056 ?_
          refine g_goto (pc := 1059) (tgt := 23) hC dL_law_1059 (by decide) ?_
          exact g_wd (by omega) (by omega) (ih (i + (4 : Int32)) s76 s78)
        · refine ⟨_, _, _, rfl, by decide, rfl, by decide, ?_⟩
          unfold Lw_c20
          refine g_aload_n (pc := 843) hC rfl dL_law_843 ?_
          refine g_ob2 (fun r79 s80 hf => ?_)
          refine g_callC (pc := 844) (rest := []) [] hC hK (c_D_judge (kl κ) w1 hK.1 N σ r79 s80 hf) o_X9_judge k_772 (ci := 9) rfl rfl ⟨by rw [hR]; exact Nat.le_of_ble_eq_true rfl, by rw [hR]; exact Nat.le_of_ble_eq_true rfl⟩ ⟨by rw [hR]; exact lroom3 hj, by rw [hR]; exact lroom4 hj⟩ rfl (Nat.le_of_ble_eq_true rfl) dL_law_844 ?_
          refine g_pop (pc := 847) hC rfl dL_law_847 ?_
          refine g_aload_n (pc := 848) hC rfl dL_law_848 ?_
          refine g_ob2 (fun r81 s82 hf => ?_)
          refine g_callM (pc := 849) (rest := []) [] hC hK (c_M_judge (kl κ) w2 hK.2.1 N μ r81 s82 hf) o_X10_judge k_1470 (ci := 10) rfl rfl ⟨by rw [hR]; exact Nat.le_of_ble_eq_true rfl, by rw [hR]; exact Nat.le_of_ble_eq_true rfl⟩ ⟨by rw [hR]; exact lroom3 hj, by rw [hR]; exact lroom4 hj⟩ rfl (Nat.le_of_ble_eq_true rfl) dL_law_849 ?_
          refine g_pop (pc := 852) hC rfl dL_law_852 ?_
          refine g_goto (pc := 853) (tgt := 1056) hC dL_law_853 (by decide) ?_
          refine g_iinc (pc := 1056) hC (v := (4 : Int32)) rfl (by decide) rfl rfl dL_law_1056 ?_
          refine g_goto (pc := 1059) (tgt := 23) hC dL_law_1059 (by decide) ?_
          exact g_wd (by omega) (by omega) (ih (i + (4 : Int32)) s80 s82)
        · refine ⟨_, _, _, rfl, by decide, rfl, by decide, ?_⟩
          unfold Lw_c21
          refine g_aload_n (pc := 856) hC rfl dL_law_856 ?_
          refine g_aload_n (pc := 857) hC rfl dL_law_857 ?_
          refine g_iload (pc := 858) hC rfl dL_law_858 ?_
          refine g_iconst (pc := 860) hC (v := (1 : Int32)) (by decide) dL_law_860 ?_
          refine g_iadd (pc := 861) hC dL_law_861 ?_
          refine g_sld (pc := 862) hC hK dL_law_862 ?_
          refine g_callC (pc := 863) (rest := []) [.int (xs (i + (1 : Int32)).toNatClampNeg)] hC hK (c_D_judged (kl κ) w1 hK.1 (xs (i + (1 : Int32)).toNatClampNeg) σ) o_X9_judged k_874 (ci := 9) rfl rfl ⟨by rw [hR]; exact Nat.le_of_ble_eq_true rfl, by rw [hR]; exact Nat.le_of_ble_eq_true rfl⟩ ⟨by rw [hR]; exact lroom3 hj, by rw [hR]; exact lroom4 hj⟩ rfl (Nat.le_of_ble_eq_true rfl) dL_law_863 ?_
          refine g_pop (pc := 866) hC rfl dL_law_866 ?_
          refine g_aload_n (pc := 867) hC rfl dL_law_867 ?_
          refine g_aload_n (pc := 868) hC rfl dL_law_868 ?_
          refine g_iload (pc := 869) hC rfl dL_law_869 ?_
          refine g_iconst (pc := 871) hC (v := (1 : Int32)) (by decide) dL_law_871 ?_
          refine g_iadd (pc := 872) hC dL_law_872 ?_
          refine g_sld (pc := 873) hC hK dL_law_873 ?_
          refine g_ob2 (fun r83 s84 hf => ?_)
          refine g_callM (pc := 874) (rest := []) [.int (xs (i + (1 : Int32)).toNatClampNeg)] hC hK (c_M_judged (kl κ) w2 hK.2.1 (xs (i + (1 : Int32)).toNatClampNeg) μ r83 s84 hf) o_X10_judged k_1542 (ci := 10) rfl rfl ⟨by rw [hR]; exact Nat.le_of_ble_eq_true rfl, by rw [hR]; exact Nat.le_of_ble_eq_true rfl⟩ ⟨by rw [hR]; exact lroom3 hj, by rw [hR]; exact lroom4 hj⟩ rfl (Nat.le_of_ble_eq_true rfl) dL_law_874 ?_
          refine g_pop (pc := 877) hC rfl dL_law_877 ?_
          refine g_goto (pc := 878) (tgt := 1056) hC dL_law_878 (by decide) ?_
          refine g_iinc (pc := 1056) hC (v := (4 : Int32)) rfl (by decide) rfl rfl dL_law_1056 ?_
          refine g_goto (pc := 1059) (tgt := 23) hC dL_law_1059 (by decide) ?_
          exact g_wd (by omega) (by omega) (ih (i + (4 : Int32)) σ s84)
        · refine ⟨_, _, _, rfl, by decide, rfl, by decide, ?_⟩
          unfold Lw_c22
          refine g_aload_n (pc := 881) hC rfl dL_law_881 ?_
          refine g_aload_n (pc := 882) hC rfl dL_law_882 ?_
          refine g_iload (pc := 883) hC rfl dL_law_883 ?_
          refine g_iconst (pc := 885) hC (v := (1 : Int32)) (by decide) dL_law_885 ?_
          refine g_iadd (pc := 886) hC dL_law_886 ?_
          refine g_sld (pc := 887) hC hK dL_law_887 ?_
          refine g_aload_n (pc := 888) hC rfl dL_law_888 ?_
          refine g_iload (pc := 889) hC rfl dL_law_889 ?_
          refine g_iconst (pc := 891) hC (v := (2 : Int32)) (by decide) dL_law_891 ?_
          refine g_iadd (pc := 892) hC dL_law_892 ?_
          refine g_sld (pc := 893) hC hK dL_law_893 ?_
          refine g_ob2 (fun r85 s86 hf => ?_)
          refine g_callC (pc := 894) (rest := []) [.int (xs (i + (1 : Int32)).toNatClampNeg), .int (xs (i + (2 : Int32)).toNatClampNeg)] hC hK (c_D_fewest (kl κ) w1 hK.1 N (xs (i + (1 : Int32)).toNatClampNeg) (xs (i + (2 : Int32)).toNatClampNeg) σ r85 s86 hf) o_X9_fewest k_878 (ci := 9) rfl rfl ⟨by rw [hR]; exact Nat.le_of_ble_eq_true rfl, by rw [hR]; exact Nat.le_of_ble_eq_true rfl⟩ ⟨by rw [hR]; exact lroom3 hj, by rw [hR]; exact lroom4 hj⟩ rfl (Nat.le_of_ble_eq_true rfl) dL_law_894 ?_
          refine g_pop (pc := 897) hC rfl dL_law_897 ?_
          refine g_aload_n (pc := 898) hC rfl dL_law_898 ?_
          refine g_aload_n (pc := 899) hC rfl dL_law_899 ?_
          refine g_iload (pc := 900) hC rfl dL_law_900 ?_
          refine g_iconst (pc := 902) hC (v := (1 : Int32)) (by decide) dL_law_902 ?_
          refine g_iadd (pc := 903) hC dL_law_903 ?_
          refine g_sld (pc := 904) hC hK dL_law_904 ?_
          refine g_aload_n (pc := 905) hC rfl dL_law_905 ?_
          refine g_iload (pc := 906) hC rfl dL_law_906 ?_
          refine g_iconst (pc := 908) hC (v := (2 : Int32)) (by decide) dL_law_908 ?_
          refine g_iadd (pc := 909) hC dL_law_909 ?_
          refine g_sld (pc := 910) hC hK dL_law_910 ?_
          refine g_ob2 (fun r87 s88 hf => ?_)
          refine g_callM (pc := 911) (rest := []) [.int (xs (i + (1 : Int32)).toNatClampNeg), .int (xs (i + (2 : Int32)).toNatClampNeg)] hC hK (c_M_fewest (kl κ) w2 hK.2.1 N (xs (i + (1 : Int32)).toNatClampNeg) (xs (i + (2 : Int32)).toNatClampNeg) μ r87 s88 hf) o_X10_fewest k_1546 (ci := 10) rfl rfl ⟨by rw [hR]; exact Nat.le_of_ble_eq_true rfl, by rw [hR]; exact Nat.le_of_ble_eq_true rfl⟩ ⟨by rw [hR]; exact lroom3 hj, by rw [hR]; exact lroom4 hj⟩ rfl (Nat.le_of_ble_eq_true rfl) dL_law_911 ?_
          refine g_pop (pc := 914) hC rfl dL_law_914 ?_
          refine g_goto (pc := 915) (tgt := 1056) hC dL_law_915 (by decide) ?_
          refine g_iinc (pc := 1056) hC (v := (4 : Int32)) rfl (by decide) rfl rfl dL_law_1056 ?_
          refine g_goto (pc := 1059) (tgt := 23) hC dL_law_1059 (by decide) ?_
          exact g_wd (by omega) (by omega) (ih (i + (4 : Int32)) s86 s88)
        · refine ⟨_, _, _, rfl, by decide, rfl, by decide, ?_⟩
          unfold Lw_c23
          refine g_aload_n (pc := 918) hC rfl dL_law_918 ?_
          refine g_ob2 (fun r89 s90 hf => ?_)
          refine g_callC (pc := 919) (rest := []) [] hC hK (c_D_selves (kl κ) w1 hK.1 N σ r89 s90 hf) o_X9_selves k_896 (ci := 9) rfl rfl ⟨by rw [hR]; exact Nat.le_of_ble_eq_true rfl, by rw [hR]; exact Nat.le_of_ble_eq_true rfl⟩ ⟨by rw [hR]; exact lroom3 hj, by rw [hR]; exact lroom4 hj⟩ rfl (Nat.le_of_ble_eq_true rfl) dL_law_919 ?_
          refine g_pop (pc := 922) hC rfl dL_law_922 ?_
          refine g_aload_n (pc := 923) hC rfl dL_law_923 ?_
          refine g_ob2 (fun r91 s92 hf => ?_)
          refine g_callM (pc := 924) (rest := []) [] hC hK (c_M_selves (kl κ) w2 hK.2.1 N μ r91 s92 hf) o_X10_selves k_1558 (ci := 10) rfl rfl ⟨by rw [hR]; exact Nat.le_of_ble_eq_true rfl, by rw [hR]; exact Nat.le_of_ble_eq_true rfl⟩ ⟨by rw [hR]; exact lroom3 hj, by rw [hR]; exact lroom4 hj⟩ rfl (Nat.le_of_ble_eq_true rfl) dL_law_924 ?_
          refine g_pop (pc := 927) hC rfl dL_law_927 ?_
          refine g_goto (pc := 928) (tgt := 1056) hC dL_law_928 (by decide) ?_
          refine g_iinc (pc := 1056) hC (v := (4 : Int32)) rfl (by decide) rfl rfl dL_law_1056 ?_
          refine g_goto (pc := 1059) (tgt := 23) hC dL_law_1059 (by decide) ?_
          exact g_wd (by omega) (by omega) (ih (i + (4 : Int32)) s90 s92)
        · refine ⟨_, _, _, rfl, by decide, rfl, by decide, ?_⟩
          unfold Lw_c24
          refine g_aload_n (pc := 931) hC rfl dL_law_931 ?_
          refine g_ob2 (fun r93 s94 hf => ?_)
          refine g_callC (pc := 932) (rest := []) [] hC hK (c_D_undo (kl κ) w1 hK.1 N σ r93 s94 hf) o_X9_undo k_914 (ci := 9) rfl rfl ⟨by rw [hR]; exact Nat.le_of_ble_eq_true rfl, by rw [hR]; exact Nat.le_of_ble_eq_true rfl⟩ ⟨by rw [hR]; exact lroom3 hj, by rw [hR]; exact lroom4 hj⟩ rfl (Nat.le_of_ble_eq_true rfl) dL_law_932 ?_
          refine g_pop (pc := 935) hC rfl dL_law_935 ?_
          refine g_aload_n (pc := 936) hC rfl dL_law_936 ?_
          refine g_ob2 (fun r95 s96 hf => ?_)
          refine g_callM (pc := 937) (rest := []) [] hC hK (c_M_undo (kl κ) w2 hK.2.1 N μ r95 s96 hf) o_X10_undo k_1566 (ci := 10) rfl rfl ⟨by rw [hR]; exact Nat.le_of_ble_eq_true rfl, by rw [hR]; exact Nat.le_of_ble_eq_true rfl⟩ ⟨by rw [hR]; exact lroom3 hj, by rw [hR]; exact lroom4 hj⟩ rfl (Nat.le_of_ble_eq_true rfl) dL_law_937 ?_
          refine g_pop (pc := 940) hC rfl dL_law_940 ?_
          refine g_goto (pc := 941) (tgt := 1056) hC dL_law_941 (by decide) ?_
          refine g_iinc (pc := 1056) hC (v := (4 : Int32)) rfl (by decide) rfl rfl dL_law_1056 ?_
          refine g_goto (pc := 1059) (tgt := 23) hC dL_law_1059 (by decide) ?_
          exact g_wd (by omega) (by omega) (ih (i + (4 : Int32)) s94 s96)
        · refine ⟨_, _, _, rfl, by decide, rfl, by decide, ?_⟩
          unfold Lw_c25
          refine g_aload_n (pc := 944) hC rfl dL_law_944 ?_
          refine g_aload_n (pc := 945) hC rfl dL_law_945 ?_
          refine g_iload (pc := 946) hC rfl dL_law_946 ?_
          refine g_iconst (pc := 948) hC (v := (1 : Int32)) (by decide) dL_law_948 ?_
          refine g_iadd (pc := 949) hC dL_law_949 ?_
          refine g_sld (pc := 950) hC hK dL_law_950 ?_
          refine g_ob2 (fun r97 s98 hf => ?_)
          refine g_callC (pc := 951) (rest := []) [.int (xs (i + (1 : Int32)).toNatClampNeg)] hC hK (c_D_keep (kl κ) w1 hK.1 N (xs (i + (1 : Int32)).toNatClampNeg) σ r97 s98 hf) o_X9_keep k_922 (ci := 9) rfl rfl ⟨by rw [hR]; exact Nat.le_of_ble_eq_true rfl, by rw [hR]; exact Nat.le_of_ble_eq_true rfl⟩ ⟨by rw [hR]; exact lroom3 hj, by rw [hR]; exact lroom4 hj⟩ rfl (Nat.le_of_ble_eq_true rfl) dL_law_951 ?_
          refine g_pop (pc := 954) hC rfl dL_law_954 ?_
          refine g_aload_n (pc := 955) hC rfl dL_law_955 ?_
          refine g_aload_n (pc := 956) hC rfl dL_law_956 ?_
          refine g_iload (pc := 957) hC rfl dL_law_957 ?_
          refine g_iconst (pc := 959) hC (v := (1 : Int32)) (by decide) dL_law_959 ?_
          refine g_iadd (pc := 960) hC dL_law_960 ?_
          refine g_sld (pc := 961) hC hK dL_law_961 ?_
          refine g_ob2 (fun r99 s100 hf => ?_)
          refine g_callM (pc := 962) (rest := []) [.int (xs (i + (1 : Int32)).toNatClampNeg)] hC hK (c_M_keep (kl κ) w2 hK.2.1 N (xs (i + (1 : Int32)).toNatClampNeg) μ r99 s100 hf) o_X10_keep k_1570 (ci := 10) rfl rfl ⟨by rw [hR]; exact Nat.le_of_ble_eq_true rfl, by rw [hR]; exact Nat.le_of_ble_eq_true rfl⟩ ⟨by rw [hR]; exact lroom3 hj, by rw [hR]; exact lroom4 hj⟩ rfl (Nat.le_of_ble_eq_true rfl) dL_law_962 ?_
          refine g_pop (pc := 965) hC rfl dL_law_965 ?_
          refine g_goto (pc := 966) (tgt := 1056) hC dL_law_966 (by decide) ?_
          refine g_iinc (pc := 1056) hC (v := (4 : Int32)) rfl (by decide) rfl rfl dL_law_1056 ?_
          refine g_goto (pc := 1059) (tgt := 23) hC dL_law_1059 (by decide) ?_
          exact g_wd (by omega) (by omega) (ih (i + (4 : Int32)) s98 s100)
        · refine ⟨_, _, _, rfl, by decide, rfl, by decide, ?_⟩
          unfold Lw_c26
          refine g_aload_n (pc := 969) hC rfl dL_law_969 ?_
          refine g_aload_n (pc := 970) hC rfl dL_law_970 ?_
          refine g_iload (pc := 971) hC rfl dL_law_971 ?_
          refine g_iconst (pc := 973) hC (v := (1 : Int32)) (by decide) dL_law_973 ?_
          refine g_iadd (pc := 974) hC dL_law_974 ?_
          refine g_sld (pc := 975) hC hK dL_law_975 ?_
          refine g_ob2 (fun r101 s102 hf => ?_)
          refine g_callC (pc := 976) (rest := []) [.int (xs (i + (1 : Int32)).toNatClampNeg)] hC hK (c_D_again (kl κ) w1 hK.1 N (xs (i + (1 : Int32)).toNatClampNeg) σ r101 s102 hf) o_X9_again k_926 (ci := 9) rfl rfl ⟨by rw [hR]; exact Nat.le_of_ble_eq_true rfl, by rw [hR]; exact Nat.le_of_ble_eq_true rfl⟩ ⟨by rw [hR]; exact lroom3 hj, by rw [hR]; exact lroom4 hj⟩ rfl (Nat.le_of_ble_eq_true rfl) dL_law_976 ?_
          refine g_pop (pc := 979) hC rfl dL_law_979 ?_
          refine g_aload_n (pc := 980) hC rfl dL_law_980 ?_
          refine g_aload_n (pc := 981) hC rfl dL_law_981 ?_
          refine g_iload (pc := 982) hC rfl dL_law_982 ?_
          refine g_iconst (pc := 984) hC (v := (1 : Int32)) (by decide) dL_law_984 ?_
          refine g_iadd (pc := 985) hC dL_law_985 ?_
          refine g_sld (pc := 986) hC hK dL_law_986 ?_
          refine g_ob2 (fun r103 s104 hf => ?_)
          refine g_callM (pc := 987) (rest := []) [.int (xs (i + (1 : Int32)).toNatClampNeg)] hC hK (c_M_again (kl κ) w2 hK.2.1 N (xs (i + (1 : Int32)).toNatClampNeg) μ r103 s104 hf) o_X10_again k_1574 (ci := 10) rfl rfl ⟨by rw [hR]; exact Nat.le_of_ble_eq_true rfl, by rw [hR]; exact Nat.le_of_ble_eq_true rfl⟩ ⟨by rw [hR]; exact lroom3 hj, by rw [hR]; exact lroom4 hj⟩ rfl (Nat.le_of_ble_eq_true rfl) dL_law_987 ?_
          refine g_pop (pc := 990) hC rfl dL_law_990 ?_
          refine g_goto (pc := 991) (tgt := 1056) hC dL_law_991 (by decide) ?_
          refine g_iinc (pc := 1056) hC (v := (4 : Int32)) rfl (by decide) rfl rfl dL_law_1056 ?_
          refine g_goto (pc := 1059) (tgt := 23) hC dL_law_1059 (by decide) ?_
          exact g_wd (by omega) (by omega) (ih (i + (4 : Int32)) s102 s104)
        · refine ⟨_, _, _, rfl, by decide, rfl, by decide, ?_⟩
          unfold Lw_c27
          refine g_aload_n (pc := 994) hC rfl dL_law_994 ?_
          refine g_aload_n (pc := 995) hC rfl dL_law_995 ?_
          refine g_iload (pc := 996) hC rfl dL_law_996 ?_
          refine g_iconst (pc := 998) hC (v := (1 : Int32)) (by decide) dL_law_998 ?_
          refine g_iadd (pc := 999) hC dL_law_999 ?_
          refine g_sld (pc := 1000) hC hK dL_law_1000 ?_
          refine g_aload_n (pc := 1001) hC rfl dL_law_1001 ?_
          refine g_iload (pc := 1002) hC rfl dL_law_1002 ?_
          refine g_iconst (pc := 1004) hC (v := (2 : Int32)) (by decide) dL_law_1004 ?_
          refine g_iadd (pc := 1005) hC dL_law_1005 ?_
          refine g_sld (pc := 1006) hC hK dL_law_1006 ?_
          refine g_ob2 (fun r105 s106 hf => ?_)
          refine g_callC (pc := 1007) (rest := []) [.int (xs (i + (1 : Int32)).toNatClampNeg), .int (xs (i + (2 : Int32)).toNatClampNeg)] hC hK (c_D_alike (kl κ) w1 hK.1 N (xs (i + (1 : Int32)).toNatClampNeg) (xs (i + (2 : Int32)).toNatClampNeg) σ r105 s106 hf) o_X9_alike k_934 (ci := 9) rfl rfl ⟨by rw [hR]; exact Nat.le_of_ble_eq_true rfl, by rw [hR]; exact Nat.le_of_ble_eq_true rfl⟩ ⟨by rw [hR]; exact lroom3 hj, by rw [hR]; exact lroom4 hj⟩ rfl (Nat.le_of_ble_eq_true rfl) dL_law_1007 ?_
          refine g_pop (pc := 1010) hC rfl dL_law_1010 ?_
          refine g_aload_n (pc := 1011) hC rfl dL_law_1011 ?_
          refine g_aload_n (pc := 1012) hC rfl dL_law_1012 ?_
          refine g_iload (pc := 1013) hC rfl dL_law_1013 ?_
          refine g_iconst (pc := 1015) hC (v := (1 : Int32)) (by decide) dL_law_1015 ?_
          refine g_iadd (pc := 1016) hC dL_law_1016 ?_
          refine g_sld (pc := 1017) hC hK dL_law_1017 ?_
          refine g_aload_n (pc := 1018) hC rfl dL_law_1018 ?_
          refine g_iload (pc := 1019) hC rfl dL_law_1019 ?_
          refine g_iconst (pc := 1021) hC (v := (2 : Int32)) (by decide) dL_law_1021 ?_
          refine g_iadd (pc := 1022) hC dL_law_1022 ?_
          refine g_sld (pc := 1023) hC hK dL_law_1023 ?_
          refine g_ob2 (fun r107 s108 hf => ?_)
          refine g_callM (pc := 1024) (rest := []) [.int (xs (i + (1 : Int32)).toNatClampNeg), .int (xs (i + (2 : Int32)).toNatClampNeg)] hC hK (c_M_alike (kl κ) w2 hK.2.1 N (xs (i + (1 : Int32)).toNatClampNeg) (xs (i + (2 : Int32)).toNatClampNeg) μ r107 s108 hf) o_X10_alike k_1578 (ci := 10) rfl rfl ⟨by rw [hR]; exact Nat.le_of_ble_eq_true rfl, by rw [hR]; exact Nat.le_of_ble_eq_true rfl⟩ ⟨by rw [hR]; exact lroom3 hj, by rw [hR]; exact lroom4 hj⟩ rfl (Nat.le_of_ble_eq_true rfl) dL_law_1024 ?_
          refine g_pop (pc := 1027) hC rfl dL_law_1027 ?_
          refine g_goto (pc := 1028) (tgt := 1056) hC dL_law_1028 (by decide) ?_
          refine g_iinc (pc := 1056) hC (v := (4 : Int32)) rfl (by decide) rfl rfl dL_law_1056 ?_
          refine g_goto (pc := 1059) (tgt := 23) hC dL_law_1059 (by decide) ?_
          exact g_wd (by omega) (by omega) (ih (i + (4 : Int32)) s106 s108)
        · refine ⟨_, _, _, rfl, by decide, rfl, by decide, ?_⟩
          unfold Lw_c28
          refine g_aload_n (pc := 1031) hC rfl dL_law_1031 ?_
          refine g_aload_n (pc := 1032) hC rfl dL_law_1032 ?_
          refine g_iload (pc := 1033) hC rfl dL_law_1033 ?_
          refine g_iconst (pc := 1035) hC (v := (1 : Int32)) (by decide) dL_law_1035 ?_
          refine g_iadd (pc := 1036) hC dL_law_1036 ?_
          refine g_sld (pc := 1037) hC hK dL_law_1037 ?_
          refine g_ob (fun r109 hf => ?_)
          refine g_callC (pc := 1038) (rest := []) [.int (xs (i + (1 : Int32)).toNatClampNeg)] hC hK (c_D_count (kl κ) w1 hK.1 N (xs (i + (1 : Int32)).toNatClampNeg) σ r109 hf) o_X9_count k_945 (ci := 9) rfl rfl ⟨by rw [hR]; exact Nat.le_of_ble_eq_true rfl, by rw [hR]; exact Nat.le_of_ble_eq_true rfl⟩ ⟨by rw [hR]; exact lroom3 hj, by rw [hR]; exact lroom4 hj⟩ rfl (Nat.le_of_ble_eq_true rfl) dL_law_1038 ?_
          refine g_pop (pc := 1041) hC rfl dL_law_1041 ?_
          refine g_aload_n (pc := 1042) hC rfl dL_law_1042 ?_
          refine g_aload_n (pc := 1043) hC rfl dL_law_1043 ?_
          refine g_iload (pc := 1044) hC rfl dL_law_1044 ?_
          refine g_iconst (pc := 1046) hC (v := (1 : Int32)) (by decide) dL_law_1046 ?_
          refine g_iadd (pc := 1047) hC dL_law_1047 ?_
          refine g_sld (pc := 1048) hC hK dL_law_1048 ?_
          refine g_ob2 (fun r110 s111 hf => ?_)
          refine g_callM (pc := 1049) (rest := []) [.int (xs (i + (1 : Int32)).toNatClampNeg)] hC hK (c_M_count (kl κ) w2 hK.2.1 N (xs (i + (1 : Int32)).toNatClampNeg) μ r110 s111 hf) o_X10_count k_1586 (ci := 10) rfl rfl ⟨by rw [hR]; exact Nat.le_of_ble_eq_true rfl, by rw [hR]; exact Nat.le_of_ble_eq_true rfl⟩ ⟨by rw [hR]; exact lroom3 hj, by rw [hR]; exact lroom4 hj⟩ rfl (Nat.le_of_ble_eq_true rfl) dL_law_1049 ?_
          refine g_pop (pc := 1052) hC rfl dL_law_1052 ?_
          refine g_goto (pc := 1053) (tgt := 1056) hC dL_law_1053 (by decide) ?_
          refine g_iinc (pc := 1056) hC (v := (4 : Int32)) rfl (by decide) rfl rfl dL_law_1056 ?_
          refine g_goto (pc := 1059) (tgt := 23) hC dL_law_1059 (by decide) ?_
          exact g_wd (by omega) (by omega) (ih (i + (4 : Int32)) σ s111)
      · refine g_iinc (pc := 1056) hC (v := (4 : Int32)) rfl (by decide) rfl rfl dL_law_1056 ?_
        refine g_goto (pc := 1059) (tgt := 23) hC dL_law_1059 (by decide) ?_
        exact g_wd (by omega) (by omega) (ih (i + (4 : Int32)) σ μ)
