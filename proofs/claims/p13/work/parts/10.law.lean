def Lw_c0 (N L : Nat) (xs : Nat → Int32) (self : Int32 → Mem → Mem → Option Unit) (i : Int32) (σ μ : Mem) : Option Unit :=
  gd (inb (i + (1 : Int32)) L) (ob2 (f_D_sign N (xs (i + (1 : Int32)).toNatClampNeg) σ) fun r1 s2 =>
  gd (inb (i + (1 : Int32)) L) (ob2 (f_M_sign N (xs (i + (1 : Int32)).toNatClampNeg) μ) fun r3 s4 =>
  self (i + (4 : Int32)) s2 s4))
def Lw_c1 (N L : Nat) (xs : Nat → Int32) (self : Int32 → Mem → Mem → Option Unit) (i : Int32) (σ μ : Mem) : Option Unit :=
  gd (inb (i + (1 : Int32)) L) (ob2 (f_D_end (xs (i + (1 : Int32)).toNatClampNeg) σ) fun r5 s6 =>
  gd (inb (i + (1 : Int32)) L) (ob2 (f_M_end (xs (i + (1 : Int32)).toNatClampNeg) μ) fun r7 s8 =>
  self (i + (4 : Int32)) s6 s8))
def Lw_c2 (N L : Nat) (xs : Nat → Int32) (self : Int32 → Mem → Mem → Option Unit) (i : Int32) (σ μ : Mem) : Option Unit :=
  ob2 (f_D_round N σ) fun r9 s10 =>
  ob2 (f_M_round N μ) fun r11 s12 =>
  self (i + (4 : Int32)) s10 s12
def Lw_c3 (N L : Nat) (xs : Nat → Int32) (self : Int32 → Mem → Mem → Option Unit) (i : Int32) (σ μ : Mem) : Option Unit :=
  gd (inb (i + (1 : Int32)) L) (gd (inb (i + (2 : Int32)) L) (ob2 (f_D_drawn N (xs (i + (1 : Int32)).toNatClampNeg) (xs (i + (2 : Int32)).toNatClampNeg) σ) fun r13 s14 =>
  gd (inb (i + (1 : Int32)) L) (gd (inb (i + (2 : Int32)) L) (ob2 (f_M_drawn N (xs (i + (1 : Int32)).toNatClampNeg) (xs (i + (2 : Int32)).toNatClampNeg) μ) fun r15 s16 =>
  self (i + (4 : Int32)) s14 s16))))
def Lw_c4 (N L : Nat) (xs : Nat → Int32) (self : Int32 → Mem → Mem → Option Unit) (i : Int32) (σ μ : Mem) : Option Unit :=
  gd (inb (i + (1 : Int32)) L) (gd (inb (i + (2 : Int32)) L) (gd (inb (i + (3 : Int32)) L) (ob (f_D_duel N (xs (i + (1 : Int32)).toNatClampNeg) (xs (i + (2 : Int32)).toNatClampNeg) (xs (i + (3 : Int32)).toNatClampNeg) σ) fun x17 =>
  gd (inb (i + (1 : Int32)) L) (gd (inb (i + (2 : Int32)) L) (gd (inb (i + (3 : Int32)) L) (ob2 (f_M_duel N (xs (i + (1 : Int32)).toNatClampNeg) (xs (i + (2 : Int32)).toNatClampNeg) (xs (i + (3 : Int32)).toNatClampNeg) μ) fun r18 s19 =>
  self (i + (4 : Int32)) (dM σ x17) s19))))))
def Lw_c5 (N L : Nat) (xs : Nat → Int32) (self : Int32 → Mem → Mem → Option Unit) (i : Int32) (σ μ : Mem) : Option Unit :=
  gd (inb (i + (1 : Int32)) L) (gd (inb (i + (2 : Int32)) L) (ob (f_D_beaten (xs (i + (1 : Int32)).toNatClampNeg) (xs (i + (2 : Int32)).toNatClampNeg) σ) fun r20 =>
  gd (inb (i + (1 : Int32)) L) (gd (inb (i + (2 : Int32)) L) (ob2 (f_M_beaten (xs (i + (1 : Int32)).toNatClampNeg) (xs (i + (2 : Int32)).toNatClampNeg) μ) fun r21 s22 =>
  self (i + (4 : Int32)) σ s22))))
def Lw_c6 (N L : Nat) (xs : Nat → Int32) (self : Int32 → Mem → Mem → Option Unit) (i : Int32) (σ μ : Mem) : Option Unit :=
  gd (inb (i + (1 : Int32)) L) (gd (inb (i + (2 : Int32)) L) (ob2 (f_D_turn N (xs (i + (1 : Int32)).toNatClampNeg) (xs (i + (2 : Int32)).toNatClampNeg) σ) fun r23 s24 =>
  gd (inb (i + (1 : Int32)) L) (gd (inb (i + (2 : Int32)) L) (ob2 (f_M_turn N (xs (i + (1 : Int32)).toNatClampNeg) (xs (i + (2 : Int32)).toNatClampNeg) μ) fun r25 s26 =>
  self (i + (4 : Int32)) s24 s26))))
def Lw_c7 (N L : Nat) (xs : Nat → Int32) (self : Int32 → Mem → Mem → Option Unit) (i : Int32) (σ μ : Mem) : Option Unit :=
  gd (inb (i + (1 : Int32)) L) (ob2 (f_D_join N (xs (i + (1 : Int32)).toNatClampNeg) σ) fun r27 s28 =>
  gd (inb (i + (1 : Int32)) L) (ob2 (f_M_join N (xs (i + (1 : Int32)).toNatClampNeg) μ) fun r29 s30 =>
  self (i + (4 : Int32)) s28 s30))
def Lw_c8 (N L : Nat) (xs : Nat → Int32) (self : Int32 → Mem → Mem → Option Unit) (i : Int32) (σ μ : Mem) : Option Unit :=
  gd (inb (i + (1 : Int32)) L) (ob2 (f_D_drop N (xs (i + (1 : Int32)).toNatClampNeg) σ) fun r31 s32 =>
  gd (inb (i + (1 : Int32)) L) (ob2 (f_M_drop N (xs (i + (1 : Int32)).toNatClampNeg) μ) fun r33 s34 =>
  self (i + (4 : Int32)) s32 s34))
def Lw_c9 (N L : Nat) (xs : Nat → Int32) (self : Int32 → Mem → Mem → Option Unit) (i : Int32) (σ μ : Mem) : Option Unit :=
  gd (inb (i + (1 : Int32)) L) (gd (inb (i + (2 : Int32)) L) (ob2 (f_D_set N (xs (i + (1 : Int32)).toNatClampNeg) (xs (i + (2 : Int32)).toNatClampNeg) σ) fun r35 s36 =>
  gd (inb (i + (1 : Int32)) L) (gd (inb (i + (2 : Int32)) L) (ob2 (f_M_set N (xs (i + (1 : Int32)).toNatClampNeg) (xs (i + (2 : Int32)).toNatClampNeg) μ) fun r37 s38 =>
  self (i + (4 : Int32)) s36 s38))))
def Lw_c10 (N L : Nat) (xs : Nat → Int32) (self : Int32 → Mem → Mem → Option Unit) (i : Int32) (σ μ : Mem) : Option Unit :=
  gd (inb (i + (1 : Int32)) L) (gd (inb (i + (2 : Int32)) L) (ob2 (f_D_praised N (xs (i + (1 : Int32)).toNatClampNeg) (xs (i + (2 : Int32)).toNatClampNeg) σ) fun r39 s40 =>
  gd (inb (i + (1 : Int32)) L) (gd (inb (i + (2 : Int32)) L) (ob2 (f_M_praised N (xs (i + (1 : Int32)).toNatClampNeg) (xs (i + (2 : Int32)).toNatClampNeg) μ) fun r41 s42 =>
  self (i + (4 : Int32)) s40 s42))))
def Lw_c11 (N L : Nat) (xs : Nat → Int32) (self : Int32 → Mem → Mem → Option Unit) (i : Int32) (σ μ : Mem) : Option Unit :=
  gd (inb (i + (1 : Int32)) L) (ob2 (f_D_within N (xs (i + (1 : Int32)).toNatClampNeg) σ) fun r43 s44 =>
  gd (inb (i + (1 : Int32)) L) (ob2 (f_M_within N (xs (i + (1 : Int32)).toNatClampNeg) μ) fun r45 s46 =>
  if r43 = r45 then
  (self (i + (4 : Int32)) s44 s46)
  else
  (none)))
def Lw_c12 (N L : Nat) (xs : Nat → Int32) (self : Int32 → Mem → Mem → Option Unit) (i : Int32) (σ μ : Mem) : Option Unit :=
  gd (inb (i + (1 : Int32)) L) (gd (inb (i + (2 : Int32)) L) (gd (inb (i + (3 : Int32)) L) (ob2 (f_D_chain N (xs (i + (1 : Int32)).toNatClampNeg) (xs (i + (2 : Int32)).toNatClampNeg) (xs (i + (3 : Int32)).toNatClampNeg) σ) fun r47 s48 =>
  gd (inb (i + (1 : Int32)) L) (gd (inb (i + (2 : Int32)) L) (gd (inb (i + (3 : Int32)) L) (ob2 (f_M_chain N (xs (i + (1 : Int32)).toNatClampNeg) (xs (i + (2 : Int32)).toNatClampNeg) (xs (i + (3 : Int32)).toNatClampNeg) μ) fun r49 s50 =>
  self (i + (4 : Int32)) s48 s50))))))
def Lw_c13 (N L : Nat) (xs : Nat → Int32) (self : Int32 → Mem → Mem → Option Unit) (i : Int32) (σ μ : Mem) : Option Unit :=
  gd (inb (i + (1 : Int32)) L) (ob2 (f_D_best N (xs (i + (1 : Int32)).toNatClampNeg) σ) fun r51 s52 =>
  gd (inb (i + (1 : Int32)) L) (ob2 (f_M_best N (xs (i + (1 : Int32)).toNatClampNeg) μ) fun r53 s54 =>
  self (i + (4 : Int32)) s52 s54))
def Lw_c14 (N L : Nat) (xs : Nat → Int32) (self : Int32 → Mem → Mem → Option Unit) (i : Int32) (σ μ : Mem) : Option Unit :=
  gd (inb (i + (1 : Int32)) L) (ob2 (f_D_byWins N (xs (i + (1 : Int32)).toNatClampNeg) σ) fun r55 s56 =>
  gd (inb (i + (1 : Int32)) L) (ob2 (f_M_byWins N (xs (i + (1 : Int32)).toNatClampNeg) μ) fun r57 s58 =>
  self (i + (4 : Int32)) s56 s58))
def Lw_c15 (N L : Nat) (xs : Nat → Int32) (self : Int32 → Mem → Mem → Option Unit) (i : Int32) (σ μ : Mem) : Option Unit :=
  gd (inb (i + (1 : Int32)) L) (gd (inb (i + (2 : Int32)) L) (ob2 (f_D_weight N (xs (i + (1 : Int32)).toNatClampNeg) (xs (i + (2 : Int32)).toNatClampNeg) σ) fun r59 s60 =>
  gd (inb (i + (1 : Int32)) L) (gd (inb (i + (2 : Int32)) L) (ob2 (f_M_weight N (xs (i + (1 : Int32)).toNatClampNeg) (xs (i + (2 : Int32)).toNatClampNeg) μ) fun r61 s62 =>
  self (i + (4 : Int32)) s60 s62))))
def Lw_c16 (N L : Nat) (xs : Nat → Int32) (self : Int32 → Mem → Mem → Option Unit) (i : Int32) (σ μ : Mem) : Option Unit :=
  gd (inb (i + (1 : Int32)) L) (gd (inb (i + (2 : Int32)) L) (ob2 (f_D_keeps N (xs (i + (1 : Int32)).toNatClampNeg) (xs (i + (2 : Int32)).toNatClampNeg) σ) fun r63 s64 =>
  gd (inb (i + (1 : Int32)) L) (gd (inb (i + (2 : Int32)) L) (ob2 (f_M_keeps N (xs (i + (1 : Int32)).toNatClampNeg) (xs (i + (2 : Int32)).toNatClampNeg) μ) fun r65 s66 =>
  self (i + (4 : Int32)) s64 s66))))
def Lw_c17 (N L : Nat) (xs : Nat → Int32) (self : Int32 → Mem → Mem → Option Unit) (i : Int32) (σ μ : Mem) : Option Unit :=
  gd (inb (i + (1 : Int32)) L) (gd (inb (i + (2 : Int32)) L) (ob2 (f_D_is N (xs (i + (1 : Int32)).toNatClampNeg) (xs (i + (2 : Int32)).toNatClampNeg) σ) fun r67 s68 =>
  gd (inb (i + (1 : Int32)) L) (gd (inb (i + (2 : Int32)) L) (ob2 (f_M_is N (xs (i + (1 : Int32)).toNatClampNeg) (xs (i + (2 : Int32)).toNatClampNeg) μ) fun r69 s70 =>
  self (i + (4 : Int32)) s68 s70))))
def Lw_c18 (N L : Nat) (xs : Nat → Int32) (self : Int32 → Mem → Mem → Option Unit) (i : Int32) (σ μ : Mem) : Option Unit :=
  gd (inb (i + (1 : Int32)) L) (gd (inb (i + (2 : Int32)) L) (ob2 (f_D_cup N (xs (i + (1 : Int32)).toNatClampNeg) (xs (i + (2 : Int32)).toNatClampNeg) σ) fun r71 s72 =>
  gd (inb (i + (1 : Int32)) L) (gd (inb (i + (2 : Int32)) L) (ob2 (f_M_cup N (xs (i + (1 : Int32)).toNatClampNeg) (xs (i + (2 : Int32)).toNatClampNeg) μ) fun r73 s74 =>
  self (i + (4 : Int32)) s72 s74))))
def Lw_c19 (N L : Nat) (xs : Nat → Int32) (self : Int32 → Mem → Mem → Option Unit) (i : Int32) (σ μ : Mem) : Option Unit :=
  gd (inb (i + (1 : Int32)) L) (ob2 (f_D_winner N (xs (i + (1 : Int32)).toNatClampNeg) σ) fun r75 s76 =>
  gd (inb (i + (1 : Int32)) L) (ob2 (f_M_winner N (xs (i + (1 : Int32)).toNatClampNeg) μ) fun r77 s78 =>
  self (i + (4 : Int32)) s76 s78))
def Lw_c20 (N L : Nat) (xs : Nat → Int32) (self : Int32 → Mem → Mem → Option Unit) (i : Int32) (σ μ : Mem) : Option Unit :=
  ob2 (f_D_judge N σ) fun r79 s80 =>
  ob2 (f_M_judge N μ) fun r81 s82 =>
  self (i + (4 : Int32)) s80 s82
def Lw_c21 (N L : Nat) (xs : Nat → Int32) (self : Int32 → Mem → Mem → Option Unit) (i : Int32) (σ μ : Mem) : Option Unit :=
  gd (inb (i + (1 : Int32)) L) (gd (inb (i + (1 : Int32)) L) (ob2 (f_M_judged (xs (i + (1 : Int32)).toNatClampNeg) μ) fun r83 s84 =>
  self (i + (4 : Int32)) σ s84))
def Lw_c22 (N L : Nat) (xs : Nat → Int32) (self : Int32 → Mem → Mem → Option Unit) (i : Int32) (σ μ : Mem) : Option Unit :=
  gd (inb (i + (1 : Int32)) L) (gd (inb (i + (2 : Int32)) L) (ob2 (f_D_fewest N (xs (i + (1 : Int32)).toNatClampNeg) (xs (i + (2 : Int32)).toNatClampNeg) σ) fun r85 s86 =>
  gd (inb (i + (1 : Int32)) L) (gd (inb (i + (2 : Int32)) L) (ob2 (f_M_fewest N (xs (i + (1 : Int32)).toNatClampNeg) (xs (i + (2 : Int32)).toNatClampNeg) μ) fun r87 s88 =>
  self (i + (4 : Int32)) s86 s88))))
def Lw_c23 (N L : Nat) (xs : Nat → Int32) (self : Int32 → Mem → Mem → Option Unit) (i : Int32) (σ μ : Mem) : Option Unit :=
  ob2 (f_D_selves N σ) fun r89 s90 =>
  ob2 (f_M_selves N μ) fun r91 s92 =>
  self (i + (4 : Int32)) s90 s92
def Lw_c24 (N L : Nat) (xs : Nat → Int32) (self : Int32 → Mem → Mem → Option Unit) (i : Int32) (σ μ : Mem) : Option Unit :=
  ob2 (f_D_undo N σ) fun r93 s94 =>
  ob2 (f_M_undo N μ) fun r95 s96 =>
  self (i + (4 : Int32)) s94 s96
def Lw_c25 (N L : Nat) (xs : Nat → Int32) (self : Int32 → Mem → Mem → Option Unit) (i : Int32) (σ μ : Mem) : Option Unit :=
  gd (inb (i + (1 : Int32)) L) (ob2 (f_D_keep N (xs (i + (1 : Int32)).toNatClampNeg) σ) fun r97 s98 =>
  gd (inb (i + (1 : Int32)) L) (ob2 (f_M_keep N (xs (i + (1 : Int32)).toNatClampNeg) μ) fun r99 s100 =>
  self (i + (4 : Int32)) s98 s100))
def Lw_c26 (N L : Nat) (xs : Nat → Int32) (self : Int32 → Mem → Mem → Option Unit) (i : Int32) (σ μ : Mem) : Option Unit :=
  gd (inb (i + (1 : Int32)) L) (ob2 (f_D_again N (xs (i + (1 : Int32)).toNatClampNeg) σ) fun r101 s102 =>
  gd (inb (i + (1 : Int32)) L) (ob2 (f_M_again N (xs (i + (1 : Int32)).toNatClampNeg) μ) fun r103 s104 =>
  self (i + (4 : Int32)) s102 s104))
def Lw_c27 (N L : Nat) (xs : Nat → Int32) (self : Int32 → Mem → Mem → Option Unit) (i : Int32) (σ μ : Mem) : Option Unit :=
  gd (inb (i + (1 : Int32)) L) (gd (inb (i + (2 : Int32)) L) (ob2 (f_D_alike N (xs (i + (1 : Int32)).toNatClampNeg) (xs (i + (2 : Int32)).toNatClampNeg) σ) fun r105 s106 =>
  gd (inb (i + (1 : Int32)) L) (gd (inb (i + (2 : Int32)) L) (ob2 (f_M_alike N (xs (i + (1 : Int32)).toNatClampNeg) (xs (i + (2 : Int32)).toNatClampNeg) μ) fun r107 s108 =>
  self (i + (4 : Int32)) s106 s108))))
def Lw_c28 (N L : Nat) (xs : Nat → Int32) (self : Int32 → Mem → Mem → Option Unit) (i : Int32) (σ μ : Mem) : Option Unit :=
  gd (inb (i + (1 : Int32)) L) (ob (f_D_count N (xs (i + (1 : Int32)).toNatClampNeg) σ) fun r109 =>
  gd (inb (i + (1 : Int32)) L) (ob2 (f_M_count N (xs (i + (1 : Int32)).toNatClampNeg) μ) fun r110 s111 =>
  self (i + (4 : Int32)) σ s111))
def Lw_B (N L : Nat) (xs : Nat → Int32) (self : Int32 → Mem → Mem → Option Unit) (i : Int32) (σ μ : Mem) : Option Unit :=
  if ((nI L) - (4 : Int32)) < i then
  (some ())
  else
  (gd (inb i L) (swc ((xs i.toNatClampNeg) &&& (31 : Int32)) [((0 : Int32), Lw_c0 N L xs self i σ μ),
  ((1 : Int32), Lw_c1 N L xs self i σ μ),
  ((2 : Int32), Lw_c2 N L xs self i σ μ),
  ((3 : Int32), Lw_c3 N L xs self i σ μ),
  ((4 : Int32), Lw_c4 N L xs self i σ μ),
  ((5 : Int32), Lw_c5 N L xs self i σ μ),
  ((6 : Int32), Lw_c6 N L xs self i σ μ),
  ((7 : Int32), Lw_c7 N L xs self i σ μ),
  ((8 : Int32), Lw_c8 N L xs self i σ μ),
  ((9 : Int32), Lw_c9 N L xs self i σ μ),
  ((10 : Int32), Lw_c10 N L xs self i σ μ),
  ((11 : Int32), Lw_c11 N L xs self i σ μ),
  ((12 : Int32), Lw_c12 N L xs self i σ μ),
  ((13 : Int32), Lw_c13 N L xs self i σ μ),
  ((14 : Int32), Lw_c14 N L xs self i σ μ),
  ((15 : Int32), Lw_c15 N L xs self i σ μ),
  ((16 : Int32), Lw_c16 N L xs self i σ μ),
  ((17 : Int32), Lw_c17 N L xs self i σ μ),
  ((18 : Int32), Lw_c18 N L xs self i σ μ),
  ((19 : Int32), Lw_c19 N L xs self i σ μ),
  ((20 : Int32), Lw_c20 N L xs self i σ μ),
  ((21 : Int32), Lw_c21 N L xs self i σ μ),
  ((22 : Int32), Lw_c22 N L xs self i σ μ),
  ((23 : Int32), Lw_c23 N L xs self i σ μ),
  ((24 : Int32), Lw_c24 N L xs self i σ μ),
  ((25 : Int32), Lw_c25 N L xs self i σ μ),
  ((26 : Int32), Lw_c26 N L xs self i σ μ),
  ((27 : Int32), Lw_c27 N L xs self i σ μ),
  ((28 : Int32), Lw_c28 N L xs self i σ μ)]
  (self (i + (4 : Int32)) σ μ)))
def f_law (N L : Nat) (xs : Nat → Int32) (σ μ : Mem) : Option Unit := it3 (Lw_B N L xs) 513 (0 : Int32) σ μ
theorem lroom1 {j : Nat} (h : j ≤ 513) : 54 + j + 1 ≤ 601024 := by omega
theorem lroom2 {j : Nat} (h : j ≤ 513) : 5889 + 6 * j + 6 ≤ 7293034 := by omega
theorem lroom3 {j : Nat} (h : j ≤ 513) : 54 + j ≤ 601024 := by omega
theorem lroom4 {j : Nat} (h : j ≤ 513) : 5889 + 6 * j ≤ 7293034 := by omega
/-- an end of the law: what is owed of a return with 1 -/
def lEnd (κ : Ctx) (Z : State → Prop) : Prop := ∀ (H : Heap) (ls : Array Slot) (pc : Nat), decode cL_law pc = .ok (.ireturn, 1) → W (kp κ) (kl κ) (ke κ) (kR κ) (ks κ) (km κ) (ka κ) (kb κ) (kmeth κ) (kc κ) H [] 601024 7293034 Z (F0 (km κ) pc ls [.int 1])
theorem g_end {κ : Ctx} {w1 w2 : Wenv} {σ μ : Mem} {Z : State → Prop} {j : Nat} {lv : List (Option Value)} (hC : okG κ cL_law 7 RL) (hR : kR κ = room_1) (hZ : lEnd κ Z) (hj : j ≤ 513) : wG κ 7 (fun _ : Unit => Z) (lP κ w1 w2 σ μ) (54 + j) (5889 + 6 * j) 1034 lv [] (some ()) := fun z hz H locs ls h1 h3 => by
  refine va_forget h1.2.2.2.2 ?_
  refine lv_iconst (v := 1) hC.1 hC.2.1 dL_law_1034 (by decide) ?_
  exact W.widen (by omega) (by omega) (hZ H ls 1035 dL_law_1035)
set_option maxRecDepth 100000 in
set_option maxHeartbeats 8000000 in
theorem w_law {κ : Ctx} {w1 w2 : Wenv} {b L sa : Nat} {xs : Nat → Int32} {Z : State → Prop} (hR : kR κ = room_1) (hC : okG κ cL_law 7 RL) (hK : lok κ w1 w2 b L xs sa) (hZ : lEnd κ Z) (N : Nat) : ∀ (n j : Nat), n + j = 513 → ∀ (i : Int32) (σ μ : Mem), wG κ 7 (fun _ : Unit => Z) (lP κ w1 w2 σ μ) (54 + j) (5889 + 6 * j) 23 [some (.ref b), some (.ref (w1.2.2.1 0)), some (.ref (w2.2.2.1 0)), some (.ref (w1.2.2.1 28)), some (.int i), none, none] [] (it3 (Lw_B N L xs) n i σ μ)
  | 0, _, _, _, _, _ => fun x hx => by cases hx
  | n + 1, j, hnj, i, σ, μ => by
    have hj : j ≤ 513 := by omega
    have ih : ∀ (i : Int32) (σ μ : Mem), wG κ 7 (fun _ : Unit => Z) (lP κ w1 w2 σ μ) (54 + (j + 1)) (5889 + 6 * (j + 1)) 23 [some (.ref b), some (.ref (w1.2.2.1 0)), some (.ref (w2.2.2.1 0)), some (.ref (w1.2.2.1 28)), some (.int i), none, none] [] (it3 (Lw_B N L xs) n i σ μ) := fun i σ μ => w_law hR hC hK hZ N n (j + 1) (by omega) i σ μ
    show wG κ 7 (fun _ : Unit => Z) (lP κ w1 w2 σ μ) (54 + j) (5889 + 6 * j) 23 [some (.ref b), some (.ref (w1.2.2.1 0)), some (.ref (w2.2.2.1 0)), some (.ref (w1.2.2.1 28)), some (.int i), none, none] [] (Lw_B N L xs (it3 (Lw_B N L xs) n) i σ μ)
    generalize it3 (Lw_B N L xs) n = self at ih ⊢
    unfold Lw_B
    refine g_iload (pc := 23) hC rfl dL_law_23 ?_
    refine g_aload_n (pc := 25) hC rfl dL_law_25 ?_
    refine g_slen (pc := 26) hC hK dL_law_26 ?_
    refine g_iconst (pc := 27) hC (v := (4 : Int32)) (by decide) dL_law_27 ?_
    refine g_isub (pc := 28) hC dL_law_28 ?_
    refine g_icmp_gt (pc := 29) (tgt := 1034) hC dL_law_29 (by decide) ?_ ?_
    · exact g_end hC hR hZ hj
    · refine g_aload_n (pc := 32) hC rfl dL_law_32 ?_
      refine g_iload (pc := 33) hC rfl dL_law_33 ?_
      refine g_sld (pc := 35) hC hK dL_law_35 ?_
      refine g_bipush (pc := 36) hC (v := (31 : Int32)) (by decide) dL_law_36 ?_
      refine g_iand (pc := 38) hC dL_law_38 ?_
      refine g_table (pc := 39) (tg := fun i => ([168, 193, 218, 231, 268, 320, 357, 394, 419, 444, 481, 518, 543, 592, 617, 642, 679, 716, 753, 790, 815, 828, 853, 890, 903, 916, 941, 966, 1003] : List Nat).getD i 0) (dt := 1028) hC 29 dL_law_39 (by decide) (by decide) rfl (fun i9 hi => ?_) ?_
      · rcases (show i9 = 0 ∨ i9 = 1 ∨ i9 = 2 ∨ i9 = 3 ∨ i9 = 4 ∨ i9 = 5 ∨ i9 = 6 ∨ i9 = 7 ∨ i9 = 8 ∨ i9 = 9 ∨ i9 = 10 ∨ i9 = 11 ∨ i9 = 12 ∨ i9 = 13 ∨ i9 = 14 ∨ i9 = 15 ∨ i9 = 16 ∨ i9 = 17 ∨ i9 = 18 ∨ i9 = 19 ∨ i9 = 20 ∨ i9 = 21 ∨ i9 = 22 ∨ i9 = 23 ∨ i9 = 24 ∨ i9 = 25 ∨ i9 = 26 ∨ i9 = 27 ∨ i9 = 28 by omega) with rfl | rfl | rfl | rfl | rfl | rfl | rfl | rfl | rfl | rfl | rfl | rfl | rfl | rfl | rfl | rfl | rfl | rfl | rfl | rfl | rfl | rfl | rfl | rfl | rfl | rfl | rfl | rfl | rfl
        · refine ⟨_, _, _, rfl, by decide, rfl, by decide, ?_⟩
          unfold Lw_c0
          refine g_aload_n (pc := 168) hC rfl dL_law_168 ?_
          refine g_aload_n (pc := 169) hC rfl dL_law_169 ?_
          refine g_iload (pc := 170) hC rfl dL_law_170 ?_
          refine g_iconst (pc := 172) hC (v := (1 : Int32)) (by decide) dL_law_172 ?_
          refine g_iadd (pc := 173) hC dL_law_173 ?_
          refine g_sld (pc := 174) hC hK dL_law_174 ?_
          refine g_ob2 (fun r1 s2 hf => ?_)
          refine g_callC (pc := 175) (rest := []) [.int (xs (i + (1 : Int32)).toNatClampNeg)] hC hK (c_D_sign (kl κ) w1 hK.1 N (xs (i + (1 : Int32)).toNatClampNeg) σ r1 s2 hf) o_X9_sign k_345 (ci := 9) rfl rfl ⟨by rw [hR]; exact Nat.le_of_ble_eq_true rfl, by rw [hR]; exact Nat.le_of_ble_eq_true rfl⟩ ⟨by rw [hR]; exact lroom3 hj, by rw [hR]; exact lroom4 hj⟩ rfl (Nat.le_of_ble_eq_true rfl) dL_law_175 ?_
          refine g_pop (pc := 178) hC rfl dL_law_178 ?_
          refine g_aload_n (pc := 179) hC rfl dL_law_179 ?_
          refine g_aload_n (pc := 180) hC rfl dL_law_180 ?_
          refine g_iload (pc := 181) hC rfl dL_law_181 ?_
          refine g_iconst (pc := 183) hC (v := (1 : Int32)) (by decide) dL_law_183 ?_
          refine g_iadd (pc := 184) hC dL_law_184 ?_
          refine g_sld (pc := 185) hC hK dL_law_185 ?_
          refine g_ob2 (fun r3 s4 hf => ?_)
          refine g_callM (pc := 186) (rest := []) [.int (xs (i + (1 : Int32)).toNatClampNeg)] hC hK (c_M_sign (kl κ) w2 hK.2.1 N (xs (i + (1 : Int32)).toNatClampNeg) μ r3 s4 hf) o_X10_sign k_1153 (ci := 10) rfl rfl ⟨by rw [hR]; exact Nat.le_of_ble_eq_true rfl, by rw [hR]; exact Nat.le_of_ble_eq_true rfl⟩ ⟨by rw [hR]; exact lroom3 hj, by rw [hR]; exact lroom4 hj⟩ rfl (Nat.le_of_ble_eq_true rfl) dL_law_186 ?_
          refine g_pop (pc := 189) hC rfl dL_law_189 ?_
          refine g_goto (pc := 190) (tgt := 1028) hC dL_law_190 (by decide) ?_
          refine g_iinc (pc := 1028) hC (v := (4 : Int32)) rfl (by decide) rfl rfl dL_law_1028 ?_
          refine g_goto (pc := 1031) (tgt := 23) hC dL_law_1031 (by decide) ?_
          exact g_wd (by omega) (by omega) (ih (i + (4 : Int32)) s2 s4)
        · refine ⟨_, _, _, rfl, by decide, rfl, by decide, ?_⟩
          unfold Lw_c1
          refine g_aload_n (pc := 193) hC rfl dL_law_193 ?_
          refine g_aload_n (pc := 194) hC rfl dL_law_194 ?_
          refine g_iload (pc := 195) hC rfl dL_law_195 ?_
          refine g_iconst (pc := 197) hC (v := (1 : Int32)) (by decide) dL_law_197 ?_
          refine g_iadd (pc := 198) hC dL_law_198 ?_
          refine g_sld (pc := 199) hC hK dL_law_199 ?_
          refine g_ob2 (fun r5 s6 hf => ?_)
          refine g_callC (pc := 200) (rest := []) [.int (xs (i + (1 : Int32)).toNatClampNeg)] hC hK (c_D_end (kl κ) w1 hK.1 (xs (i + (1 : Int32)).toNatClampNeg) σ r5 s6 hf) o_X9_end k_353 (ci := 9) rfl rfl ⟨by rw [hR]; exact Nat.le_of_ble_eq_true rfl, by rw [hR]; exact Nat.le_of_ble_eq_true rfl⟩ ⟨by rw [hR]; exact lroom3 hj, by rw [hR]; exact lroom4 hj⟩ rfl (Nat.le_of_ble_eq_true rfl) dL_law_200 ?_
          refine g_pop (pc := 203) hC rfl dL_law_203 ?_
          refine g_aload_n (pc := 204) hC rfl dL_law_204 ?_
          refine g_aload_n (pc := 205) hC rfl dL_law_205 ?_
          refine g_iload (pc := 206) hC rfl dL_law_206 ?_
          refine g_iconst (pc := 208) hC (v := (1 : Int32)) (by decide) dL_law_208 ?_
          refine g_iadd (pc := 209) hC dL_law_209 ?_
          refine g_sld (pc := 210) hC hK dL_law_210 ?_
          refine g_ob2 (fun r7 s8 hf => ?_)
          refine g_callM (pc := 211) (rest := []) [.int (xs (i + (1 : Int32)).toNatClampNeg)] hC hK (c_M_end (kl κ) w2 hK.2.1 (xs (i + (1 : Int32)).toNatClampNeg) μ r7 s8 hf) o_X10_end k_1157 (ci := 10) rfl rfl ⟨by rw [hR]; exact Nat.le_of_ble_eq_true rfl, by rw [hR]; exact Nat.le_of_ble_eq_true rfl⟩ ⟨by rw [hR]; exact lroom3 hj, by rw [hR]; exact lroom4 hj⟩ rfl (Nat.le_of_ble_eq_true rfl) dL_law_211 ?_
          refine g_pop (pc := 214) hC rfl dL_law_214 ?_
          refine g_goto (pc := 215) (tgt := 1028) hC dL_law_215 (by decide) ?_
          refine g_iinc (pc := 1028) hC (v := (4 : Int32)) rfl (by decide) rfl rfl dL_law_1028 ?_
          refine g_goto (pc := 1031) (tgt := 23) hC dL_law_1031 (by decide) ?_
          exact g_wd (by omega) (by omega) (ih (i + (4 : Int32)) s6 s8)
        · refine ⟨_, _, _, rfl, by decide, rfl, by decide, ?_⟩
          unfold Lw_c2
          refine g_aload_n (pc := 218) hC rfl dL_law_218 ?_
          refine g_ob2 (fun r9 s10 hf => ?_)
          refine g_callC (pc := 219) (rest := []) [] hC hK (c_D_round (kl κ) w1 hK.1 N σ r9 s10 hf) o_X9_round k_361 (ci := 9) rfl rfl ⟨by rw [hR]; exact Nat.le_of_ble_eq_true rfl, by rw [hR]; exact Nat.le_of_ble_eq_true rfl⟩ ⟨by rw [hR]; exact lroom3 hj, by rw [hR]; exact lroom4 hj⟩ rfl (Nat.le_of_ble_eq_true rfl) dL_law_219 ?_
          refine g_pop (pc := 222) hC rfl dL_law_222 ?_
          refine g_aload_n (pc := 223) hC rfl dL_law_223 ?_
          refine g_ob2 (fun r11 s12 hf => ?_)
          refine g_callM (pc := 224) (rest := []) [] hC hK (c_M_round (kl κ) w2 hK.2.1 N μ r11 s12 hf) o_X10_round k_1164 (ci := 10) rfl rfl ⟨by rw [hR]; exact Nat.le_of_ble_eq_true rfl, by rw [hR]; exact Nat.le_of_ble_eq_true rfl⟩ ⟨by rw [hR]; exact lroom3 hj, by rw [hR]; exact lroom4 hj⟩ rfl (Nat.le_of_ble_eq_true rfl) dL_law_224 ?_
          refine g_pop (pc := 227) hC rfl dL_law_227 ?_
          refine g_goto (pc := 228) (tgt := 1028) hC dL_law_228 (by decide) ?_
          refine g_iinc (pc := 1028) hC (v := (4 : Int32)) rfl (by decide) rfl rfl dL_law_1028 ?_
          refine g_goto (pc := 1031) (tgt := 23) hC dL_law_1031 (by decide) ?_
          exact g_wd (by omega) (by omega) (ih (i + (4 : Int32)) s10 s12)
        · refine ⟨_, _, _, rfl, by decide, rfl, by decide, ?_⟩
          unfold Lw_c3
          refine g_aload_n (pc := 231) hC rfl dL_law_231 ?_
          refine g_aload_n (pc := 232) hC rfl dL_law_232 ?_
          refine g_iload (pc := 233) hC rfl dL_law_233 ?_
          refine g_iconst (pc := 235) hC (v := (1 : Int32)) (by decide) dL_law_235 ?_
          refine g_iadd (pc := 236) hC dL_law_236 ?_
          refine g_sld (pc := 237) hC hK dL_law_237 ?_
          refine g_aload_n (pc := 238) hC rfl dL_law_238 ?_
          refine g_iload (pc := 239) hC rfl dL_law_239 ?_
          refine g_iconst (pc := 241) hC (v := (2 : Int32)) (by decide) dL_law_241 ?_
          refine g_iadd (pc := 242) hC dL_law_242 ?_
          refine g_sld (pc := 243) hC hK dL_law_243 ?_
          refine g_ob2 (fun r13 s14 hf => ?_)
          refine g_callC (pc := 244) (rest := []) [.int (xs (i + (1 : Int32)).toNatClampNeg), .int (xs (i + (2 : Int32)).toNatClampNeg)] hC hK (c_D_drawn (kl κ) w1 hK.1 N (xs (i + (1 : Int32)).toNatClampNeg) (xs (i + (2 : Int32)).toNatClampNeg) σ r13 s14 hf) o_X9_drawn k_437 (ci := 9) rfl rfl ⟨by rw [hR]; exact Nat.le_of_ble_eq_true rfl, by rw [hR]; exact Nat.le_of_ble_eq_true rfl⟩ ⟨by rw [hR]; exact lroom3 hj, by rw [hR]; exact lroom4 hj⟩ rfl (Nat.le_of_ble_eq_true rfl) dL_law_244 ?_
          refine g_pop (pc := 247) hC rfl dL_law_247 ?_
          refine g_aload_n (pc := 248) hC rfl dL_law_248 ?_
          refine g_aload_n (pc := 249) hC rfl dL_law_249 ?_
          refine g_iload (pc := 250) hC rfl dL_law_250 ?_
          refine g_iconst (pc := 252) hC (v := (1 : Int32)) (by decide) dL_law_252 ?_
          refine g_iadd (pc := 253) hC dL_law_253 ?_
          refine g_sld (pc := 254) hC hK dL_law_254 ?_
          refine g_aload_n (pc := 255) hC rfl dL_law_255 ?_
          refine g_iload (pc := 256) hC rfl dL_law_256 ?_
          refine g_iconst (pc := 258) hC (v := (2 : Int32)) (by decide) dL_law_258 ?_
          refine g_iadd (pc := 259) hC dL_law_259 ?_
          refine g_sld (pc := 260) hC hK dL_law_260 ?_
          refine g_ob2 (fun r15 s16 hf => ?_)
          refine g_callM (pc := 261) (rest := []) [.int (xs (i + (1 : Int32)).toNatClampNeg), .int (xs (i + (2 : Int32)).toNatClampNeg)] hC hK (c_M_drawn (kl κ) w2 hK.2.1 N (xs (i + (1 : Int32)).toNatClampNeg) (xs (i + (2 : Int32)).toNatClampNeg) μ r15 s16 hf) o_X10_drawn k_1209 (ci := 10) rfl rfl ⟨by rw [hR]; exact Nat.le_of_ble_eq_true rfl, by rw [hR]; exact Nat.le_of_ble_eq_true rfl⟩ ⟨by rw [hR]; exact lroom3 hj, by rw [hR]; exact lroom4 hj⟩ rfl (Nat.le_of_ble_eq_true rfl) dL_law_261 ?_
          refine g_pop (pc := 264) hC rfl dL_law_264 ?_
          refine g_goto (pc := 265) (tgt := 1028) hC dL_law_265 (by decide) ?_
          refine g_iinc (pc := 1028) hC (v := (4 : Int32)) rfl (by decide) rfl rfl dL_law_1028 ?_
          refine g_goto (pc := 1031) (tgt := 23) hC dL_law_1031 (by decide) ?_
          exact g_wd (by omega) (by omega) (ih (i + (4 : Int32)) s14 s16)
        · refine ⟨_, _, _, rfl, by decide, rfl, by decide, ?_⟩
          unfold Lw_c4
          refine g_aload_n (pc := 268) hC rfl dL_law_268 ?_
          refine g_aload_n (pc := 269) hC rfl dL_law_269 ?_
          refine g_iload (pc := 270) hC rfl dL_law_270 ?_
          refine g_iconst (pc := 272) hC (v := (1 : Int32)) (by decide) dL_law_272 ?_
          refine g_iadd (pc := 273) hC dL_law_273 ?_
          refine g_sld (pc := 274) hC hK dL_law_274 ?_
          refine g_aload_n (pc := 275) hC rfl dL_law_275 ?_
          refine g_iload (pc := 276) hC rfl dL_law_276 ?_
          refine g_iconst (pc := 278) hC (v := (2 : Int32)) (by decide) dL_law_278 ?_
          refine g_iadd (pc := 279) hC dL_law_279 ?_
          refine g_sld (pc := 280) hC hK dL_law_280 ?_
          refine g_aload_n (pc := 281) hC rfl dL_law_281 ?_
          refine g_iload (pc := 282) hC rfl dL_law_282 ?_
          refine g_iconst (pc := 284) hC (v := (3 : Int32)) (by decide) dL_law_284 ?_
          refine g_iadd (pc := 285) hC dL_law_285 ?_
          refine g_sld (pc := 286) hC hK dL_law_286 ?_
          refine g_aload_n (pc := 287) hC rfl dL_law_287 ?_
          refine g_ob (fun x17 hf => ?_)
          refine g_duel (pc := 288) (rest := []) hC hK hf k_954 ⟨by rw [hR]; exact Nat.le_of_ble_eq_true rfl, by rw [hR]; exact Nat.le_of_ble_eq_true rfl⟩ ⟨by rw [hR]; exact lroom1 hj, by rw [hR]; exact lroom2 hj⟩ (Nat.le_of_ble_eq_true rfl) dL_law_288 ?_
          refine g_istore (pc := 291) hC rfl rfl dL_law_291 ?_
          refine g_aload_n (pc := 293) hC rfl dL_law_293 ?_
          refine g_aload_n (pc := 294) hC rfl dL_law_294 ?_
          refine g_iload (pc := 295) hC rfl dL_law_295 ?_
          refine g_iconst (pc := 297) hC (v := (1 : Int32)) (by decide) dL_law_297 ?_
          refine g_iadd (pc := 298) hC dL_law_298 ?_
          refine g_sld (pc := 299) hC hK dL_law_299 ?_
          refine g_aload_n (pc := 300) hC rfl dL_law_300 ?_
          refine g_iload (pc := 301) hC rfl dL_law_301 ?_
          refine g_iconst (pc := 303) hC (v := (2 : Int32)) (by decide) dL_law_303 ?_
          refine g_iadd (pc := 304) hC dL_law_304 ?_
          refine g_sld (pc := 305) hC hK dL_law_305 ?_
          refine g_aload_n (pc := 306) hC rfl dL_law_306 ?_
          refine g_iload (pc := 307) hC rfl dL_law_307 ?_
          refine g_iconst (pc := 309) hC (v := (3 : Int32)) (by decide) dL_law_309 ?_
          refine g_iadd (pc := 310) hC dL_law_310 ?_
          refine g_sld (pc := 311) hC hK dL_law_311 ?_
          refine g_ob2 (fun r18 s19 hf => ?_)
          refine g_callM (pc := 312) (rest := []) [.int (xs (i + (1 : Int32)).toNatClampNeg), .int (xs (i + (2 : Int32)).toNatClampNeg), .int (xs (i + (3 : Int32)).toNatClampNeg)] hC hK (c_M_duel (kl κ) w2 hK.2.1 N (xs (i + (1 : Int32)).toNatClampNeg) (xs (i + (2 : Int32)).toNatClampNeg) (xs (i + (3 : Int32)).toNatClampNeg) μ r18 s19 hf) o_X10_duel k_1216 (ci := 10) rfl rfl ⟨by rw [hR]; exact Nat.le_of_ble_eq_true rfl, by rw [hR]; exact Nat.le_of_ble_eq_true rfl⟩ ⟨by rw [hR]; exact lroom1 hj, by rw [hR]; exact lroom2 hj⟩ rfl (Nat.le_of_ble_eq_true rfl) dL_law_312 ?_
          refine g_istore (pc := 315) hC rfl rfl dL_law_315 ?_
          refine g_goto (pc := 317) (tgt := 1028) hC dL_law_317 (by decide) ?_
          refine g_iinc (pc := 1028) hC (v := (4 : Int32)) rfl (by decide) rfl rfl dL_law_1028 ?_
          refine g_goto (pc := 1031) (tgt := 23) hC dL_law_1031 (by decide) ?_
          exact g_wd (by omega) (by omega) (g_wk [true, true, true, true, true, false, false] (ih (i + (4 : Int32)) (dM σ x17) s19))
        · refine ⟨_, _, _, rfl, by decide, rfl, by decide, ?_⟩
          unfold Lw_c5
          refine g_aload_n (pc := 320) hC rfl dL_law_320 ?_
          refine g_aload_n (pc := 321) hC rfl dL_law_321 ?_
          refine g_iload (pc := 322) hC rfl dL_law_322 ?_
          refine g_iconst (pc := 324) hC (v := (1 : Int32)) (by decide) dL_law_324 ?_
          refine g_iadd (pc := 325) hC dL_law_325 ?_
          refine g_sld (pc := 326) hC hK dL_law_326 ?_
          refine g_aload_n (pc := 327) hC rfl dL_law_327 ?_
          refine g_iload (pc := 328) hC rfl dL_law_328 ?_
          refine g_iconst (pc := 330) hC (v := (2 : Int32)) (by decide) dL_law_330 ?_
          refine g_iadd (pc := 331) hC dL_law_331 ?_
          refine g_sld (pc := 332) hC hK dL_law_332 ?_
          refine g_ob (fun r20 hf => ?_)
          refine g_callC (pc := 333) (rest := []) [.int (xs (i + (1 : Int32)).toNatClampNeg), .int (xs (i + (2 : Int32)).toNatClampNeg)] hC hK (c_D_beaten (kl κ) w1 hK.1 (xs (i + (1 : Int32)).toNatClampNeg) (xs (i + (2 : Int32)).toNatClampNeg) σ r20 hf) o_X9_beaten k_443 (ci := 9) rfl rfl ⟨by rw [hR]; exact Nat.le_of_ble_eq_true rfl, by rw [hR]; exact Nat.le_of_ble_eq_true rfl⟩ ⟨by rw [hR]; exact lroom3 hj, by rw [hR]; exact lroom4 hj⟩ rfl (Nat.le_of_ble_eq_true rfl) dL_law_333 ?_
          refine g_pop (pc := 336) hC rfl dL_law_336 ?_
          refine g_aload_n (pc := 337) hC rfl dL_law_337 ?_
          refine g_aload_n (pc := 338) hC rfl dL_law_338 ?_
          refine g_iload (pc := 339) hC rfl dL_law_339 ?_
          refine g_iconst (pc := 341) hC (v := (1 : Int32)) (by decide) dL_law_341 ?_
          refine g_iadd (pc := 342) hC dL_law_342 ?_
          refine g_sld (pc := 343) hC hK dL_law_343 ?_
          refine g_aload_n (pc := 344) hC rfl dL_law_344 ?_
          refine g_iload (pc := 345) hC rfl dL_law_345 ?_
          refine g_iconst (pc := 347) hC (v := (2 : Int32)) (by decide) dL_law_347 ?_
          refine g_iadd (pc := 348) hC dL_law_348 ?_
          refine g_sld (pc := 349) hC hK dL_law_349 ?_
          refine g_ob2 (fun r21 s22 hf => ?_)
          refine g_callM (pc := 350) (rest := []) [.int (xs (i + (1 : Int32)).toNatClampNeg), .int (xs (i + (2 : Int32)).toNatClampNeg)] hC hK (c_M_beaten (kl κ) w2 hK.2.1 (xs (i + (1 : Int32)).toNatClampNeg) (xs (i + (2 : Int32)).toNatClampNeg) μ r21 s22 hf) o_X10_beaten k_1246 (ci := 10) rfl rfl ⟨by rw [hR]; exact Nat.le_of_ble_eq_true rfl, by rw [hR]; exact Nat.le_of_ble_eq_true rfl⟩ ⟨by rw [hR]; exact lroom3 hj, by rw [hR]; exact lroom4 hj⟩ rfl (Nat.le_of_ble_eq_true rfl) dL_law_350 ?_
          refine g_pop (pc := 353) hC rfl dL_law_353 ?_
          refine g_goto (pc := 354) (tgt := 1028) hC dL_law_354 (by decide) ?_
          refine g_iinc (pc := 1028) hC (v := (4 : Int32)) rfl (by decide) rfl rfl dL_law_1028 ?_
          refine g_goto (pc := 1031) (tgt := 23) hC dL_law_1031 (by decide) ?_
          exact g_wd (by omega) (by omega) (ih (i + (4 : Int32)) σ s22)
        · refine ⟨_, _, _, rfl, by decide, rfl, by decide, ?_⟩
          unfold Lw_c6
          refine g_aload_n (pc := 357) hC rfl dL_law_357 ?_
          refine g_aload_n (pc := 358) hC rfl dL_law_358 ?_
          refine g_iload (pc := 359) hC rfl dL_law_359 ?_
          refine g_iconst (pc := 361) hC (v := (1 : Int32)) (by decide) dL_law_361 ?_
          refine g_iadd (pc := 362) hC dL_law_362 ?_
          refine g_sld (pc := 363) hC hK dL_law_363 ?_
          refine g_aload_n (pc := 364) hC rfl dL_law_364 ?_
          refine g_iload (pc := 365) hC rfl dL_law_365 ?_
          refine g_iconst (pc := 367) hC (v := (2 : Int32)) (by decide) dL_law_367 ?_
          refine g_iadd (pc := 368) hC dL_law_368 ?_
          refine g_sld (pc := 369) hC hK dL_law_369 ?_
          refine g_ob2 (fun r23 s24 hf => ?_)
          refine g_callC (pc := 370) (rest := []) [.int (xs (i + (1 : Int32)).toNatClampNeg), .int (xs (i + (2 : Int32)).toNatClampNeg)] hC hK (c_D_turn (kl κ) w1 hK.1 N (xs (i + (1 : Int32)).toNatClampNeg) (xs (i + (2 : Int32)).toNatClampNeg) σ r23 s24 hf) o_X9_turn k_459 (ci := 9) rfl rfl ⟨by rw [hR]; exact Nat.le_of_ble_eq_true rfl, by rw [hR]; exact Nat.le_of_ble_eq_true rfl⟩ ⟨by rw [hR]; exact lroom3 hj, by rw [hR]; exact lroom4 hj⟩ rfl (Nat.le_of_ble_eq_true rfl) dL_law_370 ?_
          refine g_pop (pc := 373) hC rfl dL_law_373 ?_
          refine g_aload_n (pc := 374) hC rfl dL_law_374 ?_
          refine g_aload_n (pc := 375) hC rfl dL_law_375 ?_
          refine g_iload (pc := 376) hC rfl dL_law_376 ?_
          refine g_iconst (pc := 378) hC (v := (1 : Int32)) (by decide) dL_law_378 ?_
          refine g_iadd (pc := 379) hC dL_law_379 ?_
          refine g_sld (pc := 380) hC hK dL_law_380 ?_
          refine g_aload_n (pc := 381) hC rfl dL_law_381 ?_
          refine g_iload (pc := 382) hC rfl dL_law_382 ?_
          refine g_iconst (pc := 384) hC (v := (2 : Int32)) (by decide) dL_law_384 ?_
          refine g_iadd (pc := 385) hC dL_law_385 ?_
          refine g_sld (pc := 386) hC hK dL_law_386 ?_
          refine g_ob2 (fun r25 s26 hf => ?_)
          refine g_callM (pc := 387) (rest := []) [.int (xs (i + (1 : Int32)).toNatClampNeg), .int (xs (i + (2 : Int32)).toNatClampNeg)] hC hK (c_M_turn (kl κ) w2 hK.2.1 N (xs (i + (1 : Int32)).toNatClampNeg) (xs (i + (2 : Int32)).toNatClampNeg) μ r25 s26 hf) o_X10_turn k_1258 (ci := 10) rfl rfl ⟨by rw [hR]; exact Nat.le_of_ble_eq_true rfl, by rw [hR]; exact Nat.le_of_ble_eq_true rfl⟩ ⟨by rw [hR]; exact lroom3 hj, by rw [hR]; exact lroom4 hj⟩ rfl (Nat.le_of_ble_eq_true rfl) dL_law_387 ?_
          refine g_pop (pc := 390) hC rfl dL_law_390 ?_
          refine g_goto (pc := 391) (tgt := 1028) hC dL_law_391 (by decide) ?_
          refine g_iinc (pc := 1028) hC (v := (4 : Int32)) rfl (by decide) rfl rfl dL_law_1028 ?_
          refine g_goto (pc := 1031) (tgt := 23) hC dL_law_1031 (by decide) ?_
          exact g_wd (by omega) (by omega) (ih (i + (4 : Int32)) s24 s26)
        · refine ⟨_, _, _, rfl, by decide, rfl, by decide, ?_⟩
          unfold Lw_c7
          refine g_aload_n (pc := 394) hC rfl dL_law_394 ?_
          refine g_aload_n (pc := 395) hC rfl dL_law_395 ?_
          refine g_iload (pc := 396) hC rfl dL_law_396 ?_
          refine g_iconst (pc := 398) hC (v := (1 : Int32)) (by decide) dL_law_398 ?_
          refine g_iadd (pc := 399) hC dL_law_399 ?_
          refine g_sld (pc := 400) hC hK dL_law_400 ?_
          refine g_ob2 (fun r27 s28 hf => ?_)
          refine g_callC (pc := 401) (rest := []) [.int (xs (i + (1 : Int32)).toNatClampNeg)] hC hK (c_D_join (kl κ) w1 hK.1 N (xs (i + (1 : Int32)).toNatClampNeg) σ r27 s28 hf) o_X9_join k_478 (ci := 9) rfl rfl ⟨by rw [hR]; exact Nat.le_of_ble_eq_true rfl, by rw [hR]; exact Nat.le_of_ble_eq_true rfl⟩ ⟨by rw [hR]; exact lroom3 hj, by rw [hR]; exact lroom4 hj⟩ rfl (Nat.le_of_ble_eq_true rfl) dL_law_401 ?_
          refine g_pop (pc := 404) hC rfl dL_law_404 ?_
          refine g_aload_n (pc := 405) hC rfl dL_law_405 ?_
          refine g_aload_n (pc := 406) hC rfl dL_law_406 ?_
          refine g_iload (pc := 407) hC rfl dL_law_407 ?_
          refine g_iconst (pc := 409) hC (v := (1 : Int32)) (by decide) dL_law_409 ?_
          refine g_iadd (pc := 410) hC dL_law_410 ?_
          refine g_sld (pc := 411) hC hK dL_law_411 ?_
          refine g_ob2 (fun r29 s30 hf => ?_)
          refine g_callM (pc := 412) (rest := []) [.int (xs (i + (1 : Int32)).toNatClampNeg)] hC hK (c_M_join (kl κ) w2 hK.2.1 N (xs (i + (1 : Int32)).toNatClampNeg) μ r29 s30 hf) o_X10_join k_1270 (ci := 10) rfl rfl ⟨by rw [hR]; exact Nat.le_of_ble_eq_true rfl, by rw [hR]; exact Nat.le_of_ble_eq_true rfl⟩ ⟨by rw [hR]; exact lroom3 hj, by rw [hR]; exact lroom4 hj⟩ rfl (Nat.le_of_ble_eq_true rfl) dL_law_412 ?_
          refine g_pop (pc := 415) hC rfl dL_law_415 ?_
          refine g_goto (pc := 416) (tgt := 1028) hC dL_law_416 (by decide) ?_
          refine g_iinc (pc := 1028) hC (v := (4 : Int32)) rfl (by decide) rfl rfl dL_law_1028 ?_
          refine g_goto (pc := 1031) (tgt := 23) hC dL_law_1031 (by decide) ?_
          exact g_wd (by omega) (by omega) (ih (i + (4 : Int32)) s28 s30)
        · refine ⟨_, _, _, rfl, by decide, rfl, by decide, ?_⟩
          unfold Lw_c8
          refine g_aload_n (pc := 419) hC rfl dL_law_419 ?_
          refine g_aload_n (pc := 420) hC rfl dL_law_420 ?_
          refine g_iload (pc := 421) hC rfl dL_law_421 ?_
          refine g_iconst (pc := 423) hC (v := (1 : Int32)) (by decide) dL_law_423 ?_
          refine g_iadd (pc := 424) hC dL_law_424 ?_
          refine g_sld (pc := 425) hC hK dL_law_425 ?_
          refine g_ob2 (fun r31 s32 hf => ?_)
          refine g_callC (pc := 426) (rest := []) [.int (xs (i + (1 : Int32)).toNatClampNeg)] hC hK (c_D_drop (kl κ) w1 hK.1 N (xs (i + (1 : Int32)).toNatClampNeg) σ r31 s32 hf) o_X9_drop k_486 (ci := 9) rfl rfl ⟨by rw [hR]; exact Nat.le_of_ble_eq_true rfl, by rw [hR]; exact Nat.le_of_ble_eq_true rfl⟩ ⟨by rw [hR]; exact lroom3 hj, by rw [hR]; exact lroom4 hj⟩ rfl (Nat.le_of_ble_eq_true rfl) dL_law_426 ?_
          refine g_pop (pc := 429) hC rfl dL_law_429 ?_
          refine g_aload_n (pc := 430) hC rfl dL_law_430 ?_
          refine g_aload_n (pc := 431) hC rfl dL_law_431 ?_
          refine g_iload (pc := 432) hC rfl dL_law_432 ?_
          refine g_iconst (pc := 434) hC (v := (1 : Int32)) (by decide) dL_law_434 ?_
          refine g_iadd (pc := 435) hC dL_law_435 ?_
          refine g_sld (pc := 436) hC hK dL_law_436 ?_
          refine g_ob2 (fun r33 s34 hf => ?_)
          refine g_callM (pc := 437) (rest := []) [.int (xs (i + (1 : Int32)).toNatClampNeg)] hC hK (c_M_drop (kl κ) w2 hK.2.1 N (xs (i + (1 : Int32)).toNatClampNeg) μ r33 s34 hf) o_X10_drop k_1278 (ci := 10) rfl rfl ⟨by rw [hR]; exact Nat.le_of_ble_eq_true rfl, by rw [hR]; exact Nat.le_of_ble_eq_true rfl⟩ ⟨by rw [hR]; exact lroom3 hj, by rw [hR]; exact lroom4 hj⟩ rfl (Nat.le_of_ble_eq_true rfl) dL_law_437 ?_
          refine g_pop (pc := 440) hC rfl dL_law_440 ?_
          refine g_goto (pc := 441) (tgt := 1028) hC dL_law_441 (by decide) ?_
          refine g_iinc (pc := 1028) hC (v := (4 : Int32)) rfl (by decide) rfl rfl dL_law_1028 ?_
          refine g_goto (pc := 1031) (tgt := 23) hC dL_law_1031 (by decide) ?_
          exact g_wd (by omega) (by omega) (ih (i + (4 : Int32)) s32 s34)
        · refine ⟨_, _, _, rfl, by decide, rfl, by decide, ?_⟩
          unfold Lw_c9
          refine g_aload_n (pc := 444) hC rfl dL_law_444 ?_
          refine g_aload_n (pc := 445) hC rfl dL_law_445 ?_
          refine g_iload (pc := 446) hC rfl dL_law_446 ?_
          refine g_iconst (pc := 448) hC (v := (1 : Int32)) (by decide) dL_law_448 ?_
          refine g_iadd (pc := 449) hC dL_law_449 ?_
          refine g_sld (pc := 450) hC hK dL_law_450 ?_
          refine g_aload_n (pc := 451) hC rfl dL_law_451 ?_
          refine g_iload (pc := 452) hC rfl dL_law_452 ?_
          refine g_iconst (pc := 454) hC (v := (2 : Int32)) (by decide) dL_law_454 ?_
          refine g_iadd (pc := 455) hC dL_law_455 ?_
          refine g_sld (pc := 456) hC hK dL_law_456 ?_
          refine g_ob2 (fun r35 s36 hf => ?_)
          refine g_callC (pc := 457) (rest := []) [.int (xs (i + (1 : Int32)).toNatClampNeg), .int (xs (i + (2 : Int32)).toNatClampNeg)] hC hK (c_D_set (kl κ) w1 hK.1 N (xs (i + (1 : Int32)).toNatClampNeg) (xs (i + (2 : Int32)).toNatClampNeg) σ r35 s36 hf) o_X9_set k_494 (ci := 9) rfl rfl ⟨by rw [hR]; exact Nat.le_of_ble_eq_true rfl, by rw [hR]; exact Nat.le_of_ble_eq_true rfl⟩ ⟨by rw [hR]; exact lroom3 hj, by rw [hR]; exact lroom4 hj⟩ rfl (Nat.le_of_ble_eq_true rfl) dL_law_457 ?_
          refine g_pop (pc := 460) hC rfl dL_law_460 ?_
          refine g_aload_n (pc := 461) hC rfl dL_law_461 ?_
          refine g_aload_n (pc := 462) hC rfl dL_law_462 ?_
          refine g_iload (pc := 463) hC rfl dL_law_463 ?_
          refine g_iconst (pc := 465) hC (v := (1 : Int32)) (by decide) dL_law_465 ?_
          refine g_iadd (pc := 466) hC dL_law_466 ?_
          refine g_sld (pc := 467) hC hK dL_law_467 ?_
          refine g_aload_n (pc := 468) hC rfl dL_law_468 ?_
          refine g_iload (pc := 469) hC rfl dL_law_469 ?_
          refine g_iconst (pc := 471) hC (v := (2 : Int32)) (by decide) dL_law_471 ?_
          refine g_iadd (pc := 472) hC dL_law_472 ?_
          refine g_sld (pc := 473) hC hK dL_law_473 ?_
          refine g_ob2 (fun r37 s38 hf => ?_)
          refine g_callM (pc := 474) (rest := []) [.int (xs (i + (1 : Int32)).toNatClampNeg), .int (xs (i + (2 : Int32)).toNatClampNeg)] hC hK (c_M_set (kl κ) w2 hK.2.1 N (xs (i + (1 : Int32)).toNatClampNeg) (xs (i + (2 : Int32)).toNatClampNeg) μ r37 s38 hf) o_X10_set k_1285 (ci := 10) rfl rfl ⟨by rw [hR]; exact Nat.le_of_ble_eq_true rfl, by rw [hR]; exact Nat.le_of_ble_eq_true rfl⟩ ⟨by rw [hR]; exact lroom3 hj, by rw [hR]; exact lroom4 hj⟩ rfl (Nat.le_of_ble_eq_true rfl) dL_law_474 ?_
          refine g_pop (pc := 477) hC rfl dL_law_477 ?_
          refine g_goto (pc := 478) (tgt := 1028) hC dL_law_478 (by decide) ?_
          refine g_iinc (pc := 1028) hC (v := (4 : Int32)) rfl (by decide) rfl rfl dL_law_1028 ?_
          refine g_goto (pc := 1031) (tgt := 23) hC dL_law_1031 (by decide) ?_
          exact g_wd (by omega) (by omega) (ih (i + (4 : Int32)) s36 s38)
        · refine ⟨_, _, _, rfl, by decide, rfl, by decide, ?_⟩
          unfold Lw_c10
          refine g_aload_n (pc := 481) hC rfl dL_law_481 ?_
          refine g_aload_n (pc := 482) hC rfl dL_law_482 ?_
          refine g_iload (pc := 483) hC rfl dL_law_483 ?_
          refine g_iconst (pc := 485) hC (v := (1 : Int32)) (by decide) dL_law_485 ?_
          refine g_iadd (pc := 486) hC dL_law_486 ?_
          refine g_sld (pc := 487) hC hK dL_law_487 ?_
          refine g_aload_n (pc := 488) hC rfl dL_law_488 ?_
          refine g_iload (pc := 489) hC rfl dL_law_489 ?_
          refine g_iconst (pc := 491) hC (v := (2 : Int32)) (by decide) dL_law_491 ?_
          refine g_iadd (pc := 492) hC dL_law_492 ?_
          refine g_sld (pc := 493) hC hK dL_law_493 ?_
          refine g_ob2 (fun r39 s40 hf => ?_)
          refine g_callC (pc := 494) (rest := []) [.int (xs (i + (1 : Int32)).toNatClampNeg), .int (xs (i + (2 : Int32)).toNatClampNeg)] hC hK (c_D_praised (kl κ) w1 hK.1 N (xs (i + (1 : Int32)).toNatClampNeg) (xs (i + (2 : Int32)).toNatClampNeg) σ r39 s40 hf) o_X9_praised k_655 (ci := 9) rfl rfl ⟨by rw [hR]; exact Nat.le_of_ble_eq_true rfl, by rw [hR]; exact Nat.le_of_ble_eq_true rfl⟩ ⟨by rw [hR]; exact lroom3 hj, by rw [hR]; exact lroom4 hj⟩ rfl (Nat.le_of_ble_eq_true rfl) dL_law_494 ?_
          refine g_pop (pc := 497) hC rfl dL_law_497 ?_
          refine g_aload_n (pc := 498) hC rfl dL_law_498 ?_
          refine g_aload_n (pc := 499) hC rfl dL_law_499 ?_
          refine g_iload (pc := 500) hC rfl dL_law_500 ?_
          refine g_iconst (pc := 502) hC (v := (1 : Int32)) (by decide) dL_law_502 ?_
          refine g_iadd (pc := 503) hC dL_law_503 ?_
          refine g_sld (pc := 504) hC hK dL_law_504 ?_
          refine g_aload_n (pc := 505) hC rfl dL_law_505 ?_
          refine g_iload (pc := 506) hC rfl dL_law_506 ?_
          refine g_iconst (pc := 508) hC (v := (2 : Int32)) (by decide) dL_law_508 ?_
          refine g_iadd (pc := 509) hC dL_law_509 ?_
          refine g_sld (pc := 510) hC hK dL_law_510 ?_
          refine g_ob2 (fun r41 s42 hf => ?_)
          refine g_callM (pc := 511) (rest := []) [.int (xs (i + (1 : Int32)).toNatClampNeg), .int (xs (i + (2 : Int32)).toNatClampNeg)] hC hK (c_M_praised (kl κ) w2 hK.2.1 N (xs (i + (1 : Int32)).toNatClampNeg) (xs (i + (2 : Int32)).toNatClampNeg) μ r41 s42 hf) o_X10_praised k_1395 (ci := 10) rfl rfl ⟨by rw [hR]; exact Nat.le_of_ble_eq_true rfl, by rw [hR]; exact Nat.le_of_ble_eq_true rfl⟩ ⟨by rw [hR]; exact lroom3 hj, by rw [hR]; exact lroom4 hj⟩ rfl (Nat.le_of_ble_eq_true rfl) dL_law_511 ?_
          refine g_pop (pc := 514) hC rfl dL_law_514 ?_
          refine g_goto (pc := 515) (tgt := 1028) hC dL_law_515 (by decide) ?_
          refine g_iinc (pc := 1028) hC (v := (4 : Int32)) rfl (by decide) rfl rfl dL_law_1028 ?_
          refine g_goto (pc := 1031) (tgt := 23) hC dL_law_1031 (by decide) ?_
          exact g_wd (by omega) (by omega) (ih (i + (4 : Int32)) s40 s42)
        · refine ⟨_, _, _, rfl, by decide, rfl, by decide, ?_⟩
          unfold Lw_c11
          refine g_aload_n (pc := 518) hC rfl dL_law_518 ?_
          refine g_aload_n (pc := 519) hC rfl dL_law_519 ?_
          refine g_iload (pc := 520) hC rfl dL_law_520 ?_
          refine g_iconst (pc := 522) hC (v := (1 : Int32)) (by decide) dL_law_522 ?_
          refine g_iadd (pc := 523) hC dL_law_523 ?_
          refine g_sld (pc := 524) hC hK dL_law_524 ?_
          refine g_ob2 (fun r43 s44 hf => ?_)
          refine g_callC (pc := 525) (rest := []) [.int (xs (i + (1 : Int32)).toNatClampNeg)] hC hK (c_D_within (kl κ) w1 hK.1 N (xs (i + (1 : Int32)).toNatClampNeg) σ r43 s44 hf) o_X9_within k_660 (ci := 9) rfl rfl ⟨by rw [hR]; exact Nat.le_of_ble_eq_true rfl, by rw [hR]; exact Nat.le_of_ble_eq_true rfl⟩ ⟨by rw [hR]; exact lroom3 hj, by rw [hR]; exact lroom4 hj⟩ rfl (Nat.le_of_ble_eq_true rfl) dL_law_525 ?_
          refine g_aload_n (pc := 528) hC rfl dL_law_528 ?_
          refine g_aload_n (pc := 529) hC rfl dL_law_529 ?_
          refine g_iload (pc := 530) hC rfl dL_law_530 ?_
          refine g_iconst (pc := 532) hC (v := (1 : Int32)) (by decide) dL_law_532 ?_
          refine g_iadd (pc := 533) hC dL_law_533 ?_
          refine g_sld (pc := 534) hC hK dL_law_534 ?_
          refine g_ob2 (fun r45 s46 hf => ?_)
          refine g_callM (pc := 535) (rest := [.int r43]) [.int (xs (i + (1 : Int32)).toNatClampNeg)] hC hK (c_M_within (kl κ) w2 hK.2.1 N (xs (i + (1 : Int32)).toNatClampNeg) μ r45 s46 hf) o_X10_within k_1400 (ci := 10) rfl rfl ⟨by rw [hR]; exact Nat.le_of_ble_eq_true rfl, by rw [hR]; exact Nat.le_of_ble_eq_true rfl⟩ ⟨by rw [hR]; exact lroom3 hj, by rw [hR]; exact lroom4 hj⟩ rfl (Nat.le_of_ble_eq_true rfl) dL_law_535 ?_
          refine g_icmp_eq (pc := 538) (tgt := 1028) hC dL_law_538 (by decide) ?_ ?_
          · refine g_iinc (pc := 1028) hC (v := (4 : Int32)) rfl (by decide) rfl rfl dL_law_1028 ?_
            refine g_goto (pc := 1031) (tgt := 23) hC dL_law_1031 (by decide) ?_
            exact g_wd (by omega) (by omega) (ih (i + (4 : Int32)) s44 s46)
          · exact g_no
        · refine ⟨_, _, _, rfl, by decide, rfl, by decide, ?_⟩
          unfold Lw_c12
          refine g_aload_n (pc := 543) hC rfl dL_law_543 ?_
          refine g_aload_n (pc := 544) hC rfl dL_law_544 ?_
          refine g_iload (pc := 545) hC rfl dL_law_545 ?_
          refine g_iconst (pc := 547) hC (v := (1 : Int32)) (by decide) dL_law_547 ?_
          refine g_iadd (pc := 548) hC dL_law_548 ?_
          refine g_sld (pc := 549) hC hK dL_law_549 ?_
          refine g_aload_n (pc := 550) hC rfl dL_law_550 ?_
          refine g_iload (pc := 551) hC rfl dL_law_551 ?_
          refine g_iconst (pc := 553) hC (v := (2 : Int32)) (by decide) dL_law_553 ?_
          refine g_iadd (pc := 554) hC dL_law_554 ?_
          refine g_sld (pc := 555) hC hK dL_law_555 ?_
          refine g_aload_n (pc := 556) hC rfl dL_law_556 ?_
          refine g_iload (pc := 557) hC rfl dL_law_557 ?_
          refine g_iconst (pc := 559) hC (v := (3 : Int32)) (by decide) dL_law_559 ?_
          refine g_iadd (pc := 560) hC dL_law_560 ?_
          refine g_sld (pc := 561) hC hK dL_law_561 ?_
          refine g_ob2 (fun r47 s48 hf => ?_)
          refine g_callC (pc := 562) (rest := []) [.int (xs (i + (1 : Int32)).toNatClampNeg), .int (xs (i + (2 : Int32)).toNatClampNeg), .int (xs (i + (3 : Int32)).toNatClampNeg)] hC hK (c_D_chain (kl κ) w1 hK.1 N (xs (i + (1 : Int32)).toNatClampNeg) (xs (i + (2 : Int32)).toNatClampNeg) (xs (i + (3 : Int32)).toNatClampNeg) σ r47 s48 hf) o_X9_chain k_672 (ci := 9) rfl rfl ⟨by rw [hR]; exact Nat.le_of_ble_eq_true rfl, by rw [hR]; exact Nat.le_of_ble_eq_true rfl⟩ ⟨by rw [hR]; exact lroom3 hj, by rw [hR]; exact lroom4 hj⟩ rfl (Nat.le_of_ble_eq_true rfl) dL_law_562 ?_
          refine g_pop (pc := 565) hC rfl dL_law_565 ?_
          refine g_aload_n (pc := 566) hC rfl dL_law_566 ?_
          refine g_aload_n (pc := 567) hC rfl dL_law_567 ?_
          refine g_iload (pc := 568) hC rfl dL_law_568 ?_
          refine g_iconst (pc := 570) hC (v := (1 : Int32)) (by decide) dL_law_570 ?_
          refine g_iadd (pc := 571) hC dL_law_571 ?_
          refine g_sld (pc := 572) hC hK dL_law_572 ?_
          refine g_aload_n (pc := 573) hC rfl dL_law_573 ?_
          refine g_iload (pc := 574) hC rfl dL_law_574 ?_
          refine g_iconst (pc := 576) hC (v := (2 : Int32)) (by decide) dL_law_576 ?_
          refine g_iadd (pc := 577) hC dL_law_577 ?_
          refine g_sld (pc := 578) hC hK dL_law_578 ?_
          refine g_aload_n (pc := 579) hC rfl dL_law_579 ?_
          refine g_iload (pc := 580) hC rfl dL_law_580 ?_
          refine g_iconst (pc := 582) hC (v := (3 : Int32)) (by decide) dL_law_582 ?_
          refine g_iadd (pc := 583) hC dL_law_583 ?_
          refine g_sld (pc := 584) hC hK dL_law_584 ?_
          refine g_ob2 (fun r49 s50 hf => ?_)
          refine g_callM (pc := 585) (rest := []) [.int (xs (i + (1 : Int32)).toNatClampNeg), .int (xs (i + (2 : Int32)).toNatClampNeg), .int (xs (i + (3 : Int32)).toNatClampNeg)] hC hK (c_M_chain (kl κ) w2 hK.2.1 N (xs (i + (1 : Int32)).toNatClampNeg) (xs (i + (2 : Int32)).toNatClampNeg) (xs (i + (3 : Int32)).toNatClampNeg) μ r49 s50 hf) o_X10_chain k_1404 (ci := 10) rfl rfl ⟨by rw [hR]; exact Nat.le_of_ble_eq_true rfl, by rw [hR]; exact Nat.le_of_ble_eq_true rfl⟩ ⟨by rw [hR]; exact lroom3 hj, by rw [hR]; exact lroom4 hj⟩ rfl (Nat.le_of_ble_eq_true rfl) dL_law_585 ?_
          refine g_pop (pc := 588) hC rfl dL_law_588 ?_
          refine g_goto (pc := 589) (tgt := 1028) hC dL_law_589 (by decide) ?_
          refine g_iinc (pc := 1028) hC (v := (4 : Int32)) rfl (by decide) rfl rfl dL_law_1028 ?_
          refine g_goto (pc := 1031) (tgt := 23) hC dL_law_1031 (by decide) ?_
          exact g_wd (by omega) (by omega) (ih (i + (4 : Int32)) s48 s50)
        · refine ⟨_, _, _, rfl, by decide, rfl, by decide, ?_⟩
          unfold Lw_c13
          refine g_aload_n (pc := 592) hC rfl dL_law_592 ?_
          refine g_aload_n (pc := 593) hC rfl dL_law_593 ?_
          refine g_iload (pc := 594) hC rfl dL_law_594 ?_
          refine g_iconst (pc := 596) hC (v := (1 : Int32)) (by decide) dL_law_596 ?_
          refine g_iadd (pc := 597) hC dL_law_597 ?_
          refine g_sld (pc := 598) hC hK dL_law_598 ?_
          refine g_ob2 (fun r51 s52 hf => ?_)
          refine g_callC (pc := 599) (rest := []) [.int (xs (i + (1 : Int32)).toNatClampNeg)] hC hK (c_D_best (kl κ) w1 hK.1 N (xs (i + (1 : Int32)).toNatClampNeg) σ r51 s52 hf) o_X9_best k_677 (ci := 9) rfl rfl ⟨by rw [hR]; exact Nat.le_of_ble_eq_true rfl, by rw [hR]; exact Nat.le_of_ble_eq_true rfl⟩ ⟨by rw [hR]; exact lroom3 hj, by rw [hR]; exact lroom4 hj⟩ rfl (Nat.le_of_ble_eq_true rfl) dL_law_599 ?_
          refine g_pop (pc := 602) hC rfl dL_law_602 ?_
          refine g_aload_n (pc := 603) hC rfl dL_law_603 ?_
          refine g_aload_n (pc := 604) hC rfl dL_law_604 ?_
          refine g_iload (pc := 605) hC rfl dL_law_605 ?_
          refine g_iconst (pc := 607) hC (v := (1 : Int32)) (by decide) dL_law_607 ?_
          refine g_iadd (pc := 608) hC dL_law_608 ?_
          refine g_sld (pc := 609) hC hK dL_law_609 ?_
          refine g_ob2 (fun r53 s54 hf => ?_)
          refine g_callM (pc := 610) (rest := []) [.int (xs (i + (1 : Int32)).toNatClampNeg)] hC hK (c_M_best (kl κ) w2 hK.2.1 N (xs (i + (1 : Int32)).toNatClampNeg) μ r53 s54 hf) o_X10_best k_1408 (ci := 10) rfl rfl ⟨by rw [hR]; exact Nat.le_of_ble_eq_true rfl, by rw [hR]; exact Nat.le_of_ble_eq_true rfl⟩ ⟨by rw [hR]; exact lroom3 hj, by rw [hR]; exact lroom4 hj⟩ rfl (Nat.le_of_ble_eq_true rfl) dL_law_610 ?_
          refine g_pop (pc := 613) hC rfl dL_law_613 ?_
          refine g_goto (pc := 614) (tgt := 1028) hC dL_law_614 (by decide) ?_
          refine g_iinc (pc := 1028) hC (v := (4 : Int32)) rfl (by decide) rfl rfl dL_law_1028 ?_
          refine g_goto (pc := 1031) (tgt := 23) hC dL_law_1031 (by decide) ?_
          exact g_wd (by omega) (by omega) (ih (i + (4 : Int32)) s52 s54)
        · refine ⟨_, _, _, rfl, by decide, rfl, by decide, ?_⟩
          unfold Lw_c14
          refine g_aload_n (pc := 617) hC rfl dL_law_617 ?_
          refine g_aload_n (pc := 618) hC rfl dL_law_618 ?_
          refine g_iload (pc := 619) hC rfl dL_law_619 ?_
          refine g_iconst (pc := 621) hC (v := (1 : Int32)) (by decide) dL_law_621 ?_
          refine g_iadd (pc := 622) hC dL_law_622 ?_
          refine g_sld (pc := 623) hC hK dL_law_623 ?_
          refine g_ob2 (fun r55 s56 hf => ?_)
          refine g_callC (pc := 624) (rest := []) [.int (xs (i + (1 : Int32)).toNatClampNeg)] hC hK (c_D_byWins (kl κ) w1 hK.1 N (xs (i + (1 : Int32)).toNatClampNeg) σ r55 s56 hf) o_X9_byWins k_697 (ci := 9) rfl rfl ⟨by rw [hR]; exact Nat.le_of_ble_eq_true rfl, by rw [hR]; exact Nat.le_of_ble_eq_true rfl⟩ ⟨by rw [hR]; exact lroom3 hj, by rw [hR]; exact lroom4 hj⟩ rfl (Nat.le_of_ble_eq_true rfl) dL_law_624 ?_
          refine g_pop (pc := 627) hC rfl dL_law_627 ?_
          refine g_aload_n (pc := 628) hC rfl dL_law_628 ?_
          refine g_aload_n (pc := 629) hC rfl dL_law_629 ?_
          refine g_iload (pc := 630) hC rfl dL_law_630 ?_
          refine g_iconst (pc := 632) hC (v := (1 : Int32)) (by decide) dL_law_632 ?_
          refine g_iadd (pc := 633) hC dL_law_633 ?_
          refine g_sld (pc := 634) hC hK dL_law_634 ?_
          refine g_ob2 (fun r57 s58 hf => ?_)
          refine g_callM (pc := 635) (rest := []) [.int (xs (i + (1 : Int32)).toNatClampNeg)] hC hK (c_M_byWins (kl κ) w2 hK.2.1 N (xs (i + (1 : Int32)).toNatClampNeg) μ r57 s58 hf) o_X10_byWins k_1417 (ci := 10) rfl rfl ⟨by rw [hR]; exact Nat.le_of_ble_eq_true rfl, by rw [hR]; exact Nat.le_of_ble_eq_true rfl⟩ ⟨by rw [hR]; exact lroom3 hj, by rw [hR]; exact lroom4 hj⟩ rfl (Nat.le_of_ble_eq_true rfl) dL_law_635 ?_
          refine g_pop (pc := 638) hC rfl dL_law_638 ?_
          refine g_goto (pc := 639) (tgt := 1028) hC dL_law_639 (by decide) ?_
          refine g_iinc (pc := 1028) hC (v := (4 : Int32)) rfl (by decide) rfl rfl dL_law_1028 ?_
          refine g_goto (pc := 1031) (tgt := 23) hC dL_law_1031 (by decide) ?_
          exact g_wd (by omega) (by omega) (ih (i + (4 : Int32)) s56 s58)
        · refine ⟨_, _, _, rfl, by decide, rfl, by decide, ?_⟩
          unfold Lw_c15
          refine g_aload_n (pc := 642) hC rfl dL_law_642 ?_
          refine g_aload_n (pc := 643) hC rfl dL_law_643 ?_
          refine g_iload (pc := 644) hC rfl dL_law_644 ?_
          refine g_iconst (pc := 646) hC (v := (1 : Int32)) (by decide) dL_law_646 ?_
          refine g_iadd (pc := 647) hC dL_law_647 ?_
          refine g_sld (pc := 648) hC hK dL_law_648 ?_
          refine g_aload_n (pc := 649) hC rfl dL_law_649 ?_
          refine g_iload (pc := 650) hC rfl dL_law_650 ?_
          refine g_iconst (pc := 652) hC (v := (2 : Int32)) (by decide) dL_law_652 ?_
          refine g_iadd (pc := 653) hC dL_law_653 ?_
          refine g_sld (pc := 654) hC hK dL_law_654 ?_
          refine g_ob2 (fun r59 s60 hf => ?_)
          refine g_callC (pc := 655) (rest := []) [.int (xs (i + (1 : Int32)).toNatClampNeg), .int (xs (i + (2 : Int32)).toNatClampNeg)] hC hK (c_D_weight (kl κ) w1 hK.1 N (xs (i + (1 : Int32)).toNatClampNeg) (xs (i + (2 : Int32)).toNatClampNeg) σ r59 s60 hf) o_X9_weight k_706 (ci := 9) rfl rfl ⟨by rw [hR]; exact Nat.le_of_ble_eq_true rfl, by rw [hR]; exact Nat.le_of_ble_eq_true rfl⟩ ⟨by rw [hR]; exact lroom3 hj, by rw [hR]; exact lroom4 hj⟩ rfl (Nat.le_of_ble_eq_true rfl) dL_law_655 ?_
          refine g_pop (pc := 658) hC rfl dL_law_658 ?_
          refine g_aload_n (pc := 659) hC rfl dL_law_659 ?_
          refine g_aload_n (pc := 660) hC rfl dL_law_660 ?_
          refine g_iload (pc := 661) hC rfl dL_law_661 ?_
          refine g_iconst (pc := 663) hC (v := (1 : Int32)) (by decide) dL_law_663 ?_
          refine g_iadd (pc := 664) hC dL_law_664 ?_
          refine g_sld (pc := 665) hC hK dL_law_665 ?_
          refine g_aload_n (pc := 666) hC rfl dL_law_666 ?_
          refine g_iload (pc := 667) hC rfl dL_law_667 ?_
          refine g_iconst (pc := 669) hC (v := (2 : Int32)) (by decide) dL_law_669 ?_
          refine g_iadd (pc := 670) hC dL_law_670 ?_
          refine g_sld (pc := 671) hC hK dL_law_671 ?_
          refine g_ob2 (fun r61 s62 hf => ?_)
          refine g_callM (pc := 672) (rest := []) [.int (xs (i + (1 : Int32)).toNatClampNeg), .int (xs (i + (2 : Int32)).toNatClampNeg)] hC hK (c_M_weight (kl κ) w2 hK.2.1 N (xs (i + (1 : Int32)).toNatClampNeg) (xs (i + (2 : Int32)).toNatClampNeg) μ r61 s62 hf) o_X10_weight k_1421 (ci := 10) rfl rfl ⟨by rw [hR]; exact Nat.le_of_ble_eq_true rfl, by rw [hR]; exact Nat.le_of_ble_eq_true rfl⟩ ⟨by rw [hR]; exact lroom3 hj, by rw [hR]; exact lroom4 hj⟩ rfl (Nat.le_of_ble_eq_true rfl) dL_law_672 ?_
          refine g_pop (pc := 675) hC rfl dL_law_675 ?_
          refine g_goto (pc := 676) (tgt := 1028) hC dL_law_676 (by decide) ?_
          refine g_iinc (pc := 1028) hC (v := (4 : Int32)) rfl (by decide) rfl rfl dL_law_1028 ?_
          refine g_goto (pc := 1031) (tgt := 23) hC dL_law_1031 (by decide) ?_
          exact g_wd (by omega) (by omega) (ih (i + (4 : Int32)) s60 s62)
        · refine ⟨_, _, _, rfl, by decide, rfl, by decide, ?_⟩
          unfold Lw_c16
          refine g_aload_n (pc := 679) hC rfl dL_law_679 ?_
          refine g_aload_n (pc := 680) hC rfl dL_law_680 ?_
          refine g_iload (pc := 681) hC rfl dL_law_681 ?_
          refine g_iconst (pc := 683) hC (v := (1 : Int32)) (by decide) dL_law_683 ?_
          refine g_iadd (pc := 684) hC dL_law_684 ?_
          refine g_sld (pc := 685) hC hK dL_law_685 ?_
          refine g_aload_n (pc := 686) hC rfl dL_law_686 ?_
          refine g_iload (pc := 687) hC rfl dL_law_687 ?_
          refine g_iconst (pc := 689) hC (v := (2 : Int32)) (by decide) dL_law_689 ?_
          refine g_iadd (pc := 690) hC dL_law_690 ?_
          refine g_sld (pc := 691) hC hK dL_law_691 ?_
          refine g_ob2 (fun r63 s64 hf => ?_)
          refine g_callC (pc := 692) (rest := []) [.int (xs (i + (1 : Int32)).toNatClampNeg), .int (xs (i + (2 : Int32)).toNatClampNeg)] hC hK (c_D_keeps (kl κ) w1 hK.1 N (xs (i + (1 : Int32)).toNatClampNeg) (xs (i + (2 : Int32)).toNatClampNeg) σ r63 s64 hf) o_X9_keeps k_713 (ci := 9) rfl rfl ⟨by rw [hR]; exact Nat.le_of_ble_eq_true rfl, by rw [hR]; exact Nat.le_of_ble_eq_true rfl⟩ ⟨by rw [hR]; exact lroom3 hj, by rw [hR]; exact lroom4 hj⟩ rfl (Nat.le_of_ble_eq_true rfl) dL_law_692 ?_
          refine g_pop (pc := 695) hC rfl dL_law_695 ?_
          refine g_aload_n (pc := 696) hC rfl dL_law_696 ?_
          refine g_aload_n (pc := 697) hC rfl dL_law_697 ?_
          refine g_iload (pc := 698) hC rfl dL_law_698 ?_
          refine g_iconst (pc := 700) hC (v := (1 : Int32)) (by decide) dL_law_700 ?_
          refine g_iadd (pc := 701) hC dL_law_701 ?_
          refine g_sld (pc := 702) hC hK dL_law_702 ?_
          refine g_aload_n (pc := 703) hC rfl dL_law_703 ?_
          refine g_iload (pc := 704) hC rfl dL_law_704 ?_
          refine g_iconst (pc := 706) hC (v := (2 : Int32)) (by decide) dL_law_706 ?_
          refine g_iadd (pc := 707) hC dL_law_707 ?_
          refine g_sld (pc := 708) hC hK dL_law_708 ?_
          refine g_ob2 (fun r65 s66 hf => ?_)
          refine g_callM (pc := 709) (rest := []) [.int (xs (i + (1 : Int32)).toNatClampNeg), .int (xs (i + (2 : Int32)).toNatClampNeg)] hC hK (c_M_keeps (kl κ) w2 hK.2.1 N (xs (i + (1 : Int32)).toNatClampNeg) (xs (i + (2 : Int32)).toNatClampNeg) μ r65 s66 hf) o_X10_keeps k_1426 (ci := 10) rfl rfl ⟨by rw [hR]; exact Nat.le_of_ble_eq_true rfl, by rw [hR]; exact Nat.le_of_ble_eq_true rfl⟩ ⟨by rw [hR]; exact lroom3 hj, by rw [hR]; exact lroom4 hj⟩ rfl (Nat.le_of_ble_eq_true rfl) dL_law_709 ?_
          refine g_pop (pc := 712) hC rfl dL_law_712 ?_
          refine g_goto (pc := 713) (tgt := 1028) hC dL_law_713 (by decide) ?_
          refine g_iinc (pc := 1028) hC (v := (4 : Int32)) rfl (by decide) rfl rfl dL_law_1028 ?_
          refine g_goto (pc := 1031) (tgt := 23) hC dL_law_1031 (by decide) ?_
          exact g_wd (by omega) (by omega) (ih (i + (4 : Int32)) s64 s66)
        · refine ⟨_, _, _, rfl, by decide, rfl, by decide, ?_⟩
          unfold Lw_c17
          refine g_aload_n (pc := 716) hC rfl dL_law_716 ?_
          refine g_aload_n (pc := 717) hC rfl dL_law_717 ?_
          refine g_iload (pc := 718) hC rfl dL_law_718 ?_
          refine g_iconst (pc := 720) hC (v := (1 : Int32)) (by decide) dL_law_720 ?_
          refine g_iadd (pc := 721) hC dL_law_721 ?_
          refine g_sld (pc := 722) hC hK dL_law_722 ?_
          refine g_aload_n (pc := 723) hC rfl dL_law_723 ?_
          refine g_iload (pc := 724) hC rfl dL_law_724 ?_
          refine g_iconst (pc := 726) hC (v := (2 : Int32)) (by decide) dL_law_726 ?_
          refine g_iadd (pc := 727) hC dL_law_727 ?_
          refine g_sld (pc := 728) hC hK dL_law_728 ?_
          refine g_ob2 (fun r67 s68 hf => ?_)
          refine g_callC (pc := 729) (rest := []) [.int (xs (i + (1 : Int32)).toNatClampNeg), .int (xs (i + (2 : Int32)).toNatClampNeg)] hC hK (c_D_is (kl κ) w1 hK.1 N (xs (i + (1 : Int32)).toNatClampNeg) (xs (i + (2 : Int32)).toNatClampNeg) σ r67 s68 hf) o_X9_is k_718 (ci := 9) rfl rfl ⟨by rw [hR]; exact Nat.le_of_ble_eq_true rfl, by rw [hR]; exact Nat.le_of_ble_eq_true rfl⟩ ⟨by rw [hR]; exact lroom3 hj, by rw [hR]; exact lroom4 hj⟩ rfl (Nat.le_of_ble_eq_true rfl) dL_law_729 ?_
          refine g_pop (pc := 732) hC rfl dL_law_732 ?_
          refine g_aload_n (pc := 733) hC rfl dL_law_733 ?_
          refine g_aload_n (pc := 734) hC rfl dL_law_734 ?_
          refine g_iload (pc := 735) hC rfl dL_law_735 ?_
          refine g_iconst (pc := 737) hC (v := (1 : Int32)) (by decide) dL_law_737 ?_
          refine g_iadd (pc := 738) hC dL_law_738 ?_
          refine g_sld (pc := 739) hC hK dL_law_739 ?_
          refine g_aload_n (pc := 740) hC rfl dL_law_740 ?_
          refine g_iload (pc := 741) hC rfl dL_law_741 ?_
          refine g_iconst (pc := 743) hC (v := (2 : Int32)) (by decide) dL_law_743 ?_
          refine g_iadd (pc := 744) hC dL_law_744 ?_
          refine g_sld (pc := 745) hC hK dL_law_745 ?_
          refine g_ob2 (fun r69 s70 hf => ?_)
          refine g_callM (pc := 746) (rest := []) [.int (xs (i + (1 : Int32)).toNatClampNeg), .int (xs (i + (2 : Int32)).toNatClampNeg)] hC hK (c_M_is (kl κ) w2 hK.2.1 N (xs (i + (1 : Int32)).toNatClampNeg) (xs (i + (2 : Int32)).toNatClampNeg) μ r69 s70 hf) o_X10_is k_1430 (ci := 10) rfl rfl ⟨by rw [hR]; exact Nat.le_of_ble_eq_true rfl, by rw [hR]; exact Nat.le_of_ble_eq_true rfl⟩ ⟨by rw [hR]; exact lroom3 hj, by rw [hR]; exact lroom4 hj⟩ rfl (Nat.le_of_ble_eq_true rfl) dL_law_746 ?_
          refine g_pop (pc := 749) hC rfl dL_law_749 ?_
          refine g_goto (pc := 750) (tgt := 1028) hC dL_law_750 (by decide) ?_
          refine g_iinc (pc := 1028) hC (v := (4 : Int32)) rfl (by decide) rfl rfl dL_law_1028 ?_
          refine g_goto (pc := 1031) (tgt := 23) hC dL_law_1031 (by decide) ?_
          exact g_wd (by omega) (by omega) (ih (i + (4 : Int32)) s68 s70)
        · refine ⟨_, _, _, rfl, by decide, rfl, by decide, ?_⟩
          unfold Lw_c18
          refine g_aload_n (pc := 753) hC rfl dL_law_753 ?_
          refine g_aload_n (pc := 754) hC rfl dL_law_754 ?_
          refine g_iload (pc := 755) hC rfl dL_law_755 ?_
          refine g_iconst (pc := 757) hC (v := (1 : Int32)) (by decide) dL_law_757 ?_
          refine g_iadd (pc := 758) hC dL_law_758 ?_
          refine g_sld (pc := 759) hC hK dL_law_759 ?_
          refine g_aload_n (pc := 760) hC rfl dL_law_760 ?_
          refine g_iload (pc := 761) hC rfl dL_law_761 ?_
          refine g_iconst (pc := 763) hC (v := (2 : Int32)) (by decide) dL_law_763 ?_
          refine g_iadd (pc := 764) hC dL_law_764 ?_
          refine g_sld (pc := 765) hC hK dL_law_765 ?_
          refine g_ob2 (fun r71 s72 hf => ?_)
          refine g_callC (pc := 766) (rest := []) [.int (xs (i + (1 : Int32)).toNatClampNeg), .int (xs (i + (2 : Int32)).toNatClampNeg)] hC hK (c_D_cup (kl κ) w1 hK.1 N (xs (i + (1 : Int32)).toNatClampNeg) (xs (i + (2 : Int32)).toNatClampNeg) σ r71 s72 hf) o_X9_cup k_727 (ci := 9) rfl rfl ⟨by rw [hR]; exact Nat.le_of_ble_eq_true rfl, by rw [hR]; exact Nat.le_of_ble_eq_true rfl⟩ ⟨by rw [hR]; exact lroom3 hj, by rw [hR]; exact lroom4 hj⟩ rfl (Nat.le_of_ble_eq_true rfl) dL_law_766 ?_
          refine g_pop (pc := 769) hC rfl dL_law_769 ?_
          refine g_aload_n (pc := 770) hC rfl dL_law_770 ?_
          refine g_aload_n (pc := 771) hC rfl dL_law_771 ?_
          refine g_iload (pc := 772) hC rfl dL_law_772 ?_
          refine g_iconst (pc := 774) hC (v := (1 : Int32)) (by decide) dL_law_774 ?_
          refine g_iadd (pc := 775) hC dL_law_775 ?_
          refine g_sld (pc := 776) hC hK dL_law_776 ?_
          refine g_aload_n (pc := 777) hC rfl dL_law_777 ?_
          refine g_iload (pc := 778) hC rfl dL_law_778 ?_
          refine g_iconst (pc := 780) hC (v := (2 : Int32)) (by decide) dL_law_780 ?_
          refine g_iadd (pc := 781) hC dL_law_781 ?_
          refine g_sld (pc := 782) hC hK dL_law_782 ?_
          refine g_ob2 (fun r73 s74 hf => ?_)
          refine g_callM (pc := 783) (rest := []) [.int (xs (i + (1 : Int32)).toNatClampNeg), .int (xs (i + (2 : Int32)).toNatClampNeg)] hC hK (c_M_cup (kl κ) w2 hK.2.1 N (xs (i + (1 : Int32)).toNatClampNeg) (xs (i + (2 : Int32)).toNatClampNeg) μ r73 s74 hf) o_X10_cup k_1442 (ci := 10) rfl rfl ⟨by rw [hR]; exact Nat.le_of_ble_eq_true rfl, by rw [hR]; exact Nat.le_of_ble_eq_true rfl⟩ ⟨by rw [hR]; exact lroom3 hj, by rw [hR]; exact lroom4 hj⟩ rfl (Nat.le_of_ble_eq_true rfl) dL_law_783 ?_
          refine g_pop (pc := 786) hC rfl dL_law_786 ?_
          refine g_goto (pc := 787) (tgt := 1028) hC dL_law_787 (by decide) ?_
          refine g_iinc (pc := 1028) hC (v := (4 : Int32)) rfl (by decide) rfl rfl dL_law_1028 ?_
          refine g_goto (pc := 1031) (tgt := 23) hC dL_law_1031 (by decide) ?_
          exact g_wd (by omega) (by omega) (ih (i + (4 : Int32)) s72 s74)
        · refine ⟨_, _, _, rfl, by decide, rfl, by decide, ?_⟩
          unfold Lw_c19
          refine g_aload_n (pc := 790) hC rfl dL_law_790 ?_
          refine g_aload_n (pc := 791) hC rfl dL_law_791 ?_
          refine g_iload (pc := 792) hC rfl dL_law_792 ?_
          refine g_iconst (pc := 794) hC (v := (1 : Int32)) (by decide) dL_law_794 ?_
          refine g_iadd (pc := 795) hC dL_law_795 ?_
          refine g_sld (pc := 796) hC hK dL_law_796 ?_
          refine g_ob2 (fun r75 s76 hf => ?_)
          refine g_callC (pc := 797) (rest := []) [.int (xs (i + (1 : Int32)).toNatClampNeg)] hC hK (c_D_winner (kl κ) w1 hK.1 N (xs (i + (1 : Int32)).toNatClampNeg) σ r75 s76 hf) o_X9_winner k_764 (ci := 9) rfl rfl ⟨by rw [hR]; exact Nat.le_of_ble_eq_true rfl, by rw [hR]; exact Nat.le_of_ble_eq_true rfl⟩ ⟨by rw [hR]; exact lroom3 hj, by rw [hR]; exact lroom4 hj⟩ rfl (Nat.le_of_ble_eq_true rfl) dL_law_797 ?_
          refine g_pop (pc := 800) hC rfl dL_law_800 ?_
          refine g_aload_n (pc := 801) hC rfl dL_law_801 ?_
          refine g_aload_n (pc := 802) hC rfl dL_law_802 ?_
          refine g_iload (pc := 803) hC rfl dL_law_803 ?_
          refine g_iconst (pc := 805) hC (v := (1 : Int32)) (by decide) dL_law_805 ?_
          refine g_iadd (pc := 806) hC dL_law_806 ?_
          refine g_sld (pc := 807) hC hK dL_law_807 ?_
          refine g_ob2 (fun r77 s78 hf => ?_)
          refine g_callM (pc := 808) (rest := []) [.int (xs (i + (1 : Int32)).toNatClampNeg)] hC hK (c_M_winner (kl κ) w2 hK.2.1 N (xs (i + (1 : Int32)).toNatClampNeg) μ r77 s78 hf) o_X10_winner k_1462 (ci := 10) rfl rfl ⟨by rw [hR]; exact Nat.le_of_ble_eq_true rfl, by rw [hR]; exact Nat.le_of_ble_eq_true rfl⟩ ⟨by rw [hR]; exact lroom3 hj, by rw [hR]; exact lroom4 hj⟩ rfl (Nat.le_of_ble_eq_true rfl) dL_law_808 ?_
          refine g_pop (pc := 811) hC rfl dL_law_811 ?_
          refine g_goto (pc := 812) (tgt := 1028) hC dL_law_812 (by decide) ?_
          refine g_iinc (pc := 1028) hC (v := (4 : Int32)) rfl (by decide) rfl rfl dL_law_1028 ?_
          refine g_goto (pc := 1031) (tgt := 23) hC dL_law_1031 (by decide) ?_
          exact g_wd (by omega) (by omega) (ih (i + (4 : Int32)) s76 s78)
        · refine ⟨_, _, _, rfl, by decide, rfl, by decide, ?_⟩
          unfold Lw_c20
          refine g_aload_n (pc := 815) hC rfl dL_law_815 ?_
          refine g_ob2 (fun r79 s80 hf => ?_)
          refine g_callC (pc := 816) (rest := []) [] hC hK (c_D_judge (kl κ) w1 hK.1 N σ r79 s80 hf) o_X9_judge k_772 (ci := 9) rfl rfl ⟨by rw [hR]; exact Nat.le_of_ble_eq_true rfl, by rw [hR]; exact Nat.le_of_ble_eq_true rfl⟩ ⟨by rw [hR]; exact lroom3 hj, by rw [hR]; exact lroom4 hj⟩ rfl (Nat.le_of_ble_eq_true rfl) dL_law_816 ?_
          refine g_pop (pc := 819) hC rfl dL_law_819 ?_
          refine g_aload_n (pc := 820) hC rfl dL_law_820 ?_
          refine g_ob2 (fun r81 s82 hf => ?_)
          refine g_callM (pc := 821) (rest := []) [] hC hK (c_M_judge (kl κ) w2 hK.2.1 N μ r81 s82 hf) o_X10_judge k_1466 (ci := 10) rfl rfl ⟨by rw [hR]; exact Nat.le_of_ble_eq_true rfl, by rw [hR]; exact Nat.le_of_ble_eq_true rfl⟩ ⟨by rw [hR]; exact lroom3 hj, by rw [hR]; exact lroom4 hj⟩ rfl (Nat.le_of_ble_eq_true rfl) dL_law_821 ?_
          refine g_pop (pc := 824) hC rfl dL_law_824 ?_
          refine g_goto (pc := 825) (tgt := 1028) hC dL_law_825 (by decide) ?_
          refine g_iinc (pc := 1028) hC (v := (4 : Int32)) rfl (by decide) rfl rfl dL_law_1028 ?_
          refine g_goto (pc := 1031) (tgt := 23) hC dL_law_1031 (by decide) ?_
          exact g_wd (by omega) (by omega) (ih (i + (4 : Int32)) s80 s82)
        · refine ⟨_, _, _, rfl, by decide, rfl, by decide, ?_⟩
          unfold Lw_c21
          refine g_aload_n (pc := 828) hC rfl dL_law_828 ?_
          refine g_aload_n (pc := 829) hC rfl dL_law_829 ?_
          refine g_iload (pc := 830) hC rfl dL_law_830 ?_
          refine g_iconst (pc := 832) hC (v := (1 : Int32)) (by decide) dL_law_832 ?_
          refine g_iadd (pc := 833) hC dL_law_833 ?_
          refine g_sld (pc := 834) hC hK dL_law_834 ?_
          refine g_callC (pc := 835) (rest := []) [.int (xs (i + (1 : Int32)).toNatClampNeg)] hC hK (c_D_judged (kl κ) w1 hK.1 (xs (i + (1 : Int32)).toNatClampNeg) σ) o_X9_judged k_874 (ci := 9) rfl rfl ⟨by rw [hR]; exact Nat.le_of_ble_eq_true rfl, by rw [hR]; exact Nat.le_of_ble_eq_true rfl⟩ ⟨by rw [hR]; exact lroom3 hj, by rw [hR]; exact lroom4 hj⟩ rfl (Nat.le_of_ble_eq_true rfl) dL_law_835 ?_
          refine g_pop (pc := 838) hC rfl dL_law_838 ?_
          refine g_aload_n (pc := 839) hC rfl dL_law_839 ?_
          refine g_aload_n (pc := 840) hC rfl dL_law_840 ?_
          refine g_iload (pc := 841) hC rfl dL_law_841 ?_
          refine g_iconst (pc := 843) hC (v := (1 : Int32)) (by decide) dL_law_843 ?_
          refine g_iadd (pc := 844) hC dL_law_844 ?_
          refine g_sld (pc := 845) hC hK dL_law_845 ?_
          refine g_ob2 (fun r83 s84 hf => ?_)
          refine g_callM (pc := 846) (rest := []) [.int (xs (i + (1 : Int32)).toNatClampNeg)] hC hK (c_M_judged (kl κ) w2 hK.2.1 (xs (i + (1 : Int32)).toNatClampNeg) μ r83 s84 hf) o_X10_judged k_1538 (ci := 10) rfl rfl ⟨by rw [hR]; exact Nat.le_of_ble_eq_true rfl, by rw [hR]; exact Nat.le_of_ble_eq_true rfl⟩ ⟨by rw [hR]; exact lroom3 hj, by rw [hR]; exact lroom4 hj⟩ rfl (Nat.le_of_ble_eq_true rfl) dL_law_846 ?_
          refine g_pop (pc := 849) hC rfl dL_law_849 ?_
          refine g_goto (pc := 850) (tgt := 1028) hC dL_law_850 (by decide) ?_
          refine g_iinc (pc := 1028) hC (v := (4 : Int32)) rfl (by decide) rfl rfl dL_law_1028 ?_
          refine g_goto (pc := 1031) (tgt := 23) hC dL_law_1031 (by decide) ?_
          exact g_wd (by omega) (by omega) (ih (i + (4 : Int32)) σ s84)
        · refine ⟨_, _, _, rfl, by decide, rfl, by decide, ?_⟩
          unfold Lw_c22
          refine g_aload_n (pc := 853) hC rfl dL_law_853 ?_
          refine g_aload_n (pc := 854) hC rfl dL_law_854 ?_
          refine g_iload (pc := 855) hC rfl dL_law_855 ?_
          refine g_iconst (pc := 857) hC (v := (1 : Int32)) (by decide) dL_law_857 ?_
          refine g_iadd (pc := 858) hC dL_law_858 ?_
          refine g_sld (pc := 859) hC hK dL_law_859 ?_
          refine g_aload_n (pc := 860) hC rfl dL_law_860 ?_
          refine g_iload (pc := 861) hC rfl dL_law_861 ?_
          refine g_iconst (pc := 863) hC (v := (2 : Int32)) (by decide) dL_law_863 ?_
          refine g_iadd (pc := 864) hC dL_law_864 ?_
          refine g_sld (pc := 865) hC hK dL_law_865 ?_
          refine g_ob2 (fun r85 s86 hf => ?_)
          refine g_callC (pc := 866) (rest := []) [.int (xs (i + (1 : Int32)).toNatClampNeg), .int (xs (i + (2 : Int32)).toNatClampNeg)] hC hK (c_D_fewest (kl κ) w1 hK.1 N (xs (i + (1 : Int32)).toNatClampNeg) (xs (i + (2 : Int32)).toNatClampNeg) σ r85 s86 hf) o_X9_fewest k_878 (ci := 9) rfl rfl ⟨by rw [hR]; exact Nat.le_of_ble_eq_true rfl, by rw [hR]; exact Nat.le_of_ble_eq_true rfl⟩ ⟨by rw [hR]; exact lroom3 hj, by rw [hR]; exact lroom4 hj⟩ rfl (Nat.le_of_ble_eq_true rfl) dL_law_866 ?_
          refine g_pop (pc := 869) hC rfl dL_law_869 ?_
          refine g_aload_n (pc := 870) hC rfl dL_law_870 ?_
          refine g_aload_n (pc := 871) hC rfl dL_law_871 ?_
          refine g_iload (pc := 872) hC rfl dL_law_872 ?_
          refine g_iconst (pc := 874) hC (v := (1 : Int32)) (by decide) dL_law_874 ?_
          refine g_iadd (pc := 875) hC dL_law_875 ?_
          refine g_sld (pc := 876) hC hK dL_law_876 ?_
          refine g_aload_n (pc := 877) hC rfl dL_law_877 ?_
          refine g_iload (pc := 878) hC rfl dL_law_878 ?_
          refine g_iconst (pc := 880) hC (v := (2 : Int32)) (by decide) dL_law_880 ?_
          refine g_iadd (pc := 881) hC dL_law_881 ?_
          refine g_sld (pc := 882) hC hK dL_law_882 ?_
          refine g_ob2 (fun r87 s88 hf => ?_)
          refine g_callM (pc := 883) (rest := []) [.int (xs (i + (1 : Int32)).toNatClampNeg), .int (xs (i + (2 : Int32)).toNatClampNeg)] hC hK (c_M_fewest (kl κ) w2 hK.2.1 N (xs (i + (1 : Int32)).toNatClampNeg) (xs (i + (2 : Int32)).toNatClampNeg) μ r87 s88 hf) o_X10_fewest k_1542 (ci := 10) rfl rfl ⟨by rw [hR]; exact Nat.le_of_ble_eq_true rfl, by rw [hR]; exact Nat.le_of_ble_eq_true rfl⟩ ⟨by rw [hR]; exact lroom3 hj, by rw [hR]; exact lroom4 hj⟩ rfl (Nat.le_of_ble_eq_true rfl) dL_law_883 ?_
          refine g_pop (pc := 886) hC rfl dL_law_886 ?_
          refine g_goto (pc := 887) (tgt := 1028) hC dL_law_887 (by decide) ?_
          refine g_iinc (pc := 1028) hC (v := (4 : Int32)) rfl (by decide) rfl rfl dL_law_1028 ?_
          refine g_goto (pc := 1031) (tgt := 23) hC dL_law_1031 (by decide) ?_
          exact g_wd (by omega) (by omega) (ih (i + (4 : Int32)) s86 s88)
        · refine ⟨_, _, _, rfl, by decide, rfl, by decide, ?_⟩
          unfold Lw_c23
          refine g_aload_n (pc := 890) hC rfl dL_law_890 ?_
          refine g_ob2 (fun r89 s90 hf => ?_)
          refine g_callC (pc := 891) (rest := []) [] hC hK (c_D_selves (kl κ) w1 hK.1 N σ r89 s90 hf) o_X9_selves k_896 (ci := 9) rfl rfl ⟨by rw [hR]; exact Nat.le_of_ble_eq_true rfl, by rw [hR]; exact Nat.le_of_ble_eq_true rfl⟩ ⟨by rw [hR]; exact lroom3 hj, by rw [hR]; exact lroom4 hj⟩ rfl (Nat.le_of_ble_eq_true rfl) dL_law_891 ?_
          refine g_pop (pc := 894) hC rfl dL_law_894 ?_
          refine g_aload_n (pc := 895) hC rfl dL_law_895 ?_
          refine g_ob2 (fun r91 s92 hf => ?_)
          refine g_callM (pc := 896) (rest := []) [] hC hK (c_M_selves (kl κ) w2 hK.2.1 N μ r91 s92 hf) o_X10_selves k_1554 (ci := 10) rfl rfl ⟨by rw [hR]; exact Nat.le_of_ble_eq_true rfl, by rw [hR]; exact Nat.le_of_ble_eq_true rfl⟩ ⟨by rw [hR]; exact lroom3 hj, by rw [hR]; exact lroom4 hj⟩ rfl (Nat.le_of_ble_eq_true rfl) dL_law_896 ?_
          refine g_pop (pc := 899) hC rfl dL_law_899 ?_
          refine g_goto (pc := 900) (tgt := 1028) hC dL_law_900 (by decide) ?_
          refine g_iinc (pc := 1028) hC (v := (4 : Int32)) rfl (by decide) rfl rfl dL_law_1028 ?_
          refine g_goto (pc := 1031) (tgt := 23) hC dL_law_1031 (by decide) ?_
          exact g_wd (by omega) (by omega) (ih (i + (4 : Int32)) s90 s92)
        · refine ⟨_, _, _, rfl, by decide, rfl, by decide, ?_⟩
          unfold Lw_c24
          refine g_aload_n (pc := 903) hC rfl dL_law_903 ?_
          refine g_ob2 (fun r93 s94 hf => ?_)
          refine g_callC (pc := 904) (rest := []) [] hC hK (c_D_undo (kl κ) w1 hK.1 N σ r93 s94 hf) o_X9_undo k_914 (ci := 9) rfl rfl ⟨by rw [hR]; exact Nat.le_of_ble_eq_true rfl, by rw [hR]; exact Nat.le_of_ble_eq_true rfl⟩ ⟨by rw [hR]; exact lroom3 hj, by rw [hR]; exact lroom4 hj⟩ rfl (Nat.le_of_ble_eq_true rfl) dL_law_904 ?_
          refine g_pop (pc := 907) hC rfl dL_law_907 ?_
          refine g_aload_n (pc := 908) hC rfl dL_law_908 ?_
          refine g_ob2 (fun r95 s96 hf => ?_)
          refine g_callM (pc := 909) (rest := []) [] hC hK (c_M_undo (kl κ) w2 hK.2.1 N μ r95 s96 hf) o_X10_undo k_1562 (ci := 10) rfl rfl ⟨by rw [hR]; exact Nat.le_of_ble_eq_true rfl, by rw [hR]; exact Nat.le_of_ble_eq_true rfl⟩ ⟨by rw [hR]; exact lroom3 hj, by rw [hR]; exact lroom4 hj⟩ rfl (Nat.le_of_ble_eq_true rfl) dL_law_909 ?_
          refine g_pop (pc := 912) hC rfl dL_law_912 ?_
          refine g_goto (pc := 913) (tgt := 1028) hC dL_law_913 (by decide) ?_
          refine g_iinc (pc := 1028) hC (v := (4 : Int32)) rfl (by decide) rfl rfl dL_law_1028 ?_
          refine g_goto (pc := 1031) (tgt := 23) hC dL_law_1031 (by decide) ?_
          exact g_wd (by omega) (by omega) (ih (i + (4 : Int32)) s94 s96)
        · refine ⟨_, _, _, rfl, by decide, rfl, by decide, ?_⟩
          unfold Lw_c25
          refine g_aload_n (pc := 916) hC rfl dL_law_916 ?_
          refine g_aload_n (pc := 917) hC rfl dL_law_917 ?_
          refine g_iload (pc := 918) hC rfl dL_law_918 ?_
          refine g_iconst (pc := 920) hC (v := (1 : Int32)) (by decide) dL_law_920 ?_
          refine g_iadd (pc := 921) hC dL_law_921 ?_
          refine g_sld (pc := 922) hC hK dL_law_922 ?_
          refine g_ob2 (fun r97 s98 hf => ?_)
          refine g_callC (pc := 923) (rest := []) [.int (xs (i + (1 : Int32)).toNatClampNeg)] hC hK (c_D_keep (kl κ) w1 hK.1 N (xs (i + (1 : Int32)).toNatClampNeg) σ r97 s98 hf) o_X9_keep k_922 (ci := 9) rfl rfl ⟨by rw [hR]; exact Nat.le_of_ble_eq_true rfl, by rw [hR]; exact Nat.le_of_ble_eq_true rfl⟩ ⟨by rw [hR]; exact lroom3 hj, by rw [hR]; exact lroom4 hj⟩ rfl (Nat.le_of_ble_eq_true rfl) dL_law_923 ?_
          refine g_pop (pc := 926) hC rfl dL_law_926 ?_
          refine g_aload_n (pc := 927) hC rfl dL_law_927 ?_
          refine g_aload_n (pc := 928) hC rfl dL_law_928 ?_
          refine g_iload (pc := 929) hC rfl dL_law_929 ?_
          refine g_iconst (pc := 931) hC (v := (1 : Int32)) (by decide) dL_law_931 ?_
          refine g_iadd (pc := 932) hC dL_law_932 ?_
          refine g_sld (pc := 933) hC hK dL_law_933 ?_
          refine g_ob2 (fun r99 s100 hf => ?_)
          refine g_callM (pc := 934) (rest := []) [.int (xs (i + (1 : Int32)).toNatClampNeg)] hC hK (c_M_keep (kl κ) w2 hK.2.1 N (xs (i + (1 : Int32)).toNatClampNeg) μ r99 s100 hf) o_X10_keep k_1566 (ci := 10) rfl rfl ⟨by rw [hR]; exact Nat.le_of_ble_eq_true rfl, by rw [hR]; exact Nat.le_of_ble_eq_true rfl⟩ ⟨by rw [hR]; exact lroom3 hj, by rw [hR]; exact lroom4 hj⟩ rfl (Nat.le_of_ble_eq_true rfl) dL_law_934 ?_
          refine g_pop (pc := 937) hC rfl dL_law_937 ?_
          refine g_goto (pc := 938) (tgt := 1028) hC dL_law_938 (by decide) ?_
          refine g_iinc (pc := 1028) hC (v := (4 : Int32)) rfl (by decide) rfl rfl dL_law_1028 ?_
          refine g_goto (pc := 1031) (tgt := 23) hC dL_law_1031 (by decide) ?_
          exact g_wd (by omega) (by omega) (ih (i + (4 : Int32)) s98 s100)
        · refine ⟨_, _, _, rfl, by decide, rfl, by decide, ?_⟩
          unfold Lw_c26
          refine g_aload_n (pc := 941) hC rfl dL_law_941 ?_
          refine g_aload_n (pc := 942) hC rfl dL_law_942 ?_
          refine g_iload (pc := 943) hC rfl dL_law_943 ?_
          refine g_iconst (pc := 945) hC (v := (1 : Int32)) (by decide) dL_law_945 ?_
          refine g_iadd (pc := 946) hC dL_law_946 ?_
          refine g_sld (pc := 947) hC hK dL_law_947 ?_
          refine g_ob2 (fun r101 s102 hf => ?_)
          refine g_callC (pc := 948) (rest := []) [.int (xs (i + (1 : Int32)).toNatClampNeg)] hC hK (c_D_again (kl κ) w1 hK.1 N (xs (i + (1 : Int32)).toNatClampNeg) σ r101 s102 hf) o_X9_again k_926 (ci := 9) rfl rfl ⟨by rw [hR]; exact Nat.le_of_ble_eq_true rfl, by rw [hR]; exact Nat.le_of_ble_eq_true rfl⟩ ⟨by rw [hR]; exact lroom3 hj, by rw [hR]; exact lroom4 hj⟩ rfl (Nat.le_of_ble_eq_true rfl) dL_law_948 ?_
          refine g_pop (pc := 951) hC rfl dL_law_951 ?_
          refine g_aload_n (pc := 952) hC rfl dL_law_952 ?_
          refine g_aload_n (pc := 953) hC rfl dL_law_953 ?_
          refine g_iload (pc := 954) hC rfl dL_law_954 ?_
          refine g_iconst (pc := 956) hC (v := (1 : Int32)) (by decide) dL_law_956 ?_
          refine g_iadd (pc := 957) hC dL_law_957 ?_
          refine g_sld (pc := 958) hC hK dL_law_958 ?_
          refine g_ob2 (fun r103 s104 hf => ?_)
          refine g_callM (pc := 959) (rest := []) [.int (xs (i + (1 : Int32)).toNatClampNeg)] hC hK (c_M_again (kl κ) w2 hK.2.1 N (xs (i + (1 : Int32)).toNatClampNeg) μ r103 s104 hf) o_X10_again k_1570 (ci := 10) rfl rfl ⟨by rw [hR]; exact Nat.le_of_ble_eq_true rfl, by rw [hR]; exact Nat.le_of_ble_eq_true rfl⟩ ⟨by rw [hR]; exact lroom3 hj, by rw [hR]; exact lroom4 hj⟩ rfl (Nat.le_of_ble_eq_true rfl) dL_law_959 ?_
          refine g_pop (pc := 962) hC rfl dL_law_962 ?_
          refine g_goto (pc := 963) (tgt := 1028) hC dL_law_963 (by decide) ?_
          refine g_iinc (pc := 1028) hC (v := (4 : Int32)) rfl (by decide) rfl rfl dL_law_1028 ?_
          refine g_goto (pc := 1031) (tgt := 23) hC dL_law_1031 (by decide) ?_
          exact g_wd (by omega) (by omega) (ih (i + (4 : Int32)) s102 s104)
        · refine ⟨_, _, _, rfl, by decide, rfl, by decide, ?_⟩
          unfold Lw_c27
          refine g_aload_n (pc := 966) hC rfl dL_law_966 ?_
          refine g_aload_n (pc := 967) hC rfl dL_law_967 ?_
          refine g_iload (pc := 968) hC rfl dL_law_968 ?_
          refine g_iconst (pc := 970) hC (v := (1 : Int32)) (by decide) dL_law_970 ?_
          refine g_iadd (pc := 971) hC dL_law_971 ?_
          refine g_sld (pc := 972) hC hK dL_law_972 ?_
          refine g_aload_n (pc := 973) hC rfl dL_law_973 ?_
          refine g_iload (pc := 974) hC rfl dL_law_974 ?_
          refine g_iconst (pc := 976) hC (v := (2 : Int32)) (by decide) dL_law_976 ?_
          refine g_iadd (pc := 977) hC dL_law_977 ?_
          refine g_sld (pc := 978) hC hK dL_law_978 ?_
          refine g_ob2 (fun r105 s106 hf => ?_)
          refine g_callC (pc := 979) (rest := []) [.int (xs (i + (1 : Int32)).toNatClampNeg), .int (xs (i + (2 : Int32)).toNatClampNeg)] hC hK (c_D_alike (kl κ) w1 hK.1 N (xs (i + (1 : Int32)).toNatClampNeg) (xs (i + (2 : Int32)).toNatClampNeg) σ r105 s106 hf) o_X9_alike k_934 (ci := 9) rfl rfl ⟨by rw [hR]; exact Nat.le_of_ble_eq_true rfl, by rw [hR]; exact Nat.le_of_ble_eq_true rfl⟩ ⟨by rw [hR]; exact lroom3 hj, by rw [hR]; exact lroom4 hj⟩ rfl (Nat.le_of_ble_eq_true rfl) dL_law_979 ?_
          refine g_pop (pc := 982) hC rfl dL_law_982 ?_
          refine g_aload_n (pc := 983) hC rfl dL_law_983 ?_
          refine g_aload_n (pc := 984) hC rfl dL_law_984 ?_
          refine g_iload (pc := 985) hC rfl dL_law_985 ?_
          refine g_iconst (pc := 987) hC (v := (1 : Int32)) (by decide) dL_law_987 ?_
          refine g_iadd (pc := 988) hC dL_law_988 ?_
          refine g_sld (pc := 989) hC hK dL_law_989 ?_
          refine g_aload_n (pc := 990) hC rfl dL_law_990 ?_
          refine g_iload (pc := 991) hC rfl dL_law_991 ?_
          refine g_iconst (pc := 993) hC (v := (2 : Int32)) (by decide) dL_law_993 ?_
          refine g_iadd (pc := 994) hC dL_law_994 ?_
          refine g_sld (pc := 995) hC hK dL_law_995 ?_
          refine g_ob2 (fun r107 s108 hf => ?_)
          refine g_callM (pc := 996) (rest := []) [.int (xs (i + (1 : Int32)).toNatClampNeg), .int (xs (i + (2 : Int32)).toNatClampNeg)] hC hK (c_M_alike (kl κ) w2 hK.2.1 N (xs (i + (1 : Int32)).toNatClampNeg) (xs (i + (2 : Int32)).toNatClampNeg) μ r107 s108 hf) o_X10_alike k_1574 (ci := 10) rfl rfl ⟨by rw [hR]; exact Nat.le_of_ble_eq_true rfl, by rw [hR]; exact Nat.le_of_ble_eq_true rfl⟩ ⟨by rw [hR]; exact lroom3 hj, by rw [hR]; exact lroom4 hj⟩ rfl (Nat.le_of_ble_eq_true rfl) dL_law_996 ?_
          refine g_pop (pc := 999) hC rfl dL_law_999 ?_
          refine g_goto (pc := 1000) (tgt := 1028) hC dL_law_1000 (by decide) ?_
          refine g_iinc (pc := 1028) hC (v := (4 : Int32)) rfl (by decide) rfl rfl dL_law_1028 ?_
          refine g_goto (pc := 1031) (tgt := 23) hC dL_law_1031 (by decide) ?_
          exact g_wd (by omega) (by omega) (ih (i + (4 : Int32)) s106 s108)
        · refine ⟨_, _, _, rfl, by decide, rfl, by decide, ?_⟩
          unfold Lw_c28
          refine g_aload_n (pc := 1003) hC rfl dL_law_1003 ?_
          refine g_aload_n (pc := 1004) hC rfl dL_law_1004 ?_
          refine g_iload (pc := 1005) hC rfl dL_law_1005 ?_
          refine g_iconst (pc := 1007) hC (v := (1 : Int32)) (by decide) dL_law_1007 ?_
          refine g_iadd (pc := 1008) hC dL_law_1008 ?_
          refine g_sld (pc := 1009) hC hK dL_law_1009 ?_
          refine g_ob (fun r109 hf => ?_)
          refine g_callC (pc := 1010) (rest := []) [.int (xs (i + (1 : Int32)).toNatClampNeg)] hC hK (c_D_count (kl κ) w1 hK.1 N (xs (i + (1 : Int32)).toNatClampNeg) σ r109 hf) o_X9_count k_945 (ci := 9) rfl rfl ⟨by rw [hR]; exact Nat.le_of_ble_eq_true rfl, by rw [hR]; exact Nat.le_of_ble_eq_true rfl⟩ ⟨by rw [hR]; exact lroom3 hj, by rw [hR]; exact lroom4 hj⟩ rfl (Nat.le_of_ble_eq_true rfl) dL_law_1010 ?_
          refine g_pop (pc := 1013) hC rfl dL_law_1013 ?_
          refine g_aload_n (pc := 1014) hC rfl dL_law_1014 ?_
          refine g_aload_n (pc := 1015) hC rfl dL_law_1015 ?_
          refine g_iload (pc := 1016) hC rfl dL_law_1016 ?_
          refine g_iconst (pc := 1018) hC (v := (1 : Int32)) (by decide) dL_law_1018 ?_
          refine g_iadd (pc := 1019) hC dL_law_1019 ?_
          refine g_sld (pc := 1020) hC hK dL_law_1020 ?_
          refine g_ob2 (fun r110 s111 hf => ?_)
          refine g_callM (pc := 1021) (rest := []) [.int (xs (i + (1 : Int32)).toNatClampNeg)] hC hK (c_M_count (kl κ) w2 hK.2.1 N (xs (i + (1 : Int32)).toNatClampNeg) μ r110 s111 hf) o_X10_count k_1582 (ci := 10) rfl rfl ⟨by rw [hR]; exact Nat.le_of_ble_eq_true rfl, by rw [hR]; exact Nat.le_of_ble_eq_true rfl⟩ ⟨by rw [hR]; exact lroom3 hj, by rw [hR]; exact lroom4 hj⟩ rfl (Nat.le_of_ble_eq_true rfl) dL_law_1021 ?_
          refine g_pop (pc := 1024) hC rfl dL_law_1024 ?_
          refine g_goto (pc := 1025) (tgt := 1028) hC dL_law_1025 (by decide) ?_
          refine g_iinc (pc := 1028) hC (v := (4 : Int32)) rfl (by decide) rfl rfl dL_law_1028 ?_
          refine g_goto (pc := 1031) (tgt := 23) hC dL_law_1031 (by decide) ?_
          exact g_wd (by omega) (by omega) (ih (i + (4 : Int32)) σ s111)
      · refine g_iinc (pc := 1028) hC (v := (4 : Int32)) rfl (by decide) rfl rfl dL_law_1028 ?_
        refine g_goto (pc := 1031) (tgt := 23) hC dL_law_1031 (by decide) ?_
        exact g_wd (by omega) (by omega) (ih (i + (4 : Int32)) σ μ)
