/-! the law: the judgement wG (cells and slots counted; P tells the worlds) -/
def wG {X : Type} (κ : Ctx) (nL : Nat) (Q : X → State → Prop) (P : Heap → List Loc → Prop) (cl sl pc : Nat) (lv : List (Option Value)) (st : List Value) (o : Option X) : Prop :=
  ∀ x, o = some x → ∀ (H : Heap) (locs : List Loc) (ls : Array Slot), P H locs → lvp ls nL lv → W (kp κ) (kl κ) (ke κ) (kR κ) (ks κ) (km κ) (ka κ) (kb κ) (kmeth κ) (kc κ) H locs cl sl (Q x) (F0 (km κ) pc ls st)
def okG (κ : Ctx) (cc : ByteArray) (nL : Nat) (own : String) : Prop :=
  (kp κ).tables.exec = Jvm.exec ∧ (kc κ).code = cc ∧ (kc κ).maxLocals = nL ∧ (ks κ).vm.findClass own = some (km κ).cls ∧ (∀ w ∈ gtbl, w.before (ka κ) (ks κ) = true)
def lA (κ : Ctx) : Nat → Prop := fun q => (ks κ).heap.size ≤ q
def lP (κ : Ctx) (w1 w2 : Wenv) (σ μ : Mem) : Heap → List Loc → Prop := fun H locs => va_P w1.1 vwCl (wC w1 σ) H ∧ va_P w2.1 vwCl (wM w2 μ) H ∧ va_S (lA κ) (ks κ).heap H locs
def lok (κ : Ctx) (w1 w2 : Wenv) (b L : Nat) (xs : Nat → Int32) (sa : Nat) : Prop :=
  okw w1 wC ∧ okw w2 wM ∧ va_K w1.1 vwCl (tyl w1) (ks κ) ∧ va_K w2.1 vwCl (tyl w2) (ks κ) ∧ Nst (ks κ) ∧ (∀ q, w1.2.1 q → lA κ q ∧ ¬ w2.2.1 q) ∧ (∀ q, w2.2.1 q → lA κ q ∧ ¬ w1.2.1 q) ∧ va_X b L xs (ks κ) (ks κ).heap ∧ b < (ks κ).heap.size ∧ Ex sa (lA κ) (ks κ) ∧ (kl κ).stackTraces = false
set_option maxRecDepth 100000 in
theorem kw_duel : Cond.codeWith yL_duel cL_duel 6 (some .int) [(0, 12, 15, 13)] ∈ gtbl := gt_in (List.mem_of_getElem? (i := 956) (by decide +kernel)) (by decide +kernel)
theorem duel_y : yL_duel.cls ≠ "java/lang/invoke/MethodHandle" ∧ yL_duel.cls ≠ "java/lang/invoke/VarHandle" ∧ (parseMethodDescriptor yL_duel.desc).map (fun d => d.parameters.length) = some 5 := by decide +kernel
theorem duel_good {index : Nat} (hlk : Cond.methodLink RL index yL_duel ∈ gtbl) : GoodIn gtbl (va_wsS RL index yL_duel (Cond.codeWith yL_duel cL_duel 6 (some .int) [(0, 12, 15, 13)] :: gtbl)) := fun w hw => by
  rcases List.mem_append.mp hw with hw | hw
  · simp only [List.mem_cons, List.not_mem_nil, or_false] at hw
    rcases hw with rfl | rfl | rfl
    · exact gt_good _ hlk
    · exact gt_good _ k_955
    · exact gt_good _ k_79
  · rcases List.mem_cons.mp hw with rfl | hw
    · exact gt_good _ kw_duel
    · exact gt_good _ hw
section GRows
variable {X : Type} {κ : Ctx} {nL : Nat} {Q : X → State → Prop} {P : Heap → List Loc → Prop} {cl sl pc : Nat} {lv : List (Option Value)} {st rest : List Value} {o o1 o2 : Option X} {cc : ByteArray} {own : String} {w1 w2 : Wenv} {σ μ : Mem} {b L sa : Nat} {xs : Nat → Int32}
theorem g_no : wG κ nL Q P cl sl pc lv st none := fun x hx => by cases hx
theorem g_wk (bs : List Bool) (k : wG κ nL Q P cl sl pc (msk bs lv) st o) : wG κ nL Q P cl sl pc lv st o := fun x hx H locs ls h1 h3 => k x hx H locs ls h1 ⟨h3.1, h3.2.1, fun j v hj => h3.2.2 j v (msk_of bs lv j v hj)⟩
theorem g_wd {cl' sl' : Nat} (h1 : cl ≤ cl') (h2 : sl ≤ sl') (k : wG κ nL Q P cl' sl' pc lv st o) : wG κ nL Q P cl sl pc lv st o := fun x hx H locs ls a1 a2 => W.widen h1 h2 (k x hx H locs ls a1 a2)
theorem g_let {e : Int32} {k : Int32 → Option X} (h : ∀ x : Int32, wG κ nL Q P cl sl pc lv (.int x :: st) (k x)) : wG κ nL Q P cl sl pc lv (.int e :: st) (bnd e k) := h e
theorem g_iconst (hC : okG κ cc nL own) {n : Int} {v : Int32} (hv : Int32.ofInt n = v) (hdg : decode cc pc = .ok (.iconst n, 1)) (k : wG κ nL Q P cl sl (pc + 1) lv (.int v :: st) o) : wG κ nL Q P cl sl pc lv st o := fun z hz H locs ls h1 h3 => lv_iconst hC.1 hC.2.1 hdg hv (k z hz H locs ls h1 h3)
theorem g_bipush (hC : okG κ cc nL own) {n : Int} {v : Int32} (hv : (Int8.ofInt n).toInt32 = v) (hdg : decode cc pc = .ok (.bipush n, 2)) (k : wG κ nL Q P cl sl (pc + 2) lv (.int v :: st) o) : wG κ nL Q P cl sl pc lv st o := fun z hz H locs ls h1 h3 => lv_bipush hC.1 hC.2.1 hdg hv (k z hz H locs ls h1 h3)
theorem g_iload_n (hC : okG κ cc nL own) {k : Fin 4} {x : Int32} (hl : lv[(k : Nat)]? = some (some (.int x))) (hdg : decode cc pc = .ok (.iload_n k, 1)) (k : wG κ nL Q P cl sl (pc + 1) lv (.int x :: st) o) : wG κ nL Q P cl sl pc lv st o := fun z hz H locs ls h1 h3 => lv_iload_n hC.1 hC.2.1 hdg rfl (h3.2.2 _ _ hl) (k z hz H locs ls h1 h3)
theorem g_iload (hC : okG κ cc nL own) {i : Nat} {x : Int32} (hl : lv[i]? = some (some (.int x))) (hdg : decode cc pc = .ok (.iload i, 2)) (k : wG κ nL Q P cl sl (pc + 2) lv (.int x :: st) o) : wG κ nL Q P cl sl pc lv st o := fun z hz H locs ls h1 h3 => lv_iload hC.1 hC.2.1 hdg (h3.2.2 _ _ hl) (k z hz H locs ls h1 h3)
theorem g_aload_n (hC : okG κ cc nL own) {k : Fin 4} {x : Nat} (hl : lv[(k : Nat)]? = some (some (.ref x))) (hdg : decode cc pc = .ok (.aload_n k, 1)) (k : wG κ nL Q P cl sl (pc + 1) lv (.ref x :: st) o) : wG κ nL Q P cl sl pc lv st o := fun z hz H locs ls h1 h3 => lv_aload_n hC.1 hC.2.1 hdg rfl (h3.2.2 _ _ hl) (k z hz H locs ls h1 h3)
theorem g_aload (hC : okG κ cc nL own) {i : Nat} {x : Nat} (hl : lv[i]? = some (some (.ref x))) (hdg : decode cc pc = .ok (.aload i, 2)) (k : wG κ nL Q P cl sl (pc + 2) lv (.ref x :: st) o) : wG κ nL Q P cl sl pc lv st o := fun z hz H locs ls h1 h3 => lv_aload hC.1 hC.2.1 hdg (h3.2.2 _ _ hl) (k z hz H locs ls h1 h3)
theorem g_istore (hC : okG κ cc nL own) {i : Nat} {x : Int32} (hn : decide (i < nL) = true) (hl : nlo lv i = true) (hdg : decode cc pc = .ok (.istore i, 2)) (kk : wG κ nL Q P cl sl (pc + 2) (lv.set i (some (.int x))) st o) : wG κ nL Q P cl sl pc lv (.int x :: st) o := fun z hz H locs ls h1 h3 => lv_istore hC.1 hC.2.1 hdg (lvp_has h3) (of_decide_eq_true hn) rfl (fun ls1 h4 => kk z hz H locs ls1 h1 (lvp_st1 hl h4))
theorem g_iinc (hC : okG κ cc nL own) {i : Nat} {n : Int} {x v : Int32} (hx : lv[i]? = some (some (.int x))) (hv : Int32.ofInt n = v) (hn : decide (i < nL) = true) (hl : nlo lv i = true) (hdg : decode cc pc = .ok (.iinc i n, 3)) (kk : wG κ nL Q P cl sl (pc + 3) (lv.set i (some (.int (x + v)))) st o) : wG κ nL Q P cl sl pc lv st o := fun z hz H locs ls h1 h3 => by
  obtain ⟨k, hk⟩ := asc_at hx
  exact lv_iinc hC.1 hC.2.1 hdg (lvp_has h3) hk (by rw [hv]) (of_decide_eq_true hn) rfl (fun ls1 h4 => kk z hz H locs ls1 h1 (lvp_st1 hl h4))
theorem g_iadd (hC : okG κ cc nL own) {x y : Int32} (hdg : decode cc pc = .ok (.iadd, 1)) (k : wG κ nL Q P cl sl (pc + 1) lv (.int (x + y) :: st) o) : wG κ nL Q P cl sl pc lv (.int y :: .int x :: st) o := fun z hz H locs ls h1 h3 => lv_iadd hC.1 hC.2.1 hdg (k z hz H locs ls h1 h3)
theorem g_isub (hC : okG κ cc nL own) {x y : Int32} (hdg : decode cc pc = .ok (.isub, 1)) (k : wG κ nL Q P cl sl (pc + 1) lv (.int (x - y) :: st) o) : wG κ nL Q P cl sl pc lv (.int y :: .int x :: st) o := fun z hz H locs ls h1 h3 => lv_isub hC.1 hC.2.1 hdg (k z hz H locs ls h1 h3)
theorem g_iand (hC : okG κ cc nL own) {x y : Int32} (hdg : decode cc pc = .ok (.iand, 1)) (k : wG κ nL Q P cl sl (pc + 1) lv (.int (x &&& y) :: st) o) : wG κ nL Q P cl sl pc lv (.int y :: .int x :: st) o := fun z hz H locs ls h1 h3 => lv_iand hC.1 hC.2.1 hdg (k z hz H locs ls h1 h3)
theorem g_i2l (hC : okG κ cc nL own) {x : Int32} (hdg : decode cc pc = .ok (.i2l, 1)) (k : wG κ nL Q P cl sl (pc + 1) lv (.long (x.toInt64) :: st) o) : wG κ nL Q P cl sl pc lv (.int x :: st) o := fun z hz H locs ls h1 h3 => lv_i2l hC.1 hC.2.1 hdg rfl (k z hz H locs ls h1 h3)
theorem g_lcmp (hC : okG κ cc nL own) {x y : Int64} (hdg : decode cc pc = .ok (.lcmp, 1)) (k : wG κ nL Q P cl sl (pc + 1) lv (.int (lg_cmp x y) :: st) o) : wG κ nL Q P cl sl pc lv (.long y :: .long x :: st) o := fun z hz H locs ls h1 h3 => W.lcmp hC.1 hC.2.1 hdg (k z hz H locs ls h1 h3)
theorem g_pop (hC : okG κ cc nL own) {v : Value} (hv : v.category = 1) (hdg : decode cc pc = .ok (.pop, 1)) (k : wG κ nL Q P cl sl (pc + 1) lv st o) : wG κ nL Q P cl sl pc lv (v :: st) o := fun z hz H locs ls h1 h3 => lv_pop hC.1 hC.2.1 hdg hv (k z hz H locs ls h1 h3)
theorem g_dup (hC : okG κ cc nL own) {v : Value} (hv : v.category = 1) (hdg : decode cc pc = .ok (.dup, 1)) (k : wG κ nL Q P cl sl (pc + 1) lv (v :: v :: st) o) : wG κ nL Q P cl sl pc lv (v :: st) o := fun z hz H locs ls h1 h3 => lv_dup hC.1 hC.2.1 hdg hv (k z hz H locs ls h1 h3)
theorem g_if_eq (hC : okG κ cc nL own) {x : Int32} {off : Int} {tgt : Nat} {d : Decidable (x = 0)} (hdg : decode cc pc = .ok (.ifCond .eq off, 3)) (ht : (pc : Int) + off = (tgt : Int)) (kt : wG κ nL Q P cl sl tgt lv st o1) (kf : wG κ nL Q P cl sl (pc + 3) lv st o2) : wG κ nL Q P cl sl pc lv (.int x :: st) (@ite _ (x = 0) d o1 o2) := fun z hz H locs ls h1 h3 => lv_if_eq hC.1 hC.2.1 hdg ht (fun hc => kt z (by first | rwa [if_pos hc] at hz | rwa [if_neg hc] at hz) H locs ls h1 h3) (fun hc => kf z (by first | rwa [if_neg hc] at hz | rwa [if_pos hc] at hz) H locs ls h1 h3)
theorem g_if_ne (hC : okG κ cc nL own) {x : Int32} {off : Int} {tgt : Nat} {d : Decidable (x = 0)} (hdg : decode cc pc = .ok (.ifCond .ne off, 3)) (ht : (pc : Int) + off = (tgt : Int)) (kt : wG κ nL Q P cl sl tgt lv st o1) (kf : wG κ nL Q P cl sl (pc + 3) lv st o2) : wG κ nL Q P cl sl pc lv (.int x :: st) (@ite _ (x = 0) d o2 o1) := fun z hz H locs ls h1 h3 => lv_if_ne hC.1 hC.2.1 hdg ht (fun hc => kt z (by first | rwa [if_pos hc] at hz | rwa [if_neg hc] at hz) H locs ls h1 h3) (fun hc => kf z (by first | rwa [if_neg hc] at hz | rwa [if_pos hc] at hz) H locs ls h1 h3)
theorem g_icmp_eq (hC : okG κ cc nL own) {x y : Int32} {off : Int} {tgt : Nat} {d : Decidable (x = y)} (hdg : decode cc pc = .ok (.if_icmp .eq off, 3)) (ht : (pc : Int) + off = (tgt : Int)) (kt : wG κ nL Q P cl sl tgt lv st o1) (kf : wG κ nL Q P cl sl (pc + 3) lv st o2) : wG κ nL Q P cl sl pc lv (.int y :: .int x :: st) (@ite _ (x = y) d o1 o2) := fun z hz H locs ls h1 h3 => lv_icmp_eq hC.1 hC.2.1 hdg ht (fun hc => kt z (by first | rwa [if_pos hc] at hz | rwa [if_neg hc] at hz) H locs ls h1 h3) (fun hc => kf z (by first | rwa [if_neg hc] at hz | rwa [if_pos hc] at hz) H locs ls h1 h3)
theorem g_icmp_ne (hC : okG κ cc nL own) {x y : Int32} {off : Int} {tgt : Nat} {d : Decidable (x = y)} (hdg : decode cc pc = .ok (.if_icmp .ne off, 3)) (ht : (pc : Int) + off = (tgt : Int)) (kt : wG κ nL Q P cl sl tgt lv st o1) (kf : wG κ nL Q P cl sl (pc + 3) lv st o2) : wG κ nL Q P cl sl pc lv (.int y :: .int x :: st) (@ite _ (x = y) d o2 o1) := fun z hz H locs ls h1 h3 => lv_icmp_ne hC.1 hC.2.1 hdg ht (fun hc => kt z (by first | rwa [if_pos hc] at hz | rwa [if_neg hc] at hz) H locs ls h1 h3) (fun hc => kf z (by first | rwa [if_neg hc] at hz | rwa [if_pos hc] at hz) H locs ls h1 h3)
theorem g_icmp_gt (hC : okG κ cc nL own) {x y : Int32} {off : Int} {tgt : Nat} {d : Decidable (y < x)} (hdg : decode cc pc = .ok (.if_icmp .gt off, 3)) (ht : (pc : Int) + off = (tgt : Int)) (kt : wG κ nL Q P cl sl tgt lv st o1) (kf : wG κ nL Q P cl sl (pc + 3) lv st o2) : wG κ nL Q P cl sl pc lv (.int y :: .int x :: st) (@ite _ (y < x) d o1 o2) := fun z hz H locs ls h1 h3 => lv_icmp_gt hC.1 hC.2.1 hdg ht (fun hc => kt z (by first | rwa [if_pos hc] at hz | rwa [if_neg hc] at hz) H locs ls h1 h3) (fun hc => kf z (by first | rwa [if_neg hc] at hz | rwa [if_pos hc] at hz) H locs ls h1 h3)
theorem g_goto (hC : okG κ cc nL own) {off : Int} {tgt : Nat} (hdg : decode cc pc = .ok (.goto off, 3)) (ht : (pc : Int) + off = (tgt : Int)) (k : wG κ nL Q P cl sl tgt lv st o) : wG κ nL Q P cl sl pc lv st o := fun z hz H locs ls h1 h3 => lv_goto hC.1 hC.2.1 hdg ht (k z hz H locs ls h1 h3)
theorem g_table (hC : okG κ cc nL own) {dflt lo hi : Int} {offs : Array Int} {len : Nat} {x : Int32} {dt : Nat} {cs : List (Int32 × Option X)} {tg : Nat → Nat} (n : Nat)
    (hdg : decode cc pc = .ok (.tableswitch dflt lo hi offs, len)) (hd : (pc : Int) + dflt = (dt : Int)) (hn : lo + (n : Int) = hi + 1) (hlen : cs.length = n)
    (hcs : ∀ i, i < n → ∃ (v : Int32) (a : Option X) (off : Int), cs[i]? = some (v, a) ∧ v.toInt = lo + (i : Int) ∧ offs[i]? = some off ∧ (pc : Int) + off = (tg i : Int) ∧ wG κ nL Q P cl sl (tg i) lv st a)
    (kd : wG κ nL Q P cl sl dt lv st o) : wG κ nL Q P cl sl pc lv (.int x :: st) (swc x cs o) := fun z hz H locs ls h1 h3 => by
  subst hlen
  by_cases hr : x.toInt < lo ∨ hi < x.toInt
  · refine lv_tableOut hC.1 hC.2.1 hdg hr hd ?_
    rcases sw_mem hz with ⟨i, a, e1, -, -⟩ | ⟨e1, -⟩
    · have hi' : i < cs.length := (List.getElem?_eq_some_iff.mp e1).1
      obtain ⟨v, a', off, f1, f2, -⟩ := hcs i hi'
      rw [e1] at f1
      cases f1
      omega
    · exact kd z e1 H locs ls h1 h3
  · have g1 : ¬ x.toInt < lo := fun h => hr (Or.inl h)
    have g2 : ¬ hi < x.toInt := fun h => hr (Or.inr h)
    have hk : (x.toInt - lo).toNat < cs.length := by omega
    obtain ⟨v, a, off, f1, f2, f3, f4, f5⟩ := hcs _ hk
    have hv : v = x := by
      rw [← Int32.toInt_inj]
      omega
    subst hv
    refine lv_tableIn hC.1 hC.2.1 hdg g1 g2 f3 f4 (f5 z ?_ H locs ls h1 h3)
    rcases sw_mem hz with ⟨i, a', e1, e2, e3⟩ | ⟨-, e2⟩
    · by_cases hii : i = (v.toInt - lo).toNat
      · subst hii
        rw [f1] at e1
        cases e1
        exact e2
      · have hi' : i < cs.length := (List.getElem?_eq_some_iff.mp e1).1
        obtain ⟨v', a'', off', p1, p2, -⟩ := hcs i hi'
        rw [e1] at p1
        cases p1
        omega
    · exact absurd rfl (e2 _ _ _ f1)
theorem g_sld (hC : okG κ cc nL own) (hK : lok κ w1 w2 b L xs sa) {i : Int32} (hdg : decode cc pc = .ok (.iaload, 1)) (k : wG κ nL Q (lP κ w1 w2 σ μ) cl sl (pc + 1) lv (.int (xs i.toNatClampNeg) :: st) o) : wG κ nL Q (lP κ w1 w2 σ μ) cl sl pc lv (.int i :: .ref b :: st) (gd (inb i L) o) := fun z hz H locs ls h1 h3 =>
  va_sld hC.1 hC.2.1 hK.2.2.2.2.2.2.2.1 hK.2.2.2.2.2.2.2.2.1 (A := lA κ) (Nat.not_le.mpr hK.2.2.2.2.2.2.2.2.1) h1.2.2 (inb_in (gd_some hz).1) hdg (k z (gd_some hz).2 H locs ls h1 h3)
theorem g_slen (hC : okG κ cc nL own) (hK : lok κ w1 w2 b L xs sa) (hdg : decode cc pc = .ok (.arraylength, 1)) (k : wG κ nL Q (lP κ w1 w2 σ μ) cl sl (pc + 1) lv (.int (nI L) :: st) o) : wG κ nL Q (lP κ w1 w2 σ μ) cl sl pc lv (.ref b :: st) o := fun z hz H locs ls h1 h3 =>
  va_slen hC.1 hC.2.1 hK.2.2.2.2.2.2.2.1 hK.2.2.2.2.2.2.2.2.1 (A := lA κ) (Nat.not_le.mpr hK.2.2.2.2.2.2.2.2.1) h1.2.2 hdg (k z hz H locs ls h1 h3)
theorem g_out (hC : okG κ cc nL own) (hK : lok κ w1 w2 b L xs sa) {i : Int32} (hdg : decode cc pc = .ok (.laload, 1)) (k : wG κ nL Q (lP κ w1 w2 σ μ) cl sl (pc + 1) lv (.long (gJ σ 28 i.toNatClampNeg) :: st) o) : wG κ nL Q (lP κ w1 w2 σ μ) cl sl pc lv (.int i :: .ref (w1.2.2.1 28) :: st) (gd (inb i 1) o) := fun z hz H locs ls h1 h3 =>
  va_lald hC.1 hC.2.1 hK.2.2.1 h1.1 28 2 rfl rfl (inb_in (gd_some hz).1) hdg (k z (gd_some hz).2 H locs ls h1 h3)
theorem va_P_keep {D : va_G} {w : Wenv} {A : Nat → Prop} {ws : va_W} {H H1 : Heap} (hP : va_P D vwCl ws H) (hw : ∀ (k : Nat) (q : Nat × va_E), ws[k]? = some q → ¬ A q.1) (hk : ∀ q : Nat, q < H.size → ¬ A q → H1[q]? = H[q]?) : va_P D vwCl ws H1 := hP.kept (fun k q hq => hk q.1 (hP k q hq).lt (hw k q hq))
/-- a call of the class from the law -/
theorem g_callC {y : MethodName} {cb : ByteArray} {maxL n fr lo index ci N : Nat} {rt : Option FieldType} {T : u_T} {fs : List Value} {v : Int32} {τ : Mem} (As : List Value) (hC : okG κ cc nL own) (hK : lok κ w1 w2 b L xs sa)
    (hM : Ctr (kl κ) w1 wC y cb maxL rt fr lo (.ref (w1.2.2.1 0) :: As) σ (cQi w1 wC v τ)) (hy : yokV y cb maxL rt n) (hlk : Cond.methodLink own index y ∈ gtbl) (he : (wC w1 σ)[0]? = some (w1.2.2.1 0, .inr (ci, fs))) (hc : vwCl[ci]? = some (y.cls, T, N))
    (hR : fr + 1 ≤ (kR κ).frames ∧ 8 + (maxL + 11) + lo ≤ (kR κ).locals) (hR2 : cl ≤ (kR κ).cells ∧ sl ≤ (kR κ).slots) (hn : As.length = n) (hw : (rest.map fun v => v.category).sum ≤ 8) (hdg : decode cc pc = .ok (.invokevirtual index, 3))
    (k : wG κ nL Q (lP κ w1 w2 τ μ) cl sl (pc + 3) lv (.int v :: rest) o) : wG κ nL Q (lP κ w1 w2 σ μ) cl sl pc lv (As.reverse ++ .ref (w1.2.2.1 0) :: rest) o := fun z hz H locs ls h1 h3 => by
  have hts := hC.2.2.2.2
  obtain ⟨k1, k2, k3, k4, k5, k6, k7, k8⟩ := hK
  refine va_calli (va_runV (As := As) (rest := rest) ⟨hC.1, hC.2.1, hC.2.2.1, hC.2.2.2.1, hts⟩ hM (C := y.cls) ⟨callB_of n hts (ws_good hy.1.1) rfl rfl rfl (hts _ hy.1.2.1) (hts _ hlk) hy.1.2.2 hR, hts _ hy.2.1, hts _ hy.2.2⟩ ⟨blind _ _ _ _, va_recv k3 h1.1 hc he, fun U hU hW => ⟨rfl, by rw [hU]; exact h1.1, va_K.moved hW.alike k3, Nst.warm hW k5⟩⟩ rfl hn h3.1 rfl (lv_room hw) hdg ⟨hR2.1, hR2.2⟩) h1.2.2 (fun q _ h => (k6 q h).1) (fun q h => (k6 q h).1) (fun r u t H1 locs1 ht _ hp hB hz1 hk1 hS => ?_)
  subst hp
  exact k z hz H1 locs1 ls ⟨by rw [← ht]; exact hB.1, va_P_keep (w := w2) h1.2.1 (fun i q hq => (k7 q.1 ((k2 μ).2 i q hq)).2) hk1, hS⟩ h3
theorem g_callM {y : MethodName} {cb : ByteArray} {maxL n fr lo index ci N : Nat} {rt : Option FieldType} {T : u_T} {fs : List Value} {v : Int32} {τ : Mem} (As : List Value) (hC : okG κ cc nL own) (hK : lok κ w1 w2 b L xs sa)
    (hM : Ctr (kl κ) w2 wM y cb maxL rt fr lo (.ref (w2.2.2.1 0) :: As) μ (cQi w2 wM v τ)) (hy : yokV y cb maxL rt n) (hlk : Cond.methodLink own index y ∈ gtbl) (he : (wM w2 μ)[0]? = some (w2.2.2.1 0, .inr (ci, fs))) (hc : vwCl[ci]? = some (y.cls, T, N))
    (hR : fr + 1 ≤ (kR κ).frames ∧ 8 + (maxL + 11) + lo ≤ (kR κ).locals) (hR2 : cl ≤ (kR κ).cells ∧ sl ≤ (kR κ).slots) (hn : As.length = n) (hw : (rest.map fun v => v.category).sum ≤ 8) (hdg : decode cc pc = .ok (.invokevirtual index, 3))
    (k : wG κ nL Q (lP κ w1 w2 σ τ) cl sl (pc + 3) lv (.int v :: rest) o) : wG κ nL Q (lP κ w1 w2 σ μ) cl sl pc lv (As.reverse ++ .ref (w2.2.2.1 0) :: rest) o := fun z hz H locs ls h1 h3 => by
  have hts := hC.2.2.2.2
  obtain ⟨k1, k2, k3, k4, k5, k6, k7, k8⟩ := hK
  refine va_calli (va_runV (As := As) (rest := rest) ⟨hC.1, hC.2.1, hC.2.2.1, hC.2.2.2.1, hts⟩ hM (C := y.cls) ⟨callB_of n hts (ws_good hy.1.1) rfl rfl rfl (hts _ hy.1.2.1) (hts _ hlk) hy.1.2.2 hR, hts _ hy.2.1, hts _ hy.2.2⟩ ⟨blind _ _ _ _, va_recv k4 h1.2.1 hc he, fun U hU hW => ⟨rfl, by rw [hU]; exact h1.2.1, va_K.moved hW.alike k4, Nst.warm hW k5⟩⟩ rfl hn h3.1 rfl (lv_room hw) hdg ⟨hR2.1, hR2.2⟩) h1.2.2 (fun q _ h => (k7 q h).1) (fun q h => (k7 q h).1) (fun r u t H1 locs1 ht _ hp hB hz1 hk1 hS => ?_)
  subst hp
  exact k z hz H1 locs1 ls ⟨va_P_keep (w := w1) h1.1 (fun i q hq => (k6 q.1 ((k1 σ).2 i q hq)).2) hk1, by rw [← ht]; exact hB.1, hS⟩ h3
theorem g_ob {Y : Type} {fo : Option Y} {k : Y → Option X} (h : ∀ v, fo = some v → wG κ nL Q P cl sl pc lv st (k v)) : wG κ nL Q P cl sl pc lv st (ob fo k) := fun z hz => by
  obtain ⟨v, h1, h2⟩ := ob_some hz
  exact h v h1 z h2
theorem g_ob2 {Y Z : Type} {fo : Option (Y × Z)} {k : Y → Z → Option X} (h : ∀ v τ, fo = some (v, τ) → wG κ nL Q P cl sl pc lv st (k v τ)) : wG κ nL Q P cl sl pc lv st (ob2 fo k) := fun z hz => by
  obtain ⟨v, τ, h1, h2⟩ := ob2_some hz
  exact h v τ h1 z h2
/-- the law's own duel -/
theorem g_duel {N index : Nat} {a1 a2 a3 : Int32} {x : Option Int32} (hC : okG κ cc nL RL) (hK : lok κ w1 w2 b L xs sa) (hf : f_D_duel N a1 a2 a3 σ = some x) (hlk : Cond.methodLink RL index yL_duel ∈ gtbl) (hR : 9 + 1 ≤ (kR κ).frames ∧ 8 + (6 + 11) + 173 ≤ (kR κ).locals) (hR2 : cl + 1 ≤ (kR κ).cells ∧ sl + 6 ≤ (kR κ).slots) (hw : (rest.map fun v => v.category).sum ≤ 8) (hdg : decode cc pc = .ok (.invokestatic index, 3))
    (k : wG κ nL Q (lP κ w1 w2 (dM σ x) μ) (cl + 1) (sl + 6) (pc + 3) lv (.int (dK x) :: rest) o) : wG κ nL Q (lP κ w1 w2 σ μ) cl sl pc lv (.ref (w1.2.2.1 28) :: .int a3 :: .int a2 :: .int a1 :: .ref (w1.2.2.1 0) :: rest) o := fun z hz H locs ls h1 h3 => by
  have hts := hC.2.2.2.2
  obtain ⟨k1, k2, k3, k4, k5, k6, k7, k8, k9, k10, k11⟩ := hK
  refine vx_calli (vx_runSX (As := [.ref (w1.2.2.1 0), .int a1, .int a2, .int a3, .ref (w1.2.2.1 28)]) (rest := rest) ⟨hC.1, hC.2.1, hC.2.2.1, hC.2.2.2.1, hts⟩ (c_L_duel (kl κ) k11 w1 k1 sa N a1 a2 a3 σ x hf) (vx_cwSW 5 hts (duel_good hlk) rfl rfl rfl duel_y hR) ⟨blindX _ _ _ _ _, fun U hU hW => ⟨rfl, ⟨by rw [hU]; exact h1.1, va_K.moved hW.alike k3, Nst.warm hW k5⟩, Ex.go hW (fun q h => (k6 q h).1) (fun a ha1 ha2 => by rw [hU]; exact h1.2.2.2.1 a ha1 ha2) k10⟩⟩ rfl rfl h3.1 rfl (lv_room hw) hdg hR2) h1.2.2 (fun q _ h => (k6 q h).1) (fun q h => (k6 q h).1) (fun q _ h => (k6 q h).1) ?_ ?_
  · intro E ce q9 u t H1 locs1 ht hvm hpx
    exact absurd hpx id
  · intro r u t H1 locs1 ht hvm hpx hB hz1 hk1 hS
    subst hpx
    exact k z hz H1 locs1 ls ⟨by rw [← ht]; exact hB.1, va_P_keep (w := w2) h1.2.1 (fun i q hq => (k7 q.1 ((k2 μ).2 i q hq)).2) hk1, hS⟩ h3
end GRows
