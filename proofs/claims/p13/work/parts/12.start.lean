/-! THE CLAIM OUT OF ONE WALK OF THE LAW'S BODY. Your part is whole_start (and what it stands on); all else here is the same for every law, but numbers. -/
def R_law : String := "DuelRoundLaw"
def lw_P (b : Addr) (xs : List Int32) (args : Array Value) (s : State) : Prop := args = #[.ref b] ∧ s.IntsAt b xs ∧ xs.length ≤ 2048 ∧ (Jvm.Cond.and given_1 narrow_1).before args s = true
def lw_Q (_ : Array Value) (s : State) (o : Outcome) (t : State) : Prop := o = .returned (some (.int 1)) ∧ Framed s o t [] 601024 7293034
def lw_Z (below : List Frame) (a : Array Value) (s : State) : State → Prop := fun t => ∃ o, t.status = .running ∧ Ended t below o ∧ lw_Q a s o t
/-- the law's own end, with 1 on the stack, nothing written that was there before, its room as the claim has it -/
theorem lw_ret {p : Program} {l : Launch} {e : Env} {s : State} {m : MethodId} {below : List Frame} {meth : Method} {c : Code} {b : Nat} (hx : p.tables.exec = Jvm.exec) (hb : c.code = code) (hr : meth.sig.returnType = ret) (hlocks : meth.locks = false) {pc : Nat} {H : Heap} {ls : Array Slot} (hdg : decode code pc = .ok (.ireturn, 1)) : W p l e room_1 s m #[Value.ref b] below meth c H [] 601024 7293034 (lw_Z below #[Value.ref b] s) (F0 m pc ls [.int 1]) := by
  intro T hT X
  obtain ⟨fs, hret, hrun, hended, hW, hframe⟩ := X.leave (v := some (.int 1)) (hlocks := hlocks) (fun h => by rw [hr] at h; cases h)
  have hmeth' : T.vm.method? m = some meth := X.method'
  refine ⟨T.setFrames fs, ?_, .returned (some (.int 1)), hrun, hended, rfl, ⟨_, rfl⟩, hW, hframe⟩
  jvm_step X.here [X.here.top, hx, hb, hdg, hmeth', hr, ret, narrow_b1]
  (try refine ⟨rfl, ?_⟩); (try refine ⟨rfl, ?_⟩)
  first | (intro acts; rw [hret _ acts rfl rfl rfl]) | rw [hret _ _ rfl rfl rfl]
  exact Steps.refl _
/-- what holds at the law's entry: the machine, the code, the tables' words (any of lw_tbl by 'hts w (by decide +kernel)'), the script of L ints xs at the cell b, what the Statement gives of the start (any of its parts by flat_of_before) -/
def lw_At (p : Program) (s : State) (m : MethodId) (meth : Method) (c : Code) (b L : Nat) (xs : Nat → Int32) : Prop :=
  p.tables.exec = Jvm.exec ∧ c.code = code ∧ meth.sig.returnType = ret ∧ c.maxLocals = 7 ∧ s.vm.findClass R_law = some m.cls ∧ (∀ w ∈ lw_tbl, w.before #[Value.ref b] s = true) ∧ va_X b L xs s s.heap ∧ b < s.heap.size ∧ meth.locks = false ∧ (Jvm.Cond.and given_1 narrow_1).before #[Value.ref b] s = true
theorem gt_lw {w : Cond} (h : w ∈ gtbl) : w ∈ lw_tbl := (List.mem_filter.mp h).1
theorem iwt_0 : ∀ w ∈ u_ws RX0 TX0 2, w ∈ lw_tbl := fun w h => gt_lw (iw_0 w h)
theorem iwt_1 : ∀ w ∈ u_ws RX1 TX1 2, w ∈ lw_tbl := fun w h => gt_lw (iw_1 w h)
theorem iwt_2 : ∀ w ∈ u_ws RX2 TX2 1, w ∈ lw_tbl := fun w h => gt_lw (iw_2 w h)
theorem iwt_3 : ∀ w ∈ u_ws RX3 TX3 3, w ∈ lw_tbl := fun w h => gt_lw (iw_3 w h)
theorem iwt_4 : ∀ w ∈ u_ws RX4 TX4 3, w ∈ lw_tbl := fun w h => gt_lw (iw_4 w h)
theorem iwt_5 : ∀ w ∈ u_ws RX5 TX5 15, w ∈ lw_tbl := fun w h => gt_lw (iw_5 w h)
theorem iwt_6 : ∀ w ∈ u_ws RX6 TX6 6, w ∈ lw_tbl := fun w h => gt_lw (iw_6 w h)
theorem iwt_7 : ∀ w ∈ u_ws RX7 TX7 3, w ∈ lw_tbl := fun w h => gt_lw (iw_7 w h)
theorem iwt_8 : ∀ w ∈ u_ws RX8 TX8 3, w ∈ lw_tbl := fun w h => gt_lw (iw_8 w h)
theorem iwt_9 : ∀ w ∈ u_ws RX9 TX9 11, w ∈ lw_tbl := fun w h => gt_lw (iw_9 w h)
theorem iwt_10 : ∀ w ∈ u_ws RX10 TX10 38, w ∈ lw_tbl := fun w h => gt_lw (iw_10 w h)
theorem k_astore_n {κ : Ctx} {nL : Nat} {A : Nat → Prop} {Q : State → Prop} {ws : va_W} {cl sl pc : Nat} {lv : List (Option Value)} {st : List Value} {cc : ByteArray} {own : String} (hC : okK κ A cc nL own) {k : Fin 4} {x : Nat} (hn : decide ((k : Nat) < nL) = true) (hl : nlo lv (k : Nat) = true) (hdg : decode cc pc = .ok (.astore_n k, 1)) (kk : wK κ nL A Q ws cl sl (pc + 1) (lv.set (k : Nat) (some (.ref x))) st) : wK κ nL A Q ws cl sl pc lv (.ref x :: st) := fun H locs ls h1 h2 h3 h4 => lv_astore_n hC.1 hC.2.1 hdg rfl (lvp_has h4) (of_decide_eq_true hn) rfl (fun ls1 h5 => kk H locs ls1 h1 h2 h3 (lvp_st1 hl h5))
theorem k_istore {κ : Ctx} {nL : Nat} {A : Nat → Prop} {Q : State → Prop} {ws : va_W} {cl sl pc : Nat} {lv : List (Option Value)} {st : List Value} {cc : ByteArray} {own : String} (hC : okK κ A cc nL own) {i : Nat} {x : Int32} (hn : decide (i < nL) = true) (hl : nlo lv i = true) (hdg : decode cc pc = .ok (.istore i, 2)) (kk : wK κ nL A Q ws cl sl (pc + 2) (lv.set i (some (.int x))) st) : wK κ nL A Q ws cl sl pc lv (.int x :: st) := fun H locs ls h1 h2 h3 h4 => lv_istore hC.1 hC.2.1 hdg (lvp_has h4) (of_decide_eq_true hn) rfl (fun ls1 h5 => kk H locs ls1 h1 h2 h3 (lvp_st1 hl h5))
theorem at_addr {ws : va_W} {n : Nat} {a : Nat → Nat} (h : ws.map Prod.fst = (List.range n).map a) {i : Nat} (hi : i < n) : ∃ e, ws[i]? = some (a i, e) := by
  have h1 : (ws.map Prod.fst)[i]? = some (a i) := by rw [h]; simp [hi]
  rw [List.getElem?_map] at h1
  cases hw : ws[i]? with
  | none => rw [hw] at h1; cases h1
  | some q =>
    rw [hw] at h1
    exact ⟨q.2, by rw [← Option.some.inj h1]⟩
theorem addr_at {ws : va_W} {n : Nat} {a : Nat → Nat} (h : ws.map Prod.fst = (List.range n).map a) {i : Nat} {q : Nat × va_E} (hq : ws[i]? = some q) : i < n ∧ q.1 = a i := by
  have hl : ws.length = n := by
    have := congrArg List.length h
    simpa using this
  have hi : i < n := by
    rw [← hl]
    exact (List.getElem?_eq_some_iff.mp hq).1
  obtain ⟨e, he⟩ := at_addr h hi
  rw [hq] at he
  exact ⟨hi, by rw [Option.some.inj he]⟩
theorem split_ok {A : Nat → Prop} {ws1 ws2 : va_W} {n1 n2 : Nat} {a1 a2 : Nat → Nat} (hD : va_D A (ws1 ++ ws2)) (h1 : ws1.map Prod.fst = (List.range n1).map a1) (h2 : ws2.map Prod.fst = (List.range n2).map a2) :
    (∀ i j, i < n1 → j < n1 → a1 i = a1 j → i = j) ∧ (∀ i j, i < n2 → j < n2 → a2 i = a2 j → i = j) ∧ (∀ i j, i < n1 → j < n2 → a1 i ≠ a2 j) ∧ (∀ i, i < n1 → A (a1 i)) ∧ (∀ i, i < n2 → A (a2 i)) := by
  have hl : ws1.length = n1 := by
    have := congrArg List.length h1
    simpa using this
  have g1 : ∀ i, i < n1 → ∃ e, (ws1 ++ ws2)[i]? = some (a1 i, e) := fun i hi => by
    obtain ⟨e, he⟩ := at_addr h1 hi
    exact ⟨e, by rw [List.getElem?_append_left (by omega)]; exact he⟩
  have g2 : ∀ i, i < n2 → ∃ e, (ws1 ++ ws2)[n1 + i]? = some (a2 i, e) := fun i hi => by
    obtain ⟨e, he⟩ := at_addr h2 hi
    exact ⟨e, by rw [List.getElem?_append_right (by omega), hl, Nat.add_sub_cancel_left]; exact he⟩
  refine ⟨fun i j hi hj e => ?_, fun i j hi hj e => ?_, fun i j hi hj e => ?_, fun i hi => ?_, fun i hi => ?_⟩
  · obtain ⟨_, p⟩ := g1 i hi
    obtain ⟨_, q⟩ := g1 j hj
    exact hD.1 i j _ _ p q e
  · obtain ⟨_, p⟩ := g2 i hi
    obtain ⟨_, q⟩ := g2 j hj
    have := hD.1 _ _ _ _ p q e
    omega
  · obtain ⟨_, p⟩ := g1 i hi
    obtain ⟨_, q⟩ := g2 j hj
    have := hD.1 _ _ _ _ p q e
    omega
  · obtain ⟨_, p⟩ := g1 i hi
    exact hD.2 _ _ p
  · obtain ⟨_, p⟩ := g2 i hi
    exact hD.2 _ _ p
theorem okw_of {w : Wenv} {wd : Wd} {n : Nat} (hA : w.2.1 = fun q => ∃ j, j < n ∧ q = w.2.2.1 j) (hm : ∀ σ, (wd w σ).map Prod.fst = (List.range n).map w.2.2.1) (hinj : ∀ i j, i < n → j < n → w.2.2.1 i = w.2.2.1 j → i = j) : okw w wd := fun σ => by
  refine ⟨fun i j p q hi hj e => ?_, fun k q hk => ?_⟩
  · obtain ⟨a1, a2⟩ := addr_at (hm σ) hi
    obtain ⟨b1, b2⟩ := addr_at (hm σ) hj
    exact hinj i j a1 b1 (by rw [← a2, ← b2]; exact e)
  · obtain ⟨a1, a2⟩ := addr_at (hm σ) hk
    rw [hA]
    exact ⟨k, a1, a2⟩
theorem arr_known {ty : FieldType} {args : Array Value} {s : State} (h : (Cond.arrayClass ty).before args s = true) : ∃ cA : ClassId, ArrOfT s cA ty ∧ s.vm.findClass ("[" ++ ty.toString) = some cA := by
  obtain ⟨c, k, comp, h1, h2, h3⟩ := Cond.arrayClass_spec h
  exact ⟨c, fun n z => ⟨fun k h => (by cases h), k, h2, comp, h3⟩, h1⟩
set_option maxRecDepth 100000 in
theorem exW_in : ∀ w ∈ exW, w ∈ lw_tbl := by decide +kernel
set_option maxRecDepth 100000 in
theorem nest_in : ∀ q ∈ nests, Cond.methodLinkNest q.1 q.2.1 q.2.2.1 q.2.2.2 ∈ lw_tbl := by decide +kernel
set_option maxRecDepth 100000 in
theorem str_in : Cond.stringRef RX9 120 "no such PLAYERS, or one twice" ∈ lw_tbl := List.mem_of_getElem? (i := 1001) (by decide +kernel)
set_option maxRecDepth 100000 in
theorem sU_in : Cond.laysStatic Bundle.tN "UNASSIGNED_STACK" Bundle.steD ∈ lw_tbl := by decide +kernel
set_option maxRecDepth 100000 in
theorem sN_in : Cond.laysStatic Bundle.tN "SUPPRESSED_SENTINEL" Bundle.listD ∈ lw_tbl := by decide +kernel
set_option maxRecDepth 100000 in
theorem sT_in : Cond.initialized Bundle.tN ∈ lw_tbl := by decide +kernel
set_option maxHeartbeats 8000000 in
set_option maxRecDepth 100000 in
theorem whole_start {p : Program} {e : Env} {s : State} {m : MethodId} {below : List Frame} {meth : Method} {c : Code} (l : Launch) (hflags : l.flags = flags0) {b L : Nat} {xs : Nat → Int32} (hL : L ≤ 2048) (C0 : lw_At p s m meth c b L xs) : W p l e room_1 s m #[Value.ref b] below meth c s.heap [] 0 0 (lw_Z below #[Value.ref b] s) (entryFrame m ([Value.ref b] : List Value).toArray 7) := by
  obtain ⟨hx, hb, hr, hml, hown, hts, hX, hbl, hlocks, hgv⟩ := id C0
  have hflat := flat_of_before _ hgv
  obtain ⟨c0, iS0, hKn0⟩ := u_known (C := RX0) (T := TX0) (N := 2) (n := 2) hts iwt_0 (hts (.instantiable RX0 2) (gt_lw k_206))
  obtain ⟨c1, iS1, hKn1⟩ := u_known (C := RX1) (T := TX1) (N := 2) (n := 2) hts iwt_1 (hts (.instantiable RX1 2) (gt_lw k_127))
  obtain ⟨c2, iS2, hKn2⟩ := u_known (C := RX2) (T := TX2) (N := 1) (n := 1) hts iwt_2 (hts (.instantiable RX2 1) (gt_lw k_302))
  obtain ⟨c3, iS3, hKn3⟩ := u_known (C := RX3) (T := TX3) (N := 3) (n := 3) hts iwt_3 (hts (.instantiable RX3 3) (gt_lw k_172))
  obtain ⟨c4, iS4, hKn4⟩ := u_known (C := RX4) (T := TX4) (N := 3) (n := 3) hts iwt_4 (hts (.instantiable RX4 3) (gt_lw k_153))
  obtain ⟨c5, iS5, hKn5⟩ := u_known (C := RX5) (T := TX5) (N := 15) (n := 15) hts iwt_5 (hts (.instantiable RX5 15) (gt_lw k_245))
  obtain ⟨c6, iS6, hKn6⟩ := u_known (C := RX6) (T := TX6) (N := 6) (n := 6) hts iwt_6 (hts (.instantiable RX6 6) (gt_lw k_219))
  obtain ⟨c7, iS7, hKn7⟩ := u_known (C := RX7) (T := TX7) (N := 3) (n := 3) hts iwt_7 (hts (.instantiable RX7 3) (gt_lw k_107))
  obtain ⟨c8, iS8, hKn8⟩ := u_known (C := RX8) (T := TX8) (N := 3) (n := 3) hts iwt_8 (hts (.instantiable RX8 3) (gt_lw k_189))
  obtain ⟨c9, iS9, hKn9⟩ := u_known (C := RX9) (T := TX9) (N := 11) (n := 11) hts iwt_9 (hts (.instantiable RX9 11) (gt_lw k_99))
  obtain ⟨c10, iS10, hKn10⟩ := u_known (C := RX10) (T := TX10) (N := 38) (n := 38) hts iwt_10 (hts (.instantiable RX10 38) (gt_lw k_1032))
  obtain ⟨dC, dI, hKc⟩ : ∃ (dC : Nat → ClassId) (dI : Nat → Nat → Nat), ∀ (k : Nat) (q : vw_C), vwCl[k]? = some q → u_Kn s q.1 q.2.1 q.2.2 (dC k) (dI k) := by
    refine ⟨fun k => if k = 0 then c0 else if k = 1 then c1 else if k = 2 then c2 else if k = 3 then c3 else if k = 4 then c4 else if k = 5 then c5 else if k = 6 then c6 else if k = 7 then c7 else if k = 8 then c8 else if k = 9 then c9 else c10, fun k => if k = 0 then iS0 else if k = 1 then iS1 else if k = 2 then iS2 else if k = 3 then iS3 else if k = 4 then iS4 else if k = 5 then iS5 else if k = 6 then iS6 else if k = 7 then iS7 else if k = 8 then iS8 else if k = 9 then iS9 else iS10, ?_⟩
    intro k q hq
    match k, hq with
    | 0, hq => cases hq; exact hKn0
    | 1, hq => cases hq; exact hKn1
    | 2, hq => cases hq; exact hKn2
    | 3, hq => cases hq; exact hKn3
    | 4, hq => cases hq; exact hKn4
    | 5, hq => cases hq; exact hKn5
    | 6, hq => cases hq; exact hKn6
    | 7, hq => cases hq; exact hKn7
    | 8, hq => cases hq; exact hKn8
    | 9, hq => cases hq; exact hKn9
    | 10, hq => cases hq; exact hKn10
    | k + 11, hq => simp [vwCl] at hq
  obtain ⟨y0, hy0, hz0⟩ := arr_known (hts (.arrayClass .int) (gt_lw k_151))
  obtain ⟨y1, hy1, hz1⟩ := arr_known (hts (.arrayClass .char) (gt_lw k_125))
  obtain ⟨y2, hy2, hz2⟩ := arr_known (hts (.arrayClass .long) (gt_lw k_170))
  obtain ⟨y3, hy3, hz3⟩ := arr_known (hts (.arrayClass .byte) (gt_lw k_1027))
  obtain ⟨y4, hy4, hz4⟩ := arr_known (hts (.arrayClass .boolean) (gt_lw k_1152))
  obtain ⟨cy, ecy⟩ : ∃ cy : Nat → ClassId, cy = fun k => if k = 0 then y0 else if k = 1 then y1 else if k = 2 then y2 else if k = 3 then y3 else y4 := ⟨_, rfl⟩
  have hK : va_K (dC, dI) vwCl [(cy 0, .int), (cy 1, .char), (cy 2, .long), (cy 3, .byte), (cy 4, .boolean)] s := by
    refine ⟨hKc, fun k q hq => ?_⟩
    rw [ecy] at hq
    have hk : k < 5 := (List.getElem?_eq_some_iff.mp hq).1
    rcases (show k = 0 ∨ k = 1 ∨ k = 2 ∨ k = 3 ∨ k = 4 by omega) with rfl | rfl | rfl | rfl | rfl <;> cases hq
    · exact ⟨hy0, hz0⟩
    · exact ⟨hy1, hz1⟩
    · exact ⟨hy2, hz2⟩
    · exact ⟨hy3, hz3⟩
    · exact ⟨hy4, hz4⟩
  have hN : Nst s := fun q hq => va_Nw.of rfl (hts _ (nest_in q hq))
  have hstk : l.stackTraces = false := by
    unfold Launch.stackTraces
    rw [hflags]
    decide +kernel
  obtain ⟨sa, hsa⟩ : ∃ sa : Nat, vk_R RX9 120 "no such PLAYERS, or one twice" sa s := by
    obtain ⟨_, _, _, a, -, -, -, -, -, h6⟩ := Cond.stringRef_spec hKn9.2.1 (hts (.stringRef RX9 120 "no such PLAYERS, or one twice") str_in)
    exact ⟨a, vk_R.of (hts _ str_in) h6⟩
  have hEx : Ex sa (fun q : Nat => s.heap.size ≤ q) s := ⟨fun w hw => va_Nw.of (exW_on hw).2 (hts _ (exW_in w hw)), hsa, vx_Zqof (hts _ sU_in) (hts _ sT_in) (hflat _ (by decide +kernel)) (fun a h => Nat.not_le.mpr h), vx_Zqof (hts _ sN_in) (hts _ sT_in) (hflat _ (by decide +kernel)) (fun a h => Nat.not_le.mpr h)⟩
  obtain ⟨N, hB⟩ := law_ok L xs hL
  obtain ⟨κ, hκ⟩ : ∃ κ : Ctx, κ = (((dC, dI), (fun _ => True), (fun _ => 0), cy), p, l, e, room_1, s, m, #[Value.ref b], below, meth, c) := ⟨_, rfl⟩
  have hR : kR κ = room_1 := by rw [hκ]
  have hlA : lA κ = fun q : Nat => s.heap.size ≤ q := by rw [hκ]; rfl
  have hC : okK κ (lA κ) cL_law 7 RL := by
    rw [hκ]
    exact ⟨hx, hb, hml, hown, fun w hw => hts w (gt_lw hw), fun _ h => h, hlocks, hK, hN⟩
  have hG : okG κ cL_law 7 RL := ⟨hC.1, hC.2.1, hC.2.2.1, hC.2.2.2.1, hC.2.2.2.2.1⟩
  have hZ : lEnd κ (lw_Z below #[Value.ref b] s) := by
    rw [hκ]
    exact fun H ls pc hd => lw_ret hx hb hr hlocks hd
  suffices key : wK κ 7 (lA κ) (lw_Z below #[Value.ref b] s) [] 0 0 0 [some (.ref b), none, none, none, none, none, none] [] by
    have h1 := key s.heap [] ((lg_sl ([.ref b]) ++ List.replicate (7 - (lg_sl ([.ref b])).length) Slot.unset).toArray) (fun k q h => by simp at h) ⟨fun i j p q h => by simp at h, fun k q h => by simp at h⟩ (by rw [hκ]; exact va_S.rf) (has_lvp (lv_entry ([.ref b]) (n := 7) (Nat.le_of_ble_eq_true rfl)))
    rw [hκ] at h1
    rw [lg_entry_eq]
    exact h1
  have hcy : (kW κ).2.2.2 = cy := by rw [hκ]
  have hkl : kl κ = l := by rw [hκ]
  have hRf : 100 ≤ (kR κ).frames ∧ 10000 ≤ (kR κ).locals := by rw [hR]; exact ⟨Nat.le_of_ble_eq_true rfl, Nat.le_of_ble_eq_true rfl⟩
  refine k_new (pc := 0) (ci := 9) (fs := [.null, .null, .null, .null, .null, .null, .null, .null, .null, .null, .null]) hC iw_9 tyX9 tyX9_ok k_98 k_99 k_80 rfl (fun j hj => by rcases (show j = 0 ∨ j = 1 ∨ j = 2 ∨ j = 3 ∨ j = 4 ∨ j = 5 ∨ j = 6 ∨ j = 7 ∨ j = 8 ∨ j = 9 ∨ j = 10 by omega) with rfl | rfl | rfl | rfl | rfl | rfl | rfl | rfl | rfl | rfl | rfl <;> rfl) (by rw [hR]; exact Nat.le_of_ble_eq_true rfl) (by rw [hR]; exact Nat.le_of_ble_eq_true rfl) dL_law_0 (fun x => ?_)
  refine k_norm (ws' := [(x, .inr (9, [.null, .null, .null, .null, .null, .null, .null, .null, .null, .null, .null]))]) rfl ?_
  refine k_dup (pc := 3) hC rfl dL_law_3 ?_
  refine k_call (pc := 4) [] [] hC (ci_D (kl κ) (kW κ) x) o_X9_init k_101 rfl (Or.inl k_100) ⟨Nat.le_trans (by decide) hRf.1, Nat.le_trans (by decide) hRf.2⟩ rfl (Nat.le_of_ble_eq_true rfl) (by rw [hR]; exact ⟨Nat.le_of_ble_eq_true rfl, Nat.le_of_ble_eq_true rfl⟩) dL_law_4 (fun qx => ?_)
  rw [hcy]
  refine k_norm (ws' := [(x, .inr (9, [.ref (qx 0), .ref (qx 2), .ref (qx 4), .ref (qx 6), .ref (qx 9), .ref (qx 12), .ref (qx 15), .ref (qx 17), .ref (qx 20), .ref (qx 24), .ref (qx 26)])), ((qx 0), .inr (7, [.ref (qx 1), .int 0, .int 0])), ((qx 1), .inl (cy 1, 300, .inl (fun _ => 0))), ((qx 2), .inr (1, [.ref (qx 3), .int 0])), ((qx 3), .inl (cy 0, 8, .inl (fun _ => 0))), ((qx 4), .inr (1, [.ref (qx 5), .int 0])), ((qx 5), .inl (cy 0, 8, .inl (fun _ => 0))), ((qx 6), .inr (4, [.ref (qx 7), .ref (qx 8), .int 0])), ((qx 7), .inl (cy 2, 10, .inr (.inl (fun _ => 0)))), ((qx 8), .inl (cy 2, 2, .inr (.inl (fun _ => 0)))), ((qx 9), .inr (3, [.ref (qx 2), .ref (qx 10), .ref (qx 11)])), ((qx 10), .inl (cy 0, 256, .inl (fun _ => 0))), ((qx 11), .inl (cy 0, 256, .inl (fun _ => 0))), ((qx 12), .inr (8, [.ref (qx 2), .ref (qx 13), .ref (qx 14)])), ((qx 13), .inl (cy 0, 8, .inl (fun _ => 0))), ((qx 14), .inl (cy 0, 256, .inl (fun _ => 0))), ((qx 15), .inr (0, [.ref (qx 2), .ref (qx 16)])), ((qx 16), .inl (cy 0, 8, .inl (fun _ => 0))), ((qx 17), .inr (6, [.ref (qx 2), .ref (qx 9), .ref (qx 12), .ref (qx 15), .ref (qx 18), .ref (qx 19)])), ((qx 18), .inl (cy 0, 8, .inl (fun _ => 0))), ((qx 19), .inl (cy 0, 64, .inl (fun _ => 0))), ((qx 20), .inr (5, [.ref (qx 2), .ref (qx 0), .ref (qx 17), .ref (qx 9), .ref (qx 12), .ref (qx 21), .ref (qx 22), .ref (qx 23), .int 0, .int 0, .int 0, .int 0, .int 0, .int 0, .int 0])), ((qx 21), .inl (cy 0, 300, .inl (fun _ => 0))), ((qx 22), .inl (cy 0, 102, .inl (fun _ => 0))), ((qx 23), .inl (cy 0, 8, .inl (fun _ => 0))), ((qx 24), .inr (2, [.ref (qx 25)])), ((qx 25), .inl (cy 0, 8, .inl (fun _ => 0))), ((qx 26), .inl (cy 0, 9, .inl (fun _ => 0)))]) rfl ?_
  refine k_astore_n (pc := 7) hC rfl rfl dL_law_7 ?_
  refine k_new (pc := 8) (ci := 10) (fs := [.int 0, .null, .null, .int 0, .null, .null, .null, .int 0, .int 0, .int 0, .int 0, .null, .null, .null, .null, .null, .null, .int 0, .null, .null, .null, .null, .null, .null, .null, .null, .null, .null, .null, .null, .null, .int 0, .int 0, .int 0, .int 0, .int 0, .int 0, .int 0]) hC iw_10 tyX10 tyX10_ok k_1031 k_1032 k_90 rfl (fun j hj => by rcases (show j = 0 ∨ j = 1 ∨ j = 2 ∨ j = 3 ∨ j = 4 ∨ j = 5 ∨ j = 6 ∨ j = 7 ∨ j = 8 ∨ j = 9 ∨ j = 10 ∨ j = 11 ∨ j = 12 ∨ j = 13 ∨ j = 14 ∨ j = 15 ∨ j = 16 ∨ j = 17 ∨ j = 18 ∨ j = 19 ∨ j = 20 ∨ j = 21 ∨ j = 22 ∨ j = 23 ∨ j = 24 ∨ j = 25 ∨ j = 26 ∨ j = 27 ∨ j = 28 ∨ j = 29 ∨ j = 30 ∨ j = 31 ∨ j = 32 ∨ j = 33 ∨ j = 34 ∨ j = 35 ∨ j = 36 ∨ j = 37 by omega) with rfl | rfl | rfl | rfl | rfl | rfl | rfl | rfl | rfl | rfl | rfl | rfl | rfl | rfl | rfl | rfl | rfl | rfl | rfl | rfl | rfl | rfl | rfl | rfl | rfl | rfl | rfl | rfl | rfl | rfl | rfl | rfl | rfl | rfl | rfl | rfl | rfl | rfl <;> rfl) (by rw [hR]; exact Nat.le_of_ble_eq_true rfl) (by rw [hR]; exact Nat.le_of_ble_eq_true rfl) dL_law_8 (fun y => ?_)
  refine k_dup (pc := 11) hC rfl dL_law_11 ?_
  refine k_call (pc := 12) [] [(x, .inr (9, [.ref (qx 0), .ref (qx 2), .ref (qx 4), .ref (qx 6), .ref (qx 9), .ref (qx 12), .ref (qx 15), .ref (qx 17), .ref (qx 20), .ref (qx 24), .ref (qx 26)])), ((qx 0), .inr (7, [.ref (qx 1), .int 0, .int 0])), ((qx 1), .inl (cy 1, 300, .inl (fun _ => 0))), ((qx 2), .inr (1, [.ref (qx 3), .int 0])), ((qx 3), .inl (cy 0, 8, .inl (fun _ => 0))), ((qx 4), .inr (1, [.ref (qx 5), .int 0])), ((qx 5), .inl (cy 0, 8, .inl (fun _ => 0))), ((qx 6), .inr (4, [.ref (qx 7), .ref (qx 8), .int 0])), ((qx 7), .inl (cy 2, 10, .inr (.inl (fun _ => 0)))), ((qx 8), .inl (cy 2, 2, .inr (.inl (fun _ => 0)))), ((qx 9), .inr (3, [.ref (qx 2), .ref (qx 10), .ref (qx 11)])), ((qx 10), .inl (cy 0, 256, .inl (fun _ => 0))), ((qx 11), .inl (cy 0, 256, .inl (fun _ => 0))), ((qx 12), .inr (8, [.ref (qx 2), .ref (qx 13), .ref (qx 14)])), ((qx 13), .inl (cy 0, 8, .inl (fun _ => 0))), ((qx 14), .inl (cy 0, 256, .inl (fun _ => 0))), ((qx 15), .inr (0, [.ref (qx 2), .ref (qx 16)])), ((qx 16), .inl (cy 0, 8, .inl (fun _ => 0))), ((qx 17), .inr (6, [.ref (qx 2), .ref (qx 9), .ref (qx 12), .ref (qx 15), .ref (qx 18), .ref (qx 19)])), ((qx 18), .inl (cy 0, 8, .inl (fun _ => 0))), ((qx 19), .inl (cy 0, 64, .inl (fun _ => 0))), ((qx 20), .inr (5, [.ref (qx 2), .ref (qx 0), .ref (qx 17), .ref (qx 9), .ref (qx 12), .ref (qx 21), .ref (qx 22), .ref (qx 23), .int 0, .int 0, .int 0, .int 0, .int 0, .int 0, .int 0])), ((qx 21), .inl (cy 0, 300, .inl (fun _ => 0))), ((qx 22), .inl (cy 0, 102, .inl (fun _ => 0))), ((qx 23), .inl (cy 0, 8, .inl (fun _ => 0))), ((qx 24), .inr (2, [.ref (qx 25)])), ((qx 25), .inl (cy 0, 8, .inl (fun _ => 0))), ((qx 26), .inl (cy 0, 9, .inl (fun _ => 0)))] hC (ci_M (kl κ) (kW κ) y) o_X10_init k_1034 rfl (Or.inl k_1033) ⟨Nat.le_trans (by decide) hRf.1, Nat.le_trans (by decide) hRf.2⟩ rfl (Nat.le_of_ble_eq_true rfl) (by rw [hR]; exact ⟨Nat.le_of_ble_eq_true rfl, Nat.le_of_ble_eq_true rfl⟩) dL_law_12 (fun qm => ?_)
  rw [hcy]
  refine k_norm (ws' := [(x, .inr (9, [.ref (qx 0), .ref (qx 2), .ref (qx 4), .ref (qx 6), .ref (qx 9), .ref (qx 12), .ref (qx 15), .ref (qx 17), .ref (qx 20), .ref (qx 24), .ref (qx 26)])), ((qx 0), .inr (7, [.ref (qx 1), .int 0, .int 0])), ((qx 1), .inl (cy 1, 300, .inl (fun _ => 0))), ((qx 2), .inr (1, [.ref (qx 3), .int 0])), ((qx 3), .inl (cy 0, 8, .inl (fun _ => 0))), ((qx 4), .inr (1, [.ref (qx 5), .int 0])), ((qx 5), .inl (cy 0, 8, .inl (fun _ => 0))), ((qx 6), .inr (4, [.ref (qx 7), .ref (qx 8), .int 0])), ((qx 7), .inl (cy 2, 10, .inr (.inl (fun _ => 0)))), ((qx 8), .inl (cy 2, 2, .inr (.inl (fun _ => 0)))), ((qx 9), .inr (3, [.ref (qx 2), .ref (qx 10), .ref (qx 11)])), ((qx 10), .inl (cy 0, 256, .inl (fun _ => 0))), ((qx 11), .inl (cy 0, 256, .inl (fun _ => 0))), ((qx 12), .inr (8, [.ref (qx 2), .ref (qx 13), .ref (qx 14)])), ((qx 13), .inl (cy 0, 8, .inl (fun _ => 0))), ((qx 14), .inl (cy 0, 256, .inl (fun _ => 0))), ((qx 15), .inr (0, [.ref (qx 2), .ref (qx 16)])), ((qx 16), .inl (cy 0, 8, .inl (fun _ => 0))), ((qx 17), .inr (6, [.ref (qx 2), .ref (qx 9), .ref (qx 12), .ref (qx 15), .ref (qx 18), .ref (qx 19)])), ((qx 18), .inl (cy 0, 8, .inl (fun _ => 0))), ((qx 19), .inl (cy 0, 64, .inl (fun _ => 0))), ((qx 20), .inr (5, [.ref (qx 2), .ref (qx 0), .ref (qx 17), .ref (qx 9), .ref (qx 12), .ref (qx 21), .ref (qx 22), .ref (qx 23), .int 0, .int 0, .int 0, .int 0, .int 0, .int 0, .int 0])), ((qx 21), .inl (cy 0, 300, .inl (fun _ => 0))), ((qx 22), .inl (cy 0, 102, .inl (fun _ => 0))), ((qx 23), .inl (cy 0, 8, .inl (fun _ => 0))), ((qx 24), .inr (2, [.ref (qx 25)])), ((qx 25), .inl (cy 0, 8, .inl (fun _ => 0))), ((qx 26), .inl (cy 0, 9, .inl (fun _ => 0))), (y, .inr (10, [.int 0, .ref (qm 0), .ref (qm 1), .int 0, .ref (qm 2), .ref (qm 3), .ref (qm 4), .int 0, .int 0, .int 0, .int 0, .ref (qm 5), .ref (qm 6), .ref (qm 7), .ref (qm 8), .ref (qm 9), .ref (qm 10), .int 0, .ref (qm 11), .ref (qm 12), .ref (qm 13), .ref (qm 14), .ref (qm 15), .ref (qm 16), .ref (qm 17), .ref (qm 18), .ref (qm 19), .ref (qm 20), .ref (qm 21), .ref (qm 22), .ref (qm 23), .int 0, .int 0, .int (-1 : Int32), .int 0, .int 0, .int 0, .int 0])), ((qm 0), .inl (cy 0, 9, .inl (fun _ => 0))), ((qm 1), .inl (cy 0, 90, .inl (fun _ => 0))), ((qm 2), .inl (cy 0, 18, .inl (fun _ => 0))), ((qm 3), .inl (cy 4, 2, .inl (fun _ => 0))), ((qm 4), .inl (cy 3, 300, .inl (fun _ => 0))), ((qm 5), .inl (cy 0, 8, .inl (fun _ => 0))), ((qm 6), .inl (cy 0, 8, .inl (fun _ => 0))), ((qm 7), .inl (cy 0, 9, .inl (fun _ => 0))), ((qm 8), .inl (cy 0, 9, .inl (fun _ => 0))), ((qm 9), .inl (cy 0, 9, .inl (fun _ => 0))), ((qm 10), .inl (cy 0, 9, .inl (fun _ => 0))), ((qm 11), .inl (cy 0, 256, .inl (fun _ => 0))), ((qm 12), .inl (cy 0, 256, .inl (fun _ => 0))), ((qm 13), .inl (cy 0, 256, .inl (fun _ => 0))), ((qm 14), .inl (cy 0, 8, .inl (fun _ => 0))), ((qm 15), .inl (cy 0, 256, .inl (fun _ => 0))), ((qm 16), .inl (cy 0, 8, .inl (fun _ => 0))), ((qm 17), .inl (cy 0, 2048, .inl (fun _ => 0))), ((qm 18), .inl (cy 0, 9, .inl (fun _ => 0))), ((qm 19), .inl (cy 0, 8, .inl (fun _ => 0))), ((qm 20), .inl (cy 0, 8, .inl (fun _ => 0))), ((qm 21), .inl (cy 0, 300, .inl (fun _ => 0))), ((qm 22), .inl (cy 0, 152, .inl (fun _ => 0))), ((qm 23), .inl (cy 0, 152, .inl (fun _ => 0)))]) rfl ?_
  refine k_astore_n (pc := 15) hC rfl rfl dL_law_15 ?_
  refine k_iconst (pc := 16) (v := (1 : Int32)) hC (by decide) dL_law_16 ?_
  refine k_newa (pc := 17) (atype := .long) (N' := 1) (a0 := (1, .inr (.inl (fun _ => 0)))) (c0 := cy 2) hC 2 rfl (by rw [hκ]; rfl) (fun _ => rfl) k_170 (fun _ => rfl) (by decide) (by decide) (by decide) (by rw [hR]; exact Nat.le_of_ble_eq_true rfl) (by rw [hR]; exact Nat.le_of_ble_eq_true rfl) dL_law_17 (fun z => ?_)
  refine k_norm (ws' := [(x, .inr (9, [.ref (qx 0), .ref (qx 2), .ref (qx 4), .ref (qx 6), .ref (qx 9), .ref (qx 12), .ref (qx 15), .ref (qx 17), .ref (qx 20), .ref (qx 24), .ref (qx 26)])), ((qx 0), .inr (7, [.ref (qx 1), .int 0, .int 0])), ((qx 1), .inl (cy 1, 300, .inl (fun _ => 0))), ((qx 2), .inr (1, [.ref (qx 3), .int 0])), ((qx 3), .inl (cy 0, 8, .inl (fun _ => 0))), ((qx 4), .inr (1, [.ref (qx 5), .int 0])), ((qx 5), .inl (cy 0, 8, .inl (fun _ => 0))), ((qx 6), .inr (4, [.ref (qx 7), .ref (qx 8), .int 0])), ((qx 7), .inl (cy 2, 10, .inr (.inl (fun _ => 0)))), ((qx 8), .inl (cy 2, 2, .inr (.inl (fun _ => 0)))), ((qx 9), .inr (3, [.ref (qx 2), .ref (qx 10), .ref (qx 11)])), ((qx 10), .inl (cy 0, 256, .inl (fun _ => 0))), ((qx 11), .inl (cy 0, 256, .inl (fun _ => 0))), ((qx 12), .inr (8, [.ref (qx 2), .ref (qx 13), .ref (qx 14)])), ((qx 13), .inl (cy 0, 8, .inl (fun _ => 0))), ((qx 14), .inl (cy 0, 256, .inl (fun _ => 0))), ((qx 15), .inr (0, [.ref (qx 2), .ref (qx 16)])), ((qx 16), .inl (cy 0, 8, .inl (fun _ => 0))), ((qx 17), .inr (6, [.ref (qx 2), .ref (qx 9), .ref (qx 12), .ref (qx 15), .ref (qx 18), .ref (qx 19)])), ((qx 18), .inl (cy 0, 8, .inl (fun _ => 0))), ((qx 19), .inl (cy 0, 64, .inl (fun _ => 0))), ((qx 20), .inr (5, [.ref (qx 2), .ref (qx 0), .ref (qx 17), .ref (qx 9), .ref (qx 12), .ref (qx 21), .ref (qx 22), .ref (qx 23), .int 0, .int 0, .int 0, .int 0, .int 0, .int 0, .int 0])), ((qx 21), .inl (cy 0, 300, .inl (fun _ => 0))), ((qx 22), .inl (cy 0, 102, .inl (fun _ => 0))), ((qx 23), .inl (cy 0, 8, .inl (fun _ => 0))), ((qx 24), .inr (2, [.ref (qx 25)])), ((qx 25), .inl (cy 0, 8, .inl (fun _ => 0))), ((qx 26), .inl (cy 0, 9, .inl (fun _ => 0))), (y, .inr (10, [.int 0, .ref (qm 0), .ref (qm 1), .int 0, .ref (qm 2), .ref (qm 3), .ref (qm 4), .int 0, .int 0, .int 0, .int 0, .ref (qm 5), .ref (qm 6), .ref (qm 7), .ref (qm 8), .ref (qm 9), .ref (qm 10), .int 0, .ref (qm 11), .ref (qm 12), .ref (qm 13), .ref (qm 14), .ref (qm 15), .ref (qm 16), .ref (qm 17), .ref (qm 18), .ref (qm 19), .ref (qm 20), .ref (qm 21), .ref (qm 22), .ref (qm 23), .int 0, .int 0, .int (-1 : Int32), .int 0, .int 0, .int 0, .int 0])), ((qm 0), .inl (cy 0, 9, .inl (fun _ => 0))), ((qm 1), .inl (cy 0, 90, .inl (fun _ => 0))), ((qm 2), .inl (cy 0, 18, .inl (fun _ => 0))), ((qm 3), .inl (cy 4, 2, .inl (fun _ => 0))), ((qm 4), .inl (cy 3, 300, .inl (fun _ => 0))), ((qm 5), .inl (cy 0, 8, .inl (fun _ => 0))), ((qm 6), .inl (cy 0, 8, .inl (fun _ => 0))), ((qm 7), .inl (cy 0, 9, .inl (fun _ => 0))), ((qm 8), .inl (cy 0, 9, .inl (fun _ => 0))), ((qm 9), .inl (cy 0, 9, .inl (fun _ => 0))), ((qm 10), .inl (cy 0, 9, .inl (fun _ => 0))), ((qm 11), .inl (cy 0, 256, .inl (fun _ => 0))), ((qm 12), .inl (cy 0, 256, .inl (fun _ => 0))), ((qm 13), .inl (cy 0, 256, .inl (fun _ => 0))), ((qm 14), .inl (cy 0, 8, .inl (fun _ => 0))), ((qm 15), .inl (cy 0, 256, .inl (fun _ => 0))), ((qm 16), .inl (cy 0, 8, .inl (fun _ => 0))), ((qm 17), .inl (cy 0, 2048, .inl (fun _ => 0))), ((qm 18), .inl (cy 0, 9, .inl (fun _ => 0))), ((qm 19), .inl (cy 0, 8, .inl (fun _ => 0))), ((qm 20), .inl (cy 0, 8, .inl (fun _ => 0))), ((qm 21), .inl (cy 0, 300, .inl (fun _ => 0))), ((qm 22), .inl (cy 0, 152, .inl (fun _ => 0))), ((qm 23), .inl (cy 0, 152, .inl (fun _ => 0))), (z, .inl (cy 2, 1, .inr (.inl (fun _ => 0))))]) rfl ?_
  refine k_astore_n (pc := 19) hC rfl rfl dL_law_19 ?_
  refine k_iconst (pc := 20) (v := (0 : Int32)) hC (by decide) dL_law_20 ?_
  refine k_istore (pc := 21) hC rfl rfl dL_law_21 ?_
  intro H locs ls hP hD hS hls
  rw [show (kW κ).1 = (dC, dI) by rw [hκ]] at hP
  obtain ⟨aC, haC⟩ : ∃ aC : Nat → Nat, aC = fun j => ([x, (qx 0), (qx 2), (qx 4), (qx 6), (qx 9), (qx 12), (qx 15), (qx 17), (qx 20), (qx 24), (qx 26), (qx 1), (qx 3), (qx 5), (qx 7), (qx 8), (qx 10), (qx 11), (qx 13), (qx 14), (qx 16), (qx 18), (qx 19), (qx 21), (qx 22), (qx 23), (qx 25), z] : List Nat).getD j 0 := ⟨_, rfl⟩
  obtain ⟨aM, haM⟩ : ∃ aM : Nat → Nat, aM = fun j => ([y, (qm 0), (qm 1), (qm 2), (qm 3), (qm 4), (qm 5), (qm 6), (qm 7), (qm 8), (qm 9), (qm 10), (qm 11), (qm 12), (qm 13), (qm 14), (qm 15), (qm 16), (qm 17), (qm 18), (qm 19), (qm 20), (qm 21), (qm 22), (qm 23)] : List Nat).getD j 0 := ⟨_, rfl⟩
  obtain ⟨w1, hw1⟩ : ∃ w1 : Wenv, w1 = ((dC, dI), (fun q => ∃ j, j < 29 ∧ q = aC j), aC, cy) := ⟨_, rfl⟩
  obtain ⟨w2, hw2⟩ : ∃ w2 : Wenv, w2 = ((dC, dI), (fun q => ∃ j, j < 25 ∧ q = aM j), aM, cy) := ⟨_, rfl⟩
  have hP1 : va_P w1.1 vwCl (wC w1 σ0) H := by
    subst hw1; subst haC
    exact hP.sub [0, 1, 3, 5, 7, 10, 13, 16, 18, 21, 25, 27, 2, 4, 6, 8, 9, 11, 12, 14, 15, 17, 19, 20, 22, 23, 24, 26, 53] rfl
  have hP2 : va_P w2.1 vwCl (wM w2 μ0) H := by
    subst hw2; subst haM
    exact hP.sub [28, 29, 30, 31, 32, 33, 34, 35, 36, 37, 38, 39, 40, 41, 42, 43, 44, 45, 46, 47, 48, 49, 50, 51, 52] rfl
  have hDD : va_D (lA κ) (wC w1 σ0 ++ wM w2 μ0) := by
    subst hw1; subst haC; subst hw2; subst haM
    exact hD.sub [0, 1, 3, 5, 7, 10, 13, 16, 18, 21, 25, 27, 2, 4, 6, 8, 9, 11, 12, 14, 15, 17, 19, 20, 22, 23, 24, 26, 53, 28, 29, 30, 31, 32, 33, 34, 35, 36, 37, 38, 39, 40, 41, 42, 43, 44, 45, 46, 47, 48, 49, 50, 51, 52] (by decide) rfl
  have m1 : ∀ σ, (wC w1 σ).map Prod.fst = (List.range 29).map w1.2.2.1 := fun σ => rfl
  have m2 : ∀ σ, (wM w2 σ).map Prod.fst = (List.range 25).map w2.2.2.1 := fun σ => rfl
  obtain ⟨i1, i2, i3, i4, i5⟩ := split_ok hDD (m1 σ0) (m2 μ0)
  have hA1 : w1.2.1 = fun q => ∃ j, j < 29 ∧ q = w1.2.2.1 j := by subst hw1; rfl
  have hA2 : w2.2.1 = fun q => ∃ j, j < 25 ∧ q = w2.2.2.1 j := by subst hw2; rfl
  have hlok : lok κ w1 w2 b L xs sa := by
    refine ⟨okw_of hA1 m1 i1, okw_of hA2 m2 i2, ?_, ?_, ?_, ?_, ?_, ?_, ?_, ?_, ?_⟩
    · rw [hw1, hκ]; exact hK
    · rw [hw2, hκ]; exact hK
    · rw [hκ]; exact hN
    · intro q hq
      rw [hA1] at hq
      obtain ⟨j, hj, rfl⟩ := hq
      refine ⟨i4 j hj, fun h2 => ?_⟩
      rw [hA2] at h2
      obtain ⟨j2, hj2, e2⟩ := h2
      exact i3 j j2 hj hj2 e2
    · intro q hq
      rw [hA2] at hq
      obtain ⟨j, hj, rfl⟩ := hq
      refine ⟨i5 j hj, fun h2 => ?_⟩
      rw [hA1] at h2
      obtain ⟨j2, hj2, e2⟩ := h2
      exact i3 j2 j hj2 hj e2.symm
    · rw [hκ]; exact hX
    · rw [hκ]; exact hbl
    · rw [hlA, hκ]; exact hEx
    · rw [hkl]; exact hstk
  have e0 : w1.2.2.1 0 = x := by subst hw1; subst haC; rfl
  have e1 : w2.2.2.1 0 = y := by subst hw2; subst haM; rfl
  have e2 : w1.2.2.1 28 = z := by subst hw1; subst haC; rfl
  have fin := w_law (w1 := w1) (w2 := w2) (b := b) (L := L) (sa := sa) (xs := xs) hR hG hlok hZ N 513 0 rfl (0 : Int32) σ0 μ0 () hB H locs ls ⟨hP1, hP2, by rw [hlA] at hS ⊢; exact hS⟩ (by rw [e0, e1, e2]; exact hls)
  exact fin
-- ===== YOUR PART ENDS =====
set_option maxHeartbeats 4000000 in
theorem lw_walk (l : Launch) (hflags : l.flags = flags0) (b : Addr) (xs : List Int32) : MetFree l x (headSpec (Jvm.Cond.code x code maxLocals ret :: tables_1) room_1) (lw_P b xs) (fun _ _ _ _ _ => True) lw_Q := by
  refine MetFree.of_bodyS (code := code) (maxLocals := maxLocals) (ret := ret) (by decide) ?_ ?_
  · intro args s m h hn
    obtain ⟨meth, c, h1, h2, h3, h4, h5, h6, -, -⟩ := Cond.code_spec hn (atoms_spec (ws := Jvm.Cond.code x code maxLocals ret :: tables_1) h _ List.mem_cons_self)
    exact ⟨meth, c, h1, h2, h3, h4, h5, h6⟩
  · intro p e s m args below meth c s₁ B hml0 hP _
    obtain ⟨rfl, hx, hbd, hgv⟩ := hP
    obtain ⟨scr, harrAt, hlist, hof, hsmall⟩ := hx
    obtain ⟨hcb, hkn, -, -⟩ := State.arrayAt?_spec harrAt
    have hown : s.vm.findClass R_law = some m.cls := findClass_of_methodNamed B.named
    have hts0 : ∀ c ∈ (Jvm.Cond.code x code maxLocals ret :: tables_1), c.before #[Value.ref b] s = true := atoms_spec (ws := Jvm.Cond.code x code maxLocals ret :: tables_1) B.pre
    have hts : ∀ w ∈ lw_tbl, w.before #[Value.ref b] s = true := k2_hts_sels lw_privs (fun w hw => hts0 w (List.mem_cons_of_mem _ hw)) lw_privs_ok
    have hml : c.maxLocals = 7 := B.maxLocals_eq (hts0 _ List.mem_cons_self)
    have X₀ : Stand p l e room_1 s m #[Value.ref b] below meth c s₁ [] 0 0 := Stand.of_body B
    have hh0 : s₁.heap = s.heap := by rw [B.state]; rfl
    have hsz : scr.slots.size = xs.length := by rw [← Array.length_toList, hlist, List.length_map]
    have hval : ∀ j : Nat, j < xs.length → scr.slots[j]? = some (.int (xs.getD j 0)) := fun j hj => by
      rw [← Array.getElem?_toList, hlist]
      simp [hj]
    have hbl : b < s.heap.size := (Array.getElem?_eq_some_iff.mp hcb).1
    have hX : va_X b xs.length (fun j => xs.getD j 0) s s.heap := ⟨scr, hcb, hof, hkn, hsz, hval⟩
    have K : W p l e room_1 s m #[Value.ref b] below meth c s₁.heap [] 0 0 (lw_Z below #[Value.ref b] s) (entryFrame m ([Value.ref b] : List Value).toArray 7) := by
      rw [hh0]
      exact whole_start l hflags hbd ⟨B.exec, B.bytes, B.returns, hml, hown, hts, hX, hbl, B.notSynchronized, hgv⟩
    obtain ⟨t, a1, o, b1, b2, b3⟩ := K s₁ rfl X₀
    exact ⟨t, o, a1, b1, b2, b3⟩
theorem lw_pre_spec {args : Array Value} {s : State} (h : (Jvm.Cond.and given_1 narrow_1).before args s = true) (hr : rest_1_c.before args s = true) : ∃ (b : Addr) (xs : List Int32), lw_P b xs args s := by
  have hs := flat_of_before _ h
  have hq := flat_of_before _ hr
  have hc : (Cond.count 1).before args s = true := hs _ (by decide +kernel)
  have harr : (Cond.arrayOf (.arg 0) .int).before args s = true := hs _ (by decide +kernel)
  have hle : (Cond.le (.length (.arg 0)) (.int 2048)).before args s = true := hs _ (by decide +kernel)
  have hlen : (Cond.isInt (.length (.arg 0))).before args s = true := hq _ (by decide +kernel)
  have hall : (Cond.all (.arg 0) (.isInt (.elem (.arg 0) (.index 0)))).before args s = true := hq _ (by decide +kernel)
  obtain ⟨b, xs, hb, hx⟩ := State.ints_of_pre rfl harr hlen hall
  have hsm : xs.length < 2 ^ 31 := hx.choose_spec.2.2.2
  have hev : (Term.length (.arg 0)).eval args s none [] s = some (.int xs.length.toInt32) := hx.length_eval hb
  have hv := Cond.le_ints hev (show (Term.int 2048).eval args s none [] s = some (.int 2048) from rfl)
  have hd : xs.length.toInt32 ≤ 2048 := by
    simpa [Cond.before, Cond.holds, hv] using hle
  have hN : xs.length ≤ 2048 := (Int32.ofNat_le_ofNat hsm (by decide)).mp (show Int32.ofNat xs.length ≤ Int32.ofNat 2048 from hd)
  exact ⟨b, xs, Cond.one_arg hc (show args[0]? = some (.ref b) from hb), hx, hN, h⟩
theorem lw_comes (l : Launch) (hflags : l.flags = flags0) : Comes l x (Jvm.Cond.code x code maxLocals ret :: tables_1) room_1 (fun tb e args s => Calls_1 tb e args s ∧ rest_1 tb e args s ∧ Pre_1 tb e args s)
    (fun _ _ args s o t => lw_Q args s o t) := by
  intro p e ha hc hk s m args below hf hfit hheap happ hpre
  obtain ⟨b, xs, hP⟩ := lw_pre_spec hpre.2.2 hpre.2.1
  obtain ⟨k, o, h1, h2, h3, hQ⟩ := lw_walk l hflags b xs p e ha hc hk s m args below hf ((Spec.applies_iff_loose hf).mp happ).1 hP trivial
  exact ⟨k, o, h1, h2, h3, hQ⟩
theorem lw_frame {s t : State} {o : Outcome} {args : Array Value} (h : Framed s o t [] 601024 7293034) :
    Framed s o t (fieldLocs frame_1_writes args s ++ arrayLocs frame_1_arrays args s ++ staticLocs frame_1_statics s) 601024 7293034 := h
theorem lw_limb (L : Cond) (hL : ∀ (args : Array Value) (s t : State), L.after args s (.returned (some (.int 1))) t = true) :
    ArmFor flags0 classFile x code maxLocals ret World_1 tables_1 room_1 Calls_1 rest_1 Pre_1
      (fun tb e a s o t => postC L tb e a s o t ∧ Framed s o t (fieldLocs frame_1_writes a s ++ arrayLocs frame_1_arrays a s ++ staticLocs frame_1_statics s) 601024 7293034) := by
  intro l hflags _ _ p e ha hc hk s m args below hf hfit hheap happ hpre
  obtain ⟨k, o, h1, h2, h3, rfl, hF⟩ := lw_comes l hflags p e ha hc hk s m args below hf hfit hheap happ hpre
  exact ⟨k, _, h1, h2, h3, hL args s _, lw_frame hF⟩
theorem i_vc : Claimed_1_1 ∧ Claimed_1_2 := ⟨lw_limb limb_1_1 (fun args s t => by simp [limb_1_1, Cond.after, Cond.holds, Cond.value]), lw_limb limb_1_2 (fun args s t => Cond.after_iff.mpr (by
  first | (rw [show limb_1_2 = Cond.eq .result (.int 1) from rfl, Cond.eq_ints (x := 1) (y := 1) rfl rfl]; simp; done) | (simp [limb_1_2, Cond.value, Term.eval]; done)))⟩
