/-! MY OWN ROWS: a judgement wF over a fixed world (cells whose places never change, contents told by a memory), rows lifted from the kit's, one an instruction; pure combinators in which the methods' functions are written. -/
def gtbl : List Cond := lw_tbl.filter goodWord
theorem gt_in {w : Cond} (h : w ∈ lw_tbl) (hg : goodWord w = true) : w ∈ gtbl := List.mem_filter.mpr ⟨h, hg⟩
theorem gt_seg (ws : List Cond) (ps : List Nat) (hp : ws = ps.filterMap (fun i => lw_tbl[i]?)) (h : ws.all goodWord = true) : ∀ w ∈ ws, w ∈ gtbl := fun w hw => by
  have h1 := List.all_eq_true.mp h w hw
  rw [hp] at hw
  obtain ⟨i, -, hi⟩ := List.mem_filterMap.mp hw
  exact gt_in (List.mem_of_getElem? hi) h1
def Nst (U : State) : Prop := ∀ q ∈ nests, va_Nw (.methodLinkNest q.1 q.2.1 q.2.2.1 q.2.2.2) U
theorem Nst.same {u U : State} (h : u.vm = U.vm) (hn : Nst u) : Nst U := fun q hq => va_Nw.same rfl h (hn q hq)
theorem Nst.warm {u U : State} (h : u.WarmedH U.vm) (hn : Nst u) : Nst U := fun q hq => va_Nw.warmM h (hn q hq)
theorem gt_good : GoodIn gtbl gtbl := fun w h => ⟨h, good_of_word (List.mem_filter.mp h).2⟩
-- memory
abbrev Mem : Type := (Nat → Nat → Int32) × (Nat → Nat → Int64)
def gI (σ : Mem) (k : Nat) : Nat → Int32 := σ.1 k
def gJ (σ : Mem) (k : Nat) : Nat → Int64 := σ.2 k
def sI (σ : Mem) (k i : Nat) (v : Int32) : Mem := (fun a => if a = k then upd (σ.1 k) i v else σ.1 a, σ.2)
def sJ (σ : Mem) (k i : Nat) (v : Int64) : Mem := (σ.1, fun a => if a = k then vp_updL (σ.2 k) i v else σ.2 a)
def cJ (σ : Mem) (k sp dp n : Nat) : Mem := (σ.1, fun a => if a = k then va_cpy (σ.2 k) (σ.2 k) sp dp n else σ.2 a)
-- combinators
def gd {X : Type} (b : Bool) (o : Option X) : Option X := if b = true then o else none
def inb (i : Int32) (n : Nat) : Bool := decide (0 ≤ i.toInt) && decide (i.toInt < (n : Int))
def isb (v : Int32) : Bool := decide (v = 0) || decide (v = 1)
def nz (v : Int32) : Bool := !decide (v = 0)
def bnd {T U : Type} (e : T) (k : T → U) : U := k e
def ob {T X : Type} (x : Option T) (k : T → Option X) : Option X := match x with
  | none => none
  | some a => k a
def ob2 {T U X : Type} (x : Option (T × U)) (k : T → U → Option X) : Option X := match x with
  | none => none
  | some q => k q.1 q.2
theorem inb_in {i : Int32} {n : Nat} (h : inb i n = true) : vp_in i n := by
  rw [vp_in_iff]
  simpa [inb] using h
theorem isb_or {v : Int32} (h : isb v = true) : v = 0 ∨ v = 1 := by
  simpa [isb] using h
theorem isb_nar {v : Int32} (h : isb v = true) : narrow .boolean (.int v) = .int v := by
  rcases isb_or h with rfl | rfl <;> decide
theorem isb_fit {v : Int32} (h : isb v = true) : fits .boolean (.int v) = true := by
  rcases isb_or h with rfl | rfl <;> decide
theorem gd_some {X : Type} {b : Bool} {o : Option X} {x : X} (h : gd b o = some x) : b = true ∧ o = some x := by
  unfold gd at h
  split at h
  · exact ⟨by assumption, h⟩
  · cases h
theorem ob_some {T X : Type} {o : Option T} {k : T → Option X} {x : X} (h : ob o k = some x) : ∃ a, o = some a ∧ k a = some x := by
  cases o with
  | none => cases h
  | some a => exact ⟨a, rfl, h⟩
theorem ob2_some {T U X : Type} {o : Option (T × U)} {k : T → U → Option X} {x : X} (h : ob2 o k = some x) : ∃ a b, o = some (a, b) ∧ k a b = some x := by
  cases o with
  | none => cases h
  | some a => exact ⟨a.1, a.2, rfl, h⟩
def it1 {T1 X : Type} (body : (T1 → Option X) → T1 → Option X) : Nat → T1 → Option X
  | 0, _ => none
  | n + 1, a1 => body (it1 body n) a1
def it2 {T1 T2 X : Type} (body : (T1 → T2 → Option X) → T1 → T2 → Option X) : Nat → T1 → T2 → Option X
  | 0, _, _ => none
  | n + 1, a1, a2 => body (it2 body n) a1 a2
def it3 {T1 T2 T3 X : Type} (body : (T1 → T2 → T3 → Option X) → T1 → T2 → T3 → Option X) : Nat → T1 → T2 → T3 → Option X
  | 0, _, _, _ => none
  | n + 1, a1, a2, a3 => body (it3 body n) a1 a2 a3
def it4 {T1 T2 T3 T4 X : Type} (body : (T1 → T2 → T3 → T4 → Option X) → T1 → T2 → T3 → T4 → Option X) : Nat → T1 → T2 → T3 → T4 → Option X
  | 0, _, _, _, _ => none
  | n + 1, a1, a2, a3, a4 => body (it4 body n) a1 a2 a3 a4
def it5 {T1 T2 T3 T4 T5 X : Type} (body : (T1 → T2 → T3 → T4 → T5 → Option X) → T1 → T2 → T3 → T4 → T5 → Option X) : Nat → T1 → T2 → T3 → T4 → T5 → Option X
  | 0, _, _, _, _, _ => none
  | n + 1, a1, a2, a3, a4, a5 => body (it5 body n) a1 a2 a3 a4 a5
def it6 {T1 T2 T3 T4 T5 T6 X : Type} (body : (T1 → T2 → T3 → T4 → T5 → T6 → Option X) → T1 → T2 → T3 → T4 → T5 → T6 → Option X) : Nat → T1 → T2 → T3 → T4 → T5 → T6 → Option X
  | 0, _, _, _, _, _, _ => none
  | n + 1, a1, a2, a3, a4, a5, a6 => body (it6 body n) a1 a2 a3 a4 a5 a6
def it7 {T1 T2 T3 T4 T5 T6 T7 X : Type} (body : (T1 → T2 → T3 → T4 → T5 → T6 → T7 → Option X) → T1 → T2 → T3 → T4 → T5 → T6 → T7 → Option X) : Nat → T1 → T2 → T3 → T4 → T5 → T6 → T7 → Option X
  | 0, _, _, _, _, _, _, _ => none
  | n + 1, a1, a2, a3, a4, a5, a6, a7 => body (it7 body n) a1 a2 a3 a4 a5 a6 a7
def it8 {T1 T2 T3 T4 T5 T6 T7 T8 X : Type} (body : (T1 → T2 → T3 → T4 → T5 → T6 → T7 → T8 → Option X) → T1 → T2 → T3 → T4 → T5 → T6 → T7 → T8 → Option X) : Nat → T1 → T2 → T3 → T4 → T5 → T6 → T7 → T8 → Option X
  | 0, _, _, _, _, _, _, _, _ => none
  | n + 1, a1, a2, a3, a4, a5, a6, a7, a8 => body (it8 body n) a1 a2 a3 a4 a5 a6 a7 a8
def it9 {T1 T2 T3 T4 T5 T6 T7 T8 T9 X : Type} (body : (T1 → T2 → T3 → T4 → T5 → T6 → T7 → T8 → T9 → Option X) → T1 → T2 → T3 → T4 → T5 → T6 → T7 → T8 → T9 → Option X) : Nat → T1 → T2 → T3 → T4 → T5 → T6 → T7 → T8 → T9 → Option X
  | 0, _, _, _, _, _, _, _, _, _ => none
  | n + 1, a1, a2, a3, a4, a5, a6, a7, a8, a9 => body (it9 body n) a1 a2 a3 a4 a5 a6 a7 a8 a9
def it10 {T1 T2 T3 T4 T5 T6 T7 T8 T9 T10 X : Type} (body : (T1 → T2 → T3 → T4 → T5 → T6 → T7 → T8 → T9 → T10 → Option X) → T1 → T2 → T3 → T4 → T5 → T6 → T7 → T8 → T9 → T10 → Option X) : Nat → T1 → T2 → T3 → T4 → T5 → T6 → T7 → T8 → T9 → T10 → Option X
  | 0, _, _, _, _, _, _, _, _, _, _ => none
  | n + 1, a1, a2, a3, a4, a5, a6, a7, a8, a9, a10 => body (it10 body n) a1 a2 a3 a4 a5 a6 a7 a8 a9 a10
-- locals by their places
def asc : Nat → List (Option Value) → List (Nat × Value)
  | _, [] => []
  | i, none :: t => asc (i + 1) t
  | i, some v :: t => (i, v) :: asc (i + 1) t
theorem asc_of (vs : List (Option Value)) : ∀ (i j : Nat) (v : Value), vs[j]? = some (some v) → (i + j, v) ∈ asc i vs := by
  induction vs with
  | nil => intro i j v h; simp at h
  | cons a t ih =>
    intro i j v h
    cases j with
    | zero =>
      simp only [List.getElem?_cons_zero, Option.some.injEq] at h
      subst h
      exact List.mem_cons_self
    | succ j =>
      simp only [List.getElem?_cons_succ] at h
      have h2 := ih (i + 1) j v h
      rw [show i + (j + 1) = i + 1 + j by omega]
      cases a with
      | none => exact h2
      | some w => exact List.mem_cons_of_mem _ h2
theorem asc_to (vs : List (Option Value)) : ∀ (i : Nat) (q : Nat × Value), q ∈ asc i vs → ∃ j, q.1 = i + j ∧ vs[j]? = some (some q.2) := by
  induction vs with
  | nil => intro i q h; exact absurd h List.not_mem_nil
  | cons a t ih =>
    intro i q h
    cases a with
    | none =>
      obtain ⟨j, h1, h2⟩ := ih (i + 1) q h
      exact ⟨j + 1, by omega, h2⟩
    | some w =>
      rcases List.mem_cons.mp h with rfl | h
      · exact ⟨0, rfl, rfl⟩
      · obtain ⟨j, h1, h2⟩ := ih (i + 1) q h
        exact ⟨j + 1, by omega, h2⟩
def lvp (ls : Array Slot) (nL : Nat) (vs : List (Option Value)) : Prop := ls.size = nL ∧ lv_wf ls ∧ ∀ (j : Nat) (v : Value), vs[j]? = some (some v) → ls[j]? = some (.val v)
theorem lvp_has {ls : Array Slot} {nL : Nat} {vs : List (Option Value)} (h : lvp ls nL vs) : lv_has ls nL (asc 0 vs) := ⟨h.1, h.2.1, fun q hq => by
  obtain ⟨j, h1, h2⟩ := asc_to vs 0 q hq
  have h3 := h.2.2 j q.2 h2
  rw [Nat.zero_add] at h1
  rw [h1]
  exact h3⟩
theorem has_lvp {ls : Array Slot} {nL : Nat} {vs : List (Option Value)} (h : lv_has ls nL (asc 0 vs)) : lvp ls nL vs := ⟨h.1, h.2.1, fun j v hj => by
  have h1 := h.2.2 _ (asc_of vs 0 j v hj)
  rw [Nat.zero_add] at h1
  exact h1⟩
/-- no long lies just ahead of a place -/
def nlo (vs : List (Option Value)) : Nat → Bool
  | 0 => true
  | i + 1 => match vs[i]? with
    | some (some v) => v.category == 1
    | _ => true
theorem lvp_st1 {ls : Array Slot} {nL i : Nat} {vs : List (Option Value)} {v : Value} (hn : nlo vs i = true) (h : lv_has ls nL ((i, v) :: (asc 0 vs).filter (fun q => !(q.1 == i) && !(q.1 + 1 == i && q.2.category == 2)))) : lvp ls nL (vs.set i (some v)) := ⟨h.1, h.2.1, fun j w hj => by
  by_cases hij : i = j
  · subst hij
    have h0 := h.2.2 _ List.mem_cons_self
    rw [List.getElem?_set] at hj
    split at hj
    · split at hj
      · cases hj; exact h0
      · cases hj
    · exact absurd rfl (by assumption)
  · rw [List.getElem?_set_ne hij] at hj
    have h1 := asc_of vs 0 j w hj
    rw [Nat.zero_add] at h1
    refine h.2.2 (j, w) (List.mem_cons_of_mem _ (List.mem_filter.mpr ⟨h1, ?_⟩))
    have h2 : ¬ j = i := fun e => hij e.symm
    simp only [Bool.and_eq_true, Bool.not_eq_true', beq_eq_false_iff_ne, ne_eq, h2, not_false_eq_true, true_and, Bool.and_eq_false_imp, beq_iff_eq]
    intro h3
    subst h3
    simp only [nlo, hj] at hn
    intro h4
    rw [h4] at hn
    exact absurd hn (by decide)⟩
theorem lvp_st2 {ls : Array Slot} {nL i : Nat} {vs : List (Option Value)} {v : Value} (hn : nlo vs i = true) (h : lv_has ls nL ((i, v) :: (asc 0 vs).filter (fun q => !(q.1 == i) && (!(q.1 == i + 1) && !(q.1 + 1 == i && q.2.category == 2))))) : lvp ls nL ((vs.set i (some v)).set (i + 1) none) := ⟨h.1, h.2.1, fun j w hj => by
  by_cases hij1 : i + 1 = j
  · subst hij1
    rw [List.getElem?_set] at hj
    split at hj
    · split at hj
      · cases hj
      · cases hj
    · exact absurd rfl (by assumption)
  rw [List.getElem?_set_ne hij1] at hj
  by_cases hij : i = j
  · subst hij
    have h0 := h.2.2 _ List.mem_cons_self
    rw [List.getElem?_set] at hj
    split at hj
    · split at hj
      · cases hj; exact h0
      · cases hj
    · exact absurd rfl (by assumption)
  · rw [List.getElem?_set_ne hij] at hj
    have h1 := asc_of vs 0 j w hj
    rw [Nat.zero_add] at h1
    refine h.2.2 (j, w) (List.mem_cons_of_mem _ (List.mem_filter.mpr ⟨h1, ?_⟩))
    have h2 : ¬ j = i := fun e => hij e.symm
    have h5 : ¬ j = i + 1 := fun e => hij1 e.symm
    simp only [Bool.and_eq_true, Bool.not_eq_true', beq_eq_false_iff_ne, ne_eq, h2, h5, not_false_eq_true, true_and, Bool.and_eq_false_imp, beq_iff_eq]
    intro h3
    subst h3
    simp only [nlo, hj] at hn
    intro h4
    rw [h4] at hn
    exact absurd hn (by decide)⟩
def msk : List Bool → List (Option Value) → List (Option Value)
  | true :: bs, v :: vs => v :: msk bs vs
  | false :: bs, _ :: vs => none :: msk bs vs
  | _, _ => []
theorem msk_of : ∀ (bs : List Bool) (vs : List (Option Value)) (j : Nat) (v : Value), (msk bs vs)[j]? = some (some v) → vs[j]? = some (some v)
  | [], _, j, v, h => by simp [msk] at h
  | b :: bs, [], j, v, h => by cases b <;> simp [msk] at h
  | true :: bs, a :: vs, 0, v, h => h
  | false :: bs, a :: vs, 0, v, h => by simp [msk] at h
  | true :: bs, a :: vs, j + 1, v, h => msk_of bs vs j v h
  | false :: bs, a :: vs, j + 1, v, h => msk_of bs vs j v h
-- the context
abbrev Wenv : Type := va_G × (Nat → Prop) × (Nat → Nat) × (Nat → ClassId)
abbrev Wd : Type := Wenv → Mem → va_W
def tyl (w : Wenv) : List (ClassId × FieldType) := [(w.2.2.2 0, .int), (w.2.2.2 1, .char), (w.2.2.2 2, .long), (w.2.2.2 3, .byte), (w.2.2.2 4, .boolean)]
def Pw (w : Wenv) (wd : Wd) (σ : Mem) (U : State) : Prop := va_P w.1 vwCl (wd w σ) U.heap ∧ va_K w.1 vwCl (tyl w) U ∧ Nst U
def okw (w : Wenv) (wd : Wd) : Prop := ∀ σ, va_D w.2.1 (wd w σ)
abbrev Ctx : Type := Wenv × Program × Launch × Env × Room × State × MethodId × Array Value × List Frame × Method × Code
abbrev kW (κ : Ctx) : Wenv := κ.1
abbrev kp (κ : Ctx) : Program := κ.2.1
abbrev kl (κ : Ctx) : Launch := κ.2.2.1
abbrev ke (κ : Ctx) : Env := κ.2.2.2.1
abbrev kR (κ : Ctx) : Room := κ.2.2.2.2.1
abbrev ks (κ : Ctx) : State := κ.2.2.2.2.2.1
abbrev km (κ : Ctx) : MethodId := κ.2.2.2.2.2.2.1
abbrev ka (κ : Ctx) : Array Value := κ.2.2.2.2.2.2.2.1
abbrev kb (κ : Ctx) : List Frame := κ.2.2.2.2.2.2.2.2.1
abbrev kmeth (κ : Ctx) : Method := κ.2.2.2.2.2.2.2.2.2.1
abbrev kc (κ : Ctx) : Code := κ.2.2.2.2.2.2.2.2.2.2
def ok (κ : Ctx) (wd : Wd) (cc : ByteArray) (nL : Nat) (own : String) (ret : Option FieldType) : Prop :=
  (kp κ).tables.exec = Jvm.exec ∧ (kc κ).code = cc ∧ (kc κ).maxLocals = nL ∧ (ks κ).vm.findClass own = some (km κ).cls ∧ (∀ w ∈ gtbl, w.before (ka κ) (ks κ) = true) ∧ (kmeth κ).sig.returnType = ret ∧ (kmeth κ).locks = false ∧ va_K (kW κ).1 vwCl (tyl (kW κ)) (ks κ) ∧ okw (kW κ) wd ∧ Nst (ks κ)
def wF {X : Type} (κ : Ctx) (wd : Wd) (nL : Nat) (Q : X → State → Prop) (σ : Mem) (pc : Nat) (lv : List (Option Value)) (st : List Value) (o : Option X) : Prop :=
  ∀ x, o = some x → ∀ (H : Heap) (locs : List Loc) (ls : Array Slot), va_P (kW κ).1 vwCl (wd (kW κ) σ) H → va_S (kW κ).2.1 (ks κ).heap H locs → lvp ls nL lv → W (kp κ) (kl κ) (ke κ) (kR κ) (ks κ) (km κ) (ka κ) (kb κ) (kmeth κ) (kc κ) H locs 0 0 (Q x) (F0 (km κ) pc ls st)
section Rows
variable {X : Type} {κ : Ctx} {wd : Wd} {nL : Nat} {Q : X → State → Prop} {σ : Mem} {pc : Nat} {lv : List (Option Value)} {st : List Value} {o o1 o2 : Option X} {cc : ByteArray} {own : String} {ret : Option FieldType}
theorem r_wk (bs : List Bool) (k : wF κ wd nL Q σ pc (msk bs lv) st o) : wF κ wd nL Q σ pc lv st o := fun x hx H locs ls h1 h2 h3 => k x hx H locs ls h1 h2 ⟨h3.1, h3.2.1, fun j v hj => h3.2.2 j v (msk_of bs lv j v hj)⟩
theorem r_no : wF κ wd nL Q σ pc lv st none := fun x hx => by cases hx
theorem r_let {e : Int32} {k : Int32 → Option X} (h : ∀ x : Int32, wF κ wd nL Q σ pc lv (.int x :: st) (k x)) : wF κ wd nL Q σ pc lv (.int e :: st) (bnd e k) := h e
theorem r_letl {e : Int64} {k : Int64 → Option X} (h : ∀ x : Int64, wF κ wd nL Q σ pc lv (.long x :: st) (k x)) : wF κ wd nL Q σ pc lv (.long e :: st) (bnd e k) := h e
theorem r_iconst (hC : ok κ wd cc nL own ret) {n : Int} {v : Int32} (hv : Int32.ofInt n = v) (hdg : decode cc pc = .ok (.iconst n, 1)) (k : wF κ wd nL Q σ (pc + 1) lv (.int v :: st) o) : wF κ wd nL Q σ pc lv st o := fun z hz H locs ls h1 h2 h3 => lv_iconst hC.1 hC.2.1 hdg hv (k z hz H locs ls h1 h2 h3)
theorem r_bipush (hC : ok κ wd cc nL own ret) {n : Int} {v : Int32} (hv : (Int8.ofInt n).toInt32 = v) (hdg : decode cc pc = .ok (.bipush n, 2)) (k : wF κ wd nL Q σ (pc + 2) lv (.int v :: st) o) : wF κ wd nL Q σ pc lv st o := fun z hz H locs ls h1 h2 h3 => lv_bipush hC.1 hC.2.1 hdg hv (k z hz H locs ls h1 h2 h3)
theorem r_sipush (hC : ok κ wd cc nL own ret) {n : Int} {v : Int32} (hv : (Int16.ofInt n).toInt32 = v) (hdg : decode cc pc = .ok (.sipush n, 3)) (k : wF κ wd nL Q σ (pc + 3) lv (.int v :: st) o) : wF κ wd nL Q σ pc lv st o := fun z hz H locs ls h1 h2 h3 => lv_sipush hC.1 hC.2.1 hdg hv (k z hz H locs ls h1 h2 h3)
theorem r_lconst (hC : ok κ wd cc nL own ret) {n : Fin 2} {v : Int64} (hv : Int64.ofNat (n : Nat) = v) (hdg : decode cc pc = .ok (.lconst n, 1)) (k : wF κ wd nL Q σ (pc + 1) lv (.long v :: st) o) : wF κ wd nL Q σ pc lv st o := fun z hz H locs ls h1 h2 h3 => lv_lconst hC.1 hC.2.1 hdg hv (k z hz H locs ls h1 h2 h3)
theorem r_iload_n (hC : ok κ wd cc nL own ret) {k : Fin 4} {x : Int32} (hl : lv[(k : Nat)]? = some (some (.int x))) (hdg : decode cc pc = .ok (.iload_n k, 1)) (k : wF κ wd nL Q σ (pc + 1) lv (.int x :: st) o) : wF κ wd nL Q σ pc lv st o := fun z hz H locs ls h1 h2 h3 => lv_iload_n hC.1 hC.2.1 hdg rfl (h3.2.2 _ _ hl) (k z hz H locs ls h1 h2 h3)
theorem r_iload (hC : ok κ wd cc nL own ret) {i : Nat} {x : Int32} (hl : lv[i]? = some (some (.int x))) (hdg : decode cc pc = .ok (.iload i, 2)) (k : wF κ wd nL Q σ (pc + 2) lv (.int x :: st) o) : wF κ wd nL Q σ pc lv st o := fun z hz H locs ls h1 h2 h3 => lv_iload hC.1 hC.2.1 hdg (h3.2.2 _ _ hl) (k z hz H locs ls h1 h2 h3)
theorem r_lload_n (hC : ok κ wd cc nL own ret) {k : Fin 4} {x : Int64} (hl : lv[(k : Nat)]? = some (some (.long x))) (hdg : decode cc pc = .ok (.lload_n k, 1)) (k : wF κ wd nL Q σ (pc + 1) lv (.long x :: st) o) : wF κ wd nL Q σ pc lv st o := fun z hz H locs ls h1 h2 h3 => lv_lload_n hC.1 hC.2.1 hdg rfl (h3.2.2 _ _ hl) (k z hz H locs ls h1 h2 h3)
theorem r_lload (hC : ok κ wd cc nL own ret) {i : Nat} {x : Int64} (hl : lv[i]? = some (some (.long x))) (hdg : decode cc pc = .ok (.lload i, 2)) (k : wF κ wd nL Q σ (pc + 2) lv (.long x :: st) o) : wF κ wd nL Q σ pc lv st o := fun z hz H locs ls h1 h2 h3 => lv_lload hC.1 hC.2.1 hdg (h3.2.2 _ _ hl) (k z hz H locs ls h1 h2 h3)
theorem r_aload_n (hC : ok κ wd cc nL own ret) {k : Fin 4} {x : Nat} (hl : lv[(k : Nat)]? = some (some (.ref x))) (hdg : decode cc pc = .ok (.aload_n k, 1)) (k : wF κ wd nL Q σ (pc + 1) lv (.ref x :: st) o) : wF κ wd nL Q σ pc lv st o := fun z hz H locs ls h1 h2 h3 => lv_aload_n hC.1 hC.2.1 hdg rfl (h3.2.2 _ _ hl) (k z hz H locs ls h1 h2 h3)
theorem r_aload (hC : ok κ wd cc nL own ret) {i : Nat} {x : Nat} (hl : lv[i]? = some (some (.ref x))) (hdg : decode cc pc = .ok (.aload i, 2)) (k : wF κ wd nL Q σ (pc + 2) lv (.ref x :: st) o) : wF κ wd nL Q σ pc lv st o := fun z hz H locs ls h1 h2 h3 => lv_aload hC.1 hC.2.1 hdg (h3.2.2 _ _ hl) (k z hz H locs ls h1 h2 h3)
theorem r_istore_n (hC : ok κ wd cc nL own ret) {k : Fin 4} {x : Int32} (hn : decide ((k : Nat) < nL) = true) (hl : nlo lv (k : Nat) = true) (hdg : decode cc pc = .ok (.istore_n k, 1)) (kk : wF κ wd nL Q σ (pc + 1) (lv.set (k : Nat) (some (.int x))) st o) : wF κ wd nL Q σ pc lv (.int x :: st) o := fun z hz H locs ls h1 h2 h3 => lv_istore_n hC.1 hC.2.1 hdg rfl (lvp_has h3) (of_decide_eq_true hn) rfl (fun ls1 h4 => kk z hz H locs ls1 h1 h2 (lvp_st1 hl h4))
theorem r_istore (hC : ok κ wd cc nL own ret) {i : Nat} {x : Int32} (hn : decide (i < nL) = true) (hl : nlo lv i = true) (hdg : decode cc pc = .ok (.istore i, 2)) (kk : wF κ wd nL Q σ (pc + 2) (lv.set i (some (.int x))) st o) : wF κ wd nL Q σ pc lv (.int x :: st) o := fun z hz H locs ls h1 h2 h3 => lv_istore hC.1 hC.2.1 hdg (lvp_has h3) (of_decide_eq_true hn) rfl (fun ls1 h4 => kk z hz H locs ls1 h1 h2 (lvp_st1 hl h4))
theorem r_astore_n (hC : ok κ wd cc nL own ret) {k : Fin 4} {x : Nat} (hn : decide ((k : Nat) < nL) = true) (hl : nlo lv (k : Nat) = true) (hdg : decode cc pc = .ok (.astore_n k, 1)) (kk : wF κ wd nL Q σ (pc + 1) (lv.set (k : Nat) (some (.ref x))) st o) : wF κ wd nL Q σ pc lv (.ref x :: st) o := fun z hz H locs ls h1 h2 h3 => lv_astore_n hC.1 hC.2.1 hdg rfl (lvp_has h3) (of_decide_eq_true hn) rfl (fun ls1 h4 => kk z hz H locs ls1 h1 h2 (lvp_st1 hl h4))
theorem r_astore (hC : ok κ wd cc nL own ret) {i : Nat} {x : Nat} (hn : decide (i < nL) = true) (hl : nlo lv i = true) (hdg : decode cc pc = .ok (.astore i, 2)) (kk : wF κ wd nL Q σ (pc + 2) (lv.set i (some (.ref x))) st o) : wF κ wd nL Q σ pc lv (.ref x :: st) o := fun z hz H locs ls h1 h2 h3 => lv_astore hC.1 hC.2.1 hdg (lvp_has h3) (of_decide_eq_true hn) rfl (fun ls1 h4 => kk z hz H locs ls1 h1 h2 (lvp_st1 hl h4))
theorem r_lstore_n (hC : ok κ wd cc nL own ret) {k : Fin 4} {x : Int64} (hn : decide ((k : Nat) + 1 < nL) = true) (hl : nlo lv (k : Nat) = true) (hdg : decode cc pc = .ok (.lstore_n k, 1)) (kk : wF κ wd nL Q σ (pc + 1) ((lv.set (k : Nat) (some (.long x))).set ((k : Nat) + 1) none) st o) : wF κ wd nL Q σ pc lv (.long x :: st) o := fun z hz H locs ls h1 h2 h3 => lv_lstore_n hC.1 hC.2.1 hdg rfl (lvp_has h3) (of_decide_eq_true hn) rfl (fun ls1 h4 => kk z hz H locs ls1 h1 h2 (lvp_st2 hl h4))
theorem r_lstore (hC : ok κ wd cc nL own ret) {i : Nat} {x : Int64} (hn : decide (i + 1 < nL) = true) (hl : nlo lv i = true) (hdg : decode cc pc = .ok (.lstore i, 2)) (kk : wF κ wd nL Q σ (pc + 2) ((lv.set i (some (.long x))).set (i + 1) none) st o) : wF κ wd nL Q σ pc lv (.long x :: st) o := fun z hz H locs ls h1 h2 h3 => lv_lstore hC.1 hC.2.1 hdg (lvp_has h3) (of_decide_eq_true hn) rfl (fun ls1 h4 => kk z hz H locs ls1 h1 h2 (lvp_st2 hl h4))
theorem asc_at {vs : List (Option Value)} {i : Nat} {v : Value} (h : vs[i]? = some (some v)) : ∃ k : Nat, (asc 0 vs)[k]? = some (i, v) := by
  have h1 := asc_of vs 0 i v h
  rw [Nat.zero_add] at h1
  exact List.getElem?_of_mem h1
theorem r_iinc (hC : ok κ wd cc nL own ret) {i : Nat} {n : Int} {x v : Int32} (hx : lv[i]? = some (some (.int x))) (hv : Int32.ofInt n = v) (hn : decide (i < nL) = true) (hl : nlo lv i = true) (hdg : decode cc pc = .ok (.iinc i n, 3)) (kk : wF κ wd nL Q σ (pc + 3) (lv.set i (some (.int (x + v)))) st o) : wF κ wd nL Q σ pc lv st o := fun z hz H locs ls h1 h2 h3 => by
  obtain ⟨k, hk⟩ := asc_at hx
  exact lv_iinc hC.1 hC.2.1 hdg (lvp_has h3) hk (by rw [hv]) (of_decide_eq_true hn) rfl (fun ls1 h4 => kk z hz H locs ls1 h1 h2 (lvp_st1 hl h4))
theorem r_iadd (hC : ok κ wd cc nL own ret) {x y : Int32} (hdg : decode cc pc = .ok (.iadd, 1)) (k : wF κ wd nL Q σ (pc + 1) lv (.int (x + y) :: st) o) : wF κ wd nL Q σ pc lv (.int y :: .int x :: st) o := fun z hz H locs ls h1 h2 h3 => lv_iadd hC.1 hC.2.1 hdg (k z hz H locs ls h1 h2 h3)
theorem r_isub (hC : ok κ wd cc nL own ret) {x y : Int32} (hdg : decode cc pc = .ok (.isub, 1)) (k : wF κ wd nL Q σ (pc + 1) lv (.int (x - y) :: st) o) : wF κ wd nL Q σ pc lv (.int y :: .int x :: st) o := fun z hz H locs ls h1 h2 h3 => lv_isub hC.1 hC.2.1 hdg (k z hz H locs ls h1 h2 h3)
theorem r_imul (hC : ok κ wd cc nL own ret) {x y : Int32} (hdg : decode cc pc = .ok (.imul, 1)) (k : wF κ wd nL Q σ (pc + 1) lv (.int (x * y) :: st) o) : wF κ wd nL Q σ pc lv (.int y :: .int x :: st) o := fun z hz H locs ls h1 h2 h3 => lv_imul hC.1 hC.2.1 hdg (k z hz H locs ls h1 h2 h3)
theorem r_iand (hC : ok κ wd cc nL own ret) {x y : Int32} (hdg : decode cc pc = .ok (.iand, 1)) (k : wF κ wd nL Q σ (pc + 1) lv (.int (x &&& y) :: st) o) : wF κ wd nL Q σ pc lv (.int y :: .int x :: st) o := fun z hz H locs ls h1 h2 h3 => lv_iand hC.1 hC.2.1 hdg (k z hz H locs ls h1 h2 h3)
theorem r_ior (hC : ok κ wd cc nL own ret) {x y : Int32} (hdg : decode cc pc = .ok (.ior, 1)) (k : wF κ wd nL Q σ (pc + 1) lv (.int (x ||| y) :: st) o) : wF κ wd nL Q σ pc lv (.int y :: .int x :: st) o := fun z hz H locs ls h1 h2 h3 => lv_ior hC.1 hC.2.1 hdg (k z hz H locs ls h1 h2 h3)
theorem r_ixor (hC : ok κ wd cc nL own ret) {x y : Int32} (hdg : decode cc pc = .ok (.ixor, 1)) (k : wF κ wd nL Q σ (pc + 1) lv (.int (x ^^^ y) :: st) o) : wF κ wd nL Q σ pc lv (.int y :: .int x :: st) o := fun z hz H locs ls h1 h2 h3 => lv_ixor hC.1 hC.2.1 hdg (k z hz H locs ls h1 h2 h3)
theorem r_ishl (hC : ok κ wd cc nL own ret) {x y : Int32} (hdg : decode cc pc = .ok (.ishl, 1)) (k : wF κ wd nL Q σ (pc + 1) lv (.int (x <<< (y &&& 31)) :: st) o) : wF κ wd nL Q σ pc lv (.int y :: .int x :: st) o := fun z hz H locs ls h1 h2 h3 => lv_ishl hC.1 hC.2.1 hdg (k z hz H locs ls h1 h2 h3)
theorem r_ishr (hC : ok κ wd cc nL own ret) {x y : Int32} (hdg : decode cc pc = .ok (.ishr, 1)) (k : wF κ wd nL Q σ (pc + 1) lv (.int (x >>> (y &&& 31)) :: st) o) : wF κ wd nL Q σ pc lv (.int y :: .int x :: st) o := fun z hz H locs ls h1 h2 h3 => lv_ishr hC.1 hC.2.1 hdg (k z hz H locs ls h1 h2 h3)
theorem r_ladd (hC : ok κ wd cc nL own ret) {x y : Int64} (hdg : decode cc pc = .ok (.ladd, 1)) (k : wF κ wd nL Q σ (pc + 1) lv (.long (x + y) :: st) o) : wF κ wd nL Q σ pc lv (.long y :: .long x :: st) o := fun z hz H locs ls h1 h2 h3 => lv_ladd hC.1 hC.2.1 hdg (k z hz H locs ls h1 h2 h3)
theorem r_lsub (hC : ok κ wd cc nL own ret) {x y : Int64} (hdg : decode cc pc = .ok (.lsub, 1)) (k : wF κ wd nL Q σ (pc + 1) lv (.long (x - y) :: st) o) : wF κ wd nL Q σ pc lv (.long y :: .long x :: st) o := fun z hz H locs ls h1 h2 h3 => lv_lsub hC.1 hC.2.1 hdg (k z hz H locs ls h1 h2 h3)
theorem r_land (hC : ok κ wd cc nL own ret) {x y : Int64} (hdg : decode cc pc = .ok (.land, 1)) (k : wF κ wd nL Q σ (pc + 1) lv (.long (x &&& y) :: st) o) : wF κ wd nL Q σ pc lv (.long y :: .long x :: st) o := fun z hz H locs ls h1 h2 h3 => lv_land hC.1 hC.2.1 hdg (k z hz H locs ls h1 h2 h3)
theorem r_lor (hC : ok κ wd cc nL own ret) {x y : Int64} (hdg : decode cc pc = .ok (.lor, 1)) (k : wF κ wd nL Q σ (pc + 1) lv (.long (x ||| y) :: st) o) : wF κ wd nL Q σ pc lv (.long y :: .long x :: st) o := fun z hz H locs ls h1 h2 h3 => lv_lor hC.1 hC.2.1 hdg (k z hz H locs ls h1 h2 h3)
theorem r_iushr (hC : ok κ wd cc nL own ret) {x y : Int32} (hdg : decode cc pc = .ok (.iushr, 1)) (k : wF κ wd nL Q σ (pc + 1) lv (.int ((x.toUInt32 >>> (y.toUInt32 &&& Int32.toUInt32 31)).toInt32) :: st) o) : wF κ wd nL Q σ pc lv (.int y :: .int x :: st) o := fun z hz H locs ls h1 h2 h3 => lv_iushr hC.1 hC.2.1 hdg rfl (k z hz H locs ls h1 h2 h3)
theorem r_lshl (hC : ok κ wd cc nL own ret) {x : Int64} {y : Int32} (hdg : decode cc pc = .ok (.lshl, 1)) (k : wF κ wd nL Q σ (pc + 1) lv (.long (x <<< (y.toInt64 &&& 63)) :: st) o) : wF κ wd nL Q σ pc lv (.int y :: .long x :: st) o := fun z hz H locs ls h1 h2 h3 => lv_lshl hC.1 hC.2.1 hdg rfl (k z hz H locs ls h1 h2 h3)
theorem r_lshr (hC : ok κ wd cc nL own ret) {x : Int64} {y : Int32} (hdg : decode cc pc = .ok (.lshr, 1)) (k : wF κ wd nL Q σ (pc + 1) lv (.long (x >>> (y.toInt64 &&& 63)) :: st) o) : wF κ wd nL Q σ pc lv (.int y :: .long x :: st) o := fun z hz H locs ls h1 h2 h3 => lv_lshr hC.1 hC.2.1 hdg rfl (k z hz H locs ls h1 h2 h3)
theorem r_lcmp (hC : ok κ wd cc nL own ret) {x y : Int64} (hdg : decode cc pc = .ok (.lcmp, 1)) (k : wF κ wd nL Q σ (pc + 1) lv (.int (lg_cmp x y) :: st) o) : wF κ wd nL Q σ pc lv (.long y :: .long x :: st) o := fun z hz H locs ls h1 h2 h3 => W.lcmp hC.1 hC.2.1 hdg (k z hz H locs ls h1 h2 h3)
theorem r_ineg (hC : ok κ wd cc nL own ret) {x : Int32} (hdg : decode cc pc = .ok (.ineg, 1)) (k : wF κ wd nL Q σ (pc + 1) lv (.int (-x) :: st) o) : wF κ wd nL Q σ pc lv (.int x :: st) o := fun z hz H locs ls h1 h2 h3 => lv_ineg hC.1 hC.2.1 hdg (k z hz H locs ls h1 h2 h3)
theorem r_i2l (hC : ok κ wd cc nL own ret) {x : Int32} (hdg : decode cc pc = .ok (.i2l, 1)) (k : wF κ wd nL Q σ (pc + 1) lv (.long (x.toInt64) :: st) o) : wF κ wd nL Q σ pc lv (.int x :: st) o := fun z hz H locs ls h1 h2 h3 => lv_i2l hC.1 hC.2.1 hdg rfl (k z hz H locs ls h1 h2 h3)
theorem r_l2i (hC : ok κ wd cc nL own ret) {x : Int64} (hdg : decode cc pc = .ok (.l2i, 1)) (k : wF κ wd nL Q σ (pc + 1) lv (.int (x.toInt32) :: st) o) : wF κ wd nL Q σ pc lv (.long x :: st) o := fun z hz H locs ls h1 h2 h3 => lv_l2i hC.1 hC.2.1 hdg rfl (k z hz H locs ls h1 h2 h3)
theorem r_i2b (hC : ok κ wd cc nL own ret) {x : Int32} (hdg : decode cc pc = .ok (.i2b, 1)) (k : wF κ wd nL Q σ (pc + 1) lv (.int (x.toInt8.toInt32) :: st) o) : wF κ wd nL Q σ pc lv (.int x :: st) o := fun z hz H locs ls h1 h2 h3 => lv_i2b hC.1 hC.2.1 hdg rfl (k z hz H locs ls h1 h2 h3)
theorem r_i2c (hC : ok κ wd cc nL own ret) {x : Int32} (hdg : decode cc pc = .ok (.i2c, 1)) (k : wF κ wd nL Q σ (pc + 1) lv (.int ((x.toUInt32 % 65536).toInt32) :: st) o) : wF κ wd nL Q σ pc lv (.int x :: st) o := fun z hz H locs ls h1 h2 h3 => lv_i2c hC.1 hC.2.1 hdg rfl (k z hz H locs ls h1 h2 h3)
theorem r_idiv (hC : ok κ wd cc nL own ret) {x y : Int32} (hne : nz y = true) (hdg : decode cc pc = .ok (.idiv, 1)) (k : wF κ wd nL Q σ (pc + 1) lv (.int (x / y) :: st) o) : wF κ wd nL Q σ pc lv (.int y :: .int x :: st) o := fun z hz H locs ls h1 h2 h3 => lv_idiv hC.1 hC.2.1 hdg (by simpa [nz] using hne) (k z hz H locs ls h1 h2 h3)
theorem r_irem (hC : ok κ wd cc nL own ret) {x y : Int32} (hne : nz y = true) (hdg : decode cc pc = .ok (.irem, 1)) (k : wF κ wd nL Q σ (pc + 1) lv (.int (x - x / y * y) :: st) o) : wF κ wd nL Q σ pc lv (.int y :: .int x :: st) o := fun z hz H locs ls h1 h2 h3 => lv_irem hC.1 hC.2.1 hdg (by simpa [nz] using hne) (k z hz H locs ls h1 h2 h3)
theorem r_idivG (hC : ok κ wd cc nL own ret) {x y : Int32} (hdg : decode cc pc = .ok (.idiv, 1)) (k : wF κ wd nL Q σ (pc + 1) lv (.int (x / y) :: st) o) : wF κ wd nL Q σ pc lv (.int y :: .int x :: st) (gd (nz y) o) := fun z hz => r_idiv hC (gd_some hz).1 hdg k z (gd_some hz).2
theorem r_iremG (hC : ok κ wd cc nL own ret) {x y : Int32} (hdg : decode cc pc = .ok (.irem, 1)) (k : wF κ wd nL Q σ (pc + 1) lv (.int (x - x / y * y) :: st) o) : wF κ wd nL Q σ pc lv (.int y :: .int x :: st) (gd (nz y) o) := fun z hz => r_irem hC (gd_some hz).1 hdg k z (gd_some hz).2
theorem r_dup (hC : ok κ wd cc nL own ret) {v : Value} (hv : v.category = 1) (hdg : decode cc pc = .ok (.dup, 1)) (k : wF κ wd nL Q σ (pc + 1) lv (v :: v :: st) o) : wF κ wd nL Q σ pc lv (v :: st) o := fun z hz H locs ls h1 h2 h3 => lv_dup hC.1 hC.2.1 hdg hv (k z hz H locs ls h1 h2 h3)
theorem r_pop (hC : ok κ wd cc nL own ret) {v : Value} (hv : v.category = 1) (hdg : decode cc pc = .ok (.pop, 1)) (k : wF κ wd nL Q σ (pc + 1) lv st o) : wF κ wd nL Q σ pc lv (v :: st) o := fun z hz H locs ls h1 h2 h3 => lv_pop hC.1 hC.2.1 hdg hv (k z hz H locs ls h1 h2 h3)
theorem r_dup2 (hC : ok κ wd cc nL own ret) {v w : Value} (hv : v.category = 1) (hw : w.category = 1) (hdg : decode cc pc = .ok (.dup2, 1)) (k : wF κ wd nL Q σ (pc + 1) lv (v :: w :: v :: w :: st) o) : wF κ wd nL Q σ pc lv (v :: w :: st) o := fun z hz H locs ls h1 h2 h3 => lv_dup2_11 hC.1 hC.2.1 hdg hv hw (k z hz H locs ls h1 h2 h3)
theorem r_ldc (hC : ok κ wd cc nL own ret) {index : Nat} {v : Int32} (hw : Cond.constant own index v ∈ gtbl) (hdg : decode cc pc = .ok (.ldc index, 2)) (k : wF κ wd nL Q σ (pc + 2) lv (.int v :: st) o) : wF κ wd nL Q σ pc lv st o := fun z hz H locs ls h1 h2 h3 => lv_ldc hC.1 hC.2.1 hC.2.2.2.1 (hC.2.2.2.2.1 _ hw) hdg (k z hz H locs ls h1 h2 h3)
theorem r_ldcw (hC : ok κ wd cc nL own ret) {index : Nat} {v : Int32} (hw : Cond.constant own index v ∈ gtbl) (hdg : decode cc pc = .ok (.ldc_w index, 3)) (k : wF κ wd nL Q σ (pc + 3) lv (.int v :: st) o) : wF κ wd nL Q σ pc lv st o := fun z hz H locs ls h1 h2 h3 => lv_ldcw hC.1 hC.2.1 hC.2.2.2.1 (hC.2.2.2.2.1 _ hw) hdg (k z hz H locs ls h1 h2 h3)
theorem r_ldc2 (hC : ok κ wd cc nL own ret) {index : Nat} {v : Int64} (hw : Cond.constantLong own index v ∈ gtbl) (hdg : decode cc pc = .ok (.ldc2_w index, 3)) (k : wF κ wd nL Q σ (pc + 3) lv (.long v :: st) o) : wF κ wd nL Q σ pc lv st o := fun z hz H locs ls h1 h2 h3 => lv_ldc2 hC.1 hC.2.1 hC.2.2.2.1 (hC.2.2.2.2.1 _ hw) hdg (k z hz H locs ls h1 h2 h3)
theorem r_if_eq (hC : ok κ wd cc nL own ret) {x : Int32} {off : Int} {tgt : Nat} {d : Decidable (x = 0)} (hdg : decode cc pc = .ok (.ifCond .eq off, 3)) (ht : (pc : Int) + off = (tgt : Int)) (kt : wF κ wd nL Q σ tgt lv st o1) (kf : wF κ wd nL Q σ (pc + 3) lv st o2) : wF κ wd nL Q σ pc lv (.int x :: st) (@ite _ (x = 0) d o1 o2) := fun z hz H locs ls h1 h2 h3 => lv_if_eq hC.1 hC.2.1 hdg ht (fun hc => kt z (by first | rwa [if_pos hc] at hz | rwa [if_neg hc] at hz) H locs ls h1 h2 h3) (fun hc => kf z (by first | rwa [if_neg hc] at hz | rwa [if_pos hc] at hz) H locs ls h1 h2 h3)
theorem r_if_ne (hC : ok κ wd cc nL own ret) {x : Int32} {off : Int} {tgt : Nat} {d : Decidable (x = 0)} (hdg : decode cc pc = .ok (.ifCond .ne off, 3)) (ht : (pc : Int) + off = (tgt : Int)) (kt : wF κ wd nL Q σ tgt lv st o1) (kf : wF κ wd nL Q σ (pc + 3) lv st o2) : wF κ wd nL Q σ pc lv (.int x :: st) (@ite _ (x = 0) d o2 o1) := fun z hz H locs ls h1 h2 h3 => lv_if_ne hC.1 hC.2.1 hdg ht (fun hc => kt z (by first | rwa [if_pos hc] at hz | rwa [if_neg hc] at hz) H locs ls h1 h2 h3) (fun hc => kf z (by first | rwa [if_neg hc] at hz | rwa [if_pos hc] at hz) H locs ls h1 h2 h3)
theorem r_if_lt (hC : ok κ wd cc nL own ret) {x : Int32} {off : Int} {tgt : Nat} {d : Decidable (x < 0)} (hdg : decode cc pc = .ok (.ifCond .lt off, 3)) (ht : (pc : Int) + off = (tgt : Int)) (kt : wF κ wd nL Q σ tgt lv st o1) (kf : wF κ wd nL Q σ (pc + 3) lv st o2) : wF κ wd nL Q σ pc lv (.int x :: st) (@ite _ (x < 0) d o1 o2) := fun z hz H locs ls h1 h2 h3 => lv_if_lt hC.1 hC.2.1 hdg ht (fun hc => kt z (by first | rwa [if_pos hc] at hz | rwa [if_neg hc] at hz) H locs ls h1 h2 h3) (fun hc => kf z (by first | rwa [if_neg hc] at hz | rwa [if_pos hc] at hz) H locs ls h1 h2 h3)
theorem r_if_ge (hC : ok κ wd cc nL own ret) {x : Int32} {off : Int} {tgt : Nat} {d : Decidable (0 ≤ x)} (hdg : decode cc pc = .ok (.ifCond .ge off, 3)) (ht : (pc : Int) + off = (tgt : Int)) (kt : wF κ wd nL Q σ tgt lv st o1) (kf : wF κ wd nL Q σ (pc + 3) lv st o2) : wF κ wd nL Q σ pc lv (.int x :: st) (@ite _ (0 ≤ x) d o1 o2) := fun z hz H locs ls h1 h2 h3 => lv_if_ge hC.1 hC.2.1 hdg ht (fun hc => kt z (by first | rwa [if_pos hc] at hz | rwa [if_neg hc] at hz) H locs ls h1 h2 h3) (fun hc => kf z (by first | rwa [if_neg hc] at hz | rwa [if_pos hc] at hz) H locs ls h1 h2 h3)
theorem r_if_gt (hC : ok κ wd cc nL own ret) {x : Int32} {off : Int} {tgt : Nat} {d : Decidable (0 < x)} (hdg : decode cc pc = .ok (.ifCond .gt off, 3)) (ht : (pc : Int) + off = (tgt : Int)) (kt : wF κ wd nL Q σ tgt lv st o1) (kf : wF κ wd nL Q σ (pc + 3) lv st o2) : wF κ wd nL Q σ pc lv (.int x :: st) (@ite _ (0 < x) d o1 o2) := fun z hz H locs ls h1 h2 h3 => lv_if_gt hC.1 hC.2.1 hdg ht (fun hc => kt z (by first | rwa [if_pos hc] at hz | rwa [if_neg hc] at hz) H locs ls h1 h2 h3) (fun hc => kf z (by first | rwa [if_neg hc] at hz | rwa [if_pos hc] at hz) H locs ls h1 h2 h3)
theorem r_if_le (hC : ok κ wd cc nL own ret) {x : Int32} {off : Int} {tgt : Nat} {d : Decidable (x ≤ 0)} (hdg : decode cc pc = .ok (.ifCond .le off, 3)) (ht : (pc : Int) + off = (tgt : Int)) (kt : wF κ wd nL Q σ tgt lv st o1) (kf : wF κ wd nL Q σ (pc + 3) lv st o2) : wF κ wd nL Q σ pc lv (.int x :: st) (@ite _ (x ≤ 0) d o1 o2) := fun z hz H locs ls h1 h2 h3 => lv_if_le hC.1 hC.2.1 hdg ht (fun hc => kt z (by first | rwa [if_pos hc] at hz | rwa [if_neg hc] at hz) H locs ls h1 h2 h3) (fun hc => kf z (by first | rwa [if_neg hc] at hz | rwa [if_pos hc] at hz) H locs ls h1 h2 h3)
theorem r_icmp_eq (hC : ok κ wd cc nL own ret) {x y : Int32} {off : Int} {tgt : Nat} {d : Decidable (x = y)} (hdg : decode cc pc = .ok (.if_icmp .eq off, 3)) (ht : (pc : Int) + off = (tgt : Int)) (kt : wF κ wd nL Q σ tgt lv st o1) (kf : wF κ wd nL Q σ (pc + 3) lv st o2) : wF κ wd nL Q σ pc lv (.int y :: .int x :: st) (@ite _ (x = y) d o1 o2) := fun z hz H locs ls h1 h2 h3 => lv_icmp_eq hC.1 hC.2.1 hdg ht (fun hc => kt z (by first | rwa [if_pos hc] at hz | rwa [if_neg hc] at hz) H locs ls h1 h2 h3) (fun hc => kf z (by first | rwa [if_neg hc] at hz | rwa [if_pos hc] at hz) H locs ls h1 h2 h3)
theorem r_icmp_ne (hC : ok κ wd cc nL own ret) {x y : Int32} {off : Int} {tgt : Nat} {d : Decidable (x = y)} (hdg : decode cc pc = .ok (.if_icmp .ne off, 3)) (ht : (pc : Int) + off = (tgt : Int)) (kt : wF κ wd nL Q σ tgt lv st o1) (kf : wF κ wd nL Q σ (pc + 3) lv st o2) : wF κ wd nL Q σ pc lv (.int y :: .int x :: st) (@ite _ (x = y) d o2 o1) := fun z hz H locs ls h1 h2 h3 => lv_icmp_ne hC.1 hC.2.1 hdg ht (fun hc => kt z (by first | rwa [if_pos hc] at hz | rwa [if_neg hc] at hz) H locs ls h1 h2 h3) (fun hc => kf z (by first | rwa [if_neg hc] at hz | rwa [if_pos hc] at hz) H locs ls h1 h2 h3)
theorem r_icmp_lt (hC : ok κ wd cc nL own ret) {x y : Int32} {off : Int} {tgt : Nat} {d : Decidable (x < y)} (hdg : decode cc pc = .ok (.if_icmp .lt off, 3)) (ht : (pc : Int) + off = (tgt : Int)) (kt : wF κ wd nL Q σ tgt lv st o1) (kf : wF κ wd nL Q σ (pc + 3) lv st o2) : wF κ wd nL Q σ pc lv (.int y :: .int x :: st) (@ite _ (x < y) d o1 o2) := fun z hz H locs ls h1 h2 h3 => lv_icmp_lt hC.1 hC.2.1 hdg ht (fun hc => kt z (by first | rwa [if_pos hc] at hz | rwa [if_neg hc] at hz) H locs ls h1 h2 h3) (fun hc => kf z (by first | rwa [if_neg hc] at hz | rwa [if_pos hc] at hz) H locs ls h1 h2 h3)
theorem r_icmp_ge (hC : ok κ wd cc nL own ret) {x y : Int32} {off : Int} {tgt : Nat} {d : Decidable (y ≤ x)} (hdg : decode cc pc = .ok (.if_icmp .ge off, 3)) (ht : (pc : Int) + off = (tgt : Int)) (kt : wF κ wd nL Q σ tgt lv st o1) (kf : wF κ wd nL Q σ (pc + 3) lv st o2) : wF κ wd nL Q σ pc lv (.int y :: .int x :: st) (@ite _ (y ≤ x) d o1 o2) := fun z hz H locs ls h1 h2 h3 => lv_icmp_ge hC.1 hC.2.1 hdg ht (fun hc => kt z (by first | rwa [if_pos hc] at hz | rwa [if_neg hc] at hz) H locs ls h1 h2 h3) (fun hc => kf z (by first | rwa [if_neg hc] at hz | rwa [if_pos hc] at hz) H locs ls h1 h2 h3)
theorem r_icmp_gt (hC : ok κ wd cc nL own ret) {x y : Int32} {off : Int} {tgt : Nat} {d : Decidable (y < x)} (hdg : decode cc pc = .ok (.if_icmp .gt off, 3)) (ht : (pc : Int) + off = (tgt : Int)) (kt : wF κ wd nL Q σ tgt lv st o1) (kf : wF κ wd nL Q σ (pc + 3) lv st o2) : wF κ wd nL Q σ pc lv (.int y :: .int x :: st) (@ite _ (y < x) d o1 o2) := fun z hz H locs ls h1 h2 h3 => lv_icmp_gt hC.1 hC.2.1 hdg ht (fun hc => kt z (by first | rwa [if_pos hc] at hz | rwa [if_neg hc] at hz) H locs ls h1 h2 h3) (fun hc => kf z (by first | rwa [if_neg hc] at hz | rwa [if_pos hc] at hz) H locs ls h1 h2 h3)
theorem r_icmp_le (hC : ok κ wd cc nL own ret) {x y : Int32} {off : Int} {tgt : Nat} {d : Decidable (x ≤ y)} (hdg : decode cc pc = .ok (.if_icmp .le off, 3)) (ht : (pc : Int) + off = (tgt : Int)) (kt : wF κ wd nL Q σ tgt lv st o1) (kf : wF κ wd nL Q σ (pc + 3) lv st o2) : wF κ wd nL Q σ pc lv (.int y :: .int x :: st) (@ite _ (x ≤ y) d o1 o2) := fun z hz H locs ls h1 h2 h3 => lv_icmp_le hC.1 hC.2.1 hdg ht (fun hc => kt z (by first | rwa [if_pos hc] at hz | rwa [if_neg hc] at hz) H locs ls h1 h2 h3) (fun hc => kf z (by first | rwa [if_neg hc] at hz | rwa [if_pos hc] at hz) H locs ls h1 h2 h3)
theorem r_goto (hC : ok κ wd cc nL own ret) {off : Int} {tgt : Nat} (hdg : decode cc pc = .ok (.goto off, 3)) (ht : (pc : Int) + off = (tgt : Int)) (k : wF κ wd nL Q σ tgt lv st o) : wF κ wd nL Q σ pc lv st o := fun z hz H locs ls h1 h2 h3 => lv_goto hC.1 hC.2.1 hdg ht (k z hz H locs ls h1 h2 h3)
def swc {X : Type} (x : Int32) : List (Int32 × Option X) → Option X → Option X
  | [], d => d
  | (v, a) :: t, d => if x = v then a else swc x t d
theorem sw_mem {X : Type} {x : Int32} {z : X} : ∀ {cs : List (Int32 × Option X)} {d : Option X}, swc x cs d = some z → (∃ (i : Nat) (a : Option X), cs[i]? = some (x, a) ∧ a = some z ∧ ∀ (j : Nat) (w : Int32) (b : Option X), j < i → cs[j]? = some (w, b) → x ≠ w) ∨ (d = some z ∧ ∀ (j : Nat) (w : Int32) (b : Option X), cs[j]? = some (w, b) → x ≠ w)
  | [], d, h => Or.inr ⟨h, fun j w b hj => by simp at hj⟩
  | (v, a) :: t, d, h => by
    unfold swc at h
    split at h
    · rename_i e
      subst e
      exact Or.inl ⟨0, a, rfl, h, fun j w b hj => absurd hj (Nat.not_lt_zero j)⟩
    · rename_i e
      rcases sw_mem h with ⟨i, b, h1, h2, h3⟩ | ⟨h1, h2⟩
      · refine Or.inl ⟨i + 1, b, h1, h2, fun j w b' hj hw => ?_⟩
        cases j with
        | zero => simp only [List.getElem?_cons_zero, Option.some.injEq, Prod.mk.injEq] at hw; rw [← hw.1]; exact e
        | succ j => exact h3 j w b' (by omega) hw
      · refine Or.inr ⟨h1, fun j w b' hw => ?_⟩
        cases j with
        | zero => simp only [List.getElem?_cons_zero, Option.some.injEq, Prod.mk.injEq] at hw; rw [← hw.1]; exact e
        | succ j => exact h2 j w b' hw
/-- a tableswitch: the cases lo, lo + 1 .. in a row, tgts where they go -/
theorem r_table (hC : ok κ wd cc nL own ret) {dflt lo hi : Int} {offs : Array Int} {len : Nat} {x : Int32} {dt : Nat} {cs : List (Int32 × Option X)} {tg : Nat → Nat} (n : Nat)
    (hdg : decode cc pc = .ok (.tableswitch dflt lo hi offs, len)) (hd : (pc : Int) + dflt = (dt : Int)) (hn : lo + (n : Int) = hi + 1) (hlen : cs.length = n)
    (hcs : ∀ i, i < n → ∃ (v : Int32) (a : Option X) (off : Int), cs[i]? = some (v, a) ∧ v.toInt = lo + (i : Int) ∧ offs[i]? = some off ∧ (pc : Int) + off = (tg i : Int) ∧ wF κ wd nL Q σ (tg i) lv st a)
    (kd : wF κ wd nL Q σ dt lv st o) : wF κ wd nL Q σ pc lv (.int x :: st) (swc x cs o) := fun z hz H locs ls h1 h2 h3 => by
  subst hlen
  by_cases hr : x.toInt < lo ∨ hi < x.toInt
  · refine lv_tableOut hC.1 hC.2.1 hdg hr hd ?_
    rcases sw_mem hz with ⟨i, a, e1, -, -⟩ | ⟨e1, -⟩
    · have hi' : i < cs.length := (List.getElem?_eq_some_iff.mp e1).1
      obtain ⟨v, a', off, f1, f2, -⟩ := hcs i hi'
      rw [e1] at f1
      cases f1
      omega
    · exact kd z e1 H locs ls h1 h2 h3
  · have g1 : ¬ x.toInt < lo := fun h => hr (Or.inl h)
    have g2 : ¬ hi < x.toInt := fun h => hr (Or.inr h)
    have hk : (x.toInt - lo).toNat < cs.length := by omega
    obtain ⟨v, a, off, f1, f2, f3, f4, f5⟩ := hcs _ hk
    have hv : v = x := by
      rw [← Int32.toInt_inj]
      omega
    subst hv
    refine lv_tableIn hC.1 hC.2.1 hdg g1 g2 f3 f4 (f5 z ?_ H locs ls h1 h2 h3)
    rcases sw_mem hz with ⟨i, a', e1, e2, e3⟩ | ⟨-, e2⟩
    · by_cases hii : i = (v.toInt - lo).toNat
      · subst hii
        rw [f1] at e1
        cases e1
        exact e2
      · have hi' : i < cs.length := (List.getElem?_eq_some_iff.mp e1).1
        obtain ⟨v', a'', off', p1, p2, -⟩ := hcs i hi'
        rw [e1] at p1
        cases p1
        omega
    · exact absurd rfl (e2 _ _ _ f1)
/-- a lookupswitch -/
theorem r_lookup (hC : ok κ wd cc nL own ret) {dflt : Int} {ps : Array (Int × Int)} {len : Nat} {x : Int32} {dt : Nat} {cs : List (Int32 × Option X)} {tg : Nat → Nat}
    (hdg : decode cc pc = .ok (.lookupswitch dflt ps, len)) (hd : (pc : Int) + dflt = (dt : Int)) (hp : (ps.toList.zip (ps.toList.drop 1)).all (fun (a, next) => a.1 < next.1) = true)
    (hcs : ∀ (i : Nat) (v : Int32) (a : Option X), cs[i]? = some (v, a) → Op.lookupswitch.offset ps.toList dflt v.toInt = (tg i : Int) - (pc : Int) ∧ wF κ wd nL Q σ (tg i) lv st a)
    (hno : (∀ (i : Nat) (v : Int32) (a : Option X), cs[i]? = some (v, a) → x ≠ v) → Op.lookupswitch.offset ps.toList dflt x.toInt = dflt)
    (kd : wF κ wd nL Q σ dt lv st o) : wF κ wd nL Q σ pc lv (.int x :: st) (swc x cs o) := fun z hz H locs ls h1 h2 h3 => by
  rcases sw_mem hz with ⟨i, a, e1, e2, -⟩ | ⟨e1, e2⟩
  · obtain ⟨f1, f2⟩ := hcs i x a e1
    exact lv_lookup hC.1 hC.2.1 hdg hp f1 (by omega) (f2 z e2 H locs ls h1 h2 h3)
  · exact lv_lookup hC.1 hC.2.1 hdg hp (hno e2) hd (kd z e1 H locs ls h1 h2 h3)
theorem lk_no : ∀ (ps : List (Int × Int)) (dflt k : Int), (∀ q ∈ ps, ¬ q.1 = k) → Op.lookupswitch.offset ps dflt k = dflt
  | [], _, _, _ => rfl
  | (a, o) :: r, dflt, k, h => by
    rw [Op.lookupswitch.offset_cons, if_neg (h (a, o) List.mem_cons_self)]
    exact lk_no r dflt k (fun q hq => h q (List.mem_cons_of_mem _ hq))
theorem lk_eq {x v : Int32} {n : Int} (h : n = x.toInt) (hv : v.toInt = n) : x = v := by
  rw [← Int32.toInt_inj, hv, h]
theorem r_join {J : Type} (Pj : J → Prop) {e : J} {k : J → Option X} (h1 : Pj e) (h2 : ∀ j, Pj j → wF κ wd nL Q σ pc lv st (k j)) : wF κ wd nL Q σ pc lv st (bnd e k) := h2 e h1
theorem w_it1 {T1 : Type} {body : (T1 → Option X) → T1 → Option X} (sg : T1 → Mem) (lw : T1 → List (Option Value)) (h : ∀ self : T1 → Option X, (∀ (a1 : T1), wF κ wd nL Q (sg a1) pc (lw a1) [] (self a1)) → ∀ (a1 : T1), wF κ wd nL Q (sg a1) pc (lw a1) [] (body self a1)) : ∀ n (a1 : T1), wF κ wd nL Q (sg a1) pc (lw a1) [] (it1 body n a1)
  | 0, _ => fun x hx => by cases hx
  | n + 1, a1 => h (it1 body n) (fun a1 => w_it1 sg lw h n a1) a1
theorem w_it2 {T1 T2 : Type} {body : (T1 → T2 → Option X) → T1 → T2 → Option X} (sg : T1 → T2 → Mem) (lw : T1 → T2 → List (Option Value)) (h : ∀ self : T1 → T2 → Option X, (∀ (a1 : T1) (a2 : T2), wF κ wd nL Q (sg a1 a2) pc (lw a1 a2) [] (self a1 a2)) → ∀ (a1 : T1) (a2 : T2), wF κ wd nL Q (sg a1 a2) pc (lw a1 a2) [] (body self a1 a2)) : ∀ n (a1 : T1) (a2 : T2), wF κ wd nL Q (sg a1 a2) pc (lw a1 a2) [] (it2 body n a1 a2)
  | 0, _, _ => fun x hx => by cases hx
  | n + 1, a1, a2 => h (it2 body n) (fun a1 a2 => w_it2 sg lw h n a1 a2) a1 a2
theorem w_it3 {T1 T2 T3 : Type} {body : (T1 → T2 → T3 → Option X) → T1 → T2 → T3 → Option X} (sg : T1 → T2 → T3 → Mem) (lw : T1 → T2 → T3 → List (Option Value)) (h : ∀ self : T1 → T2 → T3 → Option X, (∀ (a1 : T1) (a2 : T2) (a3 : T3), wF κ wd nL Q (sg a1 a2 a3) pc (lw a1 a2 a3) [] (self a1 a2 a3)) → ∀ (a1 : T1) (a2 : T2) (a3 : T3), wF κ wd nL Q (sg a1 a2 a3) pc (lw a1 a2 a3) [] (body self a1 a2 a3)) : ∀ n (a1 : T1) (a2 : T2) (a3 : T3), wF κ wd nL Q (sg a1 a2 a3) pc (lw a1 a2 a3) [] (it3 body n a1 a2 a3)
  | 0, _, _, _ => fun x hx => by cases hx
  | n + 1, a1, a2, a3 => h (it3 body n) (fun a1 a2 a3 => w_it3 sg lw h n a1 a2 a3) a1 a2 a3
theorem w_it4 {T1 T2 T3 T4 : Type} {body : (T1 → T2 → T3 → T4 → Option X) → T1 → T2 → T3 → T4 → Option X} (sg : T1 → T2 → T3 → T4 → Mem) (lw : T1 → T2 → T3 → T4 → List (Option Value)) (h : ∀ self : T1 → T2 → T3 → T4 → Option X, (∀ (a1 : T1) (a2 : T2) (a3 : T3) (a4 : T4), wF κ wd nL Q (sg a1 a2 a3 a4) pc (lw a1 a2 a3 a4) [] (self a1 a2 a3 a4)) → ∀ (a1 : T1) (a2 : T2) (a3 : T3) (a4 : T4), wF κ wd nL Q (sg a1 a2 a3 a4) pc (lw a1 a2 a3 a4) [] (body self a1 a2 a3 a4)) : ∀ n (a1 : T1) (a2 : T2) (a3 : T3) (a4 : T4), wF κ wd nL Q (sg a1 a2 a3 a4) pc (lw a1 a2 a3 a4) [] (it4 body n a1 a2 a3 a4)
  | 0, _, _, _, _ => fun x hx => by cases hx
  | n + 1, a1, a2, a3, a4 => h (it4 body n) (fun a1 a2 a3 a4 => w_it4 sg lw h n a1 a2 a3 a4) a1 a2 a3 a4
theorem w_it5 {T1 T2 T3 T4 T5 : Type} {body : (T1 → T2 → T3 → T4 → T5 → Option X) → T1 → T2 → T3 → T4 → T5 → Option X} (sg : T1 → T2 → T3 → T4 → T5 → Mem) (lw : T1 → T2 → T3 → T4 → T5 → List (Option Value)) (h : ∀ self : T1 → T2 → T3 → T4 → T5 → Option X, (∀ (a1 : T1) (a2 : T2) (a3 : T3) (a4 : T4) (a5 : T5), wF κ wd nL Q (sg a1 a2 a3 a4 a5) pc (lw a1 a2 a3 a4 a5) [] (self a1 a2 a3 a4 a5)) → ∀ (a1 : T1) (a2 : T2) (a3 : T3) (a4 : T4) (a5 : T5), wF κ wd nL Q (sg a1 a2 a3 a4 a5) pc (lw a1 a2 a3 a4 a5) [] (body self a1 a2 a3 a4 a5)) : ∀ n (a1 : T1) (a2 : T2) (a3 : T3) (a4 : T4) (a5 : T5), wF κ wd nL Q (sg a1 a2 a3 a4 a5) pc (lw a1 a2 a3 a4 a5) [] (it5 body n a1 a2 a3 a4 a5)
  | 0, _, _, _, _, _ => fun x hx => by cases hx
  | n + 1, a1, a2, a3, a4, a5 => h (it5 body n) (fun a1 a2 a3 a4 a5 => w_it5 sg lw h n a1 a2 a3 a4 a5) a1 a2 a3 a4 a5
theorem w_it6 {T1 T2 T3 T4 T5 T6 : Type} {body : (T1 → T2 → T3 → T4 → T5 → T6 → Option X) → T1 → T2 → T3 → T4 → T5 → T6 → Option X} (sg : T1 → T2 → T3 → T4 → T5 → T6 → Mem) (lw : T1 → T2 → T3 → T4 → T5 → T6 → List (Option Value)) (h : ∀ self : T1 → T2 → T3 → T4 → T5 → T6 → Option X, (∀ (a1 : T1) (a2 : T2) (a3 : T3) (a4 : T4) (a5 : T5) (a6 : T6), wF κ wd nL Q (sg a1 a2 a3 a4 a5 a6) pc (lw a1 a2 a3 a4 a5 a6) [] (self a1 a2 a3 a4 a5 a6)) → ∀ (a1 : T1) (a2 : T2) (a3 : T3) (a4 : T4) (a5 : T5) (a6 : T6), wF κ wd nL Q (sg a1 a2 a3 a4 a5 a6) pc (lw a1 a2 a3 a4 a5 a6) [] (body self a1 a2 a3 a4 a5 a6)) : ∀ n (a1 : T1) (a2 : T2) (a3 : T3) (a4 : T4) (a5 : T5) (a6 : T6), wF κ wd nL Q (sg a1 a2 a3 a4 a5 a6) pc (lw a1 a2 a3 a4 a5 a6) [] (it6 body n a1 a2 a3 a4 a5 a6)
  | 0, _, _, _, _, _, _ => fun x hx => by cases hx
  | n + 1, a1, a2, a3, a4, a5, a6 => h (it6 body n) (fun a1 a2 a3 a4 a5 a6 => w_it6 sg lw h n a1 a2 a3 a4 a5 a6) a1 a2 a3 a4 a5 a6
theorem w_it7 {T1 T2 T3 T4 T5 T6 T7 : Type} {body : (T1 → T2 → T3 → T4 → T5 → T6 → T7 → Option X) → T1 → T2 → T3 → T4 → T5 → T6 → T7 → Option X} (sg : T1 → T2 → T3 → T4 → T5 → T6 → T7 → Mem) (lw : T1 → T2 → T3 → T4 → T5 → T6 → T7 → List (Option Value)) (h : ∀ self : T1 → T2 → T3 → T4 → T5 → T6 → T7 → Option X, (∀ (a1 : T1) (a2 : T2) (a3 : T3) (a4 : T4) (a5 : T5) (a6 : T6) (a7 : T7), wF κ wd nL Q (sg a1 a2 a3 a4 a5 a6 a7) pc (lw a1 a2 a3 a4 a5 a6 a7) [] (self a1 a2 a3 a4 a5 a6 a7)) → ∀ (a1 : T1) (a2 : T2) (a3 : T3) (a4 : T4) (a5 : T5) (a6 : T6) (a7 : T7), wF κ wd nL Q (sg a1 a2 a3 a4 a5 a6 a7) pc (lw a1 a2 a3 a4 a5 a6 a7) [] (body self a1 a2 a3 a4 a5 a6 a7)) : ∀ n (a1 : T1) (a2 : T2) (a3 : T3) (a4 : T4) (a5 : T5) (a6 : T6) (a7 : T7), wF κ wd nL Q (sg a1 a2 a3 a4 a5 a6 a7) pc (lw a1 a2 a3 a4 a5 a6 a7) [] (it7 body n a1 a2 a3 a4 a5 a6 a7)
  | 0, _, _, _, _, _, _, _ => fun x hx => by cases hx
  | n + 1, a1, a2, a3, a4, a5, a6, a7 => h (it7 body n) (fun a1 a2 a3 a4 a5 a6 a7 => w_it7 sg lw h n a1 a2 a3 a4 a5 a6 a7) a1 a2 a3 a4 a5 a6 a7
theorem w_it8 {T1 T2 T3 T4 T5 T6 T7 T8 : Type} {body : (T1 → T2 → T3 → T4 → T5 → T6 → T7 → T8 → Option X) → T1 → T2 → T3 → T4 → T5 → T6 → T7 → T8 → Option X} (sg : T1 → T2 → T3 → T4 → T5 → T6 → T7 → T8 → Mem) (lw : T1 → T2 → T3 → T4 → T5 → T6 → T7 → T8 → List (Option Value)) (h : ∀ self : T1 → T2 → T3 → T4 → T5 → T6 → T7 → T8 → Option X, (∀ (a1 : T1) (a2 : T2) (a3 : T3) (a4 : T4) (a5 : T5) (a6 : T6) (a7 : T7) (a8 : T8), wF κ wd nL Q (sg a1 a2 a3 a4 a5 a6 a7 a8) pc (lw a1 a2 a3 a4 a5 a6 a7 a8) [] (self a1 a2 a3 a4 a5 a6 a7 a8)) → ∀ (a1 : T1) (a2 : T2) (a3 : T3) (a4 : T4) (a5 : T5) (a6 : T6) (a7 : T7) (a8 : T8), wF κ wd nL Q (sg a1 a2 a3 a4 a5 a6 a7 a8) pc (lw a1 a2 a3 a4 a5 a6 a7 a8) [] (body self a1 a2 a3 a4 a5 a6 a7 a8)) : ∀ n (a1 : T1) (a2 : T2) (a3 : T3) (a4 : T4) (a5 : T5) (a6 : T6) (a7 : T7) (a8 : T8), wF κ wd nL Q (sg a1 a2 a3 a4 a5 a6 a7 a8) pc (lw a1 a2 a3 a4 a5 a6 a7 a8) [] (it8 body n a1 a2 a3 a4 a5 a6 a7 a8)
  | 0, _, _, _, _, _, _, _, _ => fun x hx => by cases hx
  | n + 1, a1, a2, a3, a4, a5, a6, a7, a8 => h (it8 body n) (fun a1 a2 a3 a4 a5 a6 a7 a8 => w_it8 sg lw h n a1 a2 a3 a4 a5 a6 a7 a8) a1 a2 a3 a4 a5 a6 a7 a8
theorem w_it9 {T1 T2 T3 T4 T5 T6 T7 T8 T9 : Type} {body : (T1 → T2 → T3 → T4 → T5 → T6 → T7 → T8 → T9 → Option X) → T1 → T2 → T3 → T4 → T5 → T6 → T7 → T8 → T9 → Option X} (sg : T1 → T2 → T3 → T4 → T5 → T6 → T7 → T8 → T9 → Mem) (lw : T1 → T2 → T3 → T4 → T5 → T6 → T7 → T8 → T9 → List (Option Value)) (h : ∀ self : T1 → T2 → T3 → T4 → T5 → T6 → T7 → T8 → T9 → Option X, (∀ (a1 : T1) (a2 : T2) (a3 : T3) (a4 : T4) (a5 : T5) (a6 : T6) (a7 : T7) (a8 : T8) (a9 : T9), wF κ wd nL Q (sg a1 a2 a3 a4 a5 a6 a7 a8 a9) pc (lw a1 a2 a3 a4 a5 a6 a7 a8 a9) [] (self a1 a2 a3 a4 a5 a6 a7 a8 a9)) → ∀ (a1 : T1) (a2 : T2) (a3 : T3) (a4 : T4) (a5 : T5) (a6 : T6) (a7 : T7) (a8 : T8) (a9 : T9), wF κ wd nL Q (sg a1 a2 a3 a4 a5 a6 a7 a8 a9) pc (lw a1 a2 a3 a4 a5 a6 a7 a8 a9) [] (body self a1 a2 a3 a4 a5 a6 a7 a8 a9)) : ∀ n (a1 : T1) (a2 : T2) (a3 : T3) (a4 : T4) (a5 : T5) (a6 : T6) (a7 : T7) (a8 : T8) (a9 : T9), wF κ wd nL Q (sg a1 a2 a3 a4 a5 a6 a7 a8 a9) pc (lw a1 a2 a3 a4 a5 a6 a7 a8 a9) [] (it9 body n a1 a2 a3 a4 a5 a6 a7 a8 a9)
  | 0, _, _, _, _, _, _, _, _, _ => fun x hx => by cases hx
  | n + 1, a1, a2, a3, a4, a5, a6, a7, a8, a9 => h (it9 body n) (fun a1 a2 a3 a4 a5 a6 a7 a8 a9 => w_it9 sg lw h n a1 a2 a3 a4 a5 a6 a7 a8 a9) a1 a2 a3 a4 a5 a6 a7 a8 a9
theorem w_it10 {T1 T2 T3 T4 T5 T6 T7 T8 T9 T10 : Type} {body : (T1 → T2 → T3 → T4 → T5 → T6 → T7 → T8 → T9 → T10 → Option X) → T1 → T2 → T3 → T4 → T5 → T6 → T7 → T8 → T9 → T10 → Option X} (sg : T1 → T2 → T3 → T4 → T5 → T6 → T7 → T8 → T9 → T10 → Mem) (lw : T1 → T2 → T3 → T4 → T5 → T6 → T7 → T8 → T9 → T10 → List (Option Value)) (h : ∀ self : T1 → T2 → T3 → T4 → T5 → T6 → T7 → T8 → T9 → T10 → Option X, (∀ (a1 : T1) (a2 : T2) (a3 : T3) (a4 : T4) (a5 : T5) (a6 : T6) (a7 : T7) (a8 : T8) (a9 : T9) (a10 : T10), wF κ wd nL Q (sg a1 a2 a3 a4 a5 a6 a7 a8 a9 a10) pc (lw a1 a2 a3 a4 a5 a6 a7 a8 a9 a10) [] (self a1 a2 a3 a4 a5 a6 a7 a8 a9 a10)) → ∀ (a1 : T1) (a2 : T2) (a3 : T3) (a4 : T4) (a5 : T5) (a6 : T6) (a7 : T7) (a8 : T8) (a9 : T9) (a10 : T10), wF κ wd nL Q (sg a1 a2 a3 a4 a5 a6 a7 a8 a9 a10) pc (lw a1 a2 a3 a4 a5 a6 a7 a8 a9 a10) [] (body self a1 a2 a3 a4 a5 a6 a7 a8 a9 a10)) : ∀ n (a1 : T1) (a2 : T2) (a3 : T3) (a4 : T4) (a5 : T5) (a6 : T6) (a7 : T7) (a8 : T8) (a9 : T9) (a10 : T10), wF κ wd nL Q (sg a1 a2 a3 a4 a5 a6 a7 a8 a9 a10) pc (lw a1 a2 a3 a4 a5 a6 a7 a8 a9 a10) [] (it10 body n a1 a2 a3 a4 a5 a6 a7 a8 a9 a10)
  | 0, _, _, _, _, _, _, _, _, _, _ => fun x hx => by cases hx
  | n + 1, a1, a2, a3, a4, a5, a6, a7, a8, a9, a10 => h (it10 body n) (fun a1 a2 a3 a4 a5 a6 a7 a8 a9 a10 => w_it10 sg lw h n a1 a2 a3 a4 a5 a6 a7 a8 a9 a10) a1 a2 a3 a4 a5 a6 a7 a8 a9 a10
end Rows
-- contracts
def cQi (w : Wenv) (wd : Wd) (r : Int32) (σ : Mem) : Array Value → State → Outcome → State → Prop := va_Qi (fun (r2 : Int32) (_ : Unit) => r2 = r) (fun _ t => Pw w wd σ t) w.2.1
def cQl (w : Wenv) (wd : Wd) (r : Int64) (σ : Mem) : Array Value → State → Outcome → State → Prop := va_Ql (fun (r2 : Int64) (_ : Unit) => r2 = r) (fun _ t => Pw w wd σ t) w.2.1
def cQv (w : Wenv) (wd : Wd) (σ : Mem) : Array Value → State → Outcome → State → Prop := va_Qv (fun (_ : Unit) => True) (fun _ t => Pw w wd σ t) w.2.1
/-- the contract of a method: args av, memory σ at first, post Qc -/
def Ctr (l : Launch) (w : Wenv) (wd : Wd) (y : MethodName) (cc : ByteArray) (maxL : Nat) (ret : Option FieldType) (fr lo : Nat) (av : List Value) (σ : Mem) (Qc : Array Value → State → Outcome → State → Prop) : Prop :=
  Met l y (Cond.code y cc maxL ret :: gtbl) { frames := fr, cells := 0, slots := 0, locals := lo } (va_Pc av (Pw w wd σ)) Qc 0 0 w.2.1
def qO (κ : Ctx) (wd : Wd) (σ : Mem) : Int32 → State → Prop := fun r => MQ (kb κ) (cQi (kW κ) wd r σ) (ka κ) (ks κ) 0 0 (kW κ).2.1
def qL (κ : Ctx) (wd : Wd) (σ : Mem) : Int64 → State → Prop := fun r => MQ (kb κ) (cQl (kW κ) wd r σ) (ka κ) (ks κ) 0 0 (kW κ).2.1
def qOM (κ : Ctx) (wd : Wd) : Int32 × Mem → State → Prop := fun r => MQ (kb κ) (cQi (kW κ) wd r.1 r.2) (ka κ) (ks κ) 0 0 (kW κ).2.1
def qLM (κ : Ctx) (wd : Wd) : Int64 × Mem → State → Prop := fun r => MQ (kb κ) (cQl (kW κ) wd r.1 r.2) (ka κ) (ks κ) 0 0 (kW κ).2.1
def qM (κ : Ctx) (wd : Wd) : Mem → State → Prop := fun r => MQ (kb κ) (cQv (kW κ) wd r) (ka κ) (ks κ) 0 0 (kW κ).2.1
section Rets
variable {κ : Ctx} {wd : Wd} {nL : Nat} {σ : Mem} {pc : Nat} {lv : List (Option Value)} {cc : ByteArray} {own : String} {ty : FieldType}
theorem r_retI {X : Type} {Q : X → State → Prop} {x : X} {v : Int32} (hC : ok κ wd cc nL own (some ty)) (hQ : Q x = MQ (kb κ) (cQi (kW κ) wd v σ) (ka κ) (ks κ) 0 0 (kW κ).2.1) (hn : narrow ty (.int v) = .int v) (hdg : decode cc pc = .ok (.ireturn, 1)) : wF κ wd nL Q σ pc lv [.int v] (some x) := fun z hz H locs ls h1 h2 h3 => by
  cases hz
  rw [hQ]
  exact W.zret hC.1 hC.2.1 hC.2.2.2.2.2.1 hn (fun t ht hW => ⟨⟨v, (), rfl, rfl, by rw [ht]; exact h1, va_K.moved hW.alike hC.2.2.2.2.2.2.2.1, Nst.warm hW hC.2.2.2.2.2.2.2.2.2⟩, h2.F ht⟩) h2.2.2 hdg hC.2.2.2.2.2.2.1
theorem r_retO {v : Int32} (hC : ok κ wd cc nL own (some ty)) (hn : narrow ty (.int v) = .int v) (hdg : decode cc pc = .ok (.ireturn, 1)) : wF κ wd nL (qO κ wd σ) σ pc lv [.int v] (some v) := r_retI hC rfl hn hdg
theorem r_retOM {v : Int32} (hC : ok κ wd cc nL own (some ty)) (hn : narrow ty (.int v) = .int v) (hdg : decode cc pc = .ok (.ireturn, 1)) : wF κ wd nL (qOM κ wd) σ pc lv [.int v] (some (v, σ)) := r_retI hC rfl hn hdg
theorem r_retOb {v : Int32} (hC : ok κ wd cc nL own (some .boolean)) (hdg : decode cc pc = .ok (.ireturn, 1)) : wF κ wd nL (qO κ wd σ) σ pc lv [.int v] (gd (isb v) (some v)) := fun z hz => r_retO hC (isb_nar (gd_some hz).1) hdg z (gd_some hz).2
theorem r_retOMb {v : Int32} (hC : ok κ wd cc nL own (some .boolean)) (hdg : decode cc pc = .ok (.ireturn, 1)) : wF κ wd nL (qOM κ wd) σ pc lv [.int v] (gd (isb v) (some (v, σ))) := fun z hz => r_retOM hC (isb_nar (gd_some hz).1) hdg z (gd_some hz).2
theorem r_retJ {X : Type} {Q : X → State → Prop} {x : X} {v : Int64} (hC : ok κ wd cc nL own (some .long)) (hQ : Q x = MQ (kb κ) (cQl (kW κ) wd v σ) (ka κ) (ks κ) 0 0 (kW κ).2.1) (hdg : decode cc pc = .ok (.lreturn, 1)) : wF κ wd nL Q σ pc lv [.long v] (some x) := fun z hz H locs ls h1 h2 h3 => by
  cases hz
  rw [hQ]
  exact W.lret hC.1 hC.2.1 hC.2.2.2.2.2.1 (fun t ht hW => ⟨⟨v, (), rfl, rfl, by rw [ht]; exact h1, va_K.moved hW.alike hC.2.2.2.2.2.2.2.1, Nst.warm hW hC.2.2.2.2.2.2.2.2.2⟩, h2.F ht⟩) h2.2.2 hdg hC.2.2.2.2.2.2.1
theorem r_retL {v : Int64} (hC : ok κ wd cc nL own (some .long)) (hdg : decode cc pc = .ok (.lreturn, 1)) : wF κ wd nL (qL κ wd σ) σ pc lv [.long v] (some v) := r_retJ hC rfl hdg
theorem r_retLM {v : Int64} (hC : ok κ wd cc nL own (some .long)) (hdg : decode cc pc = .ok (.lreturn, 1)) : wF κ wd nL (qLM κ wd) σ pc lv [.long v] (some (v, σ)) := r_retJ hC rfl hdg
theorem r_retM (hC : ok κ wd cc nL own none) (hdg : decode cc pc = .ok (.return_, 1)) : wF κ wd nL (qM κ wd) σ pc lv [] (some σ) := fun z hz H locs ls h1 h2 h3 => by
  cases hz
  exact W.vret hC.1 hC.2.1 hC.2.2.2.2.2.1 (fun t ht hW => ⟨⟨(), rfl, trivial, by rw [ht]; exact h1, va_K.moved hW.alike hC.2.2.2.2.2.2.2.1, Nst.warm hW hC.2.2.2.2.2.2.2.2.2⟩, h2.F ht⟩) h2.2.2 hdg hC.2.2.2.2.2.2.1
end Rets
section Makes
/-- a contract out of a walk -/
theorem mk_ctr {l : Launch} {w : Wenv} {wd : Wd} {y : MethodName} {cc : ByteArray} {maxL : Nat} {ret : Option FieldType} {fr lo : Nat} {av : List Value} {σ : Mem} {Qc : Array Value → State → Outcome → State → Prop} {own : String} {lv : List (Option Value)} {X : Type} {x : X} {o : Option X} {Q : Ctx → X → State → Prop}
    (hy : plainName y.cls = true) (hown : y.cls = own) (hw : okw w wd) (hlen : (lg_sl av).length ≤ maxL) (hlv : lv_args 0 av = asc 0 lv) (ho : o = some x) (hQ : ∀ κ : Ctx, kW κ = w → Q κ x = MQ (kb κ) Qc (ka κ) (ks κ) 0 0 w.2.1)
    (h : ∀ κ : Ctx, kl κ = l → kW κ = w → kR κ = { frames := fr, cells := 0, slots := 0, locals := lo } → ok κ wd cc maxL own ret → wF κ wd maxL (Q κ) σ 0 lv [] o) : Ctr l w wd y cc maxL ret fr lo av σ Qc := by
  refine Met.ofW (cc := cc) (maxL := maxL) (ret := ret) hy rfl ?_
  intro p e s m args below meth c s1 B hml hv
  obtain ⟨rfl, hP, hK, hN⟩ := hv
  have hts := atoms_spec (ws := Cond.code y cc maxL ret :: gtbl) B.pre
  have hf : s.vm.findClass y.cls = some m.cls := findClass_of_methodNamed B.named
  have h1 := h (w, p, l, e, { frames := fr, cells := 0, slots := 0, locals := lo }, s, m, av.toArray, below, meth, c) rfl rfl rfl ⟨B.exec, B.bytes, hml, by rw [← hown]; exact hf, fun w1 hw1 => hts w1 (List.mem_cons_of_mem _ hw1), B.returns, B.notSynchronized, hK, hw, hN⟩ x ho s.heap [] (lg_sl av ++ List.replicate (maxL - (lg_sl av).length) Slot.unset).toArray hP va_S.rf (has_lvp (by rw [← hlv]; exact lv_entry av hlen))
  rw [hQ _ rfl] at h1
  rw [lg_entry_eq]
  exact h1
end Makes
section Calls
variable {X : Type} {κ : Ctx} {wd : Wd} {nL : Nat} {Q : X → State → Prop} {σ : Mem} {pc : Nat} {lv : List (Option Value)} {rest : List Value} {cc : ByteArray} {own : String} {ret : Option FieldType}
/-- a run of a callee from here -/
def Rn (κ : Ctx) (wd : Wd) (nL : Nat) (σ : Mem) (pc : Nat) (lv : List (Option Value)) (st rest : List Value) (Qa : State → Outcome → State → Prop) : Prop :=
  ∀ (H : Heap) (locs : List Loc) (ls : Array Slot), va_P (kW κ).1 vwCl (wd (kW κ) σ) H → va_S (kW κ).2.1 (ks κ).heap H locs → lvp ls nL lv → va_Run (kp κ) (kl κ) (ke κ) (kR κ) (ks κ) (km κ) (ka κ) (kb κ) (kmeth κ) (kc κ) H locs 0 0 0 0 (F0 (km κ) pc ls st) rest Qa (kW κ).2.1
theorem r_cT {st : List Value} {v : Int32} {a : Array Value} {o : Option X} (hr : Rn κ wd nL σ pc lv st rest (cQi (kW κ) wd v σ a)) (k : wF κ wd nL Q σ (pc + 3) lv (.int v :: rest) o) : wF κ wd nL Q σ pc lv st o := fun z hz H locs ls h1 h2 h3 =>
  va_calli (hr H locs ls h1 h2 h3) h2 (fun _ _ h => h) (fun _ h => h) (fun r u t H1 locs1 ht _ hp hB _ _ hS => by
    subst hp
    exact k z hz H1 locs1 ls (by rw [← ht]; exact hB.1) hS h3)
theorem r_cO {st : List Value} {fo : Option Int32} {a : Array Value} {k : Int32 → Option X} (hr : ∀ v, fo = some v → Rn κ wd nL σ pc lv st rest (cQi (kW κ) wd v σ a)) (kk : ∀ v, wF κ wd nL Q σ (pc + 3) lv (.int v :: rest) (k v)) : wF κ wd nL Q σ pc lv st (ob fo k) := fun z hz => by
  obtain ⟨v, h1, h2⟩ := ob_some hz
  exact r_cT (hr v h1) (kk v) z h2
theorem r_cOM {st : List Value} {fo : Option (Int32 × Mem)} {a : Array Value} {k : Int32 → Mem → Option X} (hr : ∀ v τ, fo = some (v, τ) → Rn κ wd nL σ pc lv st rest (cQi (kW κ) wd v τ a)) (kk : ∀ v τ, wF κ wd nL Q τ (pc + 3) lv (.int v :: rest) (k v τ)) : wF κ wd nL Q σ pc lv st (ob2 fo k) := fun z hz H locs ls h1 h2 h3 => by
  obtain ⟨v, τ, e1, e2⟩ := ob2_some hz
  exact va_calli (hr v τ e1 H locs ls h1 h2 h3) h2 (fun _ _ h => h) (fun _ h => h) (fun r u t H1 locs1 ht _ hp hB _ _ hS => by
    subst hp
    exact kk r τ z e2 H1 locs1 ls (by rw [← ht]; exact hB.1) hS h3)
theorem r_cL {st : List Value} {fo : Option Int64} {a : Array Value} {k : Int64 → Option X} (hr : ∀ v, fo = some v → Rn κ wd nL σ pc lv st rest (cQl (kW κ) wd v σ a)) (kk : ∀ v, wF κ wd nL Q σ (pc + 3) lv (.long v :: rest) (k v)) : wF κ wd nL Q σ pc lv st (ob fo k) := fun z hz H locs ls h1 h2 h3 => by
  obtain ⟨v, e1, e2⟩ := ob_some hz
  exact va_calll (hr v e1 H locs ls h1 h2 h3) h2 (fun _ _ h => h) (fun _ h => h) (fun r u t H1 locs1 ht _ hp hB _ _ hS => by
    subst hp
    exact kk r z e2 H1 locs1 ls (by rw [← ht]; exact hB.1) hS h3)
theorem r_cLM {st : List Value} {fo : Option (Int64 × Mem)} {a : Array Value} {k : Int64 → Mem → Option X} (hr : ∀ v τ, fo = some (v, τ) → Rn κ wd nL σ pc lv st rest (cQl (kW κ) wd v τ a)) (kk : ∀ v τ, wF κ wd nL Q τ (pc + 3) lv (.long v :: rest) (k v τ)) : wF κ wd nL Q σ pc lv st (ob2 fo k) := fun z hz H locs ls h1 h2 h3 => by
  obtain ⟨v, τ, e1, e2⟩ := ob2_some hz
  exact va_calll (hr v τ e1 H locs ls h1 h2 h3) h2 (fun _ _ h => h) (fun _ h => h) (fun r u t H1 locs1 ht _ hp hB _ _ hS => by
    subst hp
    exact kk r τ z e2 H1 locs1 ls (by rw [← ht]; exact hB.1) hS h3)
theorem r_cM {st : List Value} {fo : Option Mem} {a : Array Value} {k : Mem → Option X} (hr : ∀ τ, fo = some τ → Rn κ wd nL σ pc lv st rest (cQv (kW κ) wd τ a)) (kk : ∀ τ, wF κ wd nL Q τ (pc + 3) lv rest (k τ)) : wF κ wd nL Q σ pc lv st (ob fo k) := fun z hz H locs ls h1 h2 h3 => by
  obtain ⟨τ, e1, e2⟩ := ob_some hz
  exact va_callv (hr τ e1 H locs ls h1 h2 h3) h2 (fun _ _ h => h) (fun _ h => h) (fun u t H1 locs1 ht _ hp hB _ _ hS => kk τ z e2 H1 locs1 ls (by rw [← ht]; exact hB.1) hS h3)
theorem rm_ok {κ : Ctx} {F L fr lo maxL : Nat} (h : kR κ = { frames := F, cells := 0, slots := 0, locals := L }) (hd : (Nat.ble (fr + 1) F && Nat.ble (8 + (maxL + 11) + lo) L) = true) : fr + 1 ≤ (kR κ).frames ∧ 8 + (maxL + 11) + lo ≤ (kR κ).locals := by
  rw [Bool.and_eq_true] at hd
  rw [h]
  exact ⟨Nat.le_of_ble_eq_true hd.1, Nat.le_of_ble_eq_true hd.2⟩
theorem r_gd {b : Bool} {st : List Value} {o : Option X} (h : b = true → wF κ wd nL Q σ pc lv st o) : wF κ wd nL Q σ pc lv st (gd b o) := fun z hz => h (gd_some hz).1 z (gd_some hz).2
theorem r_ung {b : Bool} {st : List Value} {o : Option X} (hb : b = true) (h : wF κ wd nL Q σ pc lv st (gd b o)) : wF κ wd nL Q σ pc lv st o := fun z hz => h z (by rw [gd, if_pos hb]; exact hz)
theorem r_letm {st : List Value} {k : Mem → Option X} (h : ∀ τ : Mem, wF κ wd nL Q τ pc lv st (k τ)) : wF κ wd nL Q σ pc lv st (bnd σ k) := h σ
theorem r_mmax (hC : ok κ wd cc nL own ret) {F L index : Nat} {x y : Int32} {o : Option X} (hR : kR κ = { frames := F, cells := 0, slots := 0, locals := L }) (hd : (Nat.ble 1 F && Nat.ble 21 L) = true) (hlk : Cond.methodLink own index Lib.Math.max.name ∈ gtbl) (hs : Cond.static Lib.Math.max.name ∈ gtbl) (hi : Cond.initialized "java/lang/Math" ∈ gtbl) (hc : Cond.code Lib.Math.max.name Lib.Math.max.code 2 (some .int) ∈ gtbl) (hw : (rest.map fun v => v.category).sum ≤ 8) (hdg : decode cc pc = .ok (.invokestatic index, 3)) (k : wF κ wd nL Q σ (pc + 3) lv (.int (if x < y then y else x) :: rest) o) : wF κ wd nL Q σ pc lv (.int y :: .int x :: rest) o := fun z hz H locs ls h1 h2 h3 => by
  rw [Bool.and_eq_true] at hd
  have e1 := Nat.le_of_ble_eq_true hd.1
  have e2 := Nat.le_of_ble_eq_true hd.2
  have hts := hC.2.2.2.2.1
  exact va_mmax hC.1 hC.2.1 (by rw [hC.2.2.1]; exact h3.1.symm) hC.2.2.2.1 (hts _ hlk) (hts _ hs) (hts _ hi) (hts _ hc) (by rw [hR]; exact e1) (by rw [hR]; show _ ≤ L; omega) (Nat.zero_le _) (Nat.zero_le _) hdg (k z hz H locs ls h1 h2 h3)
theorem r_mmin (hC : ok κ wd cc nL own ret) {F L index : Nat} {x y : Int32} {o : Option X} (hR : kR κ = { frames := F, cells := 0, slots := 0, locals := L }) (hd : (Nat.ble 1 F && Nat.ble 21 L) = true) (hlk : Cond.methodLink own index Lib.Math.min.name ∈ gtbl) (hs : Cond.static Lib.Math.min.name ∈ gtbl) (hi : Cond.initialized "java/lang/Math" ∈ gtbl) (hc : Cond.code Lib.Math.min.name Lib.Math.min.code 2 (some .int) ∈ gtbl) (hw : (rest.map fun v => v.category).sum ≤ 8) (hdg : decode cc pc = .ok (.invokestatic index, 3)) (k : wF κ wd nL Q σ (pc + 3) lv (.int (if y < x then y else x) :: rest) o) : wF κ wd nL Q σ pc lv (.int y :: .int x :: rest) o := fun z hz H locs ls h1 h2 h3 => by
  rw [Bool.and_eq_true] at hd
  have e1 := Nat.le_of_ble_eq_true hd.1
  have e2 := Nat.le_of_ble_eq_true hd.2
  have hts := hC.2.2.2.2.1
  exact va_mmin hC.1 hC.2.1 (by rw [hC.2.2.1]; exact h3.1.symm) hC.2.2.2.1 (hts _ hlk) (hts _ hs) (hts _ hi) (hts _ hc) (by rw [hR]; exact e1) (by rw [hR]; show _ ≤ L; omega) (Nat.zero_le _) (Nat.zero_le _) hdg (k z hz H locs ls h1 h2 h3)
theorem rm_le {κ : Ctx} {F L fr lo maxL : Nat} (h : F ≤ (kR κ).frames ∧ L ≤ (kR κ).locals) (hd : (Nat.ble (fr + 1) F && Nat.ble (8 + (maxL + 11) + lo) L) = true) : fr + 1 ≤ (kR κ).frames ∧ 8 + (maxL + 11) + lo ≤ (kR κ).locals := by
  rw [Bool.and_eq_true] at hd
  exact ⟨Nat.le_trans (Nat.le_of_ble_eq_true hd.1) h.1, Nat.le_trans (Nat.le_of_ble_eq_true hd.2) h.2⟩
/-- facts of a callee -/
def yok (y : MethodName) (cb : ByteArray) (maxL : Nat) (rt : Option FieldType) (n : Nat) : Prop :=
  Cond.code y cb maxL rt ∈ gtbl ∧ Cond.initialized y.cls ∈ gtbl ∧ (y.cls ≠ "java/lang/invoke/MethodHandle" ∧ y.cls ≠ "java/lang/invoke/VarHandle" ∧ (parseMethodDescriptor y.desc).map (fun d => d.parameters.length) = some n)
def yokV (y : MethodName) (cb : ByteArray) (maxL : Nat) (rt : Option FieldType) (n : Nat) : Prop := yok y cb maxL rt n ∧ Cond.instanceMethod y ∈ gtbl ∧ Cond.selects y.cls y y ∈ gtbl
def yokS (y : MethodName) (cb : ByteArray) (maxL : Nat) (rt : Option FieldType) (n : Nat) : Prop := yok y cb maxL rt n ∧ Cond.static y ∈ gtbl
theorem blind (w : Wenv) (wd : Wd) (σ : Mem) (av : List Value) : FrameBlind (va_Pc av (Pw w wd σ)) := fun a U g mk q => ⟨q.1, q.2.1, va_K.moved (u := U) (U := U.calling g mk a) (Vm.Alike.refl U.vm) q.2.2.1, Nst.same (u := U) (U := U.calling g mk a) rfl q.2.2.2⟩
theorem ws_good {y : MethodName} {cb : ByteArray} {maxL : Nat} {rt : Option FieldType} (h : Cond.code y cb maxL rt ∈ gtbl) : GoodIn gtbl (Cond.code y cb maxL rt :: gtbl) := fun w hw => by
  rcases List.mem_cons.mp hw with rfl | hw
  · exact gt_good _ h
  · exact gt_good _ hw
theorem runV {y : MethodName} {cb : ByteArray} {maxL n fr lo index b q0 ci N : Nat} {rt : Option FieldType} {Qc : Array Value → State → Outcome → State → Prop} {T : u_T} {fs : List Value} (As : List Value) (hC : ok κ wd cc nL own ret)
    (hM : Ctr (kl κ) (kW κ) wd y cb maxL rt fr lo (.ref b :: As) σ Qc) (hy : yokV y cb maxL rt n) (hlk : Cond.methodLink own index y ∈ gtbl) (he : (wd (kW κ) σ)[q0]? = some (b, .inr (ci, fs))) (hc : vwCl[ci]? = some (y.cls, T, N))
    (hR' : fr + 1 ≤ (kR κ).frames ∧ 8 + (maxL + 11) + lo ≤ (kR κ).locals) (hn : As.length = n) (hw : (rest.map fun v => v.category).sum ≤ 8) (hdg : decode cc pc = .ok (.invokevirtual index, 3)) :
    Rn κ wd nL σ pc lv (As.reverse ++ .ref b :: rest) rest (Qc (Value.ref b :: As).toArray) := fun H locs ls h1 h2 h3 => by
  have hts := hC.2.2.2.2.1
  refine va_runV (As := As) (rest := rest) ⟨hC.1, hC.2.1, hC.2.2.1, hC.2.2.2.1, hts⟩ hM (C := y.cls) ⟨callB_of n hts (ws_good hy.1.1) rfl rfl rfl (hts _ hy.1.2.1) (hts _ hlk) hy.1.2.2 hR', hts _ hy.2.1, hts _ hy.2.2⟩ ⟨blind _ _ _ _, va_recv hC.2.2.2.2.2.2.2.1 h1 hc he, fun U hU hW => ⟨rfl, by rw [hU]; exact h1, va_K.moved hW.alike hC.2.2.2.2.2.2.2.1, Nst.warm hW hC.2.2.2.2.2.2.2.2.2⟩⟩ rfl hn h3.1 rfl (lv_room hw) hdg ⟨Nat.zero_le _, Nat.zero_le _⟩
theorem runS {y : MethodName} {cb : ByteArray} {maxL n fr lo index : Nat} {rt : Option FieldType} {Qc : Array Value → State → Outcome → State → Prop} (As : List Value) (hC : ok κ wd cc nL own ret)
    (hM : Ctr (kl κ) (kW κ) wd y cb maxL rt fr lo As σ Qc) (hy : yokS y cb maxL rt n) (hlk : Cond.methodLink own index y ∈ gtbl)
    (hR' : fr + 1 ≤ (kR κ).frames ∧ 8 + (maxL + 11) + lo ≤ (kR κ).locals) (hn : As.length = n) (hw : (rest.map fun v => v.category).sum ≤ 8) (hdg : decode cc pc = .ok (.invokestatic index, 3)) :
    Rn κ wd nL σ pc lv (As.reverse ++ rest) rest (Qc As.toArray) := fun H locs ls h1 h2 h3 => by
  have hts := hC.2.2.2.2.1
  refine va_runS (As := As) (rest := rest) ⟨hC.1, hC.2.1, hC.2.2.1, hC.2.2.2.1, hts⟩ hM ⟨callB_of n hts (ws_good hy.1.1) rfl rfl rfl (hts _ hy.1.2.1) (hts _ hlk) hy.1.2.2 hR', hts _ hy.2⟩ ⟨blind _ _ _ _, fun U hU hW => ⟨rfl, by rw [hU]; exact h1, va_K.moved hW.alike hC.2.2.2.2.2.2.2.1, Nst.warm hW hC.2.2.2.2.2.2.2.2.2⟩⟩ rfl hn h3.1 rfl (lv_room hw) hdg ⟨Nat.zero_le _, Nat.zero_le _⟩
theorem runSN {y : MethodName} {cb : ByteArray} {maxL n fr lo index : Nat} {host : String} {rt : Option FieldType} {Qc : Array Value → State → Outcome → State → Prop} (As : List Value) (hC : ok κ wd cc nL own ret)
    (hM : Ctr (kl κ) (kW κ) wd y cb maxL rt fr lo As σ Qc) (hy : yokS y cb maxL rt n) (hlk : va_Nw (.methodLinkNest own index y host) (ks κ))
    (hR' : fr + 1 ≤ (kR κ).frames ∧ 8 + (maxL + 11) + lo ≤ (kR κ).locals) (hn : As.length = n) (hw : (rest.map fun v => v.category).sum ≤ 8) (hdg : decode cc pc = .ok (.invokestatic index, 3)) :
    Rn κ wd nL σ pc lv (As.reverse ++ rest) rest (Qc As.toArray) := fun H locs ls h1 h2 h3 => by
  have hts := hC.2.2.2.2.1
  refine va_runSN (As := As) (rest := rest) ⟨hC.1, hC.2.1, hC.2.2.1, hC.2.2.2.1, hts⟩ hM ⟨va_cnB n hts (ws_good hy.1.1) rfl rfl rfl hlk (hts _ hy.1.2.1) hy.1.2.2 hR', hts _ hy.2, trivial⟩ ⟨blind _ _ _ _, fun U hU hW => ⟨rfl, by rw [hU]; exact h1, va_K.moved hW.alike hC.2.2.2.2.2.2.2.1, Nst.warm hW hC.2.2.2.2.2.2.2.2.2⟩⟩ rfl hn h3.1 rfl (lv_room hw) hdg ⟨Nat.zero_le _, Nat.zero_le _⟩
end Calls

