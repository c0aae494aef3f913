/-! invariants of the two memories: ranges of their registers -/
def jok (v : Int64) : Prop := rg 0 8 ((v &&& 15).toInt32)
abbrev InvD (σ : Mem) : Prop := (∀ i, rg 0 300 (gI σ 1 i)) ∧ (∀ i, rg 0 300 (gI σ 2 i)) ∧ (∀ i, rg 0 8 (gI σ 3 i)) ∧ (∀ i, rg 0 8 (gI σ 4 i)) ∧ (∀ i, rg 0 10 (gI σ 5 i)) ∧ (∀ i, rg 0 300 (gI σ 6 i)) ∧ (∀ i, rg 0 101 (gI σ 7 i)) ∧ (∀ i, rg 0 65535 (gI σ 12 i)) ∧ (∀ i, rg 0 255 (gI σ 13 i)) ∧ (∀ i, rg 0 255 (gI σ 14 i)) ∧ (∀ i, rg 0 7 (gI σ 21 i)) ∧ (∀ i, rg 0 300 (gI σ 25 i)) ∧ (∀ i, rg 0 7 (gI σ 27 i)) ∧ (∀ i, jok (gJ σ 15 i)) ∧ (∀ i, jok (gJ σ 16 i))
theorem InvD.r1 {σ : Mem} (h : InvD σ) : ∀ i, rg 0 300 (gI σ 1 i) := h.1
theorem InvD.r2 {σ : Mem} (h : InvD σ) : ∀ i, rg 0 300 (gI σ 2 i) := h.2.1
theorem InvD.r3 {σ : Mem} (h : InvD σ) : ∀ i, rg 0 8 (gI σ 3 i) := h.2.2.1
theorem InvD.r4 {σ : Mem} (h : InvD σ) : ∀ i, rg 0 8 (gI σ 4 i) := h.2.2.2.1
theorem InvD.r5 {σ : Mem} (h : InvD σ) : ∀ i, rg 0 10 (gI σ 5 i) := h.2.2.2.2.1
theorem InvD.r6 {σ : Mem} (h : InvD σ) : ∀ i, rg 0 300 (gI σ 6 i) := h.2.2.2.2.2.1
theorem InvD.r7 {σ : Mem} (h : InvD σ) : ∀ i, rg 0 101 (gI σ 7 i) := h.2.2.2.2.2.2.1
theorem InvD.r12 {σ : Mem} (h : InvD σ) : ∀ i, rg 0 65535 (gI σ 12 i) := h.2.2.2.2.2.2.2.1
theorem InvD.r13 {σ : Mem} (h : InvD σ) : ∀ i, rg 0 255 (gI σ 13 i) := h.2.2.2.2.2.2.2.2.1
theorem InvD.r14 {σ : Mem} (h : InvD σ) : ∀ i, rg 0 255 (gI σ 14 i) := h.2.2.2.2.2.2.2.2.2.1
theorem InvD.r21 {σ : Mem} (h : InvD σ) : ∀ i, rg 0 7 (gI σ 21 i) := h.2.2.2.2.2.2.2.2.2.2.1
theorem InvD.r25 {σ : Mem} (h : InvD σ) : ∀ i, rg 0 300 (gI σ 25 i) := h.2.2.2.2.2.2.2.2.2.2.2.1
theorem InvD.r27 {σ : Mem} (h : InvD σ) : ∀ i, rg 0 7 (gI σ 27 i) := h.2.2.2.2.2.2.2.2.2.2.2.2.1
theorem InvD.j15 {σ : Mem} (h : InvD σ) : ∀ i, jok (gJ σ 15 i) := h.2.2.2.2.2.2.2.2.2.2.2.2.2.1
theorem InvD.j16 {σ : Mem} (h : InvD σ) : ∀ i, jok (gJ σ 16 i) := h.2.2.2.2.2.2.2.2.2.2.2.2.2.2
def irr (μ : Mem) : Prop := ∀ a, a < 8 → (gI μ 1 (1 + a)).toBitVec.getLsbD a = false
abbrev InvM (μ : Mem) : Prop := (∀ i, rg 0 255 (gI μ 1 i)) ∧ (rg 0 8 (gI μ 1 0)) ∧ (irr μ) ∧ (∀ i, rg 0 255 (gI μ 2 i)) ∧ (∀ r, rg 0 8 (gI μ 2 (9 * r))) ∧ (∀ r a, a < 8 → (gI μ 2 (9 * r + 1 + a)).toBitVec.getLsbD a = false) ∧ (∀ i, rg 0 255 (gI μ 4 i)) ∧ (∀ r, rg 0 8 (gI μ 4 (9 * r))) ∧ (∀ r a, a < 8 → (gI μ 4 (9 * r + 1 + a)).toBitVec.getLsbD a = false) ∧ (∀ i, rg 0 10 (gI μ 3 i)) ∧ (∀ i, rg 0 1 (gI μ 5 i)) ∧ (∀ i, rg (-128) 127 (gI μ 6 i)) ∧ (∀ i, rg 0 300 (gI μ 7 i)) ∧ (∀ i, rg 0 300 (gI μ 8 i)) ∧ (∀ i, rg 0 1 (gI μ 10 i)) ∧ (∀ i, rg 0 255 (gI μ 11 i)) ∧ (∀ i, rg 0 255 (gI μ 12 i)) ∧ (∀ i, rg 0 7 (gI μ 13 i)) ∧ (∀ i, rg 0 255 (gI μ 14 i)) ∧ (∀ i, rg 0 255 (gI μ 15 i)) ∧ (∀ i, rg 0 255 (gI μ 16 i)) ∧ (∀ i, rg 0 9 (gI μ 17 i)) ∧ (∀ i, rg 0 255 (gI μ 22 i)) ∧ (∀ i, rg 0 255 (gI μ 23 i)) ∧ (∀ i, rg 0 7 (gI μ 26 i)) ∧ (∀ i, rg 0 7 (gI μ 27 i)) ∧ (∀ i, rg 0 300 (gI μ 29 i)) ∧ (∀ i, rg 0 300 (gI μ 31 i)) ∧ (∀ i, rg 0 152 (gI μ 32 i))
theorem InvM.r1 {μ : Mem} (h : InvM μ) : ∀ i, rg 0 255 (gI μ 1 i) := h.1
theorem InvM.n1 {μ : Mem} (h : InvM μ) : rg 0 8 (gI μ 1 0) := h.2.1
theorem InvM.ir {μ : Mem} (h : InvM μ) : irr μ := h.2.2.1
theorem InvM.r2 {μ : Mem} (h : InvM μ) : ∀ i, rg 0 255 (gI μ 2 i) := h.2.2.2.1
theorem InvM.n2 {μ : Mem} (h : InvM μ) : ∀ r, rg 0 8 (gI μ 2 (9 * r)) := h.2.2.2.2.1
theorem InvM.i2 {μ : Mem} (h : InvM μ) : ∀ r a, a < 8 → (gI μ 2 (9 * r + 1 + a)).toBitVec.getLsbD a = false := h.2.2.2.2.2.1
theorem InvM.r4 {μ : Mem} (h : InvM μ) : ∀ i, rg 0 255 (gI μ 4 i) := h.2.2.2.2.2.2.1
theorem InvM.n4 {μ : Mem} (h : InvM μ) : ∀ r, rg 0 8 (gI μ 4 (9 * r)) := h.2.2.2.2.2.2.2.1
theorem InvM.i4 {μ : Mem} (h : InvM μ) : ∀ r a, a < 8 → (gI μ 4 (9 * r + 1 + a)).toBitVec.getLsbD a = false := h.2.2.2.2.2.2.2.2.1
theorem InvM.r3 {μ : Mem} (h : InvM μ) : ∀ i, rg 0 10 (gI μ 3 i) := h.2.2.2.2.2.2.2.2.2.1
theorem InvM.r5 {μ : Mem} (h : InvM μ) : ∀ i, rg 0 1 (gI μ 5 i) := h.2.2.2.2.2.2.2.2.2.2.1
theorem InvM.r6 {μ : Mem} (h : InvM μ) : ∀ i, rg (-128) 127 (gI μ 6 i) := h.2.2.2.2.2.2.2.2.2.2.2.1
theorem InvM.r7 {μ : Mem} (h : InvM μ) : ∀ i, rg 0 300 (gI μ 7 i) := h.2.2.2.2.2.2.2.2.2.2.2.2.1
theorem InvM.r8 {μ : Mem} (h : InvM μ) : ∀ i, rg 0 300 (gI μ 8 i) := h.2.2.2.2.2.2.2.2.2.2.2.2.2.1
theorem InvM.r10 {μ : Mem} (h : InvM μ) : ∀ i, rg 0 1 (gI μ 10 i) := h.2.2.2.2.2.2.2.2.2.2.2.2.2.2.1
theorem InvM.r11 {μ : Mem} (h : InvM μ) : ∀ i, rg 0 255 (gI μ 11 i) := h.2.2.2.2.2.2.2.2.2.2.2.2.2.2.2.1
theorem InvM.r12 {μ : Mem} (h : InvM μ) : ∀ i, rg 0 255 (gI μ 12 i) := h.2.2.2.2.2.2.2.2.2.2.2.2.2.2.2.2.1
theorem InvM.r13 {μ : Mem} (h : InvM μ) : ∀ i, rg 0 7 (gI μ 13 i) := h.2.2.2.2.2.2.2.2.2.2.2.2.2.2.2.2.2.1
theorem InvM.r14 {μ : Mem} (h : InvM μ) : ∀ i, rg 0 255 (gI μ 14 i) := h.2.2.2.2.2.2.2.2.2.2.2.2.2.2.2.2.2.2.1
theorem InvM.r15 {μ : Mem} (h : InvM μ) : ∀ i, rg 0 255 (gI μ 15 i) := h.2.2.2.2.2.2.2.2.2.2.2.2.2.2.2.2.2.2.2.1
theorem InvM.r16 {μ : Mem} (h : InvM μ) : ∀ i, rg 0 255 (gI μ 16 i) := h.2.2.2.2.2.2.2.2.2.2.2.2.2.2.2.2.2.2.2.2.1
theorem InvM.r17 {μ : Mem} (h : InvM μ) : ∀ i, rg 0 9 (gI μ 17 i) := h.2.2.2.2.2.2.2.2.2.2.2.2.2.2.2.2.2.2.2.2.2.1
theorem InvM.r22 {μ : Mem} (h : InvM μ) : ∀ i, rg 0 255 (gI μ 22 i) := h.2.2.2.2.2.2.2.2.2.2.2.2.2.2.2.2.2.2.2.2.2.2.1
theorem InvM.r23 {μ : Mem} (h : InvM μ) : ∀ i, rg 0 255 (gI μ 23 i) := h.2.2.2.2.2.2.2.2.2.2.2.2.2.2.2.2.2.2.2.2.2.2.2.1
theorem InvM.r26 {μ : Mem} (h : InvM μ) : ∀ i, rg 0 7 (gI μ 26 i) := h.2.2.2.2.2.2.2.2.2.2.2.2.2.2.2.2.2.2.2.2.2.2.2.2.1
theorem InvM.r27 {μ : Mem} (h : InvM μ) : ∀ i, rg 0 7 (gI μ 27 i) := h.2.2.2.2.2.2.2.2.2.2.2.2.2.2.2.2.2.2.2.2.2.2.2.2.2.1
theorem InvM.r29 {μ : Mem} (h : InvM μ) : ∀ i, rg 0 300 (gI μ 29 i) := h.2.2.2.2.2.2.2.2.2.2.2.2.2.2.2.2.2.2.2.2.2.2.2.2.2.2.1
theorem InvM.r31 {μ : Mem} (h : InvM μ) : ∀ i, rg 0 300 (gI μ 31 i) := h.2.2.2.2.2.2.2.2.2.2.2.2.2.2.2.2.2.2.2.2.2.2.2.2.2.2.2.1
theorem InvM.r32 {μ : Mem} (h : InvM μ) : ∀ i, rg 0 152 (gI μ 32 i) := h.2.2.2.2.2.2.2.2.2.2.2.2.2.2.2.2.2.2.2.2.2.2.2.2.2.2.2.2
theorem rg_up {lo hi : Int} {f : Nat → Int32} {i : Nat} {v : Int32} (h : ∀ j, rg lo hi (f j)) (hv : rg lo hi v) (j : Nat) : rg lo hi (upd f i v j) := by
  rw [upd_ap]; by_cases e : j = i
  · rw [if_pos e]; exact hv
  · rw [if_neg e]; exact h j
theorem dS1 {σ : Mem} (h : InvD σ) {i : Nat} {v : Int32} (hv : rg 0 300 v) : InvD (sI σ 1 i v) := ⟨rg_up h.r1 hv, h.r2, h.r3, h.r4, h.r5, h.r6, h.r7, h.r12, h.r13, h.r14, h.r21, h.r25, h.r27, h.j15, h.j16⟩
theorem dS2 {σ : Mem} (h : InvD σ) {i : Nat} {v : Int32} (hv : rg 0 300 v) : InvD (sI σ 2 i v) := ⟨h.r1, rg_up h.r2 hv, h.r3, h.r4, h.r5, h.r6, h.r7, h.r12, h.r13, h.r14, h.r21, h.r25, h.r27, h.j15, h.j16⟩
theorem dS3 {σ : Mem} (h : InvD σ) {i : Nat} {v : Int32} (hv : rg 0 8 v) : InvD (sI σ 3 i v) := ⟨h.r1, h.r2, rg_up h.r3 hv, h.r4, h.r5, h.r6, h.r7, h.r12, h.r13, h.r14, h.r21, h.r25, h.r27, h.j15, h.j16⟩
theorem dS4 {σ : Mem} (h : InvD σ) {i : Nat} {v : Int32} (hv : rg 0 8 v) : InvD (sI σ 4 i v) := ⟨h.r1, h.r2, h.r3, rg_up h.r4 hv, h.r5, h.r6, h.r7, h.r12, h.r13, h.r14, h.r21, h.r25, h.r27, h.j15, h.j16⟩
theorem dS5 {σ : Mem} (h : InvD σ) {i : Nat} {v : Int32} (hv : rg 0 10 v) : InvD (sI σ 5 i v) := ⟨h.r1, h.r2, h.r3, h.r4, rg_up h.r5 hv, h.r6, h.r7, h.r12, h.r13, h.r14, h.r21, h.r25, h.r27, h.j15, h.j16⟩
theorem dS6 {σ : Mem} (h : InvD σ) {i : Nat} {v : Int32} (hv : rg 0 300 v) : InvD (sI σ 6 i v) := ⟨h.r1, h.r2, h.r3, h.r4, h.r5, rg_up h.r6 hv, h.r7, h.r12, h.r13, h.r14, h.r21, h.r25, h.r27, h.j15, h.j16⟩
theorem dS7 {σ : Mem} (h : InvD σ) {i : Nat} {v : Int32} (hv : rg 0 101 v) : InvD (sI σ 7 i v) := ⟨h.r1, h.r2, h.r3, h.r4, h.r5, h.r6, rg_up h.r7 hv, h.r12, h.r13, h.r14, h.r21, h.r25, h.r27, h.j15, h.j16⟩
theorem dS8 {σ : Mem} (h : InvD σ) {i : Nat} {v : Int32} : InvD (sI σ 8 i v) := ⟨h.r1, h.r2, h.r3, h.r4, h.r5, h.r6, h.r7, h.r12, h.r13, h.r14, h.r21, h.r25, h.r27, h.j15, h.j16⟩
theorem dS9 {σ : Mem} (h : InvD σ) {i : Nat} {v : Int32} : InvD (sI σ 9 i v) := ⟨h.r1, h.r2, h.r3, h.r4, h.r5, h.r6, h.r7, h.r12, h.r13, h.r14, h.r21, h.r25, h.r27, h.j15, h.j16⟩
theorem dS10 {σ : Mem} (h : InvD σ) {i : Nat} {v : Int32} : InvD (sI σ 10 i v) := ⟨h.r1, h.r2, h.r3, h.r4, h.r5, h.r6, h.r7, h.r12, h.r13, h.r14, h.r21, h.r25, h.r27, h.j15, h.j16⟩
theorem dS11 {σ : Mem} (h : InvD σ) {i : Nat} {v : Int32} : InvD (sI σ 11 i v) := ⟨h.r1, h.r2, h.r3, h.r4, h.r5, h.r6, h.r7, h.r12, h.r13, h.r14, h.r21, h.r25, h.r27, h.j15, h.j16⟩
theorem dS12 {σ : Mem} (h : InvD σ) {i : Nat} {v : Int32} (hv : rg 0 65535 v) : InvD (sI σ 12 i v) := ⟨h.r1, h.r2, h.r3, h.r4, h.r5, h.r6, h.r7, rg_up h.r12 hv, h.r13, h.r14, h.r21, h.r25, h.r27, h.j15, h.j16⟩
theorem dS13 {σ : Mem} (h : InvD σ) {i : Nat} {v : Int32} (hv : rg 0 255 v) : InvD (sI σ 13 i v) := ⟨h.r1, h.r2, h.r3, h.r4, h.r5, h.r6, h.r7, h.r12, rg_up h.r13 hv, h.r14, h.r21, h.r25, h.r27, h.j15, h.j16⟩
theorem dS14 {σ : Mem} (h : InvD σ) {i : Nat} {v : Int32} (hv : rg 0 255 v) : InvD (sI σ 14 i v) := ⟨h.r1, h.r2, h.r3, h.r4, h.r5, h.r6, h.r7, h.r12, h.r13, rg_up h.r14 hv, h.r21, h.r25, h.r27, h.j15, h.j16⟩
theorem dS17 {σ : Mem} (h : InvD σ) {i : Nat} {v : Int32} : InvD (sI σ 17 i v) := ⟨h.r1, h.r2, h.r3, h.r4, h.r5, h.r6, h.r7, h.r12, h.r13, h.r14, h.r21, h.r25, h.r27, h.j15, h.j16⟩
theorem dS18 {σ : Mem} (h : InvD σ) {i : Nat} {v : Int32} : InvD (sI σ 18 i v) := ⟨h.r1, h.r2, h.r3, h.r4, h.r5, h.r6, h.r7, h.r12, h.r13, h.r14, h.r21, h.r25, h.r27, h.j15, h.j16⟩
theorem dS19 {σ : Mem} (h : InvD σ) {i : Nat} {v : Int32} : InvD (sI σ 19 i v) := ⟨h.r1, h.r2, h.r3, h.r4, h.r5, h.r6, h.r7, h.r12, h.r13, h.r14, h.r21, h.r25, h.r27, h.j15, h.j16⟩
theorem dS20 {σ : Mem} (h : InvD σ) {i : Nat} {v : Int32} : InvD (sI σ 20 i v) := ⟨h.r1, h.r2, h.r3, h.r4, h.r5, h.r6, h.r7, h.r12, h.r13, h.r14, h.r21, h.r25, h.r27, h.j15, h.j16⟩
theorem dS21 {σ : Mem} (h : InvD σ) {i : Nat} {v : Int32} (hv : rg 0 7 v) : InvD (sI σ 21 i v) := ⟨h.r1, h.r2, h.r3, h.r4, h.r5, h.r6, h.r7, h.r12, h.r13, h.r14, rg_up h.r21 hv, h.r25, h.r27, h.j15, h.j16⟩
theorem dS22 {σ : Mem} (h : InvD σ) {i : Nat} {v : Int32} : InvD (sI σ 22 i v) := ⟨h.r1, h.r2, h.r3, h.r4, h.r5, h.r6, h.r7, h.r12, h.r13, h.r14, h.r21, h.r25, h.r27, h.j15, h.j16⟩
theorem dS23 {σ : Mem} (h : InvD σ) {i : Nat} {v : Int32} : InvD (sI σ 23 i v) := ⟨h.r1, h.r2, h.r3, h.r4, h.r5, h.r6, h.r7, h.r12, h.r13, h.r14, h.r21, h.r25, h.r27, h.j15, h.j16⟩
theorem dS24 {σ : Mem} (h : InvD σ) {i : Nat} {v : Int32} : InvD (sI σ 24 i v) := ⟨h.r1, h.r2, h.r3, h.r4, h.r5, h.r6, h.r7, h.r12, h.r13, h.r14, h.r21, h.r25, h.r27, h.j15, h.j16⟩
theorem dS25 {σ : Mem} (h : InvD σ) {i : Nat} {v : Int32} (hv : rg 0 300 v) : InvD (sI σ 25 i v) := ⟨h.r1, h.r2, h.r3, h.r4, h.r5, h.r6, h.r7, h.r12, h.r13, h.r14, h.r21, rg_up h.r25 hv, h.r27, h.j15, h.j16⟩
theorem dS26 {σ : Mem} (h : InvD σ) {i : Nat} {v : Int32} : InvD (sI σ 26 i v) := ⟨h.r1, h.r2, h.r3, h.r4, h.r5, h.r6, h.r7, h.r12, h.r13, h.r14, h.r21, h.r25, h.r27, h.j15, h.j16⟩
theorem dS27 {σ : Mem} (h : InvD σ) {i : Nat} {v : Int32} (hv : rg 0 7 v) : InvD (sI σ 27 i v) := ⟨h.r1, h.r2, h.r3, h.r4, h.r5, h.r6, h.r7, h.r12, h.r13, h.r14, h.r21, h.r25, rg_up h.r27 hv, h.j15, h.j16⟩
theorem dS28 {σ : Mem} (h : InvD σ) {i : Nat} {v : Int32} : InvD (sI σ 28 i v) := ⟨h.r1, h.r2, h.r3, h.r4, h.r5, h.r6, h.r7, h.r12, h.r13, h.r14, h.r21, h.r25, h.r27, h.j15, h.j16⟩
theorem dS29 {σ : Mem} (h : InvD σ) {i : Nat} {v : Int32} : InvD (sI σ 29 i v) := ⟨h.r1, h.r2, h.r3, h.r4, h.r5, h.r6, h.r7, h.r12, h.r13, h.r14, h.r21, h.r25, h.r27, h.j15, h.j16⟩
theorem jup {f : Nat → Int64} {i : Nat} {v : Int64} (h : ∀ j, jok (f j)) (hv : jok v) (j : Nat) : jok (vp_updL f i v j) := by
  unfold vp_updL; by_cases e : j = i
  · rw [if_pos e]; exact hv
  · rw [if_neg e]; exact h j
theorem jcp {f : Nat → Int64} {a b n : Nat} (h : ∀ j, jok (f j)) (j : Nat) : jok (va_cpy f f a b n j) := by
  unfold va_cpy; split <;> exact h _
theorem dJ15 {σ : Mem} (h : InvD σ) {i : Nat} {v : Int64} (hv : jok v) : InvD (sJ σ 15 i v) := ⟨h.r1, h.r2, h.r3, h.r4, h.r5, h.r6, h.r7, h.r12, h.r13, h.r14, h.r21, h.r25, h.r27, jup h.j15 hv, h.j16⟩
theorem dJ16 {σ : Mem} (h : InvD σ) {i : Nat} {v : Int64} (hv : jok v) : InvD (sJ σ 16 i v) := ⟨h.r1, h.r2, h.r3, h.r4, h.r5, h.r6, h.r7, h.r12, h.r13, h.r14, h.r21, h.r25, h.r27, h.j15, jup h.j16 hv⟩
theorem dJ28 {σ : Mem} (h : InvD σ) {i : Nat} {v : Int64} : InvD (sJ σ 28 i v) := ⟨h.r1, h.r2, h.r3, h.r4, h.r5, h.r6, h.r7, h.r12, h.r13, h.r14, h.r21, h.r25, h.r27, h.j15, h.j16⟩
theorem dC15 {σ : Mem} (h : InvD σ) {a b n : Nat} : InvD (cJ σ 15 a b n) := ⟨h.r1, h.r2, h.r3, h.r4, h.r5, h.r6, h.r7, h.r12, h.r13, h.r14, h.r21, h.r25, h.r27, jcp h.j15, h.j16⟩
theorem mS0 {σ : Mem} (h : InvM σ) {i : Nat} {v : Int32} : InvM (sI σ 0 i v) := ⟨h.r1, h.n1, h.ir, h.r2, h.n2, h.i2, h.r4, h.n4, h.i4, h.r3, h.r5, h.r6, h.r7, h.r8, h.r10, h.r11, h.r12, h.r13, h.r14, h.r15, h.r16, h.r17, h.r22, h.r23, h.r26, h.r27, h.r29, h.r31, h.r32⟩
theorem mS3 {σ : Mem} (h : InvM σ) {i : Nat} {v : Int32} (hv : rg 0 10 v) : InvM (sI σ 3 i v) := ⟨h.r1, h.n1, h.ir, h.r2, h.n2, h.i2, h.r4, h.n4, h.i4, rg_up h.r3 hv, h.r5, h.r6, h.r7, h.r8, h.r10, h.r11, h.r12, h.r13, h.r14, h.r15, h.r16, h.r17, h.r22, h.r23, h.r26, h.r27, h.r29, h.r31, h.r32⟩
theorem mS5 {σ : Mem} (h : InvM σ) {i : Nat} {v : Int32} (hv : rg 0 1 v) : InvM (sI σ 5 i v) := ⟨h.r1, h.n1, h.ir, h.r2, h.n2, h.i2, h.r4, h.n4, h.i4, h.r3, rg_up h.r5 hv, h.r6, h.r7, h.r8, h.r10, h.r11, h.r12, h.r13, h.r14, h.r15, h.r16, h.r17, h.r22, h.r23, h.r26, h.r27, h.r29, h.r31, h.r32⟩
theorem mS6 {σ : Mem} (h : InvM σ) {i : Nat} {v : Int32} (hv : rg (-128) 127 v) : InvM (sI σ 6 i v) := ⟨h.r1, h.n1, h.ir, h.r2, h.n2, h.i2, h.r4, h.n4, h.i4, h.r3, h.r5, rg_up h.r6 hv, h.r7, h.r8, h.r10, h.r11, h.r12, h.r13, h.r14, h.r15, h.r16, h.r17, h.r22, h.r23, h.r26, h.r27, h.r29, h.r31, h.r32⟩
theorem mS7 {σ : Mem} (h : InvM σ) {i : Nat} {v : Int32} (hv : rg 0 300 v) : InvM (sI σ 7 i v) := ⟨h.r1, h.n1, h.ir, h.r2, h.n2, h.i2, h.r4, h.n4, h.i4, h.r3, h.r5, h.r6, rg_up h.r7 hv, h.r8, h.r10, h.r11, h.r12, h.r13, h.r14, h.r15, h.r16, h.r17, h.r22, h.r23, h.r26, h.r27, h.r29, h.r31, h.r32⟩
theorem mS8 {σ : Mem} (h : InvM σ) {i : Nat} {v : Int32} (hv : rg 0 300 v) : InvM (sI σ 8 i v) := ⟨h.r1, h.n1, h.ir, h.r2, h.n2, h.i2, h.r4, h.n4, h.i4, h.r3, h.r5, h.r6, h.r7, rg_up h.r8 hv, h.r10, h.r11, h.r12, h.r13, h.r14, h.r15, h.r16, h.r17, h.r22, h.r23, h.r26, h.r27, h.r29, h.r31, h.r32⟩
theorem mS9 {σ : Mem} (h : InvM σ) {i : Nat} {v : Int32} : InvM (sI σ 9 i v) := ⟨h.r1, h.n1, h.ir, h.r2, h.n2, h.i2, h.r4, h.n4, h.i4, h.r3, h.r5, h.r6, h.r7, h.r8, h.r10, h.r11, h.r12, h.r13, h.r14, h.r15, h.r16, h.r17, h.r22, h.r23, h.r26, h.r27, h.r29, h.r31, h.r32⟩
theorem mS10 {σ : Mem} (h : InvM σ) {i : Nat} {v : Int32} (hv : rg 0 1 v) : InvM (sI σ 10 i v) := ⟨h.r1, h.n1, h.ir, h.r2, h.n2, h.i2, h.r4, h.n4, h.i4, h.r3, h.r5, h.r6, h.r7, h.r8, rg_up h.r10 hv, h.r11, h.r12, h.r13, h.r14, h.r15, h.r16, h.r17, h.r22, h.r23, h.r26, h.r27, h.r29, h.r31, h.r32⟩
theorem mS11 {σ : Mem} (h : InvM σ) {i : Nat} {v : Int32} (hv : rg 0 255 v) : InvM (sI σ 11 i v) := ⟨h.r1, h.n1, h.ir, h.r2, h.n2, h.i2, h.r4, h.n4, h.i4, h.r3, h.r5, h.r6, h.r7, h.r8, h.r10, rg_up h.r11 hv, h.r12, h.r13, h.r14, h.r15, h.r16, h.r17, h.r22, h.r23, h.r26, h.r27, h.r29, h.r31, h.r32⟩
theorem mS12 {σ : Mem} (h : InvM σ) {i : Nat} {v : Int32} (hv : rg 0 255 v) : InvM (sI σ 12 i v) := ⟨h.r1, h.n1, h.ir, h.r2, h.n2, h.i2, h.r4, h.n4, h.i4, h.r3, h.r5, h.r6, h.r7, h.r8, h.r10, h.r11, rg_up h.r12 hv, h.r13, h.r14, h.r15, h.r16, h.r17, h.r22, h.r23, h.r26, h.r27, h.r29, h.r31, h.r32⟩
theorem mS13 {σ : Mem} (h : InvM σ) {i : Nat} {v : Int32} (hv : rg 0 7 v) : InvM (sI σ 13 i v) := ⟨h.r1, h.n1, h.ir, h.r2, h.n2, h.i2, h.r4, h.n4, h.i4, h.r3, h.r5, h.r6, h.r7, h.r8, h.r10, h.r11, h.r12, rg_up h.r13 hv, h.r14, h.r15, h.r16, h.r17, h.r22, h.r23, h.r26, h.r27, h.r29, h.r31, h.r32⟩
theorem mS14 {σ : Mem} (h : InvM σ) {i : Nat} {v : Int32} (hv : rg 0 255 v) : InvM (sI σ 14 i v) := ⟨h.r1, h.n1, h.ir, h.r2, h.n2, h.i2, h.r4, h.n4, h.i4, h.r3, h.r5, h.r6, h.r7, h.r8, h.r10, h.r11, h.r12, h.r13, rg_up h.r14 hv, h.r15, h.r16, h.r17, h.r22, h.r23, h.r26, h.r27, h.r29, h.r31, h.r32⟩
theorem mS15 {σ : Mem} (h : InvM σ) {i : Nat} {v : Int32} (hv : rg 0 255 v) : InvM (sI σ 15 i v) := ⟨h.r1, h.n1, h.ir, h.r2, h.n2, h.i2, h.r4, h.n4, h.i4, h.r3, h.r5, h.r6, h.r7, h.r8, h.r10, h.r11, h.r12, h.r13, h.r14, rg_up h.r15 hv, h.r16, h.r17, h.r22, h.r23, h.r26, h.r27, h.r29, h.r31, h.r32⟩
theorem mS16 {σ : Mem} (h : InvM σ) {i : Nat} {v : Int32} (hv : rg 0 255 v) : InvM (sI σ 16 i v) := ⟨h.r1, h.n1, h.ir, h.r2, h.n2, h.i2, h.r4, h.n4, h.i4, h.r3, h.r5, h.r6, h.r7, h.r8, h.r10, h.r11, h.r12, h.r13, h.r14, h.r15, rg_up h.r16 hv, h.r17, h.r22, h.r23, h.r26, h.r27, h.r29, h.r31, h.r32⟩
theorem mS17 {σ : Mem} (h : InvM σ) {i : Nat} {v : Int32} (hv : rg 0 9 v) : InvM (sI σ 17 i v) := ⟨h.r1, h.n1, h.ir, h.r2, h.n2, h.i2, h.r4, h.n4, h.i4, h.r3, h.r5, h.r6, h.r7, h.r8, h.r10, h.r11, h.r12, h.r13, h.r14, h.r15, h.r16, rg_up h.r17 hv, h.r22, h.r23, h.r26, h.r27, h.r29, h.r31, h.r32⟩
theorem mS18 {σ : Mem} (h : InvM σ) {i : Nat} {v : Int32} : InvM (sI σ 18 i v) := ⟨h.r1, h.n1, h.ir, h.r2, h.n2, h.i2, h.r4, h.n4, h.i4, h.r3, h.r5, h.r6, h.r7, h.r8, h.r10, h.r11, h.r12, h.r13, h.r14, h.r15, h.r16, h.r17, h.r22, h.r23, h.r26, h.r27, h.r29, h.r31, h.r32⟩
theorem mS19 {σ : Mem} (h : InvM σ) {i : Nat} {v : Int32} : InvM (sI σ 19 i v) := ⟨h.r1, h.n1, h.ir, h.r2, h.n2, h.i2, h.r4, h.n4, h.i4, h.r3, h.r5, h.r6, h.r7, h.r8, h.r10, h.r11, h.r12, h.r13, h.r14, h.r15, h.r16, h.r17, h.r22, h.r23, h.r26, h.r27, h.r29, h.r31, h.r32⟩
theorem mS20 {σ : Mem} (h : InvM σ) {i : Nat} {v : Int32} : InvM (sI σ 20 i v) := ⟨h.r1, h.n1, h.ir, h.r2, h.n2, h.i2, h.r4, h.n4, h.i4, h.r3, h.r5, h.r6, h.r7, h.r8, h.r10, h.r11, h.r12, h.r13, h.r14, h.r15, h.r16, h.r17, h.r22, h.r23, h.r26, h.r27, h.r29, h.r31, h.r32⟩
theorem mS21 {σ : Mem} (h : InvM σ) {i : Nat} {v : Int32} : InvM (sI σ 21 i v) := ⟨h.r1, h.n1, h.ir, h.r2, h.n2, h.i2, h.r4, h.n4, h.i4, h.r3, h.r5, h.r6, h.r7, h.r8, h.r10, h.r11, h.r12, h.r13, h.r14, h.r15, h.r16, h.r17, h.r22, h.r23, h.r26, h.r27, h.r29, h.r31, h.r32⟩
theorem mS22 {σ : Mem} (h : InvM σ) {i : Nat} {v : Int32} (hv : rg 0 255 v) : InvM (sI σ 22 i v) := ⟨h.r1, h.n1, h.ir, h.r2, h.n2, h.i2, h.r4, h.n4, h.i4, h.r3, h.r5, h.r6, h.r7, h.r8, h.r10, h.r11, h.r12, h.r13, h.r14, h.r15, h.r16, h.r17, rg_up h.r22 hv, h.r23, h.r26, h.r27, h.r29, h.r31, h.r32⟩
theorem mS23 {σ : Mem} (h : InvM σ) {i : Nat} {v : Int32} (hv : rg 0 255 v) : InvM (sI σ 23 i v) := ⟨h.r1, h.n1, h.ir, h.r2, h.n2, h.i2, h.r4, h.n4, h.i4, h.r3, h.r5, h.r6, h.r7, h.r8, h.r10, h.r11, h.r12, h.r13, h.r14, h.r15, h.r16, h.r17, h.r22, rg_up h.r23 hv, h.r26, h.r27, h.r29, h.r31, h.r32⟩
theorem mS24 {σ : Mem} (h : InvM σ) {i : Nat} {v : Int32} : InvM (sI σ 24 i v) := ⟨h.r1, h.n1, h.ir, h.r2, h.n2, h.i2, h.r4, h.n4, h.i4, h.r3, h.r5, h.r6, h.r7, h.r8, h.r10, h.r11, h.r12, h.r13, h.r14, h.r15, h.r16, h.r17, h.r22, h.r23, h.r26, h.r27, h.r29, h.r31, h.r32⟩
theorem mS25 {σ : Mem} (h : InvM σ) {i : Nat} {v : Int32} : InvM (sI σ 25 i v) := ⟨h.r1, h.n1, h.ir, h.r2, h.n2, h.i2, h.r4, h.n4, h.i4, h.r3, h.r5, h.r6, h.r7, h.r8, h.r10, h.r11, h.r12, h.r13, h.r14, h.r15, h.r16, h.r17, h.r22, h.r23, h.r26, h.r27, h.r29, h.r31, h.r32⟩
theorem mS26 {σ : Mem} (h : InvM σ) {i : Nat} {v : Int32} (hv : rg 0 7 v) : InvM (sI σ 26 i v) := ⟨h.r1, h.n1, h.ir, h.r2, h.n2, h.i2, h.r4, h.n4, h.i4, h.r3, h.r5, h.r6, h.r7, h.r8, h.r10, h.r11, h.r12, h.r13, h.r14, h.r15, h.r16, h.r17, h.r22, h.r23, rg_up h.r26 hv, h.r27, h.r29, h.r31, h.r32⟩
theorem mS27 {σ : Mem} (h : InvM σ) {i : Nat} {v : Int32} (hv : rg 0 7 v) : InvM (sI σ 27 i v) := ⟨h.r1, h.n1, h.ir, h.r2, h.n2, h.i2, h.r4, h.n4, h.i4, h.r3, h.r5, h.r6, h.r7, h.r8, h.r10, h.r11, h.r12, h.r13, h.r14, h.r15, h.r16, h.r17, h.r22, h.r23, h.r26, rg_up h.r27 hv, h.r29, h.r31, h.r32⟩
theorem mS28 {σ : Mem} (h : InvM σ) {i : Nat} {v : Int32} : InvM (sI σ 28 i v) := ⟨h.r1, h.n1, h.ir, h.r2, h.n2, h.i2, h.r4, h.n4, h.i4, h.r3, h.r5, h.r6, h.r7, h.r8, h.r10, h.r11, h.r12, h.r13, h.r14, h.r15, h.r16, h.r17, h.r22, h.r23, h.r26, h.r27, h.r29, h.r31, h.r32⟩
theorem mS29 {σ : Mem} (h : InvM σ) {i : Nat} {v : Int32} (hv : rg 0 300 v) : InvM (sI σ 29 i v) := ⟨h.r1, h.n1, h.ir, h.r2, h.n2, h.i2, h.r4, h.n4, h.i4, h.r3, h.r5, h.r6, h.r7, h.r8, h.r10, h.r11, h.r12, h.r13, h.r14, h.r15, h.r16, h.r17, h.r22, h.r23, h.r26, h.r27, rg_up h.r29 hv, h.r31, h.r32⟩
theorem mS30 {σ : Mem} (h : InvM σ) {i : Nat} {v : Int32} : InvM (sI σ 30 i v) := ⟨h.r1, h.n1, h.ir, h.r2, h.n2, h.i2, h.r4, h.n4, h.i4, h.r3, h.r5, h.r6, h.r7, h.r8, h.r10, h.r11, h.r12, h.r13, h.r14, h.r15, h.r16, h.r17, h.r22, h.r23, h.r26, h.r27, h.r29, h.r31, h.r32⟩
theorem mS31 {σ : Mem} (h : InvM σ) {i : Nat} {v : Int32} (hv : rg 0 300 v) : InvM (sI σ 31 i v) := ⟨h.r1, h.n1, h.ir, h.r2, h.n2, h.i2, h.r4, h.n4, h.i4, h.r3, h.r5, h.r6, h.r7, h.r8, h.r10, h.r11, h.r12, h.r13, h.r14, h.r15, h.r16, h.r17, h.r22, h.r23, h.r26, h.r27, h.r29, rg_up h.r31 hv, h.r32⟩
theorem mS32 {σ : Mem} (h : InvM σ) {i : Nat} {v : Int32} (hv : rg 0 152 v) : InvM (sI σ 32 i v) := ⟨h.r1, h.n1, h.ir, h.r2, h.n2, h.i2, h.r4, h.n4, h.i4, h.r3, h.r5, h.r6, h.r7, h.r8, h.r10, h.r11, h.r12, h.r13, h.r14, h.r15, h.r16, h.r17, h.r22, h.r23, h.r26, h.r27, h.r29, h.r31, rg_up h.r32 hv⟩
theorem mS33 {σ : Mem} (h : InvM σ) {i : Nat} {v : Int32} : InvM (sI σ 33 i v) := ⟨h.r1, h.n1, h.ir, h.r2, h.n2, h.i2, h.r4, h.n4, h.i4, h.r3, h.r5, h.r6, h.r7, h.r8, h.r10, h.r11, h.r12, h.r13, h.r14, h.r15, h.r16, h.r17, h.r22, h.r23, h.r26, h.r27, h.r29, h.r31, h.r32⟩
theorem mS34 {σ : Mem} (h : InvM σ) {i : Nat} {v : Int32} : InvM (sI σ 34 i v) := ⟨h.r1, h.n1, h.ir, h.r2, h.n2, h.i2, h.r4, h.n4, h.i4, h.r3, h.r5, h.r6, h.r7, h.r8, h.r10, h.r11, h.r12, h.r13, h.r14, h.r15, h.r16, h.r17, h.r22, h.r23, h.r26, h.r27, h.r29, h.r31, h.r32⟩
theorem mS35 {σ : Mem} (h : InvM σ) {i : Nat} {v : Int32} : InvM (sI σ 35 i v) := ⟨h.r1, h.n1, h.ir, h.r2, h.n2, h.i2, h.r4, h.n4, h.i4, h.r3, h.r5, h.r6, h.r7, h.r8, h.r10, h.r11, h.r12, h.r13, h.r14, h.r15, h.r16, h.r17, h.r22, h.r23, h.r26, h.r27, h.r29, h.r31, h.r32⟩
theorem mS36 {σ : Mem} (h : InvM σ) {i : Nat} {v : Int32} : InvM (sI σ 36 i v) := ⟨h.r1, h.n1, h.ir, h.r2, h.n2, h.i2, h.r4, h.n4, h.i4, h.r3, h.r5, h.r6, h.r7, h.r8, h.r10, h.r11, h.r12, h.r13, h.r14, h.r15, h.r16, h.r17, h.r22, h.r23, h.r26, h.r27, h.r29, h.r31, h.r32⟩
theorem mS37 {σ : Mem} (h : InvM σ) {i : Nat} {v : Int32} : InvM (sI σ 37 i v) := ⟨h.r1, h.n1, h.ir, h.r2, h.n2, h.i2, h.r4, h.n4, h.i4, h.r3, h.r5, h.r6, h.r7, h.r8, h.r10, h.r11, h.r12, h.r13, h.r14, h.r15, h.r16, h.r17, h.r22, h.r23, h.r26, h.r27, h.r29, h.r31, h.r32⟩
def KD (S J : List Nat) (σ s : Mem) : Prop := InvD s ∧ fr S J σ s
def KM (S J : List Nat) (σ s : Mem) : Prop := InvM s ∧ fr S J σ s
theorem kd_r {S J : List Nat} {σ : Mem} (h : InvD σ) : KD S J σ σ := ⟨h, fr_r S J σ⟩
theorem km_r {S J : List Nat} {σ : Mem} (h : InvM σ) : KM S J σ σ := ⟨h, fr_r S J σ⟩
theorem kd_s {S J : List Nat} {σ s : Mem} {k i : Nat} {v : Int32} (h : KD S J σ s) (hk : k ∈ S) (hI : InvD (sI s k i v)) : KD S J σ (sI s k i v) := ⟨hI, fr_t h.2 (fr_sI hk)⟩
theorem km_s {S J : List Nat} {σ s : Mem} {k i : Nat} {v : Int32} (h : KM S J σ s) (hk : k ∈ S) (hI : InvM (sI s k i v)) : KM S J σ (sI s k i v) := ⟨hI, fr_t h.2 (fr_sI hk)⟩
theorem kd_j {S J : List Nat} {σ s : Mem} {k i : Nat} {v : Int64} (h : KD S J σ s) (hk : k ∈ J) (hI : InvD (sJ s k i v)) : KD S J σ (sJ s k i v) := ⟨hI, fr_t h.2 (fr_sJ hk)⟩
theorem kd_c {S J : List Nat} {σ s : Mem} {k a b n : Nat} (h : KD S J σ s) (hk : k ∈ J) (hI : InvD (cJ s k a b n)) : KD S J σ (cJ s k a b n) := ⟨hI, fr_t h.2 (fr_cJ hk)⟩
theorem kd_t {S J S' J' : List Nat} {σ s t : Mem} (h : KD S J σ s) (h' : KD S' J' s t) (hS : ∀ k ∈ S', k ∈ S) (hJ : ∀ k ∈ J', k ∈ J) : KD S J σ t := ⟨h'.1, fr_t h.2 (fr_m h'.2 hS hJ)⟩
theorem km_t {S J S' J' : List Nat} {σ s t : Mem} (h : KM S J σ s) (h' : KM S' J' s t) (hS : ∀ k ∈ S', k ∈ S) (hJ : ∀ k ∈ J', k ∈ J) : KM S J σ t := ⟨h'.1, fr_t h.2 (fr_m h'.2 hS hJ)⟩
theorem t_lm {X : Type} {e : Mem} {k : Mem → Option X} {P : X → Prop} (Q : Mem → Prop) (he : Q e) (h : ∀ s, s = e → Q s → tot (k s) P) : tot (bnd e k) P := h e rfl he
theorem t_le {X : Type} {e : Int32} {k : Int32 → Option X} {P : X → Prop} (lo hi : Int) (he : rg lo hi e) (h : ∀ x, x = e → rg lo hi x → tot (k x) P) : tot (bnd e k) P := h e rfl he
theorem t_lj {X : Type} {e : Int64} {k : Int64 → Option X} {P : X → Prop} (he : jok e) (h : ∀ x, jok x → tot (k x) P) : tot (bnd e k) P := h e he
theorem tr_s {s t : Mem} {k i k' : Nat} {v : Int32} (e : t = sI s k i v) (hk : k' ≠ k) {lo hi : Int} {j : Nat} (h : rg lo hi (gI s k' j)) : rg lo hi (gI t k' j) := by
  rw [e, gI_sI, if_neg hk]; exact h
theorem tr_e {s t : Mem} {k i : Nat} {v : Int32} (e : t = sI s k i v) {lo hi : Int} (h : rg lo hi v) : rg lo hi (gI t k i) := by
  rw [e, gI_sI, if_pos rfl, upd_ap, if_pos rfl]; exact h
theorem tr_c {s t : Mem} {k a b n k' : Nat} (e : t = cJ s k a b n) {lo hi : Int} {j : Nat} (h : rg lo hi (gI s k' j)) : rg lo hi (gI t k' j) := by
  rw [e, gI_cJ]; exact h
theorem tr_j {s t : Mem} {k i k' : Nat} {v : Int64} (e : t = sJ s k i v) {lo hi : Int} {j : Nat} (h : rg lo hi (gI s k' j)) : rg lo hi (gI t k' j) := by
  rw [e, gI_sJ]; exact h
theorem tr_d {S J : List Nat} {s t : Mem} (hK : KD S J s t) {k' : Nat} (hk : k' ∉ S) {lo hi : Int} {j : Nat} (h : rg lo hi (gI s k' j)) : rg lo hi (gI t k' j) := by
  rw [hK.2.1 k' hk]; exact h
theorem tr_m {S J : List Nat} {s t : Mem} (hK : KM S J s t) {k' : Nat} (hk : k' ∉ S) {lo hi : Int} {j : Nat} (h : rg lo hi (gI s k' j)) : rg lo hi (gI t k' j) := by
  rw [hK.2.1 k' hk]; exact h
-- predicates
theorem rb_bit (a b : Int32) : rg 0 1 (t_D_bitOf a b) := rg_andr _ (b := 1) (by decide) (by decide)
theorem rb_cnt (a : Int32) : rg 0 63 (t_J_bitCount a) := by
  unfold t_J_bitCount
  exact rg_andr _ (b := 63) (by decide) (by decide)
theorem rb_has (a b : Int32) : rg 0 1 (t_M_has a b) := rg_ite (fun _ => by decide) (fun _ => by decide)
theorem rb_wi (a b : Int32) : rg 0 1 (t_M_isWithin a b) := rg_ite (fun _ => by decide) (fun _ => by decide)
theorem ev_rg {σ : Mem} (h : InvD σ) : rg 0 255 (t_Du_everybodyN σ) := rg_sub (rg_shl1 (lo := 1) (hi := 256) 8 (h.r3 0) (by decide)) (c := 1) (d := 1) (by decide) (by decide)
theorem al_rg {μ : Mem} (h : InvM μ) : rg 0 255 (t_M_all μ) := rg_sub (rg_shl1 (lo := 1) (hi := 256) 8 h.n1 (by decide)) (c := 1) (d := 1) (by decide) (by decide)
theorem many_rg {μ : Mem} (h : InvM μ) : rg 0 8 (t_M_many μ) := h.n1
theorem and_not {x m : Int32} (h : x &&& (m ^^^ (-1 : Int32)) = 0) : x = x &&& m := by
  apply Int32.toBitVec_inj.mp
  have h2 := congrArg Int32.toBitVec h
  apply BitVec.eq_of_getLsbD_eq
  intro i hi
  have h3 := congrArg (fun b => b.getLsbD i) h2
  have h4 : (Int32.toBitVec (-1)).getLsbD i = true := by
    have : Int32.toBitVec (-1) = BitVec.allOnes 32 := by decide
    rw [this, BitVec.getLsbD_allOnes, decide_eq_true hi]
  simp [h4] at h3
  rw [Int32.toBitVec_and, BitVec.getLsbD_and]
  cases hx : x.toBitVec.getLsbD i
  · simp
  · rw [h3 hx hi]
    rfl
theorem wi_rg {x m : Int32} {b lo hi : Int} (h : x &&& (m ^^^ (-1 : Int32)) = 0) (hm : rg 0 b m) (s : lo ≤ 0 ∧ b ≤ hi) : rg lo hi x := by
  rw [and_not h]
  exact rg_andr x hm s
theorem c_pl {a : Int32} {σ : Mem} (h : ¬ t_Du_isPlayerN a σ = 0) (hm : InvD σ) : rg 0 7 a := by
  unfold t_Du_isPlayerN at h
  by_cases h1 : a < 0
  · rw [if_pos h1] at h; exact absurd rfl h
  · rw [if_neg h1] at h
    by_cases h2 : gI σ 3 0 ≤ a
    · rw [if_pos h2] at h; exact absurd rfl h
    · exact rg_ltL (i_nle h2) (rg_leR (i_nlt h1) (by decide : rg 0 0 0) (rg_f a) (lo := 0) (hi := 2147483647) (by decide)) (hm.r3 0) (by decide)
theorem c_pl1 {a : Int32} {σ : Mem} (h : ¬ t_Du_isPlayerN a σ = 0) (hm : InvD σ) : rg 1 8 (gI σ 3 0) := by
  have h7 := c_pl h hm
  unfold t_Du_isPlayerN at h
  by_cases h1 : a < 0
  · rw [if_pos h1] at h; exact absurd rfl h
  · rw [if_neg h1] at h
    by_cases h2 : gI σ 3 0 ≤ a
    · rw [if_pos h2] at h; exact absurd rfl h
    · exact rg_ltR (i_nle h2) h7 (hm.r3 0) (by decide)
theorem c_ps {a : Int32} {σ : Mem} (h : ¬ t_Du_arePlayersN a σ = 0) (hm : InvD σ) : rg 0 255 a := by
  unfold t_Du_arePlayersN at h
  by_cases h1 : a &&& ((t_Du_everybodyN σ) ^^^ (-1 : Int32)) = 0
  · exact wi_rg h1 (ev_rg hm) (by decide)
  · rw [if_neg h1] at h; exact absurd rfl h
theorem c_kind {a : Int32} (h : ¬ t_D_isKind a = 0) : rg 0 9 a := by
  unfold t_D_isKind at h
  by_cases h1 : a < 0
  · rw [if_pos h1] at h; exact absurd rfl h
  · rw [if_neg h1] at h
    by_cases h2 : (10 : Int32) ≤ a
    · rw [if_pos h2] at h; exact absurd rfl h
    · exact rg_ltL (i_nle h2) (rg_leR (i_nlt h1) (by decide : rg 0 0 0) (rg_f a) (lo := 0) (hi := 2147483647) (by decide)) (by decide : rg 10 10 10) (by decide)
theorem c_wi {x m : Int32} {b lo hi : Int} (h : ¬ t_M_isWithin x m = 0) (hm : rg 0 b m) (s : lo ≤ 0 ∧ b ≤ hi) : rg lo hi x := by
  unfold t_M_isWithin at h
  by_cases h1 : x &&& (m ^^^ (-1 : Int32)) = 0
  · exact wi_rg h1 hm s
  · rw [if_neg h1] at h; exact absurd rfl h
theorem c_in {a : Int32} {l u : Int64} {lo hi : Int} (h : ¬ t_M_in a.toInt64 l u = 0) (s : lo ≤ l.toInt ∧ u.toInt ≤ hi) : rg lo hi a := by
  rw [min_iff] at h
  by_cases h1 : l.toInt ≤ a.toInt64.toInt ∧ a.toInt64.toInt ≤ u.toInt
  · rw [i64] at h1
    unfold rg
    omega
  · rw [if_neg h1] at h; exact absurd rfl h
theorem c_inm {a n : Int32} {l m : Int64} {lo hi b : Int} (h : ¬ t_M_in a.toInt64 l (n.toInt64 - m) = 0) (hn : rg 0 b n) (s : (0 ≤ m.toInt ∧ m.toInt ≤ 100) ∧ lo ≤ l.toInt ∧ b - m.toInt ≤ hi) : rg lo hi a := by
  refine c_in h ⟨s.2.1, ?_⟩
  obtain ⟨h1, h2⟩ := hn
  have h3 := i_bd n
  have : (n.toInt64 - m).toInt = n.toInt - m.toInt := by
    rw [Int64.toInt_sub, i64, Int.bmod_def]
    split <;> omega
  omega
theorem c_inp {a n : Int32} {l m : Int64} {lo hi b : Int} (h : ¬ t_M_in a.toInt64 l (m + n.toInt64) = 0) (hn : rg 0 b n) (s : (0 ≤ m.toInt ∧ m.toInt ≤ 100) ∧ lo ≤ l.toInt ∧ b + m.toInt ≤ hi) : rg lo hi a := by
  refine c_in h ⟨s.2.1, ?_⟩
  obtain ⟨h1, h2⟩ := hn
  have h3 := i_bd n
  have : (m + n.toInt64).toInt = m.toInt + n.toInt := by
    rw [Int64.toInt_add, i64, Int.bmod_def]
    split <;> omega
  omega
theorem c_mpl {a : Int32} {μ : Mem} (h : ¬ t_M_isPlayer a μ = 0) (hm : InvM μ) : rg 0 7 a := c_inm h (many_rg hm) (by decide)
theorem c_mso {a : Int32} {μ : Mem} (h : ¬ t_M_isSome a μ = 0) (hm : InvM μ) : rg 0 255 a := by
  unfold t_M_isSome at h
  by_cases h1 : t_M_isRound μ = 0
  · rw [if_pos h1] at h; exact absurd rfl h
  · rw [if_neg h1] at h
    by_cases h2 : a < 0
    · rw [if_pos h2] at h; exact absurd rfl h
    · rw [if_neg h2] at h
      by_cases h3 : t_M_isWithin a (t_M_all μ) = 0
      · rw [if_pos h3] at h; exact absurd rfl h
      · exact c_wi h3 (al_rg hm) (by decide)
theorem c_mro {μ : Mem} (h : ¬ t_M_isRound μ = 0) (hm : InvM μ) : rg 1 8 (t_M_many μ) := by
  unfold t_M_isRound at h
  by_cases h1 : gI μ 1 (0 : Int32).toNatClampNeg ≤ 0
  · rw [if_pos h1] at h; exact absurd rfl h
  · exact rg_ltR (i_nle h1) (by decide : rg 0 0 0) hm.n1 (by decide)
theorem jok_0 : jok 0 := by unfold jok; decide
theorem jok_pk {B : Int64} {x : Int32} (h : rg 0 8 x) : jok ((B <<< ((4 : Int32).toInt64 &&& 63)) ||| x.toInt64) := by
  obtain ⟨k, hk, rfl⟩ : ∃ k, k ≤ 8 ∧ x = nI k := by
    obtain ⟨k, hk, e⟩ := inb_ex (n := 9) (by decide) (inb_rg h (by decide) : inb x 9 = true)
    exact ⟨k, by omega, e⟩
  unfold jok
  rw [low15 B (by omega)]
  exact h
