/-! the calls that change something, answers left out -/
theorem st_Rl_sign {N : Nat} (hN : 8589934592 ≤ N) {σ μ : Mem} (hR : Rl σ μ) (a : Int32) : ∃ q q2 : Int32 × Mem, f_D_sign N a σ = some (q.1, q.2) ∧ f_M_sign N a μ = some (q2.1, q2.2) ∧ Rl q.2 q2.2 := by
  obtain ⟨q, q2, h1, h2, h3, -⟩ := st_Rl_sign_c hN hR a
  exact ⟨q, q2, h1, h2, h3⟩
theorem st_Rl_end {N : Nat} (hN : 8589934592 ≤ N) {σ μ : Mem} (hR : Rl σ μ) (a : Int32) : ∃ q q2 : Int32 × Mem, f_D_end a σ = some (q.1, q.2) ∧ f_M_end a μ = some (q2.1, q2.2) ∧ Rl q.2 q2.2 := by
  obtain ⟨q, q2, h1, h2, h3, -⟩ := st_Rl_end_c hN hR a
  exact ⟨q, q2, h1, h2, h3⟩
theorem st_Rl_round {N : Nat} (hN : 8589934592 ≤ N) {σ μ : Mem} (hR : Rl σ μ) : ∃ q q2 : Int32 × Mem, f_D_round N σ = some (q.1, q.2) ∧ f_M_round N μ = some (q2.1, q2.2) ∧ Rl q.2 q2.2 := by
  obtain ⟨q, q2, h1, h2, h3, -⟩ := st_Rl_round_c hN hR
  exact ⟨q, q2, h1, h2, h3⟩
theorem st_Rl_drawn {N : Nat} (hN : 8589934592 ≤ N) {σ μ : Mem} (hR : Rl σ μ) (a b : Int32) : ∃ q q2 : Int32 × Mem, f_D_drawn N a b σ = some (q.1, q.2) ∧ f_M_drawn N a b μ = some (q2.1, q2.2) ∧ Rl q.2 q2.2 := by
  obtain ⟨q, q2, h1, h2, h3, -⟩ := st_Rl_drawn_c hN hR a b
  exact ⟨q, q2, h1, h2, h3⟩
theorem st_Rl_turn {N : Nat} (hN : 8589934592 ≤ N) {σ μ : Mem} (hR : Rl σ μ) (a b : Int32) : ∃ q q2 : Int32 × Mem, f_D_turn N a b σ = some (q.1, q.2) ∧ f_M_turn N a b μ = some (q2.1, q2.2) ∧ Rl q.2 q2.2 := by
  obtain ⟨q, q2, h1, h2, h3, -⟩ := st_Rl_turn_c hN hR a b
  exact ⟨q, q2, h1, h2, h3⟩
theorem st_Rl_join {N : Nat} (hN : 8589934592 ≤ N) {σ μ : Mem} (hR : Rl σ μ) (a : Int32) : ∃ q q2 : Int32 × Mem, f_D_join N a σ = some (q.1, q.2) ∧ f_M_join N a μ = some (q2.1, q2.2) ∧ Rl q.2 q2.2 := by
  obtain ⟨q, q2, h1, h2, h3, -⟩ := st_Rl_join_c hN hR a
  exact ⟨q, q2, h1, h2, h3⟩
theorem st_Rl_drop {N : Nat} (hN : 8589934592 ≤ N) {σ μ : Mem} (hR : Rl σ μ) (a : Int32) : ∃ q q2 : Int32 × Mem, f_D_drop N a σ = some (q.1, q.2) ∧ f_M_drop N a μ = some (q2.1, q2.2) ∧ Rl q.2 q2.2 := by
  obtain ⟨q, q2, h1, h2, h3, -⟩ := st_Rl_drop_c hN hR a
  exact ⟨q, q2, h1, h2, h3⟩
theorem st_Rl_undo {N : Nat} (hN : 8589934592 ≤ N) {σ μ : Mem} (hR : Rl σ μ) : ∃ q q2 : Int32 × Mem, f_D_undo N σ = some (q.1, q.2) ∧ f_M_undo N μ = some (q2.1, q2.2) ∧ Rl q.2 q2.2 := by
  obtain ⟨q, q2, h1, h2, h3, -⟩ := st_Rl_undo_c hN hR
  exact ⟨q, q2, h1, h2, h3⟩
theorem st_Rl_keep {N : Nat} (hN : 8589934592 ≤ N) {σ μ : Mem} (hR : Rl σ μ) (a : Int32) : ∃ q q2 : Int32 × Mem, f_D_keep N a σ = some (q.1, q.2) ∧ f_M_keep N a μ = some (q2.1, q2.2) ∧ Rl q.2 q2.2 := by
  obtain ⟨q, q2, h1, h2, h3, -⟩ := st_Rl_keep_c hN hR a
  exact ⟨q, q2, h1, h2, h3⟩
theorem st_Rl_again {N : Nat} (hN : 8589934592 ≤ N) {σ μ : Mem} (hR : Rl σ μ) (a : Int32) : ∃ q q2 : Int32 × Mem, f_D_again N a σ = some (q.1, q.2) ∧ f_M_again N a μ = some (q2.1, q2.2) ∧ Rl q.2 q2.2 := by
  obtain ⟨q, q2, h1, h2, h3, -⟩ := st_Rl_again_c hN hR a
  exact ⟨q, q2, h1, h2, h3⟩
