def σ0 : Mem := (fun _ _ => 0, fun _ _ => 0)
def μ0 : Mem := sI σ0 33 0 (-1)
theorem law_ok (L : Nat) (xs : Nat → Int32) (hL : L ≤ 4) : ∃ N, f_law N L xs σ0 μ0 = some () := sorry
