theorem Inv_start : Inv (fun _ _ => 0) (fun c k => if c = 46 ∧ k = 2 then 1000000 else if c = 57 ∧ k = 2 then 1 else 0) := by
  sorry
