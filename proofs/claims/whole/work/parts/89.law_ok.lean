def zh0 (n : Nat) : Zm := (((fun _ => (0, 0)), n), (fun _ _ => 0), (fun _ _ => 0))
theorem law_ok (L : Nat) (sc : Int → Int) (a0 n : Nat) (hL : L ≤ 2560) (hsc : ∀ i, InR (sc i)) (hn : 2 ≤ n) : mL_law L sc a0 (zh0 n) (fun v _ => v = 1) := sorry
