section LX
variable {h : Zm} {F : Nat → Int → Int} {M : Nat} {S : Int → Int} {g : Nat → Int → Int} {c0 : Int}
theorem LI.up {F' : Nat → Int → Int} {v u n : Int} {w : Int → Int} {ms : Int → Prop} {a : Nat} {x : Int} {k : Int} (hL : LI F F' M S g v u n w ms) (ha : M + 10 ≤ a ∧ a ≤ M + 12) (hk : ∀ t, 0 ≤ t → t < u → go g t ≠ k) : LI F (up F' a k x) M S g v u n w ms := by
  obtain ⟨l1, l2, l3, l4, l5, l6, l7, l8, l9⟩ := hL
  refine ⟨l1.up (Or.inl ⟨by omega, by omega⟩), ⟨l2.1, by rw [up_a (by omega)]; exact l2.2⟩, fun t h1 h2 => by rw [up_a (by omega)]; exact l3 t h1 h2, fun t h1 h2 h3 => ?_, l5, fun i h1 h2 => by rw [up_a (by omega)]; exact l6 i h1 h2, l7, l8, l9⟩
  have := hk t h1 h2
  rw [up_n (fun q => this q.2), up_n (fun q => this q.2), up_n (fun q => this q.2)]
  exact l4 t h1 h2 h3
end LX
