/-! the class's table of inks -/
/-- the class's table at t shows T -/
def IT (F : Nat → Int → Int) (t : Nat) (T : Int × (Int → Int → Int)) : Prop := F t 1 = T.1 ∧ ∀ r c, 0 ≤ r → r < T.1 → 0 ≤ c → c < 9 → F (t + 2 + r.toNat) c = T.2 r c
section IK
variable {h : Zm} {F : Nat → Int → Int} {n t a : Nat} {S : Int → Int} {g : Nat → Int → Int} {c0 : Int}
theorem IT.kp {F F' : Nat → Int → Int} {T : Int × (Int → Int → Int)} (hT : IT F t T) (ht : TI 144 T) (hf : ∀ b j, t ≤ b → b ≤ t + 145 → F' b j = F b j) : IT F' t T :=
  ⟨by rw [hf _ _ (by omega) (by omega)]; exact hT.1, fun r c r0 r1 c0 c1 => by
    have := ht.1
    rw [hf _ _ (by omega) (by omega)]
    exact hT.2 r c r0 r1 c0 c1⟩
theorem TI.wd {k k' : Int} {T : Int × (Int → Int → Int)} (h : TI k T) (hk : k ≤ k') : TI k' T :=
  ⟨⟨h.1.1, by have := h.1.2; omega⟩, fun r a b => by have := h.2.1 r a b; exact ⟨this.1, this.2.1, this.2.2.1, by omega⟩, h.2.2⟩
end IK
