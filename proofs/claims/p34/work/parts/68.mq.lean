/-! the reference's answers about pixels and the page -/
def qf (hi M : Nat) (F F' : Nat → Int → Int) : Prop := ∀ b j, ¬ (M + 8 ≤ b ∧ b ≤ hi) → ¬ (b = M ∧ (j = 9 ∨ j = 19)) → F' b j = F b j
theorem qf.rf {hi M : Nat} {F : Nat → Int → Int} : qf hi M F F := fun _ _ _ _ => rfl
theorem qf.tr {hi M : Nat} {F G H : Nat → Int → Int} (h1 : qf hi M F G) (h2 : qf hi M G H) : qf hi M F H := fun b j p q => (h2 b j p q).trans (h1 b j p q)
theorem qf.wd {hi hi' M : Nat} {F G : Nat → Int → Int} (h1 : qf hi M F G) (h : hi ≤ hi') : qf hi' M F G := fun b j p q => h1 b j (by omega) q
theorem LD.fr {M lo hi : Nat} {F F' : Nat → Int → Int} {S : Int → Int} {g : Nat → Int → Int} (hb : fr lo hi F F') (hl : M + 13 ≤ lo) (hD : LD F M S g) : LD F' M S g :=
  ⟨by rw [hb _ _ (by omega)]; exact hD.1, fun t a b => by rw [hb _ _ (by omega)]; exact hD.2.1 t a b, fun t a b c => by rw [hb _ _ (by omega), hb _ _ (by omega), hb _ _ (by omega)]; exact hD.2.2 t a b c⟩
section MQ
variable {h : Zm} {F : Nat → Int → Int} {M : Nat} {S : Int → Int} {g : Nat → Int → Int} {c0 : Int}
end MQ
