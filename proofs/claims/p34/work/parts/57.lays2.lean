/-! the reference's row of visits is the visiting order -/
def laid (M : Nat) (F F' : Nat → Int → Int) : Prop := ∀ b j, ¬ (M + 8 ≤ b ∧ b ≤ M + 12) → ¬ (b = M ∧ j = 9) → F' b j = F b j
theorem laid.rf {M : Nat} {F : Nat → Int → Int} : laid M F F := fun _ _ _ _ => rfl
theorem laid.up {M a : Nat} {F F' : Nat → Int → Int} {i v : Int} (h : laid M F F') (ha : (M + 8 ≤ a ∧ a ≤ M + 12) ∨ (a = M ∧ i = 9)) : laid M F (up F' a i v) := fun b j h1 h2 => by
  rw [up_n (fun q => ?_)]
  · exact h b j h1 h2
  · rcases ha with z | z
    · exact h1 (by rw [q.1]; exact z)
    · exact h2 ⟨q.1.trans z.1, q.2.trans z.2⟩
def OV (F' : Nat → Int → Int) (M : Nat) (S : Int → Int) (g : Nat → Int → Int) (u : Int) : Prop := ∀ t, 0 ≤ t → t < u → nk S (go g t) = 0 → F' (M + 10) (go g t) = gop g (go g t) ∧ F' (M + 11) (go g t) = gox g (go g t) ∧ F' (M + 12) (go g t) = goy g (go g t)
def pend (S : Int → Int) (g : Nat → Int → Int) (v t : Int) : Prop := t = 0 ∨ ∃ j, (0 ≤ j ∧ j < v) ∧ j < t ∧ go g j = np S (go g t)
def LI (F F' : Nat → Int → Int) (M : Nat) (S : Int → Int) (g : Nat → Int → Int) (v u n : Int) (w : Int → Int) (miss : Int → Prop) : Prop :=
  laid M F F' ∧ ((0 ≤ v ∧ v ≤ gc g) ∧ F' M 9 = v) ∧ (∀ t, 0 ≤ t → t < v → F' (M + 8) t = go g t) ∧ OV F' M S g u ∧ 0 ≤ n ∧ (∀ i, 0 ≤ i → i < n → F' (M + 9) i = go g (w i) ∧ (v ≤ w i ∧ w i < gc g) ∧ w i + i ≤ 23) ∧ (∀ i j, 0 ≤ i → i < j → j < n → w j < w i) ∧ (∀ t, v ≤ t → t < gc g → pend S g v t → (∃ i, (0 ≤ i ∧ i < n) ∧ w i = t) ∨ miss t) ∧ (∀ i, 0 ≤ i → i < n → pend S g v (w i))
/-- what lays leaves -/
def LD (F : Nat → Int → Int) (M : Nat) (S : Int → Int) (g : Nat → Int → Int) : Prop := F M 9 = gc g ∧ (∀ t, 0 ≤ t → t < gc g → F (M + 8) t = go g t) ∧ OV F M S g (gc g)
section LZ
variable {h : Zm} {F : Nat → Int → Int} {M : Nat} {S : Int → Int} {g : Nat → Int → Int} {c0 : Int}
end LZ
