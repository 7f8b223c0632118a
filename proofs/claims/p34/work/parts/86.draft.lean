/-! the draft: box and ink -/
/-- the class's draft at a and the reference's box and ink show D: box 0..3, ink 4..6 -/
def okD (D : Int → Int) : Prop := ((-12 ≤ D 0 ∧ D 0 ≤ 12) ∧ (-12 ≤ D 1 ∧ D 1 ≤ 12)) ∧ ((1 ≤ D 2 ∧ D 2 ≤ 12) ∧ (1 ≤ D 3 ∧ D 3 ≤ 12)) ∧ ((0 ≤ D 4 ∧ D 4 ≤ 255) ∧ (0 ≤ D 5 ∧ D 5 ≤ 255) ∧ (0 ≤ D 6 ∧ D 6 ≤ 255))
def DC (F : Nat → Int → Int) (n : Nat) (D : Int → Int) : Prop := ∀ j, 0 ≤ j → j < 7 → F (n + 314) (9 + j) = D j
def DR (F : Nat → Int → Int) (M : Nat) (D : Int → Int) : Prop := (∀ j, 0 ≤ j → j < 4 → F (M + 4) j = D j) ∧ ∀ j, 0 ≤ j → j < 3 → F (M + 5) j = D (4 + j)
def dBox (D : Int → Int) (x y u v : Int) : Int → Int := fun j => if j = 0 then x else if j = 1 then y else if j = 2 then u else if j = 3 then v else D j
def dInk (D : Int → Int) (r g b : Int) : Int → Int := fun j => if j = 4 then r else if j = 5 then g else if j = 6 then b else D j
abbrev okB (x y u v : Int) : Prop := ((-12 ≤ x ∧ x ≤ 12) ∧ (-12 ≤ y ∧ y ≤ 12)) ∧ ((1 ≤ u ∧ u ≤ 12) ∧ (1 ≤ v ∧ v ≤ 12))
abbrev okI (r g b : Int) : Prop := (0 ≤ r ∧ r ≤ 255) ∧ (0 ≤ g ∧ g ≤ 255) ∧ (0 ≤ b ∧ b ≤ 255)
theorem okD_box {D : Int → Int} {x y u v : Int} (o : okD D) (h : okB x y u v) : okD (dBox D x y u v) := ⟨h.1, h.2, o.2.2⟩
theorem okD_ink {D : Int → Int} {r g b : Int} (o : okD D) (h : okI r g b) : okD (dInk D r g b) := ⟨o.1, o.2.1, h⟩
section DD
variable {h : Zm} {F : Nat → Int → Int} {n M : Nat} {D : Int → Int}
theorem s_setBox6 {Q : Int → Zm → Prop} {x y u v : Int} (kd : kD h n) (dc : DC F n D) (hx : InR x) (hy : InR y) (hu : InR u) (hv : InR v) (t : okB x y u v → ∀ F', bu (n + 314) F F' → DC F' n (dBox D x y u v) → Q (u * v) (zwI h F')) (f : ¬ okB x y u v → Q (-1) (zwI h F)) : mX6_setBox n x y u v (zwI h F) Q := by
  unfold mX6_setBox
  refine s_isOffset6 hx (f_bi (fun z1 => s_isOffset6 hy (f_bi (fun z2 => s_within hu ⟨by decide, by decide⟩ ⟨by decide, by decide⟩ (f_bi (fun z3 => s_within hv ⟨by decide, by decide⟩ ⟨by decide, by decide⟩ (f_bi (fun z4 => ?_) (fun z4 => f (fun q => z4 q.2.2)))) (fun z3 => f (fun q => z3 q.2.1)))) (fun z2 => f (fun q => z2 q.1.2)))) (fun z1 => f (fun q => z1 q.1.1)))
  have k4 := kd.2.1.2.2.2
  refine f_gr kd.k kd.dr (f_pi k4 hx (f_gr kd.k kd.dr (f_pi k4 hy (f_gr kd.k kd.dr (f_pi k4 hu (f_gr kd.k kd.dr (f_pi k4 hv (t ⟨⟨z1, z2⟩, z3, z4⟩ _ (((bu.up.tr bu.up).tr bu.up).tr bu.up) (fun j a b => ?_)))))))))
  show _ = if j = 0 then x else if j = 1 then y else if j = 2 then u else if j = 3 then v else D j
  rcases (show j = 0 ∨ j = 1 ∨ j = 2 ∨ j = 3 ∨ 3 < j by omega) with rfl | rfl | rfl | rfl | z
  · rw [up_n (by omega), up_n (by omega), up_n (by omega)]; exact up_s _ _ _ _
  · rw [up_n (by omega), up_n (by omega)]; exact up_s _ _ _ _
  · rw [up_n (by omega)]; exact up_s _ _ _ _
  · exact up_s _ _ _ _
  · rw [up_n (by omega), up_n (by omega), up_n (by omega), up_n (by omega), if_neg (by omega), if_neg (by omega), if_neg (by omega), if_neg (by omega)]
    exact dc j a b
theorem s_setInk6 {Q : Int → Zm → Prop} {r g b : Int} (kd : kD h n) (dc : DC F n D) (hx : InR r) (hy : InR g) (hu : InR b) (t : okI r g b → ∀ F', bu (n + 314) F F' → DC F' n (dInk D r g b) → Q (r + g + b) (zwI h F')) (f : ¬ okI r g b → Q (-1) (zwI h F)) : mX6_setInk n r g b (zwI h F) Q := by
  unfold mX6_setInk
  refine s_isPart6 hx (f_bi (fun z1 => s_isPart6 hy (f_bi (fun z2 => s_isPart6 hu (f_bi (fun z3 => ?_) (fun z3 => f (fun q => z3 q.2.2)))) (fun z2 => f (fun q => z2 q.2.1)))) (fun z1 => f (fun q => z1 q.1)))
  have k4 := kd.2.1.2.2.2
  refine f_gr kd.k kd.dr (f_pi k4 hx (f_gr kd.k kd.dr (f_pi k4 hy (f_gr kd.k kd.dr (f_pi k4 hu (t ⟨z1, z2, z3⟩ _ ((bu.up.tr bu.up).tr bu.up) (fun j a b' => ?_)))))))
  show _ = if j = 4 then r else if j = 5 then g else if j = 6 then b else D j
  rcases (show j < 4 ∨ j = 4 ∨ j = 5 ∨ j = 6 by omega) with z | rfl | rfl | rfl
  · rw [up_n (by omega), up_n (by omega), up_n (by omega), if_neg (by omega), if_neg (by omega), if_neg (by omega)]
    exact dc j a b'
  · rw [up_n (by omega), up_n (by omega)]; exact up_s _ _ _ _
  · rw [up_n (by omega)]; exact up_s _ _ _ _
  · exact up_s _ _ _ _
end DD
