/-! a new node comes: the reference's row -/
def rCome (S : Int → Int) (k K P : Int) (D : Int → Int) : Int → Int := fun j => if j = 8 then S 8 + 1 else if j = 128 + 10 * k then K else if j = 128 + 10 * k + 1 then P else if j = 128 + 10 * k + 2 then S 8 + 1 else if 128 + 10 * k + 3 ≤ j ∧ j < 128 + 10 * k + 7 then D (j - (128 + 10 * k + 3)) else S j
section CMS
variable {h : Zm} {F : Nat → Int → Int} {M : Nat} {S : Int → Int} {g : Nat → Int → Int} {c0 : Int} {D : Int → Int}
end CMS
