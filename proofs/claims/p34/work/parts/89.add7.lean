/-! addGroup, addRect, addSpot: the reference's -/
def rowG (S : Int → Int) (k P o dx dy : Int) (D : Int → Int) : Int → Int := ru (ru (ru (rCome S k 0 P D) (128 + 10 * k + 3) o) (128 + 10 * k + 3 + 1) dx) (128 + 10 * k + 3 + 2) dy
def rowR (S : Int → Int) (k P : Int) (D : Int → Int) : Int → Int := fun j => if 128 + 10 * k + 7 ≤ j ∧ j < 128 + 10 * k + 10 then D (4 + (j - (128 + 10 * k + 7))) else rCome S k 1 P D j
def rowS (S : Int → Int) (k P p t : Int) (D : Int → Int) : Int → Int := ru (ru (rCome S k 2 P D) (128 + 10 * k + 3 + 4) p) (128 + 10 * k + 3 + 5) t
section AD
variable {h : Zm} {F : Nat → Int → Int} {M : Nat} {S : Int → Int} {g : Nat → Int → Int} {c0 k : Int} {D : Int → Int} {Hs : Int → Int → Int}
end AD
