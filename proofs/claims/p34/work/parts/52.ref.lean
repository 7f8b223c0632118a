/-! the reference's own cells, and its curves -/
def kMt : List (Nat × Nat × Nat × Nat) := [(0, 1, 1, 368), (1, 2, 1, 1840), (2, 3, 1, 368), (4, 4, 1, 4), (5, 5, 1, 3), (6, 6, 2, 24), (7, 7, 1, 256), (8, 8, 1, 24), (10, 9, 1, 24), (11, 10, 1, 24), (12, 11, 1, 24), (13, 12, 1, 24), (14, 13, 1, 6), (15, 14, 1, 7), (16, 15, 1, 7), (17, 16, 1, 7), (18, 17, 1, 1296)]
/-- the reference at M: what lies where -/
def kM (_ : Zm) (_ : Nat) : Prop := True
section KM
variable {h : Zm} {M : Nat}
end KM
/-- the reference's row of numbers is S -/
def RS (F : Nat → Int → Int) (M : Nat) (S : Int → Int) : Prop := ∀ j, 0 ≤ j → j < 368 → F (M + 1) j = S j
def cp (S : Int → Int) (p : Int) : Int → Int := fun i => S (9 + 17 * p + 1 + 2 * i)
def cq (S : Int → Int) (p : Int) : Int → Int := fun i => S (9 + 17 * p + 2 + 2 * i)
def cc (S : Int → Int) (p : Int) : Int := S (9 + 17 * p)
/-- a row's curves are curves -/
def wfS (S : Int → Int) : Prop := ∀ p, 0 ≤ p → p < 7 → wfC (cc S p) (cp S p) (cq S p)
section RM
variable {h : Zm} {F : Nat → Int → Int} {M : Nat} {S : Int → Int}
theorem s_isPart6 {Q : Int → Zm → Prop} {x : Int} {m : Zm} (hx : InR x) (q : Q (bi (0 ≤ x ∧ x ≤ 255)) m) : mX6_isPart x m Q := by
  unfold mX6_isPart
  exact s_within hx z_in0 ⟨by decide, by decide⟩ ⟨bi_01 _, q⟩
theorem s_isOffset6 {Q : Int → Zm → Prop} {x : Int} {m : Zm} (hx : InR x) (q : Q (bi (-12 ≤ x ∧ x ≤ 12)) m) : mX6_isOffset x m Q := by
  unfold mX6_isOffset
  exact s_within hx ⟨by decide, by decide⟩ ⟨by decide, by decide⟩ ⟨bi_01 _, q⟩
end RM
