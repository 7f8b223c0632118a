/-! a block before settle -/
/-- node k as it is before settle -/
def NB (F : Nat → Int → Int) (a : Nat) (S : Int → Int) (k : Int) : Prop := (F a 0 = nk S k ∧ (0 ≤ F a 3 ∧ F a 3 ≤ 100) ∧ (-12 ≤ F a 4 ∧ F a 4 ≤ 12) ∧ (-12 ≤ F a 5 ∧ F a 5 ≤ 12)) ∧ (0 ≤ nk S k → F a 1 = np S k ∧ (nk S k = 0 → (F a 3 = nf S k 0 ∧ F a 4 = nf S k 1 ∧ F a 5 = nf S k 2)) ∧ (nk S k ≠ 0 → F a 9 = nf S k 0 ∧ F a 10 = nf S k 1 ∧ F a 11 = nf S k 2 ∧ F a 12 = nf S k 3) ∧ (nk S k = 1 → F a 13 = nf S k 4 ∧ F a 14 = nf S k 5 ∧ F a 15 = nf S k 6) ∧ (nk S k = 2 → F a 16 = nf S k 4 ∧ F a 17 = nf S k 5))
theorem NS.nb {F : Nat → Int → Int} {a : Nat} {S : Int → Int} {g : Nat → Int → Int} {k : Int} (n : NS F a S g k) : NB F a S k :=
  ⟨n.1, fun h => by have := n.2 h; exact ⟨this.1.1, fun z => (this.2.1 z).1, this.2.2.1, this.2.2.2.1, this.2.2.2.2⟩⟩
def BS (F : Nat → Int → Int) (A : Nat) (S : Int → Int) (g : Nat → Int → Int) : Prop := (∀ j, 0 ≤ j → j < 5 → F A j = S j) ∧ (∀ j, 0 ≤ j → j < 3 → F (A + 1) j = S (5 + j)) ∧ (∀ p, 0 ≤ p → p < 7 → CC F (A + 31 + 3 * p.toNat) (cc S p) (cp S p) (cq S p)) ∧ (F (A + 2) 3 = gc g ∧ ∀ t, 0 ≤ t → t < gc g → F (A + 28) t = go g t) ∧ (∀ k, 0 ≤ k → k < 24 → NB F (A + 4 + k.toNat) S k) ∧ (F (A + 4) 2 = 0 ∧ F (A + 4) 6 = 100 ∧ F (A + 4) 7 = 0 ∧ F (A + 4) 8 = 0)
section BSS
variable {h : Zm} {F : Nat → Int → Int} {A : Nat} {S : Int → Int} {g : Nat → Int → Int} {c0 : Int}
theorem BS.pn (bs : BS F A S g) : PN F A S g :=
  ⟨bs.2.2.2.1, fun k hl _ => ((bs.2.2.2.2.1 k hl.1.1 hl.1.2).2 hl.2).1, fun k hl => (bs.2.2.2.2.1 k hl.1.1 hl.1.2).1.2, fun k hl z => ((bs.2.2.2.2.1 k hl.1.1 hl.1.2).2 hl.2).2.1 z, bs.2.2.2.2.2⟩
theorem s_settleB {Q : Zm → Prop} (kt : kT h A) (w : WF S g c0) (bs : BS F A S g) (q : ∀ F', fr (A + 5) (A + 27) F F' → CS F' A S g → Q (zwI h F')) : mX5_settle (A + 2) (zwI h F) Q := by
  refine s_settle kt w bs.pn (fun F' f v => q F' (fun b j y => f b j (by omega)) ?_)
  have fA : ∀ b j, (b < A + 5 ∨ A + 27 < b) → F' b j = F b j := fun b j y => f b j (by omega)
  obtain ⟨b1, b2, b3, ⟨b4, b5⟩, b6, -⟩ := bs
  refine ⟨fun j x y => by rw [fA _ _ (by omega)]; exact b1 j x y, fun j x y => by rw [fA _ _ (by omega)]; exact b2 j x y, fun p x y => (b3 p x y).keep fun b j u v => fA _ _ (by omega), ⟨by rw [fA _ _ (by omega)]; exact b4, fun t x y => by rw [fA _ _ (by omega)]; exact b5 t x y⟩, fun k x y => ?_⟩
  have nb := b6 k x y
  have e : ∀ j, j ≠ 2 → j ≠ 6 → j ≠ 7 → j ≠ 8 → F' (A + 4 + k.toNat) j = F (A + 4 + k.toNat) j := fun j p q r s => f _ _ (by omega)
  unfold NS
  rw [e 0 (by decide) (by decide) (by decide) (by decide), e 1 (by decide) (by decide) (by decide) (by decide), e 3 (by decide) (by decide) (by decide) (by decide), e 4 (by decide) (by decide) (by decide) (by decide), e 5 (by decide) (by decide) (by decide) (by decide), e 9 (by decide) (by decide) (by decide) (by decide), e 10 (by decide) (by decide) (by decide) (by decide), e 11 (by decide) (by decide) (by decide) (by decide), e 12 (by decide) (by decide) (by decide) (by decide), e 13 (by decide) (by decide) (by decide) (by decide), e 14 (by decide) (by decide) (by decide) (by decide), e 15 (by decide) (by decide) (by decide) (by decide), e 16 (by decide) (by decide) (by decide) (by decide), e 17 (by decide) (by decide) (by decide) (by decide)]
  refine ⟨nb.1, fun z => ?_⟩
  have n2 := nb.2 z
  have v2 := v k ⟨⟨x, y⟩, z⟩
  exact ⟨⟨n2.1, v2.1⟩, fun k0 => ⟨n2.2.1 k0, v2.2 k0⟩, n2.2.2.1, n2.2.2.2.1, n2.2.2.2.2⟩
end BSS
