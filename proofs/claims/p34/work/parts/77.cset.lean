/-! points of curves: rows and blocks -/
theorem wfC_cg {c : Int} {p q p' q' : Int → Int} (w : wfC c p q) (e : ∀ i, 0 ≤ i → i < c → p' i = p i ∧ q' i = q i) : wfC c p' q' := by
  obtain ⟨w1, w2, w3, w4, w5, w6⟩ := w
  refine ⟨w1, by rw [(e 0 (by decide) (by omega)).1]; exact w2, by rw [(e (c - 1) (by omega) (by omega)).1]; exact w3, fun i j x y z => by rw [(e i x (by omega)).1, (e j (by omega) z).1]; exact w4 i j x y z, fun i j x y z => by rw [(e i x (by omega)).2, (e j (by omega) z).2]; exact w5 i j x y z, fun i x y => by rw [(e i x y).1, (e i x y).2]; exact w6 i x y⟩
theorem CC_cg {F : Nat → Int → Int} {C : Nat} {c : Int} {p q p' q' : Int → Int} (k : CC F C c p q) (e : ∀ i, 0 ≤ i → i < c → p' i = p i ∧ q' i = q i) : CC F C c p' q' :=
  ⟨k.1, fun i x y => by rw [(e i x y).1, (e i x y).2]; exact k.2 i x y⟩
def crq (p : Int) (S S' : Int → Int) : Prop := ∀ j, (j < 9 + 17 * p ∨ 9 + 17 * p + 17 ≤ j) → S' j = S j
theorem crq.o {p r : Int} {S S' : Int → Int} (h : crq p S S') (hr : r ≠ p) : cc S' r = cc S r ∧ ∀ i, 0 ≤ i → i < 8 → cp S' r i = cp S r i ∧ cq S' r i = cq S r i := by
  refine ⟨h _ (by omega), fun i a b => ⟨h _ (by omega), h _ (by omega)⟩⟩
section RR2
variable {S : Int → Int} {p i u v : Int}
end RR2
