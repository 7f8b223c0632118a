/-! a block with one node more; addGroup, addRect, addSpot: the class's -/
theorem BS0_add {F F' : Nat → Int → Int} {A : Nat} {S S' : Int → Int} {g : Nat → Int → Int} {c k K P : Int} (w : WF S g c) (cs : CS F A S g) (a : AR S S' k K P) (hk : 1 ≤ k ∧ k < 24) (hf : ∀ b j, b ≠ A + 28 → b ≠ A + 29 → ¬ (b = A + 2 ∧ j = 3) → b ≠ A + 4 + k.toNat → F' b j = F b j) (nb : NB F' (A + 4 + k.toNat) S' k) : BS0 F' A S' := by
  have wt := w.2.2.1.1
  have l0 := live0 w.2.1
  have n0 := (cs.2.2.2.2 0 (by decide) (by decide)).2 l0.2
  have e0 : A + 4 + (0 : Int).toNat = A + 4 := rfl
  rw [e0] at n0
  refine ⟨fun j x y => ?_, fun j x y => ?_, fun p x y => ?_, fun x p q => ?_, ?_⟩
  · rw [hf _ _ (by omega) (by omega) (by omega) (by omega), a.1 j x (by omega) (by omega)]; exact cs.1 j x y
  · rw [hf _ _ (by omega) (by omega) (by omega) (by omega), a.1 (5 + j) (by omega) (by omega) (by omega)]; exact cs.2.1 j x y
  · have hw := (w.1.2.2.2 p x y).1
    have e1 : cc S' p = cc S p := a.1 _ (by omega) (by omega) (by omega)
    rw [e1]
    exact CC_cg ((cs.2.2.1 p x y).keep fun b j u v => hf _ _ (by omega) (by omega) (by omega) (by omega)) (fun i u v => ⟨a.1 _ (by omega) (by omega) (by omega), a.1 _ (by omega) (by omega) (by omega)⟩)
  · by_cases e : x = k
    · rw [e]; exact nb
    · have ak := a.kx p q e
      have n := (cs.2.2.2.2 x p q).nb
      have ef : ∀ j, F' (A + 4 + x.toNat) j = F (A + 4 + x.toNat) j := fun j => hf _ _ (by omega) (by omega) (by omega) (by omega)
      unfold NB at n ⊢
      simp only [ef]
      rw [ak.1, ak.2.1, ak.2.2.2 0 (by decide) (by decide), ak.2.2.2 1 (by decide) (by decide), ak.2.2.2 2 (by decide) (by decide), ak.2.2.2 3 (by decide) (by decide), ak.2.2.2 4 (by decide) (by decide), ak.2.2.2 5 (by decide) (by decide), ak.2.2.2 6 (by decide) (by decide)]
      exact n
  · have n00 := n0.2.1 w.2.1.1.1
    rw [hf _ _ (by omega) (by omega) (by omega) (by omega), hf _ _ (by omega) (by omega) (by omega) (by omega), hf _ _ (by omega) (by omega) (by omega) (by omega), hf _ _ (by omega) (by omega) (by omega) (by omega), n0.1.2, n00.2.1, n00.2.2.1, n00.2.2.2]
    exact wt
