/-! rows that keep their nodes; size, settings, knockouts -/
def nq (S S' : Int → Int) : Prop := ∀ j, 128 ≤ j → j < 368 → S' j = S j
section NQ
variable {S S' : Int → Int} {g : Nat → Int → Int} {c : Int} {F F' : Nat → Int → Int} {A : Nat} {k : Int}
theorem nq.kk (h : nq S S') (h0 : 0 ≤ k) (h1 : k < 24) : nk S' k = nk S k := h _ (by omega) (by omega)
theorem nq.p (h : nq S S') (h0 : 0 ≤ k) (h1 : k < 24) : np S' k = np S k := h _ (by omega) (by omega)
theorem nq.o (h : nq S S') (h0 : 0 ≤ k) (h1 : k < 24) : no S' k = no S k := h _ (by omega) (by omega)
theorem nq.f (h : nq S S') (h0 : 0 ≤ k) (h1 : k < 24) {j : Int} (j0 : 0 ≤ j) (j1 : j < 7) : nf S' k j = nf S k j := h _ (by omega) (by omega)
theorem nq.li (h : nq S S') : live S' k ↔ live S k := ⟨fun x => ⟨x.1, by have := h.kk x.1.1 x.1.2; have := x.2; omega⟩, fun x => ⟨x.1, by have := h.kk x.1.1 x.1.2; have := x.2; omega⟩⟩
theorem NS.of_nq (h : nq S S') (h0 : 0 ≤ k) (h1 : k < 24) {a : Nat} (n : NS F a S g k) : NS F a S' g k := by
  unfold NS at n ⊢
  rw [h.kk h0 h1, h.p h0 h1, h.f h0 h1 (j := 0) (by decide) (by decide), h.f h0 h1 (j := 1) (by decide) (by decide), h.f h0 h1 (j := 2) (by decide) (by decide), h.f h0 h1 (j := 3) (by decide) (by decide), h.f h0 h1 (j := 4) (by decide) (by decide), h.f h0 h1 (j := 5) (by decide) (by decide), h.f h0 h1 (j := 6) (by decide) (by decide)]
  exact n
theorem WF.of_nq (h : nq S S') (h8 : S' 8 = S 8) (ws : WS S' c) (w : WF S g c) : WF S' g c := by
  obtain ⟨-, wn, wt, wo⟩ := w
  refine ⟨ws, ⟨?_, fun k a b => ?_, fun k l z => ?_, fun k l z => ?_, fun k l z => ?_, fun k l z => ?_⟩, ⟨wt.1, fun k l z => ?_, fun k l => wt.2.2.1 k (h.li.mp l), fun k l z y => ?_⟩, ⟨wo.1, fun t a b => h.li.mpr (wo.2.1 t a b), wo.2.2.1, fun k l => wo.2.2.2.1 k (h.li.mp l), fun i a b => ?_, fun i j a b x y => ?_⟩⟩
  · rw [h.kk (by decide) (by decide), h.p (by decide) (by decide), h.f (by decide) (by decide) (by decide) (by decide), h.f (by decide) (by decide) (by decide) (by decide), h.f (by decide) (by decide) (by decide) (by decide)]
    exact wn.1
  · rw [h.kk a b]; exact wn.2.1 k a b
  · rw [h.kk l.1.1 l.1.2] at z
    rw [h.f l.1.1 l.1.2 (by decide) (by decide), h.f l.1.1 l.1.2 (by decide) (by decide), h.f l.1.1 l.1.2 (by decide) (by decide)]
    exact wn.2.2.1 k (h.li.mp l) z
  · rw [h.kk l.1.1 l.1.2] at z
    rw [h.f l.1.1 l.1.2 (by decide) (by decide), h.f l.1.1 l.1.2 (by decide) (by decide), h.f l.1.1 l.1.2 (by decide) (by decide), h.f l.1.1 l.1.2 (by decide) (by decide)]
    exact wn.2.2.2.1 k (h.li.mp l) z
  · rw [h.kk l.1.1 l.1.2] at z
    rw [h.f l.1.1 l.1.2 (by decide) (by decide), h.f l.1.1 l.1.2 (by decide) (by decide), h.f l.1.1 l.1.2 (by decide) (by decide)]
    exact wn.2.2.2.2.1 k (h.li.mp l) z
  · rw [h.kk l.1.1 l.1.2] at z
    rw [h.f l.1.1 l.1.2 (by decide) (by decide), h.f l.1.1 l.1.2 (by decide) (by decide)]
    exact wn.2.2.2.2.2 k (h.li.mp l) z
  · have := wt.2.1 k (h.li.mp l) z
    rw [h.p l.1.1 l.1.2, h.o l.1.1 l.1.2, h8, h.kk this.1.1.1 this.1.1.2]
    exact ⟨h.li.mpr this.1, this.2⟩
  · rw [h.kk l.1.1 l.1.2] at y
    rw [h.p l.1.1 l.1.2, h.f l.1.1 l.1.2 (by decide) (by decide), h.f l.1.1 l.1.2 (by decide) (by decide), h.f l.1.1 l.1.2 (by decide) (by decide)]
    exact wt.2.2.2 k (h.li.mp l) z y
  · have l := wo.2.1 i (by omega) b
    rw [h.p l.1.1 l.1.2]
    exact wo.2.2.2.2.1 i a b
  · have l := wo.2.1 i (by omega) (by omega)
    have l2 := wo.2.1 j (by omega) x
    rw [h.p l.1.1 l.1.2, h.p l2.1.1 l2.1.2] at y
    rw [h.o l.1.1 l.1.2, h.o l2.1.1 l2.1.2]
    exact wo.2.2.2.2.2 i j a b x y
/-- a block whose nodes and order stay -/
theorem CS.of_nq (h : nq S S') (cs : CS F A S g) (k : ∀ b j, A + 2 ≤ b → b ≤ A + 28 → F' b j = F b j) (h1 : ∀ j, 0 ≤ j → j < 5 → F' A j = S' j) (h2 : ∀ j, 0 ≤ j → j < 3 → F' (A + 1) j = S' (5 + j)) (h3 : ∀ p, 0 ≤ p → p < 7 → CC F' (A + 31 + 3 * p.toNat) (cc S' p) (cp S' p) (cq S' p)) : CS F' A S' g :=
  ⟨h1, h2, h3, ⟨by rw [k _ _ (by omega) (by omega)]; exact cs.2.2.2.1.1, fun t a b => by rw [k _ _ (by omega) (by omega)]; exact cs.2.2.2.1.2 t a b⟩, fun i a b => ((cs.2.2.2.2 i a b).keep (fun j => k _ j (by omega) (by omega))).of_nq h a b⟩
end NQ
/-- one place of a row -/
def ru (S : Int → Int) (x v : Int) : Int → Int := fun j => if j = x then v else S j
theorem ru_n {S : Int → Int} {x v j : Int} (h : j ≠ x) : ru S x v j = S j := if_neg h
theorem ru_s {S : Int → Int} {x v : Int} : ru S x v x = v := if_pos rfl
theorem ru_nq {S : Int → Int} {x v : Int} (h : x < 128) : nq S (ru S x v) := fun j a _ => ru_n (by omega)
theorem ru_wfS {S : Int → Int} {x v : Int} (h : x < 9) (w : wfS S) : wfS (ru S x v) := by
  intro p a b
  have hw := w p a b
  have e1 : cc (ru S x v) p = cc S p := ru_n (by omega)
  have e2 : ∀ i, 0 ≤ i → cp (ru S x v) p i = cp S p i := fun i hi => ru_n (by omega)
  have e3 : ∀ i, 0 ≤ i → cq (ru S x v) p i = cq S p i := fun i hi => ru_n (by omega)
  obtain ⟨h1, h2, h3, h4, h5, h6⟩ := hw
  rw [e1]
  refine ⟨h1, by rw [e2 _ (Int.le_refl _)]; exact h2, by rw [e2 _ (by omega)]; exact h3, fun i j x y z => by rw [e2 _ x, e2 _ (by omega)]; exact h4 i j x y z, fun i j x y z => by rw [e3 _ x, e3 _ (by omega)]; exact h5 i j x y z, fun i x y => by rw [e2 _ x, e3 _ x]; exact h6 i x y⟩
theorem CC_ru {F : Nat → Int → Int} {C : Nat} {S : Int → Int} {x v p : Int} (h : x < 9) (hp : 0 ≤ p) (k : CC F C (cc S p) (cp S p) (cq S p)) : CC F C (cc (ru S x v) p) (cp (ru S x v) p) (cq (ru S x v) p) := by
  have e1 : cc (ru S x v) p = cc S p := ru_n (by omega)
  rw [e1]
  refine ⟨k.1, fun i a b => ?_⟩
  have e2 : cp (ru S x v) p i = cp S p i := ru_n (by omega)
  have e3 : cq (ru S x v) p i = cq S p i := ru_n (by omega)
  rw [e2, e3]
  exact k.2 i a b
