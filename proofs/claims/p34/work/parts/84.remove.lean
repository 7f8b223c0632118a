/-! remove: both sides -/
theorem WS_cg {S S' : Int → Int} {c : Int} (h : ∀ j, 0 ≤ j → j < 128 → S' j = S j) (w : WS S c) : WS S' c := by
  obtain ⟨⟨a0, a2⟩, b, d, ws⟩ := w
  refine ⟨⟨?_, ?_⟩, fun j x y => ?_, ?_, fun r x y => ?_⟩
  · rw [h 0 (by decide) (by decide), h 1 (by decide) (by decide)]; exact a0
  · rw [h 2 (by decide) (by decide), h 3 (by decide) (by decide), h 4 (by decide) (by decide)]; exact a2
  · rw [h (5 + j) (by omega) (by omega)]; exact b j x y
  · rw [h 8 (by decide) (by decide)]; exact d
  · have w2 := ws r x y
    have e : cc S' r = cc S r := h _ (by omega) (by omega)
    rw [e]
    exact wfC_cg w2 (fun i u v => ⟨h _ (by omega) (by have := w2.1; omega), h _ (by omega) (by have := w2.1; omega)⟩)
section RMV
variable {S : Int → Int} {g : Nat → Int → Int} {c s e k : Int}
end RMV
section RMC
variable {h : Zm} {F : Nat → Int → Int} {n M : Nat} {S : Int → Int} {g : Nat → Int → Int} {c0 k : Int} {Hs : Int → Int → Int} {Hg : Int → Nat → Int → Int} {b : Int → Nat}
end RMC
