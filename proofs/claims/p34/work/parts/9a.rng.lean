/-! the answers are numbers of the machine -/
section RG
variable {S : Int → Int} {g : Nat → Int → Int} {c0 : Int}
theorem R_1 : InR (-1) := ⟨by decide, by decide⟩
theorem aRend_R (w : WF S g c0) (x y p : Int) : InR (aRend S g x y p) := by
  unfold aRend
  split
  · rename_i z
    have := px_r w x y p z.2.1 (by omega)
    exact ⟨by omega, by omega⟩
  · exact R_1
theorem aInk_R (w : WF S g c0) (x y p : Int) : InR (aInk S g x y p) := by
  unfold aInk
  split
  · rename_i z
    have := tl_b (A := aft S (bef S (S 2) (rnd S g x y (gc g).toNat))) (fun _ a b => aft_r w.1 (fun _ c d => bef_r w.1 (px_r w x y) w.1.1.2.1 c d) a b) z.2.1 z.2.2
    exact ⟨by omega, by omega⟩
  · exact R_1
theorem aTouch_R (w : WF S g c0) (x y : Int) : InR (aTouch S g x y) := by
  have key : ∀ t : Nat, (t : Int) < gc g → -4 ≤ tch S g x y t ∧ tch S g x y t ≤ 23 := by
    intro t
    induction t with
    | zero =>
      intro _
      show (-4 : Int) ≤ -4 ∧ (-4 : Int) ≤ 23
      decide
    | succ t ih =>
      intro h
      have hl := (w.2.2.2.2.1 ((t : Int) + 1) (by omega) (by omega)).1
      have := ih (by omega)
      unfold tch
      split
      · omega
      · exact this
  unfold aTouch
  split
  · have hc := w.2.2.2.1.1
    have := key (gc g - 1).toNat (by omega)
    exact ⟨by omega, by omega⟩
  · exact R_1
theorem aCov_R (w : WF S g c0) (p : Int) : InR (aCov S g p) := by
  unfold aCov
  split
  · rename_i z
    have hN := nP w.1
    have := cov_b w w.1.1.2.1 z (k := S 0 * S 1) ⟨by omega, Int.le_refl _⟩
    unfold cov
    exact ⟨by omega, by omega⟩
  · exact R_1
theorem aGreat_R (w : WF S g c0) : InR (aGreat S g) := by
  unfold aGreat
  have := mxI_b (f := fun k => smI (pA S g (S 2) k) 7) (m := 12495) (k := S 0 * S 1) (by decide) (fun i _ _ => by
    have := smI_b (f := pA S g (S 2) i) (m := 1785) (k := 7) (by decide) (pA_r w w.1.1.2.1 i)
    omega)
  exact ⟨by omega, by omega⟩
theorem aNeed_R (w : WF S g c0) : InR (aNeed S g) := by
  unfold aNeed
  have := mxI_b (f := fun k => smI (pB S g (S 2) k) 7) (m := 1785) (k := S 0 * S 1) (by decide) (fun i _ _ => by
    have := smI_b (f := pB S g (S 2) i) (m := 255) (k := 7) (by decide) (pB_r w w.1.1.2.1 i)
    omega)
  exact ⟨by omega, by omega⟩
theorem aLim_R (w : WF S g c0) : InR (aLim S g) := by
  unfold aLim
  have hN := nP w.1
  have := smI_b (f := fun k => bi (¬ sm7 (pB S g (S 2) k) (pA S g (S 2) k))) (m := 1) (k := S 0 * S 1) (by omega) (fun i _ _ => bi_b _)
  exact ⟨by omega, by omega⟩
theorem aDis_R (w : WF S g c0) : InR (aDis S g) := by
  unfold aDis
  have hN := nP w.1
  have := smI_b (f := fun k => bi (dsn (pB S g (S 2) k) (pA S g (S 2) k))) (m := 1) (k := S 0 * S 1) (by omega) (fun i _ _ => bi_b _)
  exact ⟨by omega, by omega⟩
theorem fNb_R {P : Int} : InR (fNb S g P) := by
  have := fre_b S
  unfold fNb
  repeat' split
  all_goals exact ⟨by omega, by omega⟩
/-- more calls -/
theorem WF.mono {c1 : Int} (w : WF S g c0) (h : c0 ≤ c1) : WF S g c1 := by
  obtain ⟨⟨a, b, d, e⟩, x⟩ := w
  exact ⟨⟨a, b, ⟨d.1, by omega⟩, e⟩, x⟩
end RG
