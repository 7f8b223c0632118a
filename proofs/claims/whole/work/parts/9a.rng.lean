/-! the answers are numbers of the machine -/
section RG
variable {S : Int → Int} {g : Nat → Int → Int} {c0 : Int}
theorem R_1 : InR (-1) := ⟨by decide, by decide⟩
theorem R_2 : InR (-2) := ⟨by decide, by decide⟩
theorem aRend_R (w : WF S g c0) (x y p : Int) : InR (aRend S g x y p) := by
  unfold aRend
  split
  · rename_i z
    have := px_r w x y p z.2.1 (by omega)
    exact ⟨by omega, by omega⟩
  · exact R_1
theorem aInk_R (w : WF S g c0) (x y p : Int) : InR (aInk S g x y p) := by
  unfold aInk
  split
  · rename_i z
    have := tl_b (A := aft S (bef S (S 2) (rnd S g x y (gc g).toNat))) (fun _ a b => aft_r w.1 (fun _ c d => bef_r w.1 (px_r w x y) w.1.1.2.1 c d) a b) z.2.1 z.2.2
    exact ⟨by omega, by omega⟩
  · exact R_1
theorem aInkOf_R (w : WF S g c0) (x p : Int) : InR (aInkOf S x p) := by
  unfold aInkOf
  split
  · rename_i z
    have := tl_b (A := aft S (bef S (S 2) (cT x))) (fun _ a b => aft_r w.1 (fun _ c d => bef_r w.1 (cT_b z.1) w.1.1.2.1 c d) a b) z.2.1 z.2.2
    exact ⟨by omega, by omega⟩
  · exact R_1
theorem aTouch_R (w : WF S g c0) (x y : Int) : InR (aTouch S g x y) := by
  have key : ∀ t : Nat, (t : Int) < gc g → -4 ≤ tch S g x y t ∧ tch S g x y t ≤ 23 := by
    intro t
    induction t with
    | zero =>
      intro _
      show (-4 : Int) ≤ -4 ∧ (-4 : Int) ≤ 23
      decide
    | succ t ih =>
      intro h
      have hl := (w.2.2.2.2.1 ((t : Int) + 1) (by omega) (by omega)).1
      have := ih (by omega)
      unfold tch
      split
      · omega
      · exact this
  unfold aTouch
  split
  · have hc := w.2.2.2.1.1
    have := key (gc g - 1).toNat (by omega)
    exact ⟨by omega, by omega⟩
  · exact R_1
theorem aCov_R (w : WF S g c0) (p : Int) : InR (aCov S g p) := by
  unfold aCov
  split
  · rename_i z
    have hN := nP w.1
    have := cov_b w w.1.1.2.1 z (k := S 0 * S 1) ⟨by omega, Int.le_refl _⟩
    unfold cov
    exact ⟨by omega, by omega⟩
  · exact R_1
theorem fnd_b (f : Int → Int) (v : Int) {n : Int} (hn : 0 ≤ n) : fnd f v n = -4 ∨ (0 ≤ fnd f v n ∧ fnd f v n < n) := by
  have key : ∀ m : Nat, fnd f v m = -4 ∨ (0 ≤ fnd f v m ∧ fnd f v m < m) := by
    intro m
    induction m with
    | zero => exact Or.inl rfl
    | succ m ih =>
      rw [show ((m + 1 : Nat) : Int) = (m : Int) + 1 by omega, fnd_s f v (by omega)]
      split <;> omega
  have := key n.toNat
  rw [Int.toNat_of_nonneg hn] at this
  exact this
theorem aPlate_R (p : Int) : InR (aPlate S g p) := by
  unfold aPlate
  split
  · have := fnd_b (rk (pbf (cov S g (S 2))) 7) p (n := 7) (by decide)
    exact ⟨by omega, by omega⟩
  · exact R_1
theorem aGreat_R (w : WF S g c0) : InR (aGreat S g) := by
  unfold aGreat
  have := mxI_b (f := fun k => smI (pA S g (S 2) k) 7) (m := 12495) (k := S 0 * S 1) (by decide) (fun i _ _ => by
    have := smI_b (f := pA S g (S 2) i) (m := 1785) (k := 7) (by decide) (pA_r w w.1.1.2.1 i)
    omega)
  exact ⟨by omega, by omega⟩
theorem aNeed_R (w : WF S g c0) : InR (aNeed S g) := by
  unfold aNeed
  have := mxI_b (f := fun k => smI (pB S g (S 2) k) 7) (m := 1785) (k := S 0 * S 1) (by decide) (fun i _ _ => by
    have := smI_b (f := pB S g (S 2) i) (m := 255) (k := 7) (by decide) (pB_r w w.1.1.2.1 i)
    omega)
  exact ⟨by omega, by omega⟩
theorem aLim_R (w : WF S g c0) : InR (aLim S g) := by
  unfold aLim
  have hN := nP w.1
  have := smI_b (f := fun k => bi (¬ sm7 (pB S g (S 2) k) (pA S g (S 2) k))) (m := 1) (k := S 0 * S 1) (by omega) (fun i _ _ => bi_b _)
  exact ⟨by omega, by omega⟩
theorem aDis_R (w : WF S g c0) : InR (aDis S g) := by
  unfold aDis
  have hN := nP w.1
  have := smI_b (f := fun k => bi (dsn (pB S g (S 2) k) (pA S g (S 2) k))) (m := 1) (k := S 0 * S 1) (by omega) (fun i _ _ => bi_b _)
  exact ⟨by omega, by omega⟩
theorem aInks_R (w : WF S g c0) : InR (aInks S g) := by
  unfold aInks
  have hN := nP w.1
  have := (tab_TI w (k := S 0 * S 1) (by omega)).1
  exact ⟨by omega, by omega⟩
theorem aInkAt_R (w : WF S g c0) (p x : Int) : InR (aInkAt S g p x) := by
  unfold aInkAt
  split
  · rename_i z
    have hN := nP w.1
    have ti := tab_TI w (k := S 0 * S 1) (by omega)
    generalize tab S g (S 0 * S 1) = T at ti
    unfold tat
    split
    · exact ⟨by decide, by decide⟩
    · rename_i e
      have hf := fnd_b (rk (cb T.2) T.1) p ti.1.1
      have := ti.2.1 _ (show 0 ≤ fnd (rk (cb T.2) T.1) p T.1 by omega) (by omega)
      generalize fnd (rk (cb T.2) T.1) p T.1 = r at this
      obtain ⟨t1, t2, t3⟩ := this
      rcases (show x < 7 ∨ x = 7 ∨ x = 8 by omega) with y | y | y
      · have := t1 x z.2.1 y
        exact ⟨by omega, by omega⟩
      · rw [y]; exact ⟨by omega, by omega⟩
      · rw [y]; exact ⟨by omega, by omega⟩
  · exact R_1
theorem aThrift_R : InR (aThrift S g) := by
  unfold aThrift
  have := bst_b (fun a => cov S g a 7) (k := 100) (by decide)
  exact ⟨by omega, by omega⟩
theorem aCurve_R (ws : WS S c0) (p v : Int) : InR (aCurve S p v) := by
  unfold aCurve
  split
  · rename_i z
    have := cval_r (ws.2.2.2 p z.1.1 (by omega)) z.2.1 z.2.2
    exact ⟨by omega, by omega⟩
  · exact R_1
theorem aInv_R (p v : Int) : InR (aInv S p v) := by
  unfold aInv inv
  have := ffi_le (fun x => v ≤ cval (cp S p) (cq S p) x) (n := 256) (by decide)
  split
  · split
    · exact ⟨by omega, by omega⟩
    · exact ⟨by decide, by decide⟩
  · exact R_1
theorem chs_R (x b : Int) : InR (chs S x b) := by
  unfold chs
  have := smI_b (f := fun k => bi (1 ≤ k ∧ 0 ≤ nk S k ∧ np S k = x ∧ no S k < b)) (m := 1) (k := 24) (by decide) (fun i _ _ => bi_b _)
  exact ⟨by omega, by omega⟩
theorem en_R (w : WF S g c0) {x : Int} (hl : live S x) : 0 ≤ pos g x ∧ pos g x < en g (pos g x) ∧ en g (pos g x) ≤ 24 := by
  obtain ⟨⟨p0, p1⟩, p2⟩ := pos_ok w.2.2.2 hl
  have := (en_SE p0 p1).1
  have := w.2.2.2.1.1
  omega
theorem aInfo_R (w : WF S g c0) (x p : Int) : InR (aInfo S g x p) := by
  unfold aInfo
  split
  · rename_i z
    have hl : live S x := z.1
    have h1 := w.2.1.2.1 x z.1.1.1 z.1.1.2
    have h2 := gd_b w hl
    have h3 := en_R w hl
    have h4 : -1 ≤ np S x ∧ np S x ≤ 23 := by
      by_cases e : x = 0
      · rw [e, w.2.1.1.2.1]; decide
      · have := (w.2.2.1.2.1 x hl e).1.1
        omega
    repeat' split
    · exact ⟨by omega, by omega⟩
    · exact ⟨by omega, by omega⟩
    · exact ⟨by omega, by omega⟩
    · exact chs_R _ _
    · exact ⟨by omega, by omega⟩
    · exact z_in0
    · exact chs_R _ _
  · exact R_1
theorem gc_R (w : WF S g c0) : InR (gc g) := by
  have := w.2.2.2.1.1
  exact ⟨by omega, by omega⟩
theorem fNb_R {P : Int} : InR (fNb S g P) := by
  have := fre_b S
  unfold fNb
  repeat' split
  all_goals exact ⟨by omega, by omega⟩
theorem fPt_R {p u v : Int} : InR (fPt S p u v) := by
  unfold fPt
  repeat' split
  all_goals exact ⟨by decide, by decide⟩
theorem fRm_R {p u : Int} : InR (fRm S p u) := by
  unfold fRm
  repeat' split
  all_goals exact ⟨by decide, by decide⟩
theorem aSim_R (w : WF S g c0) {p : Int} (hp : 0 ≤ p ∧ p ≤ 6) : InR (aSim S p) := by
  have hw := w.1.2.2.2 p hp.1 (by omega)
  unfold aSim
  have := mxI_b (f := dfv S (rSim S p) p) (m := 255) (k := 256) (by decide) (fun i a b => dfv_b hw (wfC_rSim hw) a (by omega))
  exact ⟨by omega, by omega⟩
/-- more calls -/
theorem WF.mono {c1 : Int} (w : WF S g c0) (h : c0 ≤ c1) : WF S g c1 := by
  obtain ⟨⟨a, b, d, e⟩, x⟩ := w
  exact ⟨⟨a, b, ⟨d.1, by omega⟩, e⟩, x⟩
end RG
