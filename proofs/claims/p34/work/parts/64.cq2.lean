/-! questions about the page as a whole: the class's -/
section GR
variable {h : Zm} {F : Nat → Int → Int} {n : Nat} {S : Int → Int} {g : Nat → Int → Int} {c0 : Int}
theorem grid1 {Qv : Zm → Prop} {Bd : (Int → Zm → Prop) → (Int → Zm → Prop) → Int → Int → Zm → Prop} (I : Int → (Nat → Int → Int) → Prop) (kd : kD h n) (ws : WS S c0) (hcs : ∀ k F', I k F' → CS F' (n + 1) S g) (st : ∀ (Xo X : Int → Zm → Prop) (y x k : Int) (F' : Nat → Int → Int), k = y * S 0 + x → (0 ≤ k ∧ k < S 0 * S 1) → (k % S 0 = x ∧ k / S 0 = y) → isP S x y → I k F' → (∀ F'', I (k + 1) F'' → X (x + 1) (zwI h F'')) → Bd Xo X y x (zwI h F')) (q : ∀ F', I (S 0 * S 1) F' → Qv (zwI h F')) (h0 : I 0 F) : lfp1 (fun X1 x1 h => cGr h 16 n 0 fun r3 => cGi h 14 r3 1 fun v4 => cLt x1 v4 (lfp1 (fun X2 x2 h => cGr h 16 n 0 fun r5 => cGi h 14 r5 0 fun v6 => cLt x2 v6 (Bd X1 X2 x1 x2 h) (X1 (x1 + 1) h)) 0 h) (Qv h)) 0 (zwI h F) := by
  have hs := ws.1.1
  refine lfp1_up (h := h) (S 1) (fun y F' => 0 ≤ y ∧ I (y * S 0) F') (fun Xo y F' hy hI hXo => ?_) 0 F (by omega) ⟨Int.le_refl _, by rw [Int.zero_mul]; exact h0⟩
  obtain ⟨y0, hI⟩ := hI
  refine f_gr kd.k kd.pg (f_giv kd.ks.1.1 ((hcs _ _ hI).1 1 (by decide) (by decide)) fun r1 => f_lt ⟨by omega, by omega⟩ r1 (fun z => ?_) (fun z => ?_))
  · refine lfp1_up (h := h) (S 0) (fun x F'' => 0 ≤ x ∧ I (y * S 0 + x) F'') (fun X x F'' hx hJ hX => ?_) 0 F' (by omega) ⟨Int.le_refl _, by rw [Int.add_zero]; exact hI⟩
    obtain ⟨x0, hJ⟩ := hJ
    refine f_gr kd.k kd.pg (f_giv kd.ks.1.1 ((hcs _ _ hJ).1 0 (by decide) (by decide)) fun r0 => f_lt ⟨by omega, by omega⟩ r0 (fun u => ?_) (fun u => hXo z _ ⟨by omega, ?_⟩))
    · exact st Xo X y x _ F'' rfl (kP_lt x0 u y0 z) (gdiv x0 u) ⟨⟨x0, by omega⟩, ⟨y0, by omega⟩⟩ hJ (fun F3 h3 => hX u F3 ⟨by omega, by rw [← Int.add_assoc]; exact h3⟩)
    · have : x = S 0 := by omega
      subst this
      rw [Int.add_mul, Int.one_mul]
      exact hJ
  · have : y = S 1 := by omega
    rw [this, Int.mul_comm] at hI
    exact q F' hI
theorem grid2 {Q : Int → Zm → Prop} {Kd : (Int → Int → Zm → Prop) → Int → Int → Int → Zm → Prop} (G : Int → Int) (kd : kD h n) (cs : CS F (n + 1) S g) (w : WF S g c0) (st : ∀ (X : Int → Int → Zm → Prop) (v y x k : Int) (F' : Nat → Int → Int), v = G k → (0 ≤ k ∧ k < S 0 * S 1) → (∀ i, 0 ≤ i → i < 7 → F' (n + 317) i = pB S g (S 2) k i) → (∀ i, 0 ≤ i → i < 7 → F' (n + 318) i = pA S g (S 2) k i) → (∀ v', v' = G (k + 1) → X v' (x + 1) (zwI h F')) → Kd X v y x (zwI h F')) (q : ∀ F', fr (n + 316) (n + 466) F F' → Q (G (S 0 * S 1)) (zwI h F')) (h0 : G 0 = 0) : lfp2 (fun X4 x1 x2 h => cGr h 16 n 0 fun r1 => cGi h 14 r1 1 fun v2 => cLt x2 v2 (lfp2 (fun X17 x1 x3 h => cGr h 16 n 0 fun r3 => cGi h 14 r3 0 fun v4 => cLt x3 v4 (cRc h 16 n (mX6_separateAt n x3 x2 h (Kd X17 x1 x2 x3))) (X4 x1 (x2 + 1) h)) x1 0 h) (Q x1 h)) 0 0 (zwI h F) := by
  have hs := w.1.1.1
  refine lfp2_up2 (h := h) (S 1) (fun v y F' => fr (n + 316) (n + 466) F F' ∧ 0 ≤ y ∧ v = G (y * S 0)) (fun Xo v y F' hy hI hXo => ?_) 0 0 F (by omega) ⟨fr.rf, Int.le_refl _, by rw [Int.zero_mul, h0]⟩
  obtain ⟨f1, y0, hv⟩ := hI
  have cs1 := f1.cs (by omega) cs
  refine f_gr kd.k kd.pg (f_giv kd.ks.1.1 (cs1.1 1 (by decide) (by decide)) fun r1 => f_lt ⟨by omega, by omega⟩ r1 (fun z => ?_) (fun z => ?_))
  · refine lfp2_up2 (h := h) (S 0) (fun v x F'' => fr (n + 316) (n + 466) F F'' ∧ 0 ≤ x ∧ v = G (y * S 0 + x)) (fun X v x F'' hx hJ hX => ?_) v 0 F' (by omega) ⟨f1, Int.le_refl _, by rw [Int.add_zero]; exact hv⟩
    obtain ⟨f2, x0, hv2⟩ := hJ
    have cs2 := f2.cs (by omega) cs
    refine f_gr kd.k kd.pg (f_giv kd.ks.1.1 (cs2.1 0 (by decide) (by decide)) fun r0 => f_lt ⟨by omega, by omega⟩ r0 (fun u => ?_) (fun u => hXo z _ _ ⟨f2, by omega, ?_⟩))
    · obtain ⟨d1, d2⟩ := gdiv (y := y) x0 u
      refine f_rc kd.k (s_separateAt kd cs2 w ⟨⟨x0, by omega⟩, ⟨y0, by omega⟩⟩ fun F3 f3 e3 l3 => st X v y x (y * S 0 + x) F3 hv2 (kP_lt x0 u y0 z) ?_ ?_ (fun v' hv' => hX u v' F3 ⟨f2.tr (f3.wd (by omega) (by omega)), by omega, by rw [← Int.add_assoc]; exact hv'⟩))
      · unfold pB pT
        rw [d1, d2]
        exact e3
      · unfold pA pB pT
        rw [d1, d2]
        exact l3
    · have : x = S 0 := by omega
      subst this
      rw [Int.add_mul, Int.one_mul]
      exact hv2
  · have : y = S 1 := by omega
    rw [this, Int.mul_comm] at hv
    rw [hv]
    exact q F' f1
theorem s_greatestSum6 {Q : Int → Zm → Prop} (kd : kD h n) (cs : CS F (n + 1) S g) (w : WF S g c0) (q : ∀ F', fr (n + 316) (n + 466) F F' → Q (aGreat S g) (zwI h F')) : mX6_greatestSum n (zwI h F) Q := by
  have ha := w.1.1.2.1
  unfold mX6_greatestSum mX6_greatestSum_H4
  refine grid2 (mxI (fun k => smI (pA S g (S 2) k) 7)) kd cs w (fun X v y x k F' hv hk e l hX => ?_) q rfl
  have hb : ∀ i, 0 ≤ i → 0 ≤ smI (pA S g (S 2) i) 7 ∧ smI (pA S g (S 2) i) 7 ≤ 12495 := fun i _ => smI_b (m := 1785) (by decide) (pA_r w ha i)
  have hm := mxI_b (f := fun k => smI (pA S g (S 2) k) 7) (m := 12495) (k := k) (by decide) (fun i a _ => hb i a)
  have hk' := hb k hk.1
  refine f_gr kd.k kd.px (f_gr kd.kp.1.1 kd.kp.1.2.2.2 (s_sumOf kd.kp.2.2.2 l (pA_r w ha k) (s_max ⟨by omega, by omega⟩ ⟨by omega, by omega⟩ (hX _ ?_))))
  rw [mxI_s _ hk.1, hv]
theorem s_neededLimit6 {Q : Int → Zm → Prop} (kd : kD h n) (cs : CS F (n + 1) S g) (w : WF S g c0) (q : ∀ F', fr (n + 316) (n + 466) F F' → Q (aNeed S g) (zwI h F')) : mX6_neededLimit n (zwI h F) Q := by
  have ha := w.1.1.2.1
  unfold mX6_neededLimit mX6_neededLimit_H4
  refine grid2 (mxI (fun k => smI (pB S g (S 2) k) 7)) kd cs w (fun X v y x k F' hv hk e l hX => ?_) q rfl
  have hb : ∀ i, 0 ≤ i → 0 ≤ smI (pB S g (S 2) i) 7 ∧ smI (pB S g (S 2) i) 7 ≤ 12495 := fun i _ => smI_b (m := 1785) (by decide) (pB_r w ha i).r7
  have hm := mxI_b (f := fun k => smI (pB S g (S 2) k) 7) (m := 12495) (k := k) (by decide) (fun i a _ => hb i a)
  have hk' := hb k hk.1
  refine f_gr kd.k kd.px (f_gr kd.kp.1.1 kd.kp.1.2.2.1 (s_sumOf kd.kp.2.2.1 e (pB_r w ha k).r7 (s_max ⟨by omega, by omega⟩ ⟨by omega, by omega⟩ (hX _ ?_))))
  rw [mxI_s _ hk.1, hv]
theorem s_limitedPixels6 {Q : Int → Zm → Prop} (kd : kD h n) (cs : CS F (n + 1) S g) (w : WF S g c0) (q : ∀ F', fr (n + 316) (n + 466) F F' → Q (aLim S g) (zwI h F')) : mX6_limitedPixels n (zwI h F) Q := by
  unfold mX6_limitedPixels mX6_limitedPixels_H4
  refine grid2 (smI (fun k => bi (¬ sm7 (pB S g (S 2) k) (pA S g (S 2) k)))) kd cs w (fun X v y x k F' hv hk e l hX => ?_) q rfl
  refine f_gr kd.k kd.px (f_gr kd.kp.1.1 kd.kp.1.2.2.1 (f_gr kd.k kd.px (f_gr kd.kp.1.1 kd.kp.1.2.2.2 (s_sameValues kd.kp.2.2.1 kd.kp.2.2.2 (by decide) (by decide) e l (f_bi (fun z => hX _ ?_) (fun z => hX _ ?_))))))
  · rw [smI_s _ hk.1, hv]
    show _ = _ + bi _
    rw [bi_f (fun t => t z)]
    omega
  · rw [smI_s _ hk.1, hv]
    show _ = _ + bi _
    rw [bi_t z]
theorem s_disorderedPixels6 {Q : Int → Zm → Prop} (kd : kD h n) (cs : CS F (n + 1) S g) (w : WF S g c0) (q : ∀ F', fr (n + 316) (n + 466) F F' → Q (aDis S g) (zwI h F')) : mX6_disorderedPixels n (zwI h F) Q := by
  unfold mX6_disorderedPixels mX6_disorderedPixels_H4
  refine grid2 (smI (fun k => bi (dsn (pB S g (S 2) k) (pA S g (S 2) k)))) kd cs w (fun X v y x k F' hv hk e l hX => ?_) q rfl
  refine f_gr kd.k kd.px (f_rc kd.kp.1.1 (s_isDisordered3 kd.kp e l (f_bi (fun z => hX _ ?_) (fun z => hX _ ?_))))
  · rw [smI_s _ hk.1, hv]
    show _ = _ + bi _
    rw [bi_t z]
  · rw [smI_s _ hk.1, hv]
    show _ = _ + bi _
    rw [bi_f z]
    omega
end GR
