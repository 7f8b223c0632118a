/-! copies of a state -/
def cpI (a0 a1 : Nat) (F F' : Nat → Int → Int) (k : Int) : Prop := bu a0 F F' ∧ ∀ j, 0 ≤ j → j < k → F' a0 j = F a1 j
section CP
variable {h : Zm} {F F' : Nat → Int → Int} {a0 a1 A B : Nat} {S : Int → Int} {g : Nat → Int → Int}
theorem cp1 {Q : Zm → Prop} {d m0 m1 : Nat} {k : Int} (h0 : zkd h a0 = (d, m0)) (h1 : zkd h a1 = (d, m1)) (ne : a1 ≠ a0) (i : cpI a0 a1 F F' k) (q : ∀ F'', cpI a0 a1 F F'' (k + 1) → Q (zwI h F'')) : cGi (zwI h F') d a1 k fun v => cPi (zwI h F') d a0 k v Q := by
  refine f_gi h1 fun r => f_pi h0 r (q _ ⟨i.1.tr bu.up, fun j x y => ?_⟩)
  rw [up_e]
  by_cases e : j = k
  · rw [if_pos ⟨rfl, e⟩, e]
    exact i.1 _ _ ne
  · rw [if_neg (by omega)]
    exact i.2 j x (by omega)
theorem s_copyNode {Q : Zm → Prop} (h0 : zkd h a0 = (12, 18)) (h1 : zkd h a1 = (12, 18)) (ne : a1 ≠ a0) (q : ∀ F', bu a0 F F' → (∀ j, 0 ≤ j → j < 18 → F' a0 j = F a1 j) → Q (zwI h F')) : mX2_copyFrom a0 a1 (zwI h F) Q := by
  unfold mX2_copyFrom
  have i0 : cpI a0 a1 F F 0 := ⟨bu.rf, fun j x y => by omega⟩
  refine cp1 (k := 0) h0 h1 ne i0 fun F i => cp1 (k := 1) h0 h1 ne i fun F i => cp1 (k := 2) h0 h1 ne i fun F i => cp1 (k := 3) h0 h1 ne i fun F i => cp1 (k := 4) h0 h1 ne i fun F i => cp1 (k := 5) h0 h1 ne i fun F i => cp1 (k := 6) h0 h1 ne i fun F i => cp1 (k := 7) h0 h1 ne i fun F i => cp1 (k := 8) h0 h1 ne i fun F i => f_rc h0 ?_
  unfold mX2_takeBox
  refine cp1 (k := 9) h0 h1 ne i fun F i => cp1 (k := 10) h0 h1 ne i fun F i => cp1 (k := 11) h0 h1 ne i fun F i => cp1 (k := 12) h0 h1 ne i fun F i => f_rc h0 ?_
  unfold mX2_takeColor
  exact cp1 (k := 13) h0 h1 ne i fun F i => cp1 (k := 14) h0 h1 ne i fun F i => cp1 (k := 15) h0 h1 ne i fun F i => cp1 (k := 16) h0 h1 ne i fun F i => cp1 (k := 17) h0 h1 ne i fun F i => q F i.1 i.2
theorem s_copyCurve {Q : Zm → Prop} (k0 : kC h a0) (k1 : kC h a1) (ne : a1 + 3 ≤ a0 ∨ a0 + 3 ≤ a1) (q : ∀ F', fr a0 (a0 + 2) F F' → F' a0 2 = F a1 2 → (∀ i, 0 ≤ i → i < 8 → F' (a0 + 1) i = F (a1 + 1) i ∧ F' (a0 + 2) i = F (a1 + 2) i) → Q (zwI h F')) : mX0_copyFrom a0 a1 (zwI h F) Q := by
  unfold mX0_copyFrom mX0_copyFrom_H2
  obtain ⟨b1, b2, b3, b4, b5⟩ := k0
  obtain ⟨c1, c2, c3, c4, c5⟩ := k1
  refine lfp1_up (h := h) 8 (fun i F' => fr (a0 + 1) (a0 + 2) F F' ∧ 0 ≤ i ∧ ∀ c, 0 ≤ c → c < i → F' (a0 + 1) c = F (a1 + 1) c ∧ F' (a0 + 2) c = F (a1 + 2) c) (fun X i F' hi hI hX => ?_) 0 F (by decide) ⟨fr.rf, by decide, fun c x y => by omega⟩
  obtain ⟨f1, g2, g3⟩ := hI
  unfold mX0_copyFrom_B2
  refine f_lt ⟨by omega, by omega⟩ ⟨by decide, by decide⟩ (fun z => ?_) (fun z => ?_)
  · refine f_gr b1 b2 (f_gr c1 c2 (f_ld c4 g2 (by omega) fun r => f_st b4 g2 (by omega) r (f_gr b1 b3 (f_gr c1 c3 (f_ld c5 g2 (by omega) fun r2 => f_st b5 g2 (by omega) r2 (hX z _ ⟨(f1.tr (fr.up (by omega) (by omega))).tr (fr.up (by omega) (by omega)), by omega, fun c x y => ?_⟩))))))
    rw [up_a (show a1 + 2 ≠ a0 + 1 by omega), f1 (a1 + 1) i (by omega), f1 (a1 + 2) i (by omega)]
    simp only [up_e]
    by_cases e : c = i
    · rw [if_neg (by omega), if_pos ⟨trivial, e⟩, if_pos ⟨trivial, e⟩, e]
      exact ⟨rfl, rfl⟩
    · rw [if_neg (by omega), if_neg (by omega), if_neg (by omega), if_neg (by omega)]
      exact g3 c x (by omega)
  · refine f_gi c1 fun r => f_pi b1 r (q _ ((f1.wd (by omega) (by omega)).tr (fr.up (by omega) (by omega))) (by rw [up_s]; exact f1 _ _ (by omega)) (fun c x y => ?_))
    rw [up_a (by omega), up_a (by omega)]
    exact g3 c x (by omega)
theorem s_copyTree {Q : Zm → Prop} (k0 : kT h A) (k1 : kT h B) (ne : B + 52 ≤ A ∨ A + 52 ≤ B) (q : ∀ F', fr (A + 2) (A + 28) F F' → F' (A + 2) 3 = F (B + 2) 3 → (∀ k, 0 ≤ k → k < 24 → F' (A + 28) k = F (B + 28) k ∧ ∀ j, 0 ≤ j → j < 18 → F' (A + 4 + k.toNat) j = F (B + 4 + k.toNat) j) → Q (zwI h F')) : mX5_copyFrom (A + 2) (B + 2) (zwI h F) Q := by
  unfold mX5_copyFrom mX5_copyFrom_H2
  obtain ⟨⟨a1, a2, a3, a4⟩, ⟨a5, a6, a7⟩, a8⟩ := k0
  obtain ⟨⟨b1, b2, b3, b4⟩, ⟨b5, b6, b7⟩, b8⟩ := k1
  refine lfp1_up (h := h) 24 (fun i F' => fr (A + 2) (A + 28) F F' ∧ 0 ≤ i ∧ (∀ k, 0 ≤ k → k < i → F' (A + 28) k = F (B + 28) k ∧ ∀ j, 0 ≤ j → j < 18 → F' (A + 4 + k.toNat) j = F (B + 4 + k.toNat) j)) (fun X i F' hi hI hX => ?_) 0 F (by decide) ⟨fr.rf, by decide, fun c x y => by omega⟩
  obtain ⟨f1, g2, g3⟩ := hI
  unfold mX5_copyFrom_B2
  refine f_lt ⟨by omega, by omega⟩ ⟨by decide, by decide⟩ (fun z => ?_) (fun z => ?_)
  · have ha := a8 i g2 z
    have hb := b8 i g2 z
    refine f_gr a1 a2 (f_ldr a5 (by decide) g2 z ha.1 (f_gr b1 b2 (f_ldr b5 (by decide) g2 z hb.1 (f_rc ha.2 (s_copyNode ha.2 hb.2 (by omega) fun F2 b2' v2 => f_gr a1 a3 (f_gr b1 b3 (f_ld b6 g2 (by omega) fun r => f_st a6 g2 (by omega) r (hX z _ ⟨(f1.tr (b2'.fr (by omega) (by omega))).tr (fr.up (by omega) (by omega)), by omega, fun k x y => ⟨?_, fun j u v => ?_⟩⟩))))))))
    · rw [up_e]
      by_cases e : k = i
      · rw [if_pos ⟨rfl, e⟩, e, b2' _ _ (by omega)]
        exact f1 _ _ (by omega)
      · rw [if_neg (by omega), b2' _ _ (by omega)]
        exact (g3 k x (by omega)).1
    · rw [up_a (by omega)]
      by_cases e : k = i
      · rw [e, v2 j u v]
        exact f1 _ _ (by omega)
      · rw [b2' _ _ (by omega)]
        exact (g3 k x (by omega)).2 j u v
  · have hi24 : i = 24 := by omega
    subst hi24
    refine f_gi b1 fun r => f_pi a1 r (q _ (f1.tr (fr.up (by omega) (by omega))) (by rw [up_s]; exact f1 _ _ (by omega)) (fun k x y => ⟨?_, fun j u v => ?_⟩))
    · rw [up_a (by omega)]
      exact (g3 k x y).1
    · rw [up_a (by omega)]
      exact (g3 k x y).2 j u v
theorem s_copyState {Q : Zm → Prop} {c0 : Int} (k0 : kS h A) (k1 : kS h B) (ne : B + 52 ≤ A ∨ A + 52 ≤ B) (cs : CS F B S g) (w : WF S g c0) (q : ∀ F', fr A (A + 51) F F' → CS F' A S g → Q (zwI h F')) : mX4_copyFrom A B (zwI h F) Q := by
  unfold mX4_copyFrom
  obtain ⟨⟨a1, a2, a3, a4, a5, a6⟩, a7, a8⟩ := k0
  obtain ⟨⟨b1, b2, b3, b4, b5, b6⟩, b7, b8⟩ := k1
  have i0 : cpI A B F F 0 := ⟨bu.rf, fun j x y => by omega⟩
  have nAB : B ≠ A := by omega
  refine cp1 (k := 0) a1 b1 nAB i0 fun F1 i => cp1 (k := 1) a1 b1 nAB i fun F1 i => cp1 (k := 2) a1 b1 nAB i fun F1 i => cp1 (k := 3) a1 b1 nAB i fun F1 i => cp1 (k := 4) a1 b1 nAB i fun F1 i => ?_
  have f1 : fr A (A + 51) F F1 := i.1.fr (by omega) (by omega)
  unfold mX4_copyFrom_H42
  refine lfp1_up (h := h) 3 (fun i F' => fr A (A + 51) F F' ∧ 0 ≤ i ∧ (∀ j, 0 ≤ j → j < 5 → F' A j = S j) ∧ ∀ j, 0 ≤ j → j < i → F' (A + 1) j = S (5 + j)) (fun X i F' hi hI hX => ?_) 0 F1 (by decide) ⟨f1, by decide, fun j x y => by rw [i.2 j x y]; exact cs.1 j x y, fun c x y => by omega⟩
  obtain ⟨f2, g2, g3, g4⟩ := hI
  unfold mX4_copyFrom_B42
  refine f_lt ⟨by omega, by omega⟩ ⟨by decide, by decide⟩ (fun z => ?_) (fun z => ?_)
  · refine f_gr a1 a2 (f_gr b1 b2 (f_ldv (v := S (5 + i)) b5 g2 (by omega) (by rw [f2 _ _ (by omega)]; exact cs.2.1 i g2 z) fun r => f_st a5 g2 (by omega) r (hX z _ ⟨f2.tr (fr.up (by omega) (by omega)), by omega, fun j x y => ?_, fun j x y => ?_⟩)))
    · rw [up_a (by omega)]; exact g3 j x y
    · rw [up_e]
      by_cases e : j = i
      · rw [if_pos ⟨rfl, e⟩, e]
      · rw [if_neg (by omega)]; exact g4 j x (by omega)
  · refine f_gr a1 a3 (f_gr b1 b3 (f_rc a7.1.1 (s_copyTree a7 b7 ne fun F3 f3 c3 t3 => ?_)))
    have hc := w.2.2.2.1.1
    have nsF : ∀ k, 0 ≤ k → k < 24 → NS F3 (A + 4 + k.toNat) S g k := by
      intro k x y
      have hns := cs.2.2.2.2 k x y
      have hj : ∀ j, 0 ≤ j → j < 18 → F3 (A + 4 + k.toNat) j = F (B + 4 + k.toNat) j := fun j u v => by rw [(t3 k x y).2 j u v]; exact f2 _ _ (by omega)
      unfold NS at hns ⊢
      rw [hj 0 (by decide) (by decide), hj 1 (by decide) (by decide), hj 2 (by decide) (by decide), hj 3 (by decide) (by decide), hj 4 (by decide) (by decide), hj 5 (by decide) (by decide), hj 6 (by decide) (by decide), hj 7 (by decide) (by decide), hj 8 (by decide) (by decide), hj 9 (by decide) (by decide), hj 10 (by decide) (by decide), hj 11 (by decide) (by decide), hj 12 (by decide) (by decide), hj 13 (by decide) (by decide), hj 14 (by decide) (by decide), hj 15 (by decide) (by decide), hj 16 (by decide) (by decide), hj 17 (by decide) (by decide)]
      exact hns
    have ordF : F3 (A + 2) 3 = gc g ∧ ∀ t, 0 ≤ t → t < gc g → F3 (A + 28) t = go g t := ⟨by rw [c3, f2 _ _ (by omega)]; exact cs.2.2.2.1.1, fun t x y => by rw [(t3 t x (by omega)).1, f2 _ _ (by omega)]; exact cs.2.2.2.1.2 t x y⟩
    have g3' : ∀ j, 0 ≤ j → j < 5 → F3 A j = S j := fun j x y => by rw [f3 _ _ (by omega)]; exact g3 j x y
    have g4' : ∀ j, 0 ≤ j → j < 3 → F3 (A + 1) j = S (5 + j) := fun j x y => by rw [f3 _ _ (by omega)]; exact g4 j x (by omega)
    have f4 := f2.tr (f3.wd (show A ≤ A + 2 by omega) (show A + 28 ≤ A + 51 by omega))
    unfold mX4_copyFrom_H78
    refine lfp1_up (h := h) 7 (fun i F' => fr A (A + 51) F F' ∧ fr (A + 31) (A + 51) F3 F' ∧ 0 ≤ i ∧ ∀ p, 0 ≤ p → p < i → CC F' (A + 31 + 3 * p.toNat) (cc S p) (cp S p) (cq S p)) (fun X2 i F' hi hI hX2 => ?_) 0 F3 (by decide) ⟨f4, fr.rf, by decide, fun c x y => by omega⟩
    obtain ⟨f5, f6, i2, i3⟩ := hI
    unfold mX4_copyFrom_B78
    refine f_lt ⟨by omega, by omega⟩ ⟨by decide, by decide⟩ (fun u => ?_) (fun u => ?_)
    · have ha := a8 i i2 u
      have hb := b8 i i2 u
      refine f_gr a1 a4 (f_ldr a6 (by decide) i2 u ha.1 (f_gr b1 b4 (f_ldr b6 (by decide) i2 u hb.1 (f_rc ha.2.1 (s_copyCurve ha.2 hb.2 (by omega) fun F7 f7 c7 v7 => hX2 u _ ⟨f5.tr (f7.wd (by omega) (by omega)), f6.tr (f7.wd (by omega) (by omega)), by omega, fun p x y => ?_⟩)))))
      have hcc := cs.2.2.1 p x (by omega)
      have hw := w.1.2.2.2 p x (by omega)
      by_cases e : p = i
      · subst e
        have hcw := hw.1
        refine ⟨by rw [c7, f5 _ _ (by omega)]; exact hcc.1, fun j x y => ?_⟩
        have hv := v7 j x (by omega)
        rw [hv.1, hv.2, f5 _ _ (by omega), f5 _ _ (by omega)]
        exact hcc.2 j x y
      · exact (i3 p x (by omega)).keep fun b j x y => f7 _ _ (by omega)
    · refine q F' f5 ⟨fun j x y => ?_, fun j x y => ?_, fun p x y => i3 p x (by omega), ⟨?_, fun t x y => ?_⟩, fun k x y => ?_⟩
      · rw [f6 _ _ (by omega)]; exact g3' j x y
      · rw [f6 _ _ (by omega)]; exact g4' j x y
      · rw [f6 _ _ (by omega)]; exact ordF.1
      · rw [f6 _ _ (by omega)]; exact ordF.2 t x y
      · exact (nsF k x y).keep fun j => f6 _ _ (by omega)
end CP
