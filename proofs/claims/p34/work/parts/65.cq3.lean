/-! totals, ranks, needs: the class's -/
theorem smI_swap (f : Int → Int → Int) (N : Int) {m : Int} (hm : 0 ≤ m) : smI (fun p => smI (f p) N) m = smI (fun k => smI (fun p => f p k) m) N := by
  have key : ∀ a : Nat, smI (fun p => smI (f p) N) a = smI (fun k => smI (fun p => f p k) a) N := by
    intro a
    induction a with
    | zero =>
      show (0 : Int) = _
      have hz : ∀ b : Nat, sm (fun k => smI (fun p => f p k) (0 : Nat)) b = 0 := by
        intro b
        induction b with
        | zero => rfl
        | succ b ih =>
          show sm _ b + 0 = 0
          rw [ih]
          rfl
      exact (hz _).symm
    | succ a ih =>
      rw [show ((a + 1 : Nat) : Int) = (a : Int) + 1 by omega, smI_s _ (by omega), ih]
      have hadd : ∀ (u v : Int → Int) (b : Nat), sm (fun k => u k + v k) b = sm u b + sm v b := by
        intro u v b
        induction b with
        | zero => rfl
        | succ b ih2 =>
          show sm _ b + (u b + v b) = sm u b + u b + (sm v b + v b)
          rw [ih2]
          omega
      have e : (fun k => smI (fun p => f p k) ((a : Int) + 1)) = fun k => smI (fun p => f p k) a + f a k := by
        funext k
        exact smI_s _ (by omega)
      rw [e]
      unfold smI
      rw [hadd]
  have := key m.toNat
  rw [Int.toNat_of_nonneg hm] at this
  exact this
/-- how many of the first n stand before p -/
def rk (R : Int → Int → Prop) [∀ i j, Decidable (R i j)] (n p : Int) : Int := smI (fun i => bi (R i p)) n
theorem bi_b (p : Prop) [Decidable p] : 0 ≤ bi p ∧ bi p ≤ 1 := by
  rcases bi_01 p with e | e <;> rw [e] <;> decide
theorem cov_b {S : Int → Int} {g : Nat → Int → Int} {c0 a p : Int} (w : WF S g c0) (ha : 0 ≤ a ∧ a ≤ 100) (hp : 0 ≤ p ∧ p ≤ 7) {k : Int} (hk : 0 ≤ k ∧ k ≤ S 0 * S 1) : 0 ≤ smI (fun k => tl (pA S g a k) p) k ∧ smI (fun k => tl (pA S g a k) p) k ≤ 1799280 := by
  have h1 := smI_b (f := fun k => tl (pA S g a k) p) (m := 12495) hk.1 (fun i _ _ => tl_b (pA_r w ha i) hp.1 hp.2)
  have h2 := nP w.1
  omega
section CR
variable {h : Zm} {F : Nat → Int → Int} {n : Nat} {S : Int → Int} {g : Nat → Int → Int} {c0 : Int}
theorem s_sumOfB {Q : Int → Zm → Prop} {a : Nat} {A : Int → Int} (hk : zkd h a = (1, 7)) (hF : ∀ i, 0 ≤ i → i < 7 → F a i = A i) (hA : ∀ i, 0 ≤ i → i < 7 → 0 ≤ A i ∧ A i ≤ 1799280) (q : Q (smI A 7) (zwI h F)) : mX6_sumOf a (zwI h F) Q := by
  unfold mX6_sumOf mX6_sumOf_H10
  refine f_len hk (lfp2_up2 (h := h) 7 (fun v i F' => F' = F ∧ 0 ≤ i ∧ v = smI A i) (fun X v i F' hi hI hX => ?_) 0 0 F (by decide) ⟨rfl, by decide, rfl⟩)
  obtain ⟨rfl, g2, g3⟩ := hI
  unfold mX6_sumOf_B10
  have hv := smI_b (f := A) (m := 1799280) (k := i) g2 (fun c x y => hA c x (by omega))
  refine f_lt ⟨by omega, by omega⟩ ⟨by decide, by decide⟩ (fun z => f_ldv hk g2 z (hF i g2 z) fun _ => hX z _ _ ⟨rfl, by omega, ?_⟩) (fun z => ?_)
  · rw [smI_s A g2, g3]
  · have : i = 7 := by have : ((7 : Nat) : Int) = 7 := rfl; omega
    rw [g3, this]
    exact q
theorem s_addUpPlates {Q : Zm → Prop} (kd : kD h n) (cs : CS F (n + 1) S g) (w : WF S g c0) (q : ∀ F', fr (n + 316) (n + 466) F F' → (∀ p, 0 ≤ p → p < 7 → F' (n + 465) p = cov S g (S 2) p) → Q (zwI h F')) : mX6_addUpPlates n (zwI h F) Q := by
  unfold mX6_addUpPlates mX6_addUpPlates_H2
  have ha := w.1.1.2.1
  have tlp : ∀ (A : Int → Int) (p : Int), p < 7 → tl A p = A p := fun A p hp => if_neg (by omega)
  refine lfp1_up (h := h) 7 (fun i F' => fr (n + 316) (n + 466) F F' ∧ 0 ≤ i ∧ ∀ p, 0 ≤ p → p < i → F' (n + 465) p = 0) (fun X i F' hi hI hX => ?_) 0 F (by decide) ⟨fr.rf, by decide, fun p a b => by omega⟩
  obtain ⟨f1, g2, g3⟩ := hI
  unfold mX6_addUpPlates_B2
  refine f_lt ⟨by omega, by omega⟩ ⟨by decide, by decide⟩ (fun z => f_gr kd.k kd.to (f_st kd.kto g2 z z_in0 (hX z _ ⟨f1.tr (fr.up (by omega) (by omega)), by omega, fun p a b => ?_⟩))) (fun z => ?_)
  · rw [up_e]
    split
    · rfl
    · exact g3 p a (by omega)
  · unfold mX6_addUpPlates_H23
    refine grid1 (fun k F' => fr (n + 316) (n + 466) F F' ∧ ∀ p, 0 ≤ p → p < 7 → F' (n + 465) p = smI (fun k => tl (pA S g (S 2) k) p) k) kd w.1 (fun k F' hI => hI.1.cs (by omega) cs) (fun Xo X y x k F' hk hkr hd hp hI hX => ?_) (fun F' hI => q F' hI.1 hI.2) ⟨f1, fun p a b => by rw [g3 p a (by omega)]; rfl⟩
    obtain ⟨f2, v2⟩ := hI
    refine f_rc kd.k (s_separateAt kd (f2.cs (by omega) cs) w hp fun F3 f3 e3 l3 => ?_)
    have hl : ∀ i, 0 ≤ i → i < 7 → F3 (n + 318) i = pA S g (S 2) k i := by
      unfold pA pB pT
      rw [hd.1, hd.2]
      exact l3
    unfold mX6_addUpPlates_H55
    refine lfp1_up (h := h) 7 (fun i F' => fr (n + 316) (n + 466) F F' ∧ 0 ≤ i ∧ (∀ p, 0 ≤ p → p < 7 → F' (n + 318) p = pA S g (S 2) k p) ∧ ∀ p, 0 ≤ p → p < 7 → F' (n + 465) p = smI (fun k => tl (pA S g (S 2) k) p) (if p < i then k + 1 else k)) (fun X2 i F' hi hI hX2 => ?_) 0 F3 (by decide) ⟨f2.tr (f3.wd (by omega) (by omega)), by decide, hl, fun p a b => by rw [if_neg (by omega), f3 _ _ (by omega)]; exact v2 p a b⟩
    obtain ⟨f4, i2, l4, v4⟩ := hI
    unfold mX6_addUpPlates_B55
    refine f_lt ⟨by omega, by omega⟩ ⟨by decide, by decide⟩ (fun u => ?_) (fun u => hX F' ⟨f4, fun p a b => by rw [v4 p a b, if_pos (by omega)]⟩)
    have h1 := cov_b w ha ⟨i2, by omega⟩ (k := k) ⟨hkr.1, by omega⟩
    have h2 := pA_r w ha k i i2 u
    refine f_gr kd.k kd.to (f_ldv kd.kto i2 u (v := smI (fun k => tl (pA S g (S 2) k) i) k) (by rw [v4 i i2 u, if_neg (by omega)]) fun _ => f_gr kd.k kd.px (f_gr kd.kp.1.1 kd.kp.1.2.2.2 (f_ldv kd.kp.2.2.2 i2 u (l4 i i2 u) fun _ => f_st kd.kto i2 u ⟨by omega, by omega⟩ (hX2 u _ ⟨f4.tr (fr.up (by omega) (by omega)), by omega, fun p a b => ?_, fun p a b => ?_⟩))))
    · rw [up_a (by omega)]
      exact l4 p a b
    · rw [up_e]
      by_cases e : p = i
      · subst e
        rw [if_pos ⟨rfl, rfl⟩, if_pos (by omega), smI_s _ hkr.1, tlp _ _ b]
      · rw [if_neg (by omega), v4 p a b]
        by_cases e2 : p < i
        · rw [if_pos e2, if_pos (by omega)]
        · rw [if_neg e2, if_neg (by omega)]
theorem s_coverage6 {Q : Int → Zm → Prop} {p : Int} (kd : kD h n) (cs : CS F (n + 1) S g) (w : WF S g c0) (hp : InR p) (q : ∀ F', fr (n + 316) (n + 466) F F' → Q (aCov S g p) (zwI h F')) : mX6_coverage n p (zwI h F) Q := by
  unfold mX6_coverage
  unfold aCov at q
  have ha := w.1.1.2.1
  have hN := nP w.1
  refine s_within hp z_in0 ⟨by decide, by decide⟩ (f_bi (fun z => ?_) (fun z => ?_))
  · rw [if_pos z] at q
    refine f_rc kd.k (s_addUpPlates kd cs w fun F1 f1 v1 => f_eq hp ⟨by decide, by decide⟩ (fun e => ?_) (fun e => ?_))
    · refine f_gr kd.k kd.to (s_sumOfB kd.kto v1 (fun i a b => cov_b w ha ⟨a, by omega⟩ ⟨by omega, Int.le_refl _⟩) ?_)
      have e1 : smI (cov S g (S 2)) 7 = cov S g (S 2) p := by
        rw [e]
        show smI (fun p => smI (fun k => tl (pA S g (S 2) k) p) (S 0 * S 1)) 7 = _
        rw [smI_swap _ _ (by decide)]
        unfold cov
        refine smI_c fun i a b => ?_
        show _ = tl (pA S g (S 2) i) 7
        rw [show tl (pA S g (S 2) i) 7 = smI (pA S g (S 2) i) 7 from if_pos rfl]
        exact smI_c fun j c d => if_neg (by omega)
      rw [e1]
      exact q F1 f1
    · exact f_gr kd.k kd.to (f_ldv kd.kto z.1 (by omega) (v1 p z.1 (by omega)) fun _ => q F1 f1)
  · rw [if_neg z] at q
    exact q F fr.rf
end CR
