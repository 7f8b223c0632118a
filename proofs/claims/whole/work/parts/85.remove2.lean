/-! remove: the class's -/
section RMD
variable {h : Zm} {F : Nat → Int → Int} {A n : Nat} {S : Int → Int} {g : Nat → Int → Int} {c0 k : Int} {Hs : Int → Int → Int} {Hg : Int → Nat → Int → Int} {b : Int → Nat}
theorem s_cutAndFree {Q : Int → Zm → Prop} {x : Int} (kt : kT h A) (cs : CS F A S g) (w : WF S g c0) (hl : live S x) (q : ∀ F', fr (A + 2) (A + 29) F F' → CS F' A (rKill S g (pos g x) (en g (pos g x))) (gcut g (pos g x) (en g (pos g x) - pos g x)) → Q (en g (pos g x) - pos g x) (zwI h F')) : mX5_cutAndFree (A + 2) x (zwI h F) Q := by
  unfold mX5_cutAndFree
  obtain ⟨⟨k1, k2, k3, k4⟩, ⟨k5, k6, k7⟩, k8⟩ := id kt
  have wo := w.2.2.2
  have hc := wo.1.1
  obtain ⟨⟨p0, p1⟩, p2⟩ := pos_ok wo hl
  have he := (en_SE p0 p1).1
  refine f_rc k1 (s_cutOut kt cs.os w hl fun F1 f1 n1 c1 o1 => ?_)
  have kl := rKill_KL (s := pos g x) (e := en g (pos g x)) w
  have rk := fun k => rKill_k (S := S) (g := g) (s := pos g x) (e := en g (pos g x)) (k := k)
  have ro := fun j => rKill_o (S := S) (g := g) (s := pos g x) (e := en g (pos g x)) (j := j)
  generalize pos g x = s at *
  generalize en g s = e at *
  have fn : ∀ k : Int, 0 ≤ k → k < 24 → ∀ j, F1 (A + 4 + k.toNat) j = F (A + 4 + k.toNat) j := fun k a b j => f1 _ _ (by omega) (by omega) (by omega)
  unfold mX5_cutAndFree_H8
  refine lfp1_up (h := h) (e - s) (fun i F2 => fr (A + 4) (A + 27) F1 F2 ∧ 0 ≤ i ∧ ∀ k, 0 ≤ k → k < 24 → ((∃ t, (0 ≤ t ∧ t < i) ∧ go g (s + t) = k) → F2 (A + 4 + k.toNat) 0 = -1) ∧ ((¬ ∃ t, (0 ≤ t ∧ t < i) ∧ go g (s + t) = k) → ∀ j, F2 (A + 4 + k.toNat) j = F (A + 4 + k.toNat) j) ∧ ∀ j, 2 ≤ j → F2 (A + 4 + k.toNat) j = F (A + 4 + k.toNat) j) (fun X i F2 hi hI hX => ?_) 0 F1 (by omega) ⟨fr.rf, Int.le_refl _, fun k a b => ⟨fun y => by obtain ⟨t, y1, -⟩ := y; omega, fun _ => fn k a b, fun j _ => fn k a b j⟩⟩
  obtain ⟨f2, i0, i1⟩ := hI
  unfold mX5_cutAndFree_B8
  refine f_lt ⟨by omega, by omega⟩ ⟨by omega, by omega⟩ (fun z => ?_) (fun z => ?_)
  · have hli := wo.2.1 (s + i) (by omega) (by omega)
    have hli1 := hli.1
    have hk := (k8 _ hli.1.1 hli.1.2).2
    refine f_gr k1 k4 (f_ldv (v := go g (s + i)) k7 i0 (by omega) (by rw [f2 _ _ (by omega)]; exact c1 i i0 z) fun _ => f_rc k1 (s_nodeAt kt hli.1.1 hli.1.2 (f_pi hk ⟨by decide, by decide⟩ (f_pi hk ⟨by decide, by decide⟩ (hX z _ ⟨(f2.tr (fr.up (by omega) (by omega))).tr (fr.up (by omega) (by omega)), by omega, fun k a b => ?_⟩)))))
    have hi1 := i1 k a b
    by_cases ek : go g (s + i) = k
    · subst ek
      refine ⟨fun _ => by rw [up_n (by omega), up_s], fun y => absurd ⟨i, ⟨i0, by omega⟩, rfl⟩ y, fun j y => by rw [up_n (by omega), up_n (by omega)]; exact hi1.2.2 j y⟩
    · have ne : A + 4 + k.toNat ≠ A + 4 + (go g (s + i)).toNat := by omega
      refine ⟨fun y => ?_, fun y j => ?_, fun j y => ?_⟩
      · rw [up_a ne, up_a ne]
        obtain ⟨t, y1, y2⟩ := y
        refine hi1.1 ⟨t, ⟨y1.1, ?_⟩, y2⟩
        rcases Int.lt_or_le t i with u | u
        · exact u
        · have : t = i := by omega
          rw [this] at y2
          exact absurd y2 ek
      · rw [up_a ne, up_a ne]
        refine hi1.2.1 (fun y2 => y ?_) j
        obtain ⟨t, y1, y3⟩ := y2
        exact ⟨t, ⟨y1.1, by omega⟩, y3⟩
      · rw [up_a ne, up_a ne]
        exact hi1.2.2 j y
  · have ei : i = e - s := by omega
    subst ei
    have fA : ∀ b j, (b < A + 2 ∨ A + 29 < b) → F2 b j = F b j := fun b j y => by rw [f2 _ _ (by omega)]; exact f1 _ _ (by omega) (by omega) (by omega)
    refine q F2 fA ⟨fun j a b => ?_, fun j a b => ?_, fun p a b => ?_, ⟨?_, fun t a b => ?_⟩, fun k a b => ?_⟩
    · rw [fA _ _ (by omega), ro _ (by omega)]; exact cs.1 j a b
    · rw [fA _ _ (by omega), ro _ (by omega)]; exact cs.2.1 j a b
    · have hw := (w.1.2.2.2 p a b).1
      have e1 : cc (rKill S g s e) p = cc S p := ro _ (by omega)
      rw [e1]
      exact CC_cg ((cs.2.2.1 p a b).keep fun b j x y => fA _ _ (by omega)) (fun i x y => ⟨ro _ (by omega), ro _ (by omega)⟩)
    · rw [f2 _ _ (by omega)]; exact n1
    · have b : t < gc g - (e - s) := b
      rw [f2 _ _ (by omega)]
      exact o1 t a b
    · have ns := cs.2.2.2.2 k a b
      have hi1 := i1 k a b
      by_cases y : ∃ t, (0 ≤ t ∧ t < e - s) ∧ go g (s + t) = k
      · have e0 := hi1.1 y
        obtain ⟨t, y1, y2⟩ := y
        have hlk := wo.2.1 (s + t) (by omega) (by omega)
        have hpk := pos_u wo (show 0 ≤ s + t by omega) (by omega) y2
        rw [y2] at hlk
        have hk0 : nk (rKill S g s e) k = -1 := by rw [rk k a, if_pos ⟨hlk.2, by omega, by omega⟩]
        unfold NS
        rw [hk0, e0, hi1.2.2 3 (by decide), hi1.2.2 4 (by decide), hi1.2.2 5 (by decide)]
        exact ⟨⟨rfl, ns.1.2⟩, fun y => absurd y (by decide)⟩
      · have e0 := hi1.2.1 y
        have hk0 : nk (rKill S g s e) k = nk S k := by
          rw [rk k a, if_neg]
          rintro ⟨u1, u2⟩
          have hlk : live S k := ⟨⟨a, b⟩, u1⟩
          obtain ⟨⟨v0, v1⟩, v2⟩ := pos_ok wo hlk
          exact y ⟨pos g k - s, by omega, by rw [show s + (pos g k - s) = pos g k by omega]; exact v2⟩
        have h4 := kl.2.2.2 k a b
        have ns2 : NS F (A + 4 + k.toNat) (rKill S g s e) (gcut g s (e - s)) k := by
          unfold NS at ns ⊢
          rw [hk0, h4.1, h4.2.2 0 (by decide) (by decide), h4.2.2 1 (by decide) (by decide), h4.2.2 2 (by decide) (by decide), h4.2.2 3 (by decide) (by decide), h4.2.2 4 (by decide) (by decide), h4.2.2 5 (by decide) (by decide), h4.2.2 6 (by decide) (by decide)]
          exact ns
        exact ns2.keep e0
theorem s_remove6 {Q : Int → Zm → Prop} {x : Int} (ci : CI h F n S g Hs Hg b k) (w : WF S g c0) (hx : InR x) (t : isN S x → x ≠ 0 → ∀ h' F' b', sw n h h' → hf n F F' → CI h' F' n (rKill S g (pos g x) (en g (pos g x))) (gcut g (pos g x) (en g (pos g x) - pos g x)) (pH Hs k S) (pH Hg k g) b' (pK k) → Q (en g (pos g x) - pos g x) (zwI h' F')) (f1 : ¬ isN S x → Q (-1) (zwI h F)) (f2 : isN S x → x = 0 → Q (-2) (zwI h F)) : mX6_remove n x (zwI h F) Q := by
  unfold mX6_remove
  have kd := ci.1
  have cs := ci.2.2.2.1
  have k1 := kd.ks.2.1.1.1
  refine f_gr kd.k kd.pg (f_gr kd.ks.1.1 kd.ks.1.2.2.1 (f_rc k1 (s_has kd.ks.2.1 cs w.2.1 hx (f_bi (fun z => f_eq hx z_in0 (fun e => f2 z e) (fun e => f_rc kd.k (s_remember ci w fun h' F' b' s f' ci' => ?_))) (fun z => f1 z)))))
  have kd' := ci'.1
  have cs' := ci'.2.2.2.1
  exact f_gr kd'.k kd'.pg (f_gr kd'.ks.1.1 kd'.ks.1.2.2.1 (f_rc kd'.ks.2.1.1.1 (s_cutAndFree kd'.ks.2.1 cs' w z fun F2 g2 c2 => t z e h' F2 b' s (f'.tr (g2.hf (by omega) (by omega))) (ci'.pg (g2.wd (by omega) (by omega)) c2))))
end RMD
