/-! all pixels, and the end -/
section PXS
variable {h : Zm} {F : Nat → Int → Int} {S D : Int → Int} {g : Nat → Int → Int} {n L : Nat} {sc : Int → Int} {c : Int} {k m1 m2 lm : Int}
theorem aDis_0 (w : WF S g c) : aDis S g = 0 := by
  unfold aDis
  refine smI_z fun i a b => bi_f ?_
  exact aft_dsn (pB_r w w.1.1.2.1 i) w.1.1.2.2.2.1
theorem l_704 (l : LV n c S g D h F) (ks : zkd h (n + 467 + 10) = (1, 8)) (hs : ∀ p, 0 ≤ p → p ≤ 7 → F (n + 467 + 10) p = smI (fun j => tl (pA S g (S 2) j) p) (S 0 * S 1)) (e1 : m1 = aGreat S g) (e2 : m2 = aNeed S g) (e3 : lm = aLim S g) : mL_law_H704 L sc n 1 (S 0) (S 1) (n + 467 + 10) m1 m2 lm 0 (zwI h F) (fun v _ => v = 1) := by
  have w := l.2.1
  have kd := l.kd
  have hsz := w.1.1.1
  unfold mL_law_H704
  refine lfp2_i (fun _ i _ => (8 - i).toNat) (fun is i m => ∃ F', m = zwI h F' ∧ is = 1 ∧ (0 ≤ i ∧ i ≤ 8) ∧ LV n c S g D h F' ∧ ∀ p, 0 ≤ p → p ≤ 7 → F' (n + 467 + 10) p = smI (fun j => tl (pA S g (S 2) j) p) (S 0 * S 1)) (fun X is i m hI hX => ?_) 1 0 _ ⟨F, rfl, rfl, ⟨by decide, by decide⟩, l, hs⟩
  obtain ⟨F', rfl, rfl, hi, l1, s1⟩ := hI
  unfold mL_law_B704
  refine f_lt ⟨by omega, by omega⟩ ⟨by decide, by decide⟩ (fun z => f_eq ⟨by decide, by decide⟩ z_in0 (fun e => absurd e (by decide)) (fun _ => ?_)) (fun z => f_eq ⟨by decide, by decide⟩ z_in0 (fun e => absurd e (by decide)) (fun _ => ?_))
  · refine f_rc kd.k (s_coverage6 kd l1.cs w ⟨by omega, by omega⟩ (fun F2 f2 => ?_))
    have ec : aCov S g i = smI (fun j => tl (pA S g (S 2) j) i) (S 0 * S 1) := by
      unfold aCov
      rw [if_pos ⟨hi.1, by omega⟩]
      rfl
    rw [ec]
    refine f_ldv (v := smI (fun j => tl (pA S g (S 2) j) i) (S 0 * S 1)) ks hi.1 (by omega) (by rw [f2 _ _ (by omega)]; exact s1 i hi.1 (by omega)) fun r => f_eq r r (fun _ => hX _ _ _ ⟨F2, rfl, rfl, ⟨by omega, by omega⟩, l1.fr f2, fun p a b => by rw [f2 _ _ (by omega)]; exact s1 p a b⟩ (by omega)) (fun e => absurd rfl e)
  · have r1 : InR (-1) := ⟨by decide, by decide⟩
    have nP1 : ∀ x y : Int, ¬ isP S x y → aTouch S g x y = -1 ∧ ∀ p, aRend S g x y p = -1 ∧ aInk S g x y p = -1 := fun x y no => by
      refine ⟨?_, fun p => ⟨?_, ?_⟩⟩
      · unfold aTouch; rw [if_neg no]
      · unfold aRend; rw [if_neg (fun v => no v.1)]
      · unfold aInk; rw [if_neg (fun v => no v.1)]
    have a1 := nP1 (S 0) 0 (fun v => by have := v.1.2; omega)
    have a2 := nP1 0 (S 1) (fun v => by have := v.2.2; omega)
    have a3 := nP1 (-1) 0 (fun v => by have := v.1.1; omega)
    have a4 : aCov S g 8 = -1 := by unfold aCov; rw [if_neg (by decide)]
    have a5 : aRend S g 0 0 6 = -1 := by unfold aRend; rw [if_neg (fun v => absurd v.2 (by decide))]
    have a6 := aDis_0 w
    rw [e1, e2, e3]
    refine f_rc kd.k (s_greatestSum6 kd l1.cs w (fun F2 f2 => f_fin (aGreat_R w) ?_))
    have l2 := l1.fr f2
    refine f_rc kd.k (s_neededLimit6 kd l2.cs w (fun F3 f3 => f_fin (aNeed_R w) ?_))
    have l3 := l2.fr f3
    refine f_rc kd.k (s_limitedPixels6 kd l3.cs w (fun F4 f4 => f_fin (aLim_R w) ?_))
    have l4 := l3.fr f4
    refine f_rc kd.k (s_disorderedPixels6 kd l4.cs w (fun F5 f5 => ?_))
    have l5 := l4.fr f5
    rw [a6]
    refine f_fin z_in0 (f_rc kd.k (s_rendered6 kd l5.cs w ⟨by omega, by omega⟩ z_in0 z_in0 (fun F6 f6 => ?_)))
    have l6 := l5.fr f6
    rw [(a1.2 0).1]
    refine f_fin r1 (f_rc kd.k (s_ink6 kd l6.cs w z_in0 ⟨by omega, by omega⟩ z_in0 (fun F7 f7 => ?_)))
    have l7 := l6.fr f7
    rw [(a2.2 0).2]
    refine f_fin r1 (f_rc kd.k (s_touchedBy6 kd l7.cs w r1 z_in0 ?_))
    rw [a3.1]
    refine f_fin r1 (f_rc kd.k (s_coverage6 kd l7.cs w ⟨by decide, by decide⟩ (fun F8 f8 => ?_)))
    have l8 := l7.fr f8
    rw [a4]
    refine f_fin r1 (f_rc kd.k (s_rendered6 kd l8.cs w z_in0 z_in0 ⟨by decide, by decide⟩ (fun F9 f9 => ?_)))
    rw [a5]
    exact f_fin r1 rfl
theorem l_393 (l : LV n c S g D h F) (hc : c ≤ 4000) (hn : h.1.2 = n + 467 + 11) (ks : zkd h (n + 467 + 10) = (1, 8)) (hz : ∀ p, 0 ≤ p → p ≤ 7 → F (n + 467 + 10) p = 0) : mL_law_H393 L sc n (n + 467) (n + 467 + 1) (n + 467 + 2) (n + 467 + 3) (n + 467 + 4) (n + 467 + 5) (n + 467 + 6) (n + 467 + 7) (n + 467 + 8) (n + 467 + 9) 1 (S 0) (S 1) (n + 467 + 10) 0 0 0 0 (zwI h F) (fun v _ => v = 1) := by
  have w := l.2.1
  have ha := w.1.1.2.1
  have hsz := w.1.1.1
  have hN := nP w.1
  unfold mL_law_H393
  refine lfp5_i (fun _ _ _ _ k _ => (S 0 * S 1 - k).toNat) (fun is m1 m2 lm k m => ∃ h' F', m = zwI h' F' ∧ is = 1 ∧ (0 ≤ k ∧ k ≤ S 0 * S 1) ∧ m1 = mxI (fun j => smI (pA S g (S 2) j) 7) k ∧ m2 = mxI (fun j => smI (pB S g (S 2) j) 7) k ∧ lm = smI (fun j => bi (¬ sm7 (pB S g (S 2) j) (pA S g (S 2) j))) k ∧ LV n c S g D h' F' ∧ (h'.1.2 : Int) = n + 467 + 11 + k ∧ zkd h' (n + 467 + 10) = (1, 8) ∧ ∀ p, 0 ≤ p → p ≤ 7 → F' (n + 467 + 10) p = smI (fun j => tl (pA S g (S 2) j) p) k) (fun X is m1 m2 lm k m hI hX => ?_) 1 0 0 0 0 _ ⟨h, F, rfl, rfl, ⟨by decide, by omega⟩, rfl, rfl, rfl, l, by omega, ks, fun p a b => hz p a b⟩
  obtain ⟨h', F', rfl, rfl, hk, em1, em2, elm, l1, hn1, ks1, s1⟩ := hI
  unfold mL_law_B393
  refine f_lt ⟨by omega, by omega⟩ ⟨by omega, by omega⟩ (fun z => f_eq ⟨by decide, by decide⟩ z_in0 (fun e => absurd e (by decide)) (fun _ => ⟨by omega, ?_⟩)) (fun z => ?_)
  · obtain ⟨hp, hx, hy⟩ := isP_of w.1 hk.1 z
    have kw := l1.2.2.2.2.1
    have hnx : n + 467 + 11 ≤ h'.1.2 := by omega
    refine f_remv (v := k % S 0) ⟨hk.1, by omega⟩ ⟨by omega, by omega⟩ rfl (f_divv (v := k / S 0) ⟨hk.1, by omega⟩ ⟨by omega, by omega⟩ rfl ?_)
    refine l_renders (S := S) (g := g) (c := c) (r := h'.1.2) kw rfl (by omega) l1.2.2.2.1.1 l1.2.2.2.1.2 w hc hx hy (fun F1 f1 t1 => ?_)
    have l2 : LV n c S g D (zal h' 1 3) F1 := l1.to (sr_al (by omega)) (fun a x y => by rw [kz_al]; exact if_neg (by omega)) (fun a j y => f1 _ _ (by omega) (by omega))
    have ks2 : zkd (zal h' 1 3) (n + 467 + 10) = (1, 8) := by rw [kz_al, if_neg (by omega)]; exact ks1
    have hn2 : ((zal h' 1 3).1.2 : Int) = n + 467 + 11 + (k + 1) := by rw [nz_al]; omega
    have s2 : ∀ p, 0 ≤ p → p ≤ 7 → F1 (n + 467 + 10) p = smI (fun j => tl (pA S g (S 2) j) p) k := fun p a b => by rw [f1 _ _ (by omega) (by omega)]; exact s1 p a b
    generalize zal h' 1 3 = h2 at l2 ks2 hn2 ⊢
    refine l_separates (S := S) (c := c) (T := rnd S g (k % S 0) (k / S 0) (gc g).toNat) l2.2.2.2.2.1 l2.2.2.2.1.2 w.1 l2.2.2.2.2.2 t1 (px_r w _ _) (fun F2 f2 b2 a2 => ?_)
    have l3 : LV n c S g D h2 F2 := l2.to sr.rf (fun a _ _ => rfl) (fun a j y => f2 _ _ (by omega) (by omega))
    have kd3 := l3.kd
    have s3 : ∀ p, 0 ≤ p → p ≤ 7 → F2 (n + 467 + 10) p = smI (fun j => tl (pA S g (S 2) j) p) k := fun p a b => by rw [f2 _ _ (by omega) (by omega)]; exact s2 p a b
    have bnd : ∀ p, 0 ≤ p → p ≤ 7 → 0 ≤ smI (fun j => tl (pA S g (S 2) j) p) k ∧ smI (fun j => tl (pA S g (S 2) j) p) k ≤ 1800000 := fun p a b => by
      have := smI_b (f := fun j => tl (pA S g (S 2) j) p) (m := 12495) (k := k) hk.1 (fun j _ _ => tl_b (pA_r w ha j) a b)
      omega
    have rA : ∀ j, 0 ≤ smI (pA S g (S 2) j) 7 ∧ smI (pA S g (S 2) j) 7 ≤ 1785 * 7 := fun j => smI_b (by decide) (pA_r w ha j)
    have rB : ∀ j, 0 ≤ smI (pB S g (S 2) j) 7 ∧ smI (pB S g (S 2) j) 7 ≤ 255 * 7 := fun j => smI_b (by decide) (pB_r w ha j)
    have bm1 := mxI_b (f := fun j => smI (pA S g (S 2) j) 7) (m := 1785 * 7) (k := k) (by decide) (fun j _ _ => rA j)
    have bm2 := mxI_b (f := fun j => smI (pB S g (S 2) j) 7) (m := 255 * 7) (k := k) (by decide) (fun j _ _ => rB j)
    refine f_remv (v := k % S 0) ⟨hk.1, by omega⟩ ⟨by omega, by omega⟩ rfl (f_divv (v := k / S 0) ⟨hk.1, by omega⟩ ⟨by omega, by omega⟩ rfl (f_rc kd3.k (s_touchedBy6 kd3 l3.cs w ⟨by omega, by omega⟩ ⟨by omega, by omega⟩ ?_)))
    have et : aTouch S g (k % S 0) (k / S 0) = tch S g (k % S 0) (k / S 0) (gc g - 1).toNat := by
      unfold aTouch
      rw [if_pos hp]
    have rt := aTouch_R w (k % S 0) (k / S 0)
    rw [et] at rt ⊢
    refine f_fin rt (l_481 l3 ks2 hk.1 z (fun p => smI (fun j => tl (pA S g (S 2) j) p) k) bnd (fun j a b => by rw [f2 _ _ (by omega) (by omega)]; exact t1 j a b) b2 a2 s3 (fun F3 l4 s4 s7 => ?_))
    refine l_594 l4 ks2 hk.1 z (by rw [s7]; exact bnd 7 (by decide) (by decide)) ⟨by omega, by omega⟩ ⟨by omega, by omega⟩ (fun F4 l5 f5 s8 => hX _ _ _ _ _ _ ⟨h2, F4, rfl, rfl, ⟨by omega, by omega⟩, ?_, ?_, ?_, l5, hn2, ks2, fun p a b => ?_⟩ (by omega))
    · rw [mxI_s _ hk.1, em1]
    · rw [mxI_s _ hk.1, em2]
    · rw [smI_s _ hk.1, elm]
    · rw [smI_s _ hk.1]
      by_cases e : p = 7
      · subst e
        rw [s8, s7]
        show _ = _ + (if (7 : Int) = 7 then _ else _)
        rw [if_pos rfl]
      · rw [f5 _ _ (by omega) (fun v => e v.2), s4 p a (by omega)]
        show _ = _ + (if p = 7 then _ else _)
        rw [if_neg e]
  · have ek : k = S 0 * S 1 := by omega
    subst ek
    exact l_704 l1 ks1 s1 em1 em2 elm
theorem l_375 (l : LV n c S g D h F) (hc : c ≤ 4000) (hn : h.1.2 = n + 467 + 10) : mL_law_J375 L sc n (n + 467) (n + 467 + 1) (n + 467 + 2) (n + 467 + 3) (n + 467 + 4) (n + 467 + 5) (n + 467 + 6) (n + 467 + 7) (n + 467 + 8) (n + 467 + 9) 1 (S 0) (S 1) (zwI h F) (fun v _ => v = 1) := by
  unfold mL_law_J375
  refine f_nw (N := n + 467 + 10) hn ?_
  have l2 : LV n c S g D (zal h 1 8) (fz F (n + 467 + 10)) := l.to (sr_al (by omega)) (fun a x y => by rw [kz_al]; exact if_neg (by omega)) (fun a j y => fz_n (by omega))
  exact l_393 l2 hc (by rw [nz_al, hn]) (by rw [kz_al]; exact if_pos hn.symm) (fun p _ _ => fz_s)
theorem l_327 {a0 : Nat} {W Hh t : Int} (hL : L ≤ 260) (hsc : ∀ i, InR (sc i)) (ht : 0 ≤ t ∧ t ≤ 25) (l : LV n 0 S g D h F) (hn : h.1.2 = n + 467 + 10) (hW : S 0 = W) (hH : S 1 = Hh) : mL_law_H327 L sc a0 n (n + 467) (n + 467 + 1) (n + 467 + 2) (n + 467 + 3) (n + 467 + 4) (n + 467 + 5) (n + 467 + 6) (n + 467 + 7) (n + 467 + 8) (n + 467 + 9) 1 W Hh t 0 (zwI h F) (fun v _ => v = 1) := by
  unfold mL_law_H327
  refine lfp2_i (fun _ k _ => (t - k).toNat) (fun is k m => ∃ h' F' S' g' D', m = zwI h' F' ∧ is = 1 ∧ (0 ≤ k ∧ k ≤ t) ∧ LV n k S' g' D' h' F' ∧ S' 0 = W ∧ S' 1 = Hh ∧ h'.1.2 = n + 467 + 10) (fun X is k m hI hX => ?_) 1 0 _ ⟨h, F, S, g, D, rfl, rfl, ⟨by decide, ht.1⟩, l, hW, hH, hn⟩
  obtain ⟨h', F', S', g', D', rfl, rfl, hk, l1, eW, eH, hn1⟩ := hI
  have fin : mL_law_J375 L sc n (n + 467) (n + 467 + 1) (n + 467 + 2) (n + 467 + 3) (n + 467 + 4) (n + 467 + 5) (n + 467 + 6) (n + 467 + 7) (n + 467 + 8) (n + 467 + 9) 1 W Hh (zwI h' F') (fun v _ => v = 1) := by
    rw [← eW, ← eH]
    exact l_375 l1 (by omega) hn1
  unfold mL_law_B327
  refine f_lt ⟨by omega, by omega⟩ ⟨by omega, by omega⟩ (fun z => f_eq ⟨by decide, by decide⟩ z_in0 (fun e => absurd e (by decide)) (fun _ => l_cell hL hsc ⟨by omega, by omega⟩ fun v rv => ⟨⟨rv, by omega, by omega⟩, fun u ru _ => ?_⟩)) (fun z => fin)
  exact l_isAdded l1 (by omega) ru (fun h2 F2 S2 g2 D2 l2 e0 e1 en => hX _ _ _ ⟨h2, F2, S2, g2, D2, rfl, rfl, ⟨by omega, by omega⟩, l2, e0.trans eW, e1.trans eH, en.trans hn1⟩ (by omega))
end PXS
