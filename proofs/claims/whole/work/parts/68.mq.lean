/-! the reference's answers about pixels and the page -/
def qf (hi M : Nat) (F F' : Nat → Int → Int) : Prop := ∀ b j, ¬ (M + 8 ≤ b ∧ b ≤ hi) → ¬ (b = M ∧ (j = 9 ∨ j = 19)) → F' b j = F b j
theorem qf.rf {hi M : Nat} {F : Nat → Int → Int} : qf hi M F F := fun _ _ _ _ => rfl
theorem qf.tr {hi M : Nat} {F G H : Nat → Int → Int} (h1 : qf hi M F G) (h2 : qf hi M G H) : qf hi M F H := fun b j p q => (h2 b j p q).trans (h1 b j p q)
theorem qf.wd {hi hi' M : Nat} {F G : Nat → Int → Int} (h1 : qf hi M F G) (h : hi ≤ hi') : qf hi' M F G := fun b j p q => h1 b j (by omega) q
theorem laid.qf {M hi : Nat} {F G : Nat → Int → Int} (h1 : laid M F G) (h : M + 12 ≤ hi) : qf hi M F G := fun b j p q => h1 b j (by omega) (fun x => q ⟨x.1, Or.inl x.2⟩)
theorem fr.qf {M lo up hi : Nat} {F G : Nat → Int → Int} (h1 : fr lo up F G) (h : M + 8 ≤ lo) (h' : up ≤ hi) : qf hi M F G := fun b j p _ => h1 b j (by omega)
theorem qf.rs {hi M : Nat} {F G : Nat → Int → Int} {S : Int → Int} (h1 : qf hi M F G) (hS : RS F M S) : RS G M S := fun j a b => by
  rw [h1 _ _ (by omega) (by omega)]
  exact hS j a b
theorem LD.fr {M lo hi : Nat} {F F' : Nat → Int → Int} {S : Int → Int} {g : Nat → Int → Int} (hb : fr lo hi F F') (hl : M + 13 ≤ lo) (hD : LD F M S g) : LD F' M S g :=
  ⟨by rw [hb _ _ (by omega)]; exact hD.1, fun t a b => by rw [hb _ _ (by omega)]; exact hD.2.1 t a b, fun t a b c => by rw [hb _ _ (by omega), hb _ _ (by omega), hb _ _ (by omega)]; exact hD.2.2 t a b c⟩
section MQ
variable {h : Zm} {F : Nat → Int → Int} {M : Nat} {S : Int → Int} {g : Nat → Int → Int} {c0 : Int}
theorem s_isPixel7 {Q : Int → Zm → Prop} {x y : Int} (km : kM h M) (hS : RS F M S) (ws : WS S c0) (hx : InR x) (hy : InR y) (q : Q (bi (isP S x y)) (zwI h F)) : mX7_isPixel M x y (zwI h F) Q := by
  unfold mX7_isPixel
  have hs := ws.1.1
  refine r_ld km hS (by decide) (by decide) fun _ => s_in hx z_in0 ⟨by omega, by omega⟩ (f_bi (fun z => r_ld km hS (by decide) (by decide) fun _ => s_in hy z_in0 ⟨by omega, by omega⟩ (f_bi (fun z2 => ?_) (fun z2 => ?_))) (fun z => ?_))
  · rw [bi_t ⟨z, z2⟩] at q; exact q
  · rw [bi_f (fun v => z2 v.2)] at q; exact q
  · rw [bi_f (fun v => z v.1)] at q; exact q
theorem s_pixelAt {Q : Zm → Prop} {k a : Int} (km : kM h M) (hS : RS F M S) (wf : WF S g c0) (hD : LD F M S g) (hk : 0 ≤ k ∧ k < S 0 * S 1) (ha : 0 ≤ a ∧ a ≤ 100) (q : ∀ F', fr (M + 13) (M + 15) F F' → (∀ i, 0 ≤ i → i < 7 → F' (M + 14) i = pB S g a k i) → (∀ i, 0 ≤ i → i < 7 → F' (M + 15) i = pA S g a k i) → Q (zwI h F')) : mX7_pixelAt M k a (zwI h F) Q := by
  unfold mX7_pixelAt
  have hs := wf.1.1.1
  have hN := nP wf.1
  have e1 : 0 ≤ k % S 0 ∧ k % S 0 < S 0 := ⟨Int.emod_nonneg _ (by omega), Int.emod_lt_of_pos _ (by omega)⟩
  have e2 : 0 ≤ k / S 0 := Int.ediv_nonneg hk.1 (by omega)
  have e3 : k / S 0 < S 1 := Int.ediv_lt_of_lt_mul (by omega) (by rw [Int.mul_comm]; exact hk.2)
  refine r_ld km hS (by decide) (by decide) fun _ => ⟨⟨by omega, by omega⟩, ⟨by omega, by omega⟩, r_ld km hS (by decide) (by decide) fun _ => ⟨⟨by omega, by omega⟩, ⟨by omega, by omega⟩, ?_⟩⟩
  rw [Int.tmod_eq_emod_of_nonneg hk.1, tdiv_pos hk.1]
  refine f_rc km.1 (s_renders km hS wf hD (by omega) (by omega) fun F1 b1 t1 => ?_)
  have f1 : fr (M + 13) (M + 13) F F1 := b1.fr (Nat.le_refl _) (Nat.le_refl _)
  exact f_rc km.1 (s_separates km (f1.rs (by omega) hS) wf.1 t1 (px_r wf _ _) ha fun F2 f2 e2 l2 => q F2 ((f1.wd (by omega) (by omega)).tr (f2.wd (by omega) (by omega))) e2 l2)
theorem s_pixels {Q : Int → Zm → Prop} (km : kM h M) (hS : RS F M S) (ws : WS S c0) (q : Q (S 0 * S 1) (zwI h F)) : mX7_pixels M (zwI h F) Q := by
  unfold mX7_pixels
  exact r_ld km hS (by decide) (by decide) fun _ => r_ld km hS (by decide) (by decide) fun _ => q
theorem mgrid {Q : Int → Zm → Prop} {Kd : (Int → Int → Zm → Prop) → Int → Int → Zm → Prop} (G : Int → Int) (km : kM h M) (hS : RS F M S) (wf : WF S g c0) (hD : LD F M S g) (st : ∀ (X : Int → Int → Zm → Prop) (v k : Int) (F' : Nat → Int → Int), v = G k → (0 ≤ k ∧ k < S 0 * S 1) → (∀ i, 0 ≤ i → i < 7 → F' (M + 14) i = pB S g (S 2) k i) → (∀ i, 0 ≤ i → i < 7 → F' (M + 15) i = pA S g (S 2) k i) → (∀ v', v' = G (k + 1) → X v' (k + 1) (zwI h F')) → Kd X v k (zwI h F')) (q : ∀ F', fr (M + 13) (M + 15) F F' → Q (G (S 0 * S 1)) (zwI h F')) (h0 : G 0 = 0) : lfp2 (fun X x1 x2 h => cRc h 17 M (mX7_pixels M h fun v3 h2 => cLt x2 v3 (cGr h2 17 M 0 fun r4 => cLd h2 1 r4 2 fun v5 => cRc h2 17 M (mX7_pixelAt M x2 v5 h2 (Kd X x1 x2))) (Q x1 h2))) 0 0 (zwI h F) := by
  have hN := nP wf.1
  have ha := wf.1.1.2.1
  refine lfp2_up2 (h := h) (S 0 * S 1) (fun v k F' => fr (M + 13) (M + 15) F F' ∧ 0 ≤ k ∧ v = G k) (fun X v k F' hk hI hX => ?_) 0 0 F (by omega) ⟨fr.rf, Int.le_refl _, h0.symm⟩
  obtain ⟨f1, k0, hv⟩ := hI
  have hS1 := f1.rs (by omega) hS
  refine f_rc km.1 (s_pixels km hS1 wf.1 (f_lt ⟨by omega, by omega⟩ ⟨by omega, by omega⟩ (fun z => r_ld km hS1 (by decide) (by decide) fun _ => f_rc km.1 (s_pixelAt km hS1 wf (hD.fr f1 (by omega)) ⟨k0, z⟩ ha fun F2 f2 e2 l2 => st X v k F2 hv ⟨k0, z⟩ e2 l2 (fun v' hv' => hX z v' F2 ⟨f1.tr f2, by omega, hv'⟩))) (fun z => ?_)))
  have : k = S 0 * S 1 := by omega
  rw [hv, this]
  exact q F' f1
theorem s_rendered7 {Q : Int → Zm → Prop} {x y p : Int} (km : kM h M) (hS : RS F M S) (w : WF S g c0) (hc9 : c0 ≤ 1000) (hx : InR x) (hy : InR y) (hp : InR p) (q : ∀ F', qf (M + 17) M F F' → Q (aRend S g x y p) (zwI h F')) : mX7_rendered M x y p (zwI h F) Q := by
  unfold mX7_rendered
  have hs := w.1.1.1
  unfold aRend at q
  refine f_rc km.1 (s_isPixel7 km hS w.1 hx hy (f_bi (fun z => s_in hp z_in0 ⟨by decide, by decide⟩ (f_bi (fun z2 => ?_) (fun z2 => ?_))) (fun z => ?_)))
  · rw [if_pos ⟨z, z2⟩] at q
    exact f_rc km.1 (s_lays km hS w hc9 fun F1 l1 hD => f_rc km.1 (s_renders km (l1.rs hS) w hD (by omega) (by omega) fun F2 b2 t2 => f_gr km.1 km.r14 (f_ldv km.k14 z2.1 (by omega) (t2 p z2.1 (by omega)) fun _ => q F2 ((l1.qf (by omega)).tr ((b2.fr (Nat.le_refl _) (Nat.le_refl _) : fr (M + 13) (M + 13) F1 F2).qf (by omega) (by omega))))))
  · rw [if_neg (fun v => z2 v.2)] at q
    exact q F qf.rf
  · rw [if_neg (fun v => z v.1)] at q
    exact q F qf.rf
theorem s_ink7 {Q : Int → Zm → Prop} {x y p : Int} (km : kM h M) (hS : RS F M S) (w : WF S g c0) (hc9 : c0 ≤ 1000) (hx : InR x) (hy : InR y) (hp : InR p) (q : ∀ F', qf (M + 17) M F F' → Q (aInk S g x y p) (zwI h F')) : mX7_ink M x y p (zwI h F) Q := by
  unfold mX7_ink
  have hs := w.1.1.1
  have ha := w.1.1.2.1
  unfold aInk at q
  refine f_rc km.1 (s_isPixel7 km hS w.1 hx hy (f_bi (fun z => s_in hp z_in0 ⟨by decide, by decide⟩ (f_bi (fun z2 => ?_) (fun z2 => ?_))) (fun z => ?_)))
  · rw [if_pos ⟨z, z2⟩] at q
    refine f_rc km.1 (s_lays km hS w hc9 fun F1 l1 hD => f_rc km.1 (s_renders km (l1.rs hS) w hD (by omega) (by omega) fun F2 b2 t2 => ?_))
    have f2 : fr (M + 13) (M + 13) F1 F2 := b2.fr (Nat.le_refl _) (Nat.le_refl _)
    have hS2 := f2.rs (by omega) (l1.rs hS)
    exact r_ld km hS2 (by decide) (by decide) fun _ => f_rc km.1 (s_separates km hS2 w.1 t2 (px_r w _ _) ha fun F3 f3 e3 l3 => f_rc km.1 (s_told km z2 l3 (fun i a b => aft_r w.1 (fun i a b => bef_r w.1 (px_r w x y) ha a b) a b) (q F3 (((l1.qf (by omega)).tr (f2.qf (by omega) (by omega))).tr (f3.qf (by omega) (by omega))))))
  · rw [if_neg (fun v => z2 v.2)] at q
    exact q F qf.rf
  · rw [if_neg (fun v => z v.1)] at q
    exact q F qf.rf
theorem s_inkOf7 {Q : Int → Zm → Prop} {c p : Int} (km : kM h M) (hS : RS F M S) (w : WF S g c0) (hc : InR c) (hp : InR p) (q : ∀ F', qf (M + 17) M F F' → Q (aInkOf S c p) (zwI h F')) : mX7_inkOf M c p (zwI h F) Q := by
  unfold mX7_inkOf
  have ha := w.1.1.2.1
  unfold aInkOf at q
  refine s_in hc z_in0 ⟨by decide, by decide⟩ (f_bi (fun z => s_in hp z_in0 ⟨by decide, by decide⟩ (f_bi (fun z2 => ?_) (fun z2 => ?_))) (fun z => ?_))
  · rw [if_pos ⟨z, z2⟩] at q
    refine f_gr km.1 km.r14 ⟨hc, ⟨by decide, by decide⟩, ?_⟩
    rw [tdiv_pos z.1]
    refine f_st km.k14 (by decide) (by decide) ⟨by omega, by omega⟩ (f_gr km.1 km.r14 ⟨hc, ⟨by decide, by decide⟩, ?_⟩)
    rw [tdiv_pos z.1]
    refine ⟨⟨by omega, by omega⟩, ⟨by decide, by decide⟩, ?_⟩
    rw [Int.tmod_eq_emod_of_nonneg (show 0 ≤ c / 256 by omega)]
    refine f_st km.k14 (by decide) (by decide) ⟨by omega, by omega⟩ (f_gr km.1 km.r14 ⟨hc, ⟨by decide, by decide⟩, ?_⟩)
    rw [Int.tmod_eq_emod_of_nonneg z.1]
    refine f_st km.k14 (by decide) (by decide) ⟨by omega, by omega⟩ (f_gr km.1 km.r14 (f_st km.k14 (by decide) (by decide) z_in0 (f_gr km.1 km.r14 (f_st km.k14 (by decide) (by decide) z_in0 (f_gr km.1 km.r14 (f_st km.k14 (by decide) (by decide) z_in0 ?_))))))
    have f2 : fr (M + 13) (M + 13) F (up (up (up (up (up (up F (M + 13) 0 (c / 65536)) (M + 13) 1 (c / 256 % 256)) (M + 13) 2 (c % 256)) (M + 13) 3 0) (M + 13) 4 0) (M + 13) 5 0) := by
      intro b j hb
      rw [up_a (by omega), up_a (by omega), up_a (by omega), up_a (by omega), up_a (by omega), up_a (by omega)]
    have t2 : Tn (up (up (up (up (up (up F (M + 13) 0 (c / 65536)) (M + 13) 1 (c / 256 % 256)) (M + 13) 2 (c % 256)) (M + 13) 3 0) (M + 13) 4 0) (M + 13) 5 0) (M + 13) (cT c) := by
      intro i a b
      simp only [up_e, cT]
      rcases (show i = 0 ∨ i = 1 ∨ i = 2 ∨ i = 3 ∨ i = 4 ∨ i = 5 by omega) with rfl | rfl | rfl | rfl | rfl | rfl <;> simp
    generalize up (up (up (up (up (up F (M + 13) 0 (c / 65536)) (M + 13) 1 (c / 256 % 256)) (M + 13) 2 (c % 256)) (M + 13) 3 0) (M + 13) 4 0) (M + 13) 5 0 = F2 at f2 t2 ⊢
    have hS2 := f2.rs (by omega) hS
    exact r_ld km hS2 (by decide) (by decide) fun _ => f_rc km.1 (s_separates km hS2 w.1 t2 (cT_b z) ha fun F3 f3 e3 l3 => f_rc km.1 (s_told km z2 l3 (fun i a b => aft_r w.1 (fun i a b => bef_r w.1 (cT_b z) ha a b) a b) (q F3 ((f2.qf (by omega) (by omega)).tr (f3.qf (by omega) (by omega))))))
  · rw [if_neg (fun v => z2 v.2)] at q
    exact q F qf.rf
  · rw [if_neg (fun v => z v.1)] at q
    exact q F qf.rf
theorem s_touchedBy7 {Q : Int → Zm → Prop} {x y : Int} (km : kM h M) (hS : RS F M S) (w : WF S g c0) (hc9 : c0 ≤ 1000) (hx : InR x) (hy : InR y) (q : ∀ F', qf (M + 17) M F F' → Q (aTouch S g x y) (zwI h F')) : mX7_touchedBy M x y (zwI h F) Q := by
  unfold mX7_touchedBy
  unfold aTouch at q
  have hs := w.1.1.1
  have wo := w.2.2.2
  have hc1 := wo.1.1
  refine f_rc km.1 (s_isPixel7 km hS w.1 hx hy (f_bi (fun z => ?_) (fun z => ?_)))
  · rw [if_pos z] at q
    refine f_rc km.1 (s_lays km hS w hc9 fun F1 l1 hD => ?_)
    have hS1 := l1.rs hS
    unfold mX7_touchedBy_H21
    refine lfp2_up2 (h := h) (gc g) (fun v i F' => F' = F1 ∧ 1 ≤ i ∧ v = tch S g x y (i - 1).toNat) (fun X v i F' hi hI hX => ?_) (-4) 1 F1 (by omega) ⟨rfl, Int.le_refl _, rfl⟩
    obtain ⟨rfl, g2, g3⟩ := hI
    unfold mX7_touchedBy_B21
    refine f_giv km.1 hD.1 fun _ => f_lt ⟨by omega, by omega⟩ ⟨by omega, by omega⟩ (fun u => ?_) (fun u => ?_)
    · have hl := wo.2.1 i (by omega) u
      have hne0 := o_pos wo g2 u
      have hp := w.2.2.1.2.1 _ hl hne0
      have hv := hD.at wo hp.1 hp.2.1
      have ho := g_op w.2.1 w.2.2.1 hp.1 hp.2.1
      have hp1 := hp.1.1
      have e3 : tch S g x y (i + 1 - 1).toNat = if inb S g (go g i) x y ∧ 0 < gop g (np S (go g i)) then go g i else tch S g x y (i - 1).toNat := by
        rw [show (i + 1 - 1).toNat = (i - 1).toNat + 1 by omega]
        show (if inb S g (go g ((((i - 1).toNat : Nat) : Int) + 1)) x y ∧ _ then _ else _) = _
        rw [show (((i - 1).toNat : Nat) : Int) + 1 = i by omega]
      refine f_gr km.1 km.r8 (f_ldv km.k8 (by omega) (by omega) (hD.2.1 i (by omega) u) fun _ => f_rc km.1 (s_isIn km hS1 w hD hl (by omega) (by omega) (f_bi (fun t => f_gr km.1 km.r11 (f_rc km.1 (s_ofp km hS1 hl.1.1 hl.1.2 fun _ => f_ldv km.k11 hp1.1 (by omega) hv.1 fun r => f_le r z_in0 (fun s => hX u _ _ ⟨rfl, by omega, ?_⟩) (fun s => hX u _ _ ⟨rfl, by omega, ?_⟩)))) (fun t => hX u _ _ ⟨rfl, by omega, ?_⟩))))
      · rw [e3, if_neg (fun y => by omega)]
        exact g3
      · rw [e3, if_pos ⟨t, s⟩]
      · rw [e3, if_neg (fun y => t y.1)]
        exact g3
    · have : i = gc g := by omega
      subst this
      rw [g3]
      exact q F' (l1.qf (by omega))
  · rw [if_neg z] at q
    exact q F qf.rf
theorem s_covered {Q : Int → Zm → Prop} {p a : Int} (km : kM h M) (hS : RS F M S) (w : WF S g c0) (hc9 : c0 ≤ 1000) (hp : 0 ≤ p ∧ p ≤ 7) (ha : 0 ≤ a ∧ a ≤ 100) (q : ∀ F', qf (M + 15) M F F' → Q (cov S g a p) (zwI h F')) : mX7_covered M p a (zwI h F) Q := by
  unfold mX7_covered mX7_covered_H9
  have hN := nP w.1
  refine f_rc km.1 (s_lays km hS w hc9 fun F1 l1 hD => ?_)
  have hS1 := l1.rs hS
  refine lfp2_up2 (h := h) (S 0 * S 1) (fun v k F' => fr (M + 13) (M + 15) F1 F' ∧ 0 ≤ k ∧ v = smI (fun k => tl (pA S g a k) p) k) (fun X v k F' hk hI hX => ?_) 0 0 F1 (by omega) ⟨fr.rf, Int.le_refl _, rfl⟩
  obtain ⟨f2, k0, hv⟩ := hI
  have hS2 := f2.rs (by omega) hS1
  have hb := cov_b w ha hp (k := k) ⟨k0, hk⟩
  unfold mX7_covered_B9
  refine f_rc km.1 (s_pixels km hS2 w.1 (f_lt ⟨by omega, by omega⟩ ⟨by omega, by omega⟩ (fun z => f_rc km.1 (s_pixelAt km hS2 w (hD.fr f2 (by omega)) ⟨k0, z⟩ ha fun F3 f3 e3 l3 => f_rc km.1 (s_told km hp l3 (pA_r w ha k) (hX z _ _ ⟨f2.tr f3, by omega, ?_⟩)))) (fun z => ?_)))
  · rw [smI_s _ k0, hv]
  · have : k = S 0 * S 1 := by omega
    rw [hv, this]
    exact q F' ((l1.qf (by omega)).tr (f2.qf (by omega) (by omega)))
theorem s_coverage7 {Q : Int → Zm → Prop} {p : Int} (km : kM h M) (hS : RS F M S) (w : WF S g c0) (hc9 : c0 ≤ 1000) (hp : InR p) (q : ∀ F', qf (M + 17) M F F' → Q (aCov S g p) (zwI h F')) : mX7_coverage M p (zwI h F) Q := by
  unfold mX7_coverage
  unfold aCov at q
  refine s_in hp z_in0 ⟨by decide, by decide⟩ (f_bi (fun z => ?_) (fun z => ?_))
  · rw [if_pos z] at q
    exact r_ld km hS (by decide) (by decide) fun _ => f_rc km.1 (s_covered km hS w hc9 z w.1.1.2.1 fun F1 f1 => q F1 (f1.wd (by omega)))
  · rw [if_neg z] at q
    exact q F qf.rf
theorem s_plateAt7 {Q : Int → Zm → Prop} {p : Int} (km : kM h M) (hS : RS F M S) (w : WF S g c0) (hc9 : c0 ≤ 1000) (hp : InR p) (q : ∀ F', qf (M + 17) M F F' → Q (aPlate S g p) (zwI h F')) : mX7_plateAt M p (zwI h F) Q := by
  unfold mX7_plateAt
  unfold aPlate at q
  have ha := w.1.1.2.1
  have hN := nP w.1
  refine s_isPlate7 hp (f_bi (fun z => ?_) (fun z => ?_))
  · rw [if_pos z] at q
    unfold mX7_plateAt_H11
    refine lfp1_up (h := h) 7 (fun i F' => qf (M + 17) M F F' ∧ 0 ≤ i ∧ ∀ c, 0 ≤ c → c < i → F' (M + 16) c = cov S g (S 2) c) (fun X i F' hi hI hX => ?_) 0 F (by decide) ⟨qf.rf, by decide, fun c a b => by omega⟩
    obtain ⟨f1, g2, g3⟩ := hI
    have hS1 := f1.rs hS
    unfold mX7_plateAt_B11
    refine f_lt ⟨by omega, by omega⟩ ⟨by decide, by decide⟩ (fun u => ?_) (fun u => ?_)
    · have hb := cov_b w ha ⟨g2, by omega⟩ (k := S 0 * S 1) (p := i) ⟨by omega, Int.le_refl _⟩
      refine f_gr km.1 km.r17 (r_ld km hS1 (by decide) (by decide) fun _ => f_rc km.1 (s_covered km hS1 w hc9 ⟨g2, by omega⟩ ha fun F2 f2 => f_st km.k17 g2 (by omega) ⟨by unfold cov; omega, by unfold cov; omega⟩ (hX u _ ⟨(f1.tr (f2.wd (by omega))).tr ((fr.up (by omega) (by omega) : fr (M + 16) (M + 16) _ _).qf (by omega) (by omega)), by omega, fun c a b => ?_⟩)))
      rw [up_e]
      by_cases e : c = i
      · rw [if_pos ⟨rfl, e⟩, e]
      · rw [if_neg (by omega), f2 _ _ (by omega) (by omega)]
        exact g3 c a (by omega)
    · have hT : ∀ c, 0 ≤ c → c < 7 → F' (M + 16) c = cov S g (S 2) c := fun c a b => g3 c a (by omega)
      generalize cov S g (S 2) = T at hT q
      unfold mX7_plateAt_H45
      refine lfp2_up2 (h := h) 7 (fun v i F2 => F2 = F' ∧ 0 ≤ i ∧ v = fnd (rk (pbf T) 7) p i) (fun X v i F2 hi hI hX => ?_) (-4) 0 F' (by decide) ⟨rfl, by decide, rfl⟩
      obtain ⟨rfl, i2, i3⟩ := hI
      unfold mX7_plateAt_B45
      refine f_lt ⟨by omega, by omega⟩ ⟨by decide, by decide⟩ (fun y => ?_) (fun y => ?_)
      · unfold mX7_plateAt_H57
        refine lfp2_up2 (h := h) 7 (fun s j F3 => F3 = F2 ∧ 0 ≤ j ∧ s = rk (pbf T) j i) (fun X2 s j F3 hj hJ hX2 => ?_) 0 0 F2 (by decide) ⟨rfl, by decide, rfl⟩
        obtain ⟨rfl, j2, j3⟩ := hJ
        unfold mX7_plateAt_B57
        have hrb := rk_b (pbf T) (n := j) (p := i) j2
        have st : j < 7 → ∀ s', s' = s + bi (pbf T j i) → X2 s' (j + 1) (zwI h F3) := fun z s' e => hX2 z _ _ ⟨rfl, by omega, by rw [e, j3]; exact (smI_s _ j2).symm⟩
        refine f_lt ⟨by omega, by omega⟩ ⟨by decide, by decide⟩ (fun x => f_gr km.1 km.r17 (f_ldv km.k17 j2 (by omega) (hT j j2 (by omega)) fun r1 => f_gr km.1 km.r17 (f_ldv km.k17 i2 (by omega) (hT i i2 (by omega)) fun r2 => f_le r1 r2 (fun t => f_gr km.1 km.r17 (f_ldv km.k17 j2 (by omega) (hT j j2 (by omega)) fun _ => f_gr km.1 km.r17 (f_ldv km.k17 i2 (by omega) (hT i i2 (by omega)) fun _ => f_eq r1 r2 (fun t2 => f_lt ⟨by omega, by omega⟩ ⟨by omega, by omega⟩ (fun t3 => st x _ ?_) (fun t3 => st x _ ?_)) (fun t2 => st x _ ?_)))) (fun t => st x _ ?_)))) (fun x => ?_)
        · rw [bi_t (Or.inr ⟨t2, t3⟩)]
        · rw [bi_f (fun y => by omega)]
        · rw [bi_f (fun y => by omega)]
        · rw [bi_t (Or.inl t)]
        · have e7 : j = 7 := by omega
          subst e7
          subst j3
          have es := fnd_s (rk (pbf T) 7) p i2
          refine f_eq ⟨by omega, by omega⟩ hp (fun e => hX y _ _ ⟨rfl, by omega, ?_⟩) (fun e => hX y _ _ ⟨rfl, by omega, ?_⟩)
          · rw [es, if_pos e]
          · rw [es, if_neg e]
            exact i3
      · have : i = 7 := by omega
        rw [i3, this]
        exact q F2 f1
  · rw [if_neg z] at q
    exact q F qf.rf
theorem s_greatestSum7 {Q : Int → Zm → Prop} (km : kM h M) (hS : RS F M S) (w : WF S g c0) (hc9 : c0 ≤ 1000) (q : ∀ F', qf (M + 17) M F F' → Q (aGreat S g) (zwI h F')) : mX7_greatestSum M (zwI h F) Q := by
  have ha := w.1.1.2.1
  unfold mX7_greatestSum mX7_greatestSum_H8
  refine f_rc km.1 (s_lays km hS w hc9 fun F1 l1 hD => mgrid (mxI (fun k => smI (pA S g (S 2) k) 7)) km (l1.rs hS) w hD (fun X v k F' hv hk e l hX => ?_) (fun F2 f2 => q F2 ((l1.qf (by omega)).tr (f2.qf (by omega) (by omega)))) rfl)
  have hb : ∀ i, 0 ≤ i → 0 ≤ smI (pA S g (S 2) i) 7 ∧ smI (pA S g (S 2) i) 7 ≤ 12495 := fun i _ => smI_b (m := 1785) (by decide) (pA_r w ha i)
  have hm := mxI_b (f := fun k => smI (pA S g (S 2) k) 7) (m := 12495) (k := k) (by decide) (fun i a _ => hb i a)
  have hk' := hb k hk.1
  have ht : tl (pA S g (S 2) k) 7 = smI (pA S g (S 2) k) 7 := if_pos rfl
  have es := mxI_s (fun k => smI (pA S g (S 2) k) 7) hk.1
  refine f_rc km.1 (s_told km (by decide) l (pA_r w ha k) ?_)
  rw [ht]
  refine f_le ⟨by omega, by omega⟩ ⟨by omega, by omega⟩ (fun z => hX _ ?_) (fun z => f_rc km.1 (s_told km (by decide) l (pA_r w ha k) (hX _ ?_)))
  · rw [es]
    omega
  · rw [es, ht]
    omega
theorem s_neededLimit7 {Q : Int → Zm → Prop} (km : kM h M) (hS : RS F M S) (w : WF S g c0) (hc9 : c0 ≤ 1000) (q : ∀ F', qf (M + 17) M F F' → Q (aNeed S g) (zwI h F')) : mX7_neededLimit M (zwI h F) Q := by
  have ha := w.1.1.2.1
  unfold mX7_neededLimit mX7_neededLimit_H8
  refine f_rc km.1 (s_lays km hS w hc9 fun F1 l1 hD => mgrid (mxI (fun k => smI (pB S g (S 2) k) 7)) km (l1.rs hS) w hD (fun X v k F' hv hk e l hX => ?_) (fun F2 f2 => q F2 ((l1.qf (by omega)).tr (f2.qf (by omega) (by omega)))) rfl)
  have hb : ∀ i, 0 ≤ i → 0 ≤ smI (pB S g (S 2) i) 7 ∧ smI (pB S g (S 2) i) 7 ≤ 12495 := fun i _ => smI_b (m := 1785) (by decide) (pB_r w ha i).r7
  have hm := mxI_b (f := fun k => smI (pB S g (S 2) k) 7) (m := 12495) (k := k) (by decide) (fun i a _ => hb i a)
  have hk' := hb k hk.1
  have es := mxI_s (fun k => smI (pB S g (S 2) k) 7) hk.1
  refine f_rc km.1 (s_sumEarly km e (pB_r w ha k).r7 (f_le ⟨by omega, by omega⟩ ⟨by omega, by omega⟩ (fun z => hX _ ?_) (fun z => f_rc km.1 (s_sumEarly km e (pB_r w ha k).r7 (hX _ ?_)))))
  · rw [es]
    omega
  · rw [es]
    omega
theorem s_disorderedPixels7 {Q : Int → Zm → Prop} (km : kM h M) (hS : RS F M S) (w : WF S g c0) (hc9 : c0 ≤ 1000) (q : ∀ F', qf (M + 17) M F F' → Q (aDis S g) (zwI h F')) : mX7_disorderedPixels M (zwI h F) Q := by
  unfold mX7_disorderedPixels mX7_disorderedPixels_H8
  refine f_rc km.1 (s_lays km hS w hc9 fun F1 l1 hD => mgrid (smI (fun k => bi (dsn (pB S g (S 2) k) (pA S g (S 2) k)))) km (l1.rs hS) w hD (fun X v k F' hv hk e l hX => ?_) (fun F2 f2 => q F2 ((l1.qf (by omega)).tr (f2.qf (by omega) (by omega)))) rfl)
  refine f_rc km.1 (s_isDisordered7 km e l (f_bi (fun z => hX _ ?_) (fun z => hX _ ?_)))
  · rw [smI_s _ hk.1, hv]
    show _ = _ + bi _
    rw [bi_t z]
  · rw [smI_s _ hk.1, hv]
    show _ = _ + bi _
    rw [bi_f z]
theorem s_limitedPixels7 {Q : Int → Zm → Prop} (km : kM h M) (hS : RS F M S) (w : WF S g c0) (hc9 : c0 ≤ 1000) (q : ∀ F', qf (M + 17) M F F' → Q (aLim S g) (zwI h F')) : mX7_limitedPixels M (zwI h F) Q := by
  unfold mX7_limitedPixels mX7_limitedPixels_H8
  refine f_rc km.1 (s_lays km hS w hc9 fun F1 l1 hD => mgrid (smI (fun k => bi (¬ sm7 (pB S g (S 2) k) (pA S g (S 2) k)))) km (l1.rs hS) w hD (fun X v k F' hv hk e l hX => ?_) (fun F2 f2 => q F2 ((l1.qf (by omega)).tr (f2.qf (by omega) (by omega)))) rfl)
  unfold mX7_limitedPixels_H32
  refine lfp2_up2 (h := h) 7 (fun s i F2 => F2 = F' ∧ 0 ≤ i ∧ ((s = 1 ∧ ∀ c, 0 ≤ c → c < i → pB S g (S 2) k c = pA S g (S 2) k c) ∨ (s = 0 ∧ ¬ sm7 (pB S g (S 2) k) (pA S g (S 2) k)))) (fun X2 s i F2 hi hI hX2 => ?_) 1 0 F' (by decide) ⟨rfl, by decide, Or.inl ⟨rfl, fun c a b => by omega⟩⟩
  obtain ⟨rfl, i2, i3⟩ := hI
  have hsr : InR s := by rcases i3 with y | y <;> rw [y.1] <;> exact ⟨by decide, by decide⟩
  unfold mX7_limitedPixels_B32
  refine f_lt ⟨by omega, by omega⟩ ⟨by decide, by decide⟩ (fun u => f_eq hsr z_in0 (fun s0 => hX2 u _ _ ⟨rfl, by omega, ?_⟩) (fun s0 => f_gr km.1 km.r15 (f_ldv km.k15 i2 (by omega) (e i i2 u) fun r1 => f_gr km.1 km.r16 (f_ldv km.k16 i2 (by omega) (l i i2 u) fun r2 => f_eq r1 r2 (fun y => hX2 u _ _ ⟨rfl, by omega, ?_⟩) (fun y => hX2 u _ _ ⟨rfl, by omega, ?_⟩))))) (fun u => f_eq hsr z_in0 (fun s0 => hX _ ?_) (fun s0 => hX _ ?_))
  · rcases i3 with y | y
    · omega
    · exact Or.inr ⟨rfl, y.2⟩
  · rcases i3 with x | x
    · refine Or.inl ⟨rfl, fun c a b => ?_⟩
      by_cases ec : c = i
      · rw [ec]; exact y
      · exact x.2 c a (by omega)
    · exact absurd x.1 s0
  · exact Or.inr ⟨rfl, fun x => y (sm7_i.mp x i i2 u)⟩
  · rw [smI_s _ hk.1, hv]
    show _ = _ + bi _
    rcases i3 with x | x
    · omega
    · rw [bi_t x.2]
  · rw [smI_s _ hk.1, hv]
    show _ = _ + bi _
    rcases i3 with x | x
    · rw [bi_f (fun y => y (sm7_i.mpr fun c a b => x.2 c a (by omega)))]
    · exact absurd x.1 s0
theorem s_thriftiest7 {Q : Int → Zm → Prop} (km : kM h M) (hS : RS F M S) (w : WF S g c0) (hc9 : c0 ≤ 1000) (q : ∀ F', qf (M + 17) M F F' → Q (aThrift S g) (zwI h F')) : mX7_thriftiestAmount M (zwI h F) Q := by
  unfold mX7_thriftiestAmount mX7_thriftiestAmount_H6
  have hN := nP w.1
  refine lfp3_i (fun _ _ i _ => (101 - i).toNat) (fun b v i m => ∃ F', m = zwI h F' ∧ qf (M + 17) M F F' ∧ (0 ≤ i ∧ i ≤ 101) ∧ ((i = 0 ∧ b = 0 ∧ v = -1) ∨ (1 ≤ i ∧ b = bst (fun a => cov S g a 7) (i - 1) ∧ v = cov S g b 7))) (fun X b v i m hI hX => ?_) 0 (-1) 0 _ ⟨F, rfl, qf.rf, by decide, Or.inl ⟨rfl, rfl, rfl⟩⟩
  obtain ⟨F', rfl, f1, i2, i3⟩ := hI
  have hS1 := f1.rs hS
  unfold mX7_thriftiestAmount_B6
  have cvb : ∀ a, 0 ≤ a → a ≤ 100 → 0 ≤ cov S g a 7 ∧ cov S g a 7 ≤ 1799280 := fun a x y => cov_b w ⟨x, y⟩ (p := 7) (by decide) (k := S 0 * S 1) ⟨by omega, Int.le_refl _⟩
  have hbb : 1 ≤ i → 0 ≤ bst (fun a => cov S g a 7) (i - 1) ∧ bst (fun a => cov S g a 7) (i - 1) ≤ i - 1 := fun x => bst_b _ (by omega)
  refine f_le ⟨by omega, by omega⟩ ⟨by decide, by decide⟩ (fun u => f_rc km.1 (s_covered km hS1 w hc9 (by decide) ⟨i2.1, u⟩ fun F2 f2 => ?_)) (fun u => ?_)
  · have hci := cvb i i2.1 u
    have f3 := f1.tr (f2.wd (by omega) : qf (M + 17) M F' F2)
    have hvr : (-1 ≤ v ∧ v ≤ 1799280) ∧ (v < 0 → i = 0) := by
      rcases i3 with x | x
      · omega
      · have h1 := hbb x.1
        have h2 := cvb b (by omega) (by omega)
        omega
    have es : 1 ≤ i → bst (fun a => cov S g a 7) i = if cov S g i 7 < cov S g (bst (fun a => cov S g a 7) (i - 1)) 7 then i else bst (fun a => cov S g a 7) (i - 1) := fun x => by
      have := bst_s (fun a => cov S g a 7) (k := i - 1) (by omega)
      rw [show i - 1 + 1 = i by omega] at this
      exact this
    refine f_lt ⟨by omega, by omega⟩ z_in0 (fun y => hX _ _ _ _ ⟨F2, rfl, f3, by omega, Or.inr ⟨by omega, ?_, rfl⟩⟩ (by omega)) (fun y => f_lt ⟨by omega, by omega⟩ ⟨by omega, by omega⟩ (fun t => hX _ _ _ _ ⟨F2, rfl, f3, by omega, Or.inr ⟨by omega, ?_, rfl⟩⟩ (by omega)) (fun t => hX _ _ _ _ ⟨F2, rfl, f3, by omega, Or.inr ⟨by omega, ?_, ?_⟩⟩ (by omega)))
    · rw [hvr.2 y]
      rfl
    · rw [show i + 1 - 1 = i by omega]
      rcases i3 with x | x
      · rw [x.1]; rfl
      · rw [es x.1, ← x.2.1, ← x.2.2, if_pos t]
    · rw [show i + 1 - 1 = i by omega]
      rcases i3 with x | x
      · omega
      · rw [es x.1, ← x.2.1, ← x.2.2, if_neg (by omega)]
    · rcases i3 with x | x
      · omega
      · exact x.2.2
  · have e : i = 101 := by omega
    subst e
    rcases i3 with x | x
    · omega
    · rw [x.2.1]
      exact q F' f1
end MQ
