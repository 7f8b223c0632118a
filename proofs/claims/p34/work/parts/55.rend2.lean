/-! a block stays where its cells stay; the class's walk over the nodes -/
theorem CC.keep {F F' : Nat → Int → Int} {C : Nat} {c : Int} {p q : Int → Int} (h : CC F C c p q) (k : ∀ b j, C ≤ b → b < C + 3 → F' b j = F b j) : CC F' C c p q :=
  ⟨by rw [k C 2 (Nat.le_refl _) (by omega)]; exact h.1, fun i a b => ⟨by rw [k (C + 1) i (by omega) (by omega)]; exact (h.2 i a b).1, by rw [k (C + 2) i (by omega) (by omega)]; exact (h.2 i a b).2⟩⟩
theorem NS.keep {F F' : Nat → Int → Int} {a : Nat} {S : Int → Int} {g : Nat → Int → Int} {x : Int} (h : NS F a S g x) (k : ∀ j, F' a j = F a j) : NS F' a S g x := by
  unfold NS
  simp only [k]
  exact h
theorem CS.keep {F F' : Nat → Int → Int} {A : Nat} {S : Int → Int} {g : Nat → Int → Int} (h : CS F A S g) (k : ∀ b j, A ≤ b → b < A + 52 → F' b j = F b j) : CS F' A S g := by
  obtain ⟨h1, h2, h3, ⟨h4, h5⟩, h6⟩ := h
  refine ⟨fun j a b => ?_, fun j a b => ?_, fun p a b => ?_, ⟨?_, fun t a b => ?_⟩, fun x a b => ?_⟩
  · rw [k A j (Nat.le_refl _) (by omega)]; exact h1 j a b
  · rw [k (A + 1) j (by omega) (by omega)]; exact h2 j a b
  · exact (h3 p a b).keep (fun b' j x y => k b' j (by omega) (by omega))
  · rw [k (A + 2) 3 (by omega) (by omega)]; exact h4
  · rw [k (A + 28) t (by omega) (by omega)]; exact h5 t a b
  · exact (h6 x a b).keep (fun j => k _ j (by omega) (by omega))
section RE
variable {h : Zm} {F : Nat → Int → Int} {P A : Nat} {S : Int → Int} {g : Nat → Int → Int} {c0 : Int}
theorem s_render {Q : Zm → Prop} {x y : Int} (kp : kP h P) (ks : kS h A) (hne : A + 52 ≤ P) (cs : CS F A S g) (w : WF S g c0) (hx : 0 ≤ x ∧ x < 12) (hy : 0 ≤ y ∧ y < 12) (q : ∀ F', bu (P + 1) F F' → Tn F' (P + 1) (rnd S g x y (gc g).toNat) → Q (zwI h F')) : mX3_render P A x y (zwI h F) Q := by
  unfold mX3_render mX3_render_H7
  have hc1 := w.2.2.2.1.1
  refine f_rc kp.1.1 (s_clear kp fun F1 b1 t1 => ?_)
  refine lfp1_up (h := h) (gc g) (fun i F' => bu (P + 1) F F' ∧ 1 ≤ i ∧ Tn F' (P + 1) (rnd S g x y i.toNat)) (fun X i F' hi hI hX => ?_) 1 F1 hc1.1 ⟨b1, by omega, ?_⟩
  · obtain ⟨g1, g2, g3⟩ := hI
    have cs' : CS F' A S g := cs.keep (fun b j _ z => g1 b j (by omega))
    unfold mX3_render_B7
    obtain ⟨⟨k1, k2, k3, k4⟩, ⟨k5, k6, k7⟩, k8⟩ := id ks.2.1
    refine f_gr ks.1.1 ks.1.2.2.1 (f_giv k1 cs'.2.2.2.1.1 fun _ => f_lt ⟨by omega, by omega⟩ ⟨by omega, by omega⟩ (fun z => ?_) (fun z => ?_))
    · have hl := w.2.2.2.2.1 i (by omega) z
      have hne0 := o_pos w.2.2.2 g2 z
      have hp := w.2.2.1.2.1 _ hl hne0
      have ho := g_op w.2.1 w.2.2.1 hp.1 hp.2.1
      have ns := cs'.2.2.2.2 _ hl.1.1 hl.1.2
      have nsp := cs'.2.2.2.2 _ hp.1.1.1 hp.1.1.2
      have hkn := (k8 _ hl.1.1 hl.1.2).2
      have hkp := (k8 _ hp.1.1.1 hp.1.1.2).2
      have hparent := ((ns.2 hl.2).1).1
      have hg := ((nsp.2 hp.1.2).2.1 hp.2.1).2
      have hstep : ∀ T', T' = (rnd S g x y (i + 1).toNat) → T' = if inb S g (go g i) x y then pnt S (gop g (np S (go g i))) (go g i) (rnd S g x y i.toNat) else rnd S g x y i.toNat := by
        intro T' e
        rw [e, show (i + 1).toNat = i.toNat + 1 by omega]
        show (if inb S g (go g i.toNat) x y then _ else _) = _
        rw [Int.toNat_of_nonneg (by omega)]
      refine f_gr ks.1.1 ks.1.2.2.1 (f_gr ks.1.1 ks.1.2.2.1 (f_gr k1 k3 (f_ldv k6 (by omega) (by omega) (cs'.2.2.2.1.2 i (by omega) z) fun _ => f_rc k1 (s_nodeAt ks.2.1 hl.1.1 hl.1.2 (f_gr ks.1.1 ks.1.2.2.1 (f_giv hkn hparent fun _ => f_rc k1 (s_nodeAt ks.2.1 hp.1.1.1 hp.1.1.2 (f_giv hkp hg.2.1 fun _ => f_giv hkp hg.2.2 fun _ => f_rc hkn (s_contains hkn ns w.2.1 hl ⟨by omega, by omega⟩ ⟨by omega, by omega⟩ (f_bi (fun zi => ?_) (fun zi => ?_)))))))))))
      · refine f_giv hkp hg.1 fun _ => f_rc kp.1.1 (s_paint kp ks (by have := hl.1; omega) hkn ns w.2.1 hl zi.1 cs'.2.1 w.1.2.1 g3 (rnd_r w x y _ (by omega)) ho.1 fun F2 b2 t2 => hX z _ ⟨g1.tr b2, by omega, ?_⟩)
        rw [hstep _ rfl, if_pos zi]
        exact t2
      · refine hX z _ ⟨g1, by omega, ?_⟩
        rw [hstep _ rfl, if_neg zi]
        exact g3
    · have : i = gc g := by omega
      subst this
      exact q F' g1 g3
  · intro c a b
    rw [t1 c a b, show (1 : Int).toNat = 0 + 1 from rfl]
    show _ = (if inb S g (go g (0 : Nat)) x y then pnt S (gop g (np S (go g (0 : Nat)))) (go g (0 : Nat)) (rnd S g x y 0) else rnd S g x y 0) c
    have e0 : go g ((0 : Nat) : Int) = 0 := w.2.2.2.1.2
    rw [e0, if_neg (fun z => z.1 w.2.1.1.1)]
    rfl
end RE
