/-! a pixel, on both sides -/
section PXL
variable {h : Zm} {F : Nat → Int → Int} {S D : Int → Int} {g : Nat → Int → Int} {n L : Nat} {sc : Int → Int} {c : Int} {Q : Int → Zm → Prop} {X : Int → Int → Int → Int → Int → Zm → Prop} {k m1 m2 lm : Int}
theorem LV.to {h' : Zm} {F' : Nat → Int → Int} (l : LV n c S g D h F) (s : sr n (n + 467) h h') (kk : ∀ a, n + 467 ≤ a → a ≤ n + 467 + 9 → zkd h' a = zkd h a) (e : ∀ a j, a ≤ n + 467 + 6 → F' a j = F a j) : LV n c S g D h' F' := by
  obtain ⟨⟨Hs, Hg, b, k, kd, hb, hk, cs, hi⟩, w, ⟨od, dc⟩, ⟨lt, ls⟩, kw, st⟩ := l
  obtain ⟨d1, d2, d3, d4, d5, d6, d7⟩ := kd
  obtain ⟨z1, z2, z3, z4, z5, z6⟩ := kD0.sl s ⟨d1, d2, d3, d4, d5, d6⟩
  have ci : CI h' F n S g Hs Hg b k := ⟨⟨z1, z2, z3, z4, z5, z6, trivial⟩, ⟨fun i x y => ⟨by rw [(s (n + 53) (by omega) (by omega)).2]; exact (hb.1 i x y).1, (hb.1 i x y).2⟩, hb.2⟩, hk, cs, hi⟩
  exact ⟨⟨Hs, Hg, b, k, ci.kp fun a j x y => e a j (by omega)⟩, w, ⟨od, dc.kp fun j => e _ j (by omega)⟩, ⟨lt.keep fun a j x y => e a j (by omega), ls.keep fun a j x y => e a j (by omega)⟩, kw.to kk, st⟩
theorem LV.kd (l : LV n c S g D h F) : kD h n := by
  obtain ⟨⟨Hs, Hg, b, k, ci⟩, -⟩ := l
  exact ci.1
theorem LV.cs (l : LV n c S g D h F) : CS F (n + 1) S g := by
  obtain ⟨⟨Hs, Hg, b, k, ci⟩, -⟩ := l
  exact ci.2.2.2.1
theorem isP_of (ws : WS S c) (k0 : 0 ≤ k) (k1 : k < S 0 * S 1) : isP S (k % S 0) (k / S 0) ∧ (0 ≤ k % S 0 ∧ k % S 0 < 12) ∧ 0 ≤ k / S 0 ∧ k / S 0 < 12 := by
  have hs := ws.1.1
  have a1 := Int.emod_nonneg k (show S 0 ≠ 0 by omega)
  have a2 := Int.emod_lt_of_pos k (show 0 < S 0 by omega)
  have a3 := Int.ediv_nonneg k0 (show 0 ≤ S 0 by omega)
  have a4 : k / S 0 < S 1 := Int.ediv_lt_of_lt_mul (by omega) (by rw [Int.mul_comm]; exact k1)
  exact ⟨⟨⟨a1, by omega⟩, a3, by omega⟩, ⟨a1, by omega⟩, a3, by omega⟩
/-- the seven inks of a pixel -/
theorem l_481 (l : LV n c S g D h F) (ks : zkd h (n + 467 + 10) = (1, 8)) (k0 : 0 ≤ k) (k1 : k < S 0 * S 1) (s : Int → Int) (hs : ∀ p, 0 ≤ p → p ≤ 7 → 0 ≤ s p ∧ s p ≤ 1800000) (p7 : Tn F (n + 467 + 7) (pT S g k)) (p8 : ∀ j, 0 ≤ j → j < 7 → F (n + 467 + 8) j = pB S g (S 2) k j) (p9 : ∀ j, 0 ≤ j → j < 7 → F (n + 467 + 9) j = pA S g (S 2) k j) (p10 : ∀ p, 0 ≤ p → p ≤ 7 → F (n + 467 + 10) p = s p) (q : ∀ F', LV n c S g D h F' → (∀ p, 0 ≤ p → p < 7 → F' (n + 467 + 10) p = s p + pA S g (S 2) k p) → F' (n + 467 + 10) 7 = s 7 → mL_law_J594 L sc X n (n + 467) (n + 467 + 1) (n + 467 + 2) (n + 467 + 3) (n + 467 + 4) (n + 467 + 5) (n + 467 + 6) (n + 467 + 7) (n + 467 + 8) (n + 467 + 9) 1 (S 0) (S 1) (n + 467 + 10) m1 m2 lm k (smI (pA S g (S 2) k) 7) (smI (pB S g (S 2) k) 7) (zwI h F') Q) : mL_law_H481 L sc X n (n + 467) (n + 467 + 1) (n + 467 + 2) (n + 467 + 3) (n + 467 + 4) (n + 467 + 5) (n + 467 + 6) (n + 467 + 7) (n + 467 + 8) (n + 467 + 9) 1 (S 0) (S 1) (n + 467 + 10) m1 m2 lm k 0 0 0 (zwI h F) Q := by
  have w := l.2.1
  have ha := w.1.1.2.1
  have hsz := w.1.1.1
  have kd := l.kd
  have kw := l.2.2.2.2.1
  obtain ⟨hp, hx, hy⟩ := isP_of w.1 k0 k1
  have hN := nP w.1
  have rA := pA_r w ha k
  have rB := pB_r w ha k
  have rT := px_r w (k % S 0) (k / S 0)
  unfold mL_law_H481
  refine lfp4_i (fun _ _ _ i _ => (7 - i).toNat) (fun is tot bf i m => ∃ F', m = zwI h F' ∧ is = 1 ∧ (0 ≤ i ∧ i ≤ 7) ∧ tot = smI (pA S g (S 2) k) i ∧ bf = smI (pB S g (S 2) k) i ∧ LV n c S g D h F' ∧ Tn F' (n + 467 + 7) (pT S g k) ∧ (∀ j, 0 ≤ j → j < 7 → F' (n + 467 + 8) j = pB S g (S 2) k j) ∧ (∀ j, 0 ≤ j → j < 7 → F' (n + 467 + 9) j = pA S g (S 2) k j) ∧ ∀ p, 0 ≤ p → p ≤ 7 → F' (n + 467 + 10) p = if p < i then s p + pA S g (S 2) k p else s p) (fun X4 is tot bf i m hI hX => ?_) 1 0 0 0 _ ⟨F, rfl, rfl, ⟨by decide, by decide⟩, rfl, rfl, l, p7, p8, p9, fun p a b => by rw [if_neg (by omega)]; exact p10 p a b⟩
  obtain ⟨F', rfl, rfl, hi, rfl, rfl, l1, q7, q8, q9, q10⟩ := hI
  unfold mL_law_B481
  refine f_lt ⟨by omega, by omega⟩ ⟨by decide, by decide⟩ (fun z => ?_) (fun z => ?_)
  · have ri := rA i hi.1 z
    have si := hs i hi.1 (by omega)
    have e553 : ∀ F2, fr (n + 316) (n + 466) F' F2 → mL_law_J553 L sc X X4 n (n + 467) (n + 467 + 1) (n + 467 + 2) (n + 467 + 3) (n + 467 + 4) (n + 467 + 5) (n + 467 + 6) (n + 467 + 7) (n + 467 + 8) (n + 467 + 9) (S 0) (S 1) (n + 467 + 10) m1 m2 lm k (smI (pA S g (S 2) k) i) (smI (pB S g (S 2) k) i) i 1 (zwI h F2) Q := by
      intro F2 f2
      have l2 := l1.fr f2
      unfold mL_law_J553
      have g9 : F2 (n + 467 + 9) i = pA S g (S 2) k i := by rw [f2 _ _ (by omega)]; exact q9 i hi.1 z
      have g8 : F2 (n + 467 + 8) i = pB S g (S 2) k i := by rw [f2 _ _ (by omega)]; exact q8 i hi.1 z
      have g10 : F2 (n + 467 + 10) i = s i := by rw [f2 _ _ (by omega), q10 i hi.1 (by omega), if_neg (by omega)]
      refine f_ldv kw.la hi.1 z g9 fun _ => f_ldv kw.ea hi.1 z g8 fun _ => f_ldv ks hi.1 (by omega) g10 fun _ => f_ldv kw.la hi.1 z g9 fun _ => f_st ks hi.1 (by omega) ⟨by omega, by omega⟩ (hX _ _ _ _ _ ⟨_, rfl, rfl, ⟨by omega, by omega⟩, (smI_s _ hi.1).symm, (smI_s _ hi.1).symm, l2.to sr.rf (fun a _ _ => rfl) (fun a j y => up_a (by omega)), fun j a b => ?_, fun j a b => ?_, fun j a b => ?_, fun p a b => ?_⟩ (by omega))
      · rw [up_a (by omega), f2 _ _ (by omega)]; exact q7 j a b
      · rw [up_a (by omega), f2 _ _ (by omega)]; exact q8 j a b
      · rw [up_a (by omega), f2 _ _ (by omega)]; exact q9 j a b
      · rw [up_e]
        by_cases o : p = i
        · rw [if_pos ⟨rfl, o⟩, if_pos (by omega), o]
        · rw [if_neg (fun v => o v.2), f2 _ _ (by omega), q10 p a b]
          by_cases u : p < i
          · rw [if_pos u, if_pos (by omega)]
          · rw [if_neg u, if_neg (by omega)]
    have e524 : ∀ F2, fr (n + 316) (n + 466) F' F2 → mL_law_J524 L sc X X4 n (n + 467) (n + 467 + 1) (n + 467 + 2) (n + 467 + 3) (n + 467 + 4) (n + 467 + 5) (n + 467 + 6) (n + 467 + 7) (n + 467 + 8) (n + 467 + 9) (S 0) (S 1) (n + 467 + 10) m1 m2 lm k (smI (pA S g (S 2) k) i) (smI (pB S g (S 2) k) i) i (zwI h F2) Q := by
      intro F2 f2
      have l2 := l1.fr f2
      unfold mL_law_J524
      refine f_remv (v := k % S 0) ⟨k0, by omega⟩ ⟨by omega, by omega⟩ rfl (f_divv (v := k / S 0) ⟨k0, by omega⟩ ⟨by omega, by omega⟩ rfl (f_rc kd.k (s_ink6 kd l2.cs w ⟨by omega, by omega⟩ ⟨by omega, by omega⟩ ⟨by omega, by omega⟩ (fun F3 f3 => ?_))))
      have ei : aInk S g (k % S 0) (k / S 0) i = pA S g (S 2) k i := by
        unfold aInk
        rw [if_pos ⟨hp, hi.1, by omega⟩]
        show (if i = 7 then _ else _) = _
        rw [if_neg (by omega)]
        rfl
      rw [ei]
      have f23 := f2.tr f3
      exact f_ldv (v := pA S g (S 2) k i) kw.la hi.1 z (by rw [f23 _ _ (by omega)]; exact q9 i hi.1 z) fun r9 => f_eq r9 r9 (fun _ => e553 F3 f23) (fun e => absurd rfl e)
    refine f_eq ⟨by decide, by decide⟩ z_in0 (fun e => absurd e (by decide)) (fun _ => f_eq ⟨by omega, by omega⟩ ⟨by decide, by decide⟩ (fun _ => e524 F' fr.rf) (fun e6 => ?_))
    refine f_remv (v := k % S 0) ⟨k0, by omega⟩ ⟨by omega, by omega⟩ rfl (f_divv (v := k / S 0) ⟨k0, by omega⟩ ⟨by omega, by omega⟩ rfl (f_rc kd.k (s_rendered6 kd l1.cs w ⟨by omega, by omega⟩ ⟨by omega, by omega⟩ ⟨by omega, by omega⟩ (fun F2 f2 => ?_))))
    have ei : aRend S g (k % S 0) (k / S 0) i = pT S g k i := by
      unfold aRend
      rw [if_pos ⟨hp, hi.1, by omega⟩]
      rfl
    rw [ei]
    exact f_ldv (v := pT S g k i) kw.px hi.1 (by omega) (by rw [f2 _ _ (by omega)]; exact q7 i hi.1 (by omega)) fun r7 => f_eq r7 r7 (fun _ => e524 F2 f2) (fun e => absurd rfl e)
  · have e7 : i = 7 := by omega
    subst e7
    exact q F' l1 (fun p a b => by rw [q10 p a (by omega), if_pos b]) (by rw [q10 7 (by decide) (by decide), if_neg (by decide)])
/-- behind the seven inks -/
theorem l_594 (l : LV n c S g D h F) (ks : zkd h (n + 467 + 10) = (1, 8)) (k0 : 0 ≤ k) (k1 : k < S 0 * S 1) (s7 : 0 ≤ F (n + 467 + 10) 7 ∧ F (n + 467 + 10) 7 ≤ 1800000) (h1 : 0 ≤ m1 ∧ m1 ≤ 1800000) (h2 : 0 ≤ m2 ∧ m2 ≤ 1800000) (q : ∀ F', LV n c S g D h F' → (∀ b j, ¬ (n + 316 ≤ b ∧ b ≤ n + 466) → ¬ (b = n + 467 + 10 ∧ j = 7) → F' b j = F b j) → F' (n + 467 + 10) 7 = F (n + 467 + 10) 7 + smI (pA S g (S 2) k) 7 → X 1 (max m1 (smI (pA S g (S 2) k) 7)) (max m2 (smI (pB S g (S 2) k) 7)) (lm + bi (¬ sm7 (pB S g (S 2) k) (pA S g (S 2) k))) (k + 1) (zwI h F')) : mL_law_J594 L sc X n (n + 467) (n + 467 + 1) (n + 467 + 2) (n + 467 + 3) (n + 467 + 4) (n + 467 + 5) (n + 467 + 6) (n + 467 + 7) (n + 467 + 8) (n + 467 + 9) 1 (S 0) (S 1) (n + 467 + 10) m1 m2 lm k (smI (pA S g (S 2) k) 7) (smI (pB S g (S 2) k) 7) (zwI h F) Q := by
  have w := l.2.1
  have ha := w.1.1.2.1
  have hsz := w.1.1.1
  have h4 := w.1.1.2.2.2
  have kd := l.kd
  have kw := l.2.2.2.2.1
  obtain ⟨hp, hx, hy⟩ := isP_of w.1 k0 k1
  have hN := nP w.1
  have rA := smI_b (f := pA S g (S 2) k) (m := 1785) (k := 7) (by decide) (pA_r w ha k)
  have rB := smI_b (f := pB S g (S 2) k) (m := 255) (k := 7) (by decide) (pB_r w ha k)
  have af := aft_facts (S := S) (pB_r w ha k) h4.1
  have hsum : smI (pA S g (S 2) k) 7 ≤ S 4 := af.2.1
  have hlim : bi (¬ sm7 (pB S g (S 2) k) (pA S g (S 2) k)) = if smI (pA S g (S 2) k) 7 < smI (pB S g (S 2) k) 7 then 1 else 0 := aft_lim (S := S) (pB_r w ha k) h4.1
  have eI : aInk S g (k % S 0) (k / S 0) 7 = smI (pA S g (S 2) k) 7 := by
    unfold aInk
    rw [if_pos ⟨hp, by decide, by decide⟩]
    show (if (7 : Int) = 7 then _ else _) = _
    rw [if_pos rfl]
    rfl
  rw [hlim] at q
  generalize hA : smI (pA S g (S 2) k) 7 = A7 at *
  generalize hB : smI (pB S g (S 2) k) 7 = B7 at *
  unfold mL_law_J594
  have rr : InR (F (n + 467 + 10) 7) := ⟨by omega, by omega⟩
  refine f_ld ks (by decide) (by decide) fun _ => f_st ks (by decide) (by decide) ⟨by omega, by omega⟩ ?_
  have l1 : LV n c S g D h (up F (n + 467 + 10) 7 (F (n + 467 + 10) 7 + A7)) := l.to sr.rf (fun a _ _ => rfl) (fun a j y => up_a (by omega))
  have e650 : ∀ x17 x18 s1, x17 = max m1 A7 → x18 = max m2 B7 → s1 = (if A7 < B7 then 1 else 0) → mL_law_J650 L sc X n (n + 467) (n + 467 + 1) (n + 467 + 2) (n + 467 + 3) (n + 467 + 4) (n + 467 + 5) (n + 467 + 6) (n + 467 + 7) (n + 467 + 8) (n + 467 + 9) 1 (S 0) (S 1) (n + 467 + 10) x17 x18 k A7 lm s1 (zwI h (up F (n + 467 + 10) 7 (F (n + 467 + 10) 7 + A7))) Q := by
    intro x17 x18 s1 e1 e2 e3
    unfold mL_law_J650
    refine f_eq ⟨by decide, by decide⟩ z_in0 (fun e => absurd e (by decide)) (fun _ => f_remv (v := k % S 0) ⟨k0, by omega⟩ ⟨by omega, by omega⟩ rfl (f_divv (v := k / S 0) ⟨k0, by omega⟩ ⟨by omega, by omega⟩ rfl (f_rc kd.k (s_ink6 kd l1.cs w ⟨by omega, by omega⟩ ⟨by omega, by omega⟩ ⟨by decide, by decide⟩ (fun F3 f3 => ?_)))))
    rw [eI]
    have l3 := l1.fr f3
    have e4 : F3 (n + 467 + 6) 2 = S 4 := l3.2.2.2.1.2.2 2 (by decide) (by decide)
    refine f_eq ⟨by omega, by omega⟩ ⟨by omega, by omega⟩ (fun _ => f_ldv kw.st (by decide) (by decide) e4 fun r4 => f_le ⟨by omega, by omega⟩ r4 (fun _ => ?_) (fun z => by omega)) (fun e => absurd rfl e)
    rw [e1, e2, e3]
    exact q F3 l3 (fun b j u v => by rw [f3 _ _ (by omega), up_n v]) (by rw [f3 _ _ (by omega), up_s])
  have e634 : ∀ x17 x18, x17 = max m1 A7 → x18 = max m2 B7 → mL_law_J634 L sc X n (n + 467) (n + 467 + 1) (n + 467 + 2) (n + 467 + 3) (n + 467 + 4) (n + 467 + 5) (n + 467 + 6) (n + 467 + 7) (n + 467 + 8) (n + 467 + 9) 1 (S 0) (S 1) (n + 467 + 10) x17 lm k A7 B7 x18 (zwI h (up F (n + 467 + 10) 7 (F (n + 467 + 10) 7 + A7))) Q := by
    intro x17 x18 e1 e2
    unfold mL_law_J634
    exact f_lt ⟨by omega, by omega⟩ ⟨by omega, by omega⟩ (fun z => e650 _ _ _ e1 e2 (if_pos z).symm) (fun z => e650 _ _ _ e1 e2 (if_neg (by omega)).symm)
  exact f_le ⟨by omega, by omega⟩ ⟨by omega, by omega⟩ (fun z1 => f_le ⟨by omega, by omega⟩ ⟨by omega, by omega⟩ (fun z2 => e634 _ _ (by omega) (by omega)) (fun z2 => e634 _ _ (by omega) (by omega))) (fun z1 => f_le ⟨by omega, by omega⟩ ⟨by omega, by omega⟩ (fun z2 => e634 _ _ (by omega) (by omega)) (fun z2 => e634 _ _ (by omega) (by omega)))
end PXL
