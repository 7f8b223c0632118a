/-! the law -/
theorem law_loop {n L a0 : Nat} {sc : Int → Int} {h : Zm} {F : Nat → Int → Int} (hL : L ≤ 2560) (hsc : ∀ i, InR (sc i)) (l : LZ n 0 h F) : mL_law_H18 L sc a0 n (n + 467) 0 (zwI h F) (fun v _ => v = 1) := by
  unfold mL_law_H18
  refine lfp1_i (fun x _ => ((L : Int) + 5 - x).toNat) (fun x m => ∃ h F c, m = zwI h F ∧ 5 * c = x ∧ 0 ≤ c ∧ x ≤ L ∧ LZ n c h F) (fun X x m hI hX => ?_) 0 _ ⟨h, F, 0, rfl, rfl, Int.le_refl _, by omega, l⟩
  obtain ⟨h, F, c, rfl, hx, h0, hxL, l⟩ := hI
  unfold mL_law_B18
  refine f_le ⟨by omega, by omega⟩ ⟨by omega, by omega⟩ (fun z => ?_) (fun z => rfl)
  have K : ∀ h' F', LZ n (c + 1) h' F' → X (x + 5) (zwI h' F') := fun h' F' l' => hX _ _ ⟨h', F', c + 1, rfl, by omega, by omega, by omega, l'⟩ (by omega)
  have hb : 0 ≤ x ∧ x ≤ (L : Int) - 5 := ⟨by omega, z⟩
  have hc : 0 ≤ c ∧ c ≤ 511 := ⟨h0, by omega⟩
  refine ⟨⟨by omega, by omega⟩, hsc _, ⟨by omega, by omega⟩, fun _ => p_setSize hb hsc hc l K, fun _ => p_addGroup hb hsc hc l K, fun _ => p_addRect hb hsc hc l K, fun _ => p_addSpot hb hsc hc l K, fun _ => p_setBox hb hsc hc l K, fun _ => p_setInk hb hsc hc l K, fun _ => p_remove hb hsc hc l K, fun _ => p_move hb hsc hc l K, fun _ => p_nodeInfo hb hsc hc l K, fun _ => p_nodeCount hb hsc hc l K, fun _ => p_set hb hsc hc l K, fun _ => p_setKnockout hb hsc hc l K, fun _ => p_setPoint hb hsc hc l K, fun _ => p_removePoint hb hsc hc l K, fun _ => p_curve hb hsc hc l K, fun _ => p_inverse hb hsc hc l K, fun _ => p_simplify hb hsc hc l K, fun _ => p_rendered hb hsc hc l K, fun _ => p_ink hb hsc hc l K, fun _ => p_inkOf hb hsc hc l K, fun _ => p_touchedBy hb hsc hc l K, fun _ => p_coverage hb hsc hc l K, fun _ => p_plateAt hb hsc hc l K, fun _ => p_greatestSum hb hsc hc l K, fun _ => p_limitedPixels hb hsc hc l K, fun _ => p_inkCount hb hsc hc l K, fun _ => p_inkAt hb hsc hc l K, fun _ => p_neededLimit hb hsc hc l K, fun _ => p_thriftiestAmount hb hsc hc l K, fun _ => p_disorderedPixels hb hsc hc l K, fun _ => p_undo hb hsc hc l K, fun _ => ?_⟩
  obtain ⟨S, g, Hs, Hg, b, k, D, lx⟩ := l
  exact K _ _ ⟨S, g, Hs, Hg, b, k, D, lx.up⟩
def zh0 (n : Nat) : Zm := (((fun _ => (0, 0)), n), (fun _ _ => 0), (fun _ _ => 0))
theorem law_ok (L : Nat) (sc : Int → Int) (a0 n : Nat) (hL : L ≤ 2560) (hsc : ∀ i, InR (sc i)) (hn : 2 ≤ n) : mL_law L sc a0 (zh0 n) (fun v _ => v = 1) := by
  unfold mL_law
  show cNw (zwI (zh0 n) (fun _ _ => 0)) 16 8 _
  refine f_nw (N := n) rfl ?_
  have k0 : zkd (zal (zh0 n) 16 8) n = (16, 8) := by rw [kz_al]; exact if_pos rfl
  have n0 : (zal (zh0 n) 16 8).1.2 = n + 1 := rfl
  generalize zal (zh0 n) 16 8 = hA at k0 n0 ⊢
  refine f_rc k0 (s_i6 k0 n0 fun h1 F1 n1 kd hb z2 cs dc => f_nw n1 ?_)
  have k1 : zkd (zal h1 17 20) (n + 467) = (17, 20) := by rw [kz_al, if_pos n1.symm]
  have n2 : (zal h1 17 20).1.2 = n + 467 + 1 := by rw [nz_al, n1]
  have sA : sr 0 (n + 467) h1 (zal h1 17 20) := sr_al (by omega)
  generalize zal h1 17 20 = hB at k1 n2 sA ⊢
  refine f_rc k1 (s_i7 k1 n2 fz_s fun h2 F2 s2 f2 km rs z3 dr => law_loop hL hsc ?_)
  have s3 := sA.tr s2
  have f3 : ∀ a j, a < n + 467 → F2 a j = F1 a j := fun a j x => by rw [f2 a j (by omega) x, fz_n (by omega)]
  obtain ⟨d1, d2, d3, d4, d5, d6⟩ := kd.sl (s3.wd (by omega) (by omega))
  refine ⟨iS, iG, fun _ => iS, fun _ => iG, fun i => n + 54 + 52 * i.toNat, 0, iD, ⟨⟨d1, d2, d3, d4, d5, d6, km⟩, ⟨fun i x y => ⟨?_, (hb.1 i x y).2⟩, hb.2⟩, ⟨?_, by decide, by decide⟩, ?_, fun i x y => by omega⟩, ⟨rs, ⟨z3, by decide, by decide⟩, fun i j x y => by omega⟩, iS_WF (Int.le_refl _), fun i x y => by omega, iD_ok, fun j x y => ?_, dr⟩
  · rw [(s3 (n + 53) (by omega) (by omega)).2]; exact (hb.1 i x y).1
  · rw [f3 _ _ (by omega)]; exact z2
  · exact cs.keep fun b j x y => f3 _ _ (by omega)
  · rw [f3 _ _ (by omega)]; exact dc j x y
