/-! the class's constructor, and the reference's -/
def iD (j : Int) : Int := if j = 2 ∨ j = 3 then 1 else 0
theorem iD_ok : okD iD := ⟨⟨by decide, by decide⟩, ⟨by decide, by decide⟩, by decide, by decide, by decide⟩
def kD0 (h : Zm) (n : Nat) : Prop := (zkd h n = (16, 8) ∧ zR h n 0 = n + 1 ∧ zR h n 1 = n + 53 ∧ zR h n 3 = n + 314 ∧ zR h n 4 = n + 315 ∧ zR h n 5 = n + 319 ∧ zR h n 6 = n + 465 ∧ zR h n 7 = n + 466) ∧ (zkd h (n + 53) = (6, 5) ∧ zkd h (n + 465) = (1, 7) ∧ zkd h (n + 466) = (1, 101) ∧ zkd h (n + 314) = (12, 18)) ∧ kS h (n + 1) ∧ kP h (n + 315) ∧ kIk h (n + 319) ∧ ∀ i : Nat, i < 5 → kS h (n + 54 + 52 * i)
theorem kD0.sl {h h' : Zm} {n : Nat} (s : sr n (n + 467) h h') (k : kD0 h n) : kD0 h' n := by
  obtain ⟨⟨a1, a2, a3, a4, a5, a6, a7, a8⟩, ⟨b1, b2, b3, b4⟩, c1, c2, c3, c4⟩ := k
  have s0 := s n (by omega) (by omega)
  exact ⟨⟨s0.1.trans a1, (s0.2 0).trans a2, (s0.2 1).trans a3, (s0.2 3).trans a4, (s0.2 4).trans a5, (s0.2 5).trans a6, (s0.2 6).trans a7, (s0.2 7).trans a8⟩, ⟨(s _ (by omega) (by omega)).1.trans b1, (s _ (by omega) (by omega)).1.trans b2, (s _ (by omega) (by omega)).1.trans b3, (s _ (by omega) (by omega)).1.trans b4⟩, c1.sl (s.wd (by omega) (by omega)), c2.sl (s.wd (by omega) (by omega)), c3.sl (s.wd (by omega) (by omega)), fun i hi => (c4 i hi).sl (s.wd (by omega) (by omega))⟩
theorem sr_al {lo hi t k : Nat} {h : Zm} (e : hi ≤ h.1.2) : sr lo hi h (zal h t k) := fun a x y => ⟨if_neg (by omega), fun j => if_neg (by omega)⟩
theorem sr_st {lo hi b v : Nat} {i : Int} {h : Zm} (e : b < lo ∨ hi ≤ b) : sr lo hi h (zsR h b i v) := fun a x y => ⟨rfl, fun j => if_neg (by omega)⟩
section C6
variable {h : Zm} {F : Nat → Int → Int}
def kDp (h : Zm) (n : Nat) (L : List (Nat × Nat)) : Prop := zkd h n = (16, 8) ∧ ∀ e ∈ L, zR h n (e.1 : Int) = n + e.2
theorem kDp.st {n : Nat} {L : List (Nat × Nat)} (e : Nat × Nat) (k : kDp h n L) (hL : ∀ x ∈ L, x.1 ≠ e.1) : kDp (zsR h n (e.1 : Int) (n + e.2)) n (e :: L) := by
  refine ⟨k.1, fun x hx => ?_⟩
  rw [rz_st]
  rcases List.mem_cons.mp hx with hx | hx
  · rw [hx, if_pos ⟨rfl, rfl⟩]
  · have := hL x hx
    rw [if_neg (by omega)]
    exact k.2 x hx
theorem kDp.sl {h' : Zm} {n : Nat} {L : List (Nat × Nat)} (s : sr n (n + 1) h h') (k : kDp h n L) : kDp h' n L := ⟨(s n (by omega) (by omega)).1.trans k.1, fun e he => ((s n (by omega) (by omega)).2 _).trans (k.2 e he)⟩
def mX6t (n : Nat) (h : Zm) (Q : Zm → Prop) : Prop :=
  cPi h 16 n 2 0 fun h13 => cNw h13 12 18 fun r14 h15 => cRc h15 12 r14 <| mX2_init r14 h15 fun h16 => cPr h16 16 n 3 r14 fun h17 => cNw h17 13 3 fun r18 h19 => cRc h19 13 r18 <| mX3_init r18 h19 fun h20 => cPr h20 16 n 4 r18 fun h21 => cNw h21 11 2 fun r22 h23 => cRc h23 11 r22 <| mX1_init r22 h23 fun h24 => cPr h24 16 n 5 r22 fun h25 => cNw h25 1 7 fun r26 h27 => cPr h27 16 n 6 r26 fun h28 => cNw h28 1 101 fun r29 h30 => cPr h30 16 n 7 r29 fun h31 => Q h31
theorem s_i6t {Q : Zm → Prop} {n : Nat} (hp : kDp h n [(1, 53), (0, 1)]) (hn : h.1.2 = n + 314) (q : ∀ h' F', h'.1.2 = n + 467 → sr (n + 1) (n + 314) h h' → F' n 2 = 0 → (∀ a j, n + 1 ≤ a → a < n + 314 → F' a j = F a j) → kDp h' n [(7, 466), (6, 465), (5, 319), (4, 315), (3, 314), (1, 53), (0, 1)] → (zkd h' (n + 465) = (1, 7) ∧ zkd h' (n + 466) = (1, 101) ∧ zkd h' (n + 314) = (12, 18)) → kP h' (n + 315) → kIk h' (n + 319) → DC F' n iD → Q (zwI h' F')) : mX6t n (zwI h F) Q := by
  unfold mX6t
  refine f_pi hp.1 ⟨by decide, by decide⟩ ?_
  refine f_nw hn ?_
  have sA : sr 0 (n + 314) h (zal h 12 18) := sr_al (by omega)
  have nA : (zal h 12 18).1.2 = n + 315 := by rw [nz_al]; omega
  have kA : zkd (zal h 12 18) (n + 314) = (12, 18) := by rw [kz_al, if_pos hn.symm]
  have pA := hp.sl (sA.wd (by omega) (by omega))
  generalize zal h 12 18 = hA at sA nA kA pA ⊢
  refine f_rc kA (s_i2 kA (fun j => fz_s) fun F3 g3 w3 => ?_)
  refine f_pr pA.1 ?_
  have pB : kDp (zsR hA n 3 (n + 314)) n [(3, 314), (1, 53), (0, 1)] := pA.st (3, 314) (by decide)
  have sB : sr (n + 1) (n + 315) hA (zsR hA n 3 (n + 314)) := sr_st (Or.inl (by omega))
  have nB : (zsR hA n 3 (n + 314)).1.2 = n + 315 := nA
  generalize zsR hA n 3 (n + 314) = hB at pB sB nB ⊢
  have kB : zkd hB (n + 314) = (12, 18) := (sB _ (by omega) (by omega)).1.trans kA
  have sB := (sA.wd (show 0 ≤ n + 1 by omega) (Nat.le_refl _)).tr (sB.wd (Nat.le_refl _) (by omega))
  refine f_nw nB ?_
  have sC : sr 0 (n + 315) hB (zal hB 13 3) := sr_al (by omega)
  have nC : (zal hB 13 3).1.2 = n + 315 + 1 := by rw [nz_al]; omega
  have kC : zkd (zal hB 13 3) (n + 315) = (13, 3) := by rw [kz_al, if_pos nB.symm]
  have pC := pB.sl (sC.wd (by omega) (by omega))
  generalize zal hB 13 3 = hC at sC nC kC pC ⊢
  refine f_rc kC (s_i3 kC nC fun h4 F4 n4 s4 f4 k4 => ?_)
  have p4 := pC.sl (s4.wd (by omega) (by omega))
  have l4 := sB.tr ((sC.tr s4).wd (by omega) (by omega))
  have k41 : zkd h4 (n + 314) = (12, 18) := ((sC.tr s4) _ (by omega) (by omega)).1.trans kB
  refine f_pr p4.1 ?_
  have pD : kDp (zsR h4 n 4 (n + 315)) n [(4, 315), (3, 314), (1, 53), (0, 1)] := p4.st (4, 315) (by decide)
  have sD : sr (n + 1) (n + 319) h4 (zsR h4 n 4 (n + 315)) := sr_st (Or.inl (by omega))
  have nD : (zsR h4 n 4 (n + 315)).1.2 = n + 319 := n4
  generalize zsR h4 n 4 (n + 315) = hD at pD sD nD ⊢
  refine f_nw nD ?_
  have sE : sr 0 (n + 319) hD (zal hD 11 2) := sr_al (by omega)
  have nE : (zal hD 11 2).1.2 = n + 319 + 1 := by rw [nz_al]; omega
  have kE : zkd (zal hD 11 2) (n + 319) = (11, 2) := by rw [kz_al, if_pos nD.symm]
  have pE := pD.sl (sE.wd (by omega) (by omega))
  generalize zal hD 11 2 = hE at sE nE kE pE ⊢
  refine f_rc kE (s_i1 kE nE fun h6 F6 n6 s6 f6 k6 => ?_)
  have p6 := pE.sl (s6.wd (by omega) (by omega))
  have l46 := sD.tr ((sE.tr s6).wd (by omega) (by omega))
  have l6 := l4.tr (l46.wd (Nat.le_refl _) (by omega))
  have k46 : kP h6 (n + 315) := kP.sl (P := n + 315) (l46.wd (by omega) (by omega)) k4
  have k61 : zkd h6 (n + 314) = (12, 18) := (l46 _ (by omega) (by omega)).1.trans k41
  clear sA nA kA pA pB sB nB kB sC nC kC pC s4 p4 l4 k41 pD sD nD sE nE kE pE s6 l46
  refine f_pr p6.1 ?_
  have pF : kDp (zsR h6 n 5 (n + 319)) n [(5, 319), (4, 315), (3, 314), (1, 53), (0, 1)] := p6.st (5, 319) (by decide)
  have sF : sr (n + 1) (n + 465) h6 (zsR h6 n 5 (n + 319)) := sr_st (Or.inl (by omega))
  have nF : (zsR h6 n 5 (n + 319)).1.2 = n + 465 := n6
  generalize zsR h6 n 5 (n + 319) = hF at pF sF nF ⊢
  refine f_nw nF ?_
  have sG : sr 0 (n + 465) hF (zal hF 1 7) := sr_al (by omega)
  have nG : (zal hF 1 7).1.2 = n + 466 := by rw [nz_al]; omega
  have kG : zkd (zal hF 1 7) (n + 465) = (1, 7) := by rw [kz_al, if_pos nF.symm]
  have pG := pF.sl (sG.wd (by omega) (by omega))
  generalize zal hF 1 7 = hG at sG nG kG pG ⊢
  have sG := sF.tr (sG.wd (by omega) (Nat.le_refl _))
  refine f_pr pG.1 ?_
  have pH : kDp (zsR hG n 6 (n + 465)) n [(6, 465), (5, 319), (4, 315), (3, 314), (1, 53), (0, 1)] := pG.st (6, 465) (by decide)
  have sH : sr (n + 1) (n + 466) hG (zsR hG n 6 (n + 465)) := sr_st (Or.inl (by omega))
  have nH : (zsR hG n 6 (n + 465)).1.2 = n + 466 := nG
  generalize zsR hG n 6 (n + 465) = hH at pH sH nH ⊢
  have kH : zkd hH (n + 465) = (1, 7) := (sH _ (by omega) (by omega)).1.trans kG
  have sH := sG.tr (sH.wd (Nat.le_refl _) (by omega))
  refine f_nw nH ?_
  have sI : sr 0 (n + 466) hH (zal hH 1 101) := sr_al (by omega)
  have nI : (zal hH 1 101).1.2 = n + 467 := by rw [nz_al]; omega
  have kI : zkd (zal hH 1 101) (n + 466) = (1, 101) := by rw [kz_al, if_pos nH.symm]
  have pI := pH.sl (sI.wd (by omega) (by omega))
  generalize zal hH 1 101 = hI at sI nI kI pI ⊢
  have kI2 : zkd hI (n + 465) = (1, 7) := (sI _ (by omega) (by omega)).1.trans kH
  have sI := sH.tr (sI.wd (by omega) (by omega))
  refine f_pr pI.1 ?_
  have pJ : kDp (zsR hI n 7 (n + 466)) n [(7, 466), (6, 465), (5, 319), (4, 315), (3, 314), (1, 53), (0, 1)] := pI.st (7, 466) (by decide)
  have sJ : sr (n + 1) (n + 467) hI (zsR hI n 7 (n + 466)) := sr_st (Or.inl (by omega))
  have nJ : (zsR hI n 7 (n + 466)).1.2 = n + 467 := nI
  generalize zsR hI n 7 (n + 466) = hJ at pJ sJ nJ ⊢
  have sK := sI.tr (sJ.wd (Nat.le_refl _) (by omega))
  refine q _ _ nJ (l6.tr (sK.wd (Nat.le_refl _) (by omega))) ?_ (fun a j x y => ?_) pJ ⟨(sJ _ (by omega) (by omega)).1.trans kI2, (sJ _ (by omega) (by omega)).1.trans kI, (sK _ (by omega) (by omega)).1.trans k61⟩ (kP.sl (P := n + 315) (sK.wd (by omega) (by omega)) k46) (kIk.sl (T := n + 319) (sK.wd (by omega) (by omega)) k6) (fun j x y => ?_)
  · rw [fz_n (by omega), fz_n (by omega), f6 _ _ (by omega) (by omega), fz_n (by omega), f4 _ _ (by omega) (by omega), fz_n (by omega), g3 _ _ (by omega), fz_n (by omega)]
    exact up_s _ _ _ _
  · rw [fz_n (by omega), fz_n (by omega), f6 _ _ (by omega) (by omega), fz_n (by omega), f4 _ _ (by omega) (by omega), fz_n (by omega), g3 _ _ (by omega), fz_n (by omega), up_a (by omega)]
  · rw [fz_n (by omega), fz_n (by omega), f6 _ _ (by omega) (by omega), fz_n (by omega), f4 _ _ (by omega) (by omega), fz_n (by omega), w3]
    unfold iN0 iD
    by_cases e : j = 2 ∨ j = 3
    · rw [if_neg (by omega), if_pos (by omega), if_pos e]
    · rw [if_neg (by omega), if_neg (by omega), if_neg e]
theorem s_i6 {Q : Zm → Prop} {n : Nat} (hk : zkd h n = (16, 8)) (hn : h.1.2 = n + 1) (q : ∀ h' F', h'.1.2 = n + 467 → kD0 h' n → HB h' n (fun i => n + 54 + 52 * i.toNat) → F' n 2 = 0 → CS F' (n + 1) iS iG → DC F' n iD → Q (zwI h' F')) : mX6_init n (zwI h F) Q := by
  unfold mX6_init
  refine f_rc hk (f_nw hn (f_rc (m := 8) (by (try simp only [kz_al, kz_st, rz_al, rz_st, nz_al, nz_st, true_and, and_true, if_true]); (repeat (first | rw [if_pos (by omega)] | rw [if_neg (by omega)] | fail)); all_goals first | done | rfl | assumption | omega) (s_i4 (A := n + 1) (by (try simp only [kz_al, kz_st, rz_al, rz_st, nz_al, nz_st, true_and, and_true, if_true]); (repeat (first | rw [if_pos (by omega)] | rw [if_neg (by omega)] | fail)); all_goals first | done | rfl | assumption | omega) (by (try simp only [kz_al, kz_st, rz_al, rz_st, nz_al, nz_st, true_and, and_true, if_true]); (repeat (first | rw [if_pos (by omega)] | rw [if_neg (by omega)] | fail)); all_goals first | done | rfl | assumption | omega) fun h1 F1 n1 s1 f1 k1 c1 => ?_)))
  have a1 : zkd h1 n = (16, 8) := (s1 n (by omega) (by omega)).1.trans (by (try simp only [kz_al, kz_st, rz_al, rz_st, nz_al, nz_st, true_and, and_true, if_true]); (repeat (first | rw [if_pos (by omega)] | rw [if_neg (by omega)] | fail)); all_goals first | done | rfl | assumption | omega)
  refine f_pr a1 (f_nw (N := n + 53) (by (try simp only [kz_al, kz_st, rz_al, rz_st, nz_al, nz_st, true_and, and_true, if_true]); (repeat (first | rw [if_pos (by omega)] | rw [if_neg (by omega)] | fail)); all_goals first | done | rfl | assumption | omega) (f_pr (m := 8) (by (try simp only [kz_al, kz_st, rz_al, rz_st, nz_al, nz_st, true_and, and_true, if_true]); (repeat (first | rw [if_pos (by omega)] | rw [if_neg (by omega)] | fail)); all_goals first | done | rfl | assumption | omega) ?_))
  unfold mX6_init_H25
  refine lfp1_i (fun i _ => (5 - i).toNat) (fun i m => ∃ h' F', m = zwI h' F' ∧ (0 ≤ i ∧ i ≤ 5) ∧ h'.1.2 = n + 54 + 52 * i.toNat ∧ sr (n + 1) (n + 53) h1 h' ∧ fl (n + 1) (n + 53) F1 F' ∧ ((zkd h' n = (16, 8) ∧ zR h' n 0 = n + 1 ∧ zR h' n 1 = n + 53) ∧ zkd h' (n + 53) = (6, 5)) ∧ ∀ p : Int, 0 ≤ p → p < i → zR h' (n + 53) p = n + 54 + 52 * p.toNat ∧ kS h' (n + 54 + 52 * p.toNat)) (fun X i m hI hX => ?_) 0 _ ⟨_, _, rfl, by decide, (by (try simp only [kz_al, kz_st, rz_al, rz_st, nz_al, nz_st, true_and, and_true, if_true]); (repeat (first | rw [if_pos (by omega)] | rw [if_neg (by omega)] | fail)); all_goals first | done | rfl | assumption | omega), fun a x y => ⟨(by (try simp only [kz_al, kz_st, rz_al, rz_st, nz_al, nz_st, true_and, and_true, if_true]); (repeat (first | rw [if_pos (by omega)] | rw [if_neg (by omega)] | fail)); all_goals first | done | rfl | assumption | omega), fun j => (by (try simp only [kz_al, kz_st, rz_al, rz_st, nz_al, nz_st, true_and, and_true, if_true]); (repeat (first | rw [if_pos (by omega)] | rw [if_neg (by omega)] | fail)); all_goals first | done | rfl | assumption | omega)⟩, fun a j x y => fz_n (by omega), ⟨⟨(by (try simp only [kz_al, kz_st, rz_al, rz_st, nz_al, nz_st, true_and, and_true, if_true]); (repeat (first | rw [if_pos (by omega)] | rw [if_neg (by omega)] | fail)); all_goals first | done | rfl | assumption | omega), (by (try simp only [kz_al, kz_st, rz_al, rz_st, nz_al, nz_st, true_and, and_true, if_true]); (repeat (first | rw [if_pos (by omega)] | rw [if_neg (by omega)] | fail)); all_goals first | done | rfl | assumption | omega), (by (try simp only [kz_al, kz_st, rz_al, rz_st, nz_al, nz_st, true_and, and_true, if_true]); (repeat (first | rw [if_pos (by omega)] | rw [if_neg (by omega)] | fail)); all_goals first | done | rfl | assumption | omega)⟩, (by (try simp only [kz_al, kz_st, rz_al, rz_st, nz_al, nz_st, true_and, and_true, if_true]); (repeat (first | rw [if_pos (by omega)] | rw [if_neg (by omega)] | fail)); all_goals first | done | rfl | assumption | omega)⟩, fun p x y => by omega⟩
  obtain ⟨h2, F2, rfl, hi, n2, s2, f2, ⟨⟨b1, b2, b3⟩, b4⟩, v2⟩ := hI
  unfold mX6_init_B25
  refine f_lt ⟨by omega, by omega⟩ ⟨by decide, by decide⟩ (fun u => ?_) (fun u => ?_)
  · refine f_gr b1 b3 (f_nw (N := n + 54 + 52 * i.toNat) n2 (f_rc (m := 8) (by (try simp only [kz_al, kz_st, rz_al, rz_st, nz_al, nz_st, true_and, and_true, if_true]); (repeat (first | rw [if_pos (by omega)] | rw [if_neg (by omega)] | fail)); all_goals first | done | rfl | assumption | omega) (s_i4 (by (try simp only [kz_al, kz_st, rz_al, rz_st, nz_al, nz_st, true_and, and_true, if_true]); (repeat (first | rw [if_pos (by omega)] | rw [if_neg (by omega)] | fail)); all_goals first | done | rfl | assumption | omega) (by (try simp only [kz_al, kz_st, rz_al, rz_st, nz_al, nz_st, true_and, and_true, if_true]); (repeat (first | rw [if_pos (by omega)] | rw [if_neg (by omega)] | fail)); all_goals first | done | rfl | assumption | omega) fun h5 F5 n5 s6 f6 k6 _ => ?_)))
    have l6 : ∀ a, a < n + 54 + 52 * i.toNat → zkd h5 a = zkd h2 a ∧ ∀ j, zR h5 a j = zR h2 a j := fun a x => ⟨(s6 a (by omega) x).1.trans (by (try simp only [kz_al, kz_st, rz_al, rz_st, nz_al, nz_st, true_and, and_true, if_true]); (repeat (first | rw [if_pos (by omega)] | rw [if_neg (by omega)] | fail)); all_goals first | done | rfl | assumption | omega), fun j => ((s6 a (by omega) x).2 j).trans (by (try simp only [kz_al, kz_st, rz_al, rz_st, nz_al, nz_st, true_and, and_true, if_true]); (repeat (first | rw [if_pos (by omega)] | rw [if_neg (by omega)] | fail)); all_goals first | done | rfl | assumption | omega)⟩
    have m5 : zkd h5 (n + 53) = (6, 5) := (l6 _ (by omega)).1.trans b4
    have zst : ∀ a j, a ≠ n + 53 → zR (zsR h5 (n + 53) i (n + 54 + 52 * i.toNat)) a j = zR h5 a j := fun a j x => by rw [rz_st, if_neg (fun y => x y.1)]
    refine f_str m5 hi.1 u (by rw [k6.1.1]) (hX _ _ ⟨_, _, rfl, by omega, by rw [nz_st]; omega, fun a x y => ⟨?_, fun j => ?_⟩, fun a j x y => ?_, ⟨⟨?_, ?_, ?_⟩, m5⟩, fun p x y => ⟨?_, ?_⟩⟩ (by omega))
    · rw [kz_st, (l6 a (by omega)).1]; exact (s2 a x y).1
    · rw [zst _ _ (by omega), (l6 a (by omega)).2]; exact (s2 a x y).2 j
    · rw [f6 _ _ (by omega) (by omega), fz_n (by omega)]; exact f2 a j x y
    · rw [kz_st, (l6 _ (by omega)).1]; exact b1
    · rw [zst _ _ (by omega), (l6 _ (by omega)).2]; exact b2
    · rw [zst _ _ (by omega), (l6 _ (by omega)).2]; exact b3
    · rw [rz_st]
      by_cases e : p = i
      · rw [if_pos ⟨rfl, e⟩, e]
      · rw [if_neg (fun y => e y.2), (l6 _ (by omega)).2]; exact (v2 p x (by omega)).1
    · by_cases e : p = i
      · rw [e]
        exact kS.sl (h := h5) (fun a x y => ⟨rfl, fun j => zst a j (by omega)⟩) k6
      · refine (v2 p x (by omega)).2.sl fun a x y => ⟨(l6 a (by omega)).1, fun j => ?_⟩
        rw [zst _ _ (by omega)]; exact (l6 a (by omega)).2 j
  · have e5 : i = 5 := by omega
    subst e5
    have pp : kDp h2 n [(1, 53), (0, 1)] := ⟨b1, fun e he => by
      rcases List.mem_cons.mp he with he | he
      · rw [he]; exact b3
      · rcases List.mem_cons.mp he with he | he
        · rw [he]; exact b2
        · cases he⟩
    refine s_i6t pp (by omega) fun h7 F7 n7 l7 z7 g7 p7 t7 kp ki dc => ?_
    have c0 : ∀ x y : Nat, (x, y) ∈ [(7, 466), (6, 465), (5, 319), (4, 315), (3, 314), (1, 53), (0, 1)] → zR h7 n (x : Int) = n + y := fun x y hx => p7.2 (x, y) hx
    refine q h7 F7 n7 ⟨⟨p7.1, c0 0 1 (by decide), c0 1 53 (by decide), c0 3 314 (by decide), c0 4 315 (by decide), c0 5 319 (by decide), c0 6 465 (by decide), c0 7 466 (by decide)⟩, ⟨(l7 _ (by omega) (by omega)).1.trans b4, t7⟩, k1.sl (s2.tr (l7.wd (by omega) (by omega))), kp, ki, fun i hi => ?_⟩ ⟨fun i x y => ⟨?_, i.toNat, by omega, rfl⟩, fun i k x y z => by show n + 54 + 52 * i.toNat ≠ n + 54 + 52 * k.toNat; omega⟩ z7 (c1.keep fun b j x y => ?_) dc
    · have := (v2 (i : Int) (by omega) (by omega)).2
      rw [Int.toNat_natCast] at this
      exact this.sl (l7.wd (by omega) (by omega))
    · rw [(l7 _ (by omega) (by omega)).2]
      exact (v2 i x y).1
    · rw [g7 _ _ (by omega) (by omega)]
      exact f2 b j x (by omega)
end C6
