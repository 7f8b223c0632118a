/-! the class's constructor, and the reference's -/
def iD (j : Int) : Int := if j = 2 ∨ j = 3 then 1 else 0
theorem iD_ok : okD iD := ⟨⟨by decide, by decide⟩, ⟨by decide, by decide⟩, by decide, by decide, by decide⟩
def kD0 (h : Zm) (n : Nat) : Prop := (zkd h n = (16, 8) ∧ zR h n 0 = n + 1 ∧ zR h n 1 = n + 53 ∧ zR h n 3 = n + 314 ∧ zR h n 4 = n + 315 ∧ zR h n 5 = n + 319 ∧ zR h n 6 = n + 465 ∧ zR h n 7 = n + 466) ∧ (zkd h (n + 53) = (6, 5) ∧ zkd h (n + 465) = (1, 7) ∧ zkd h (n + 466) = (1, 101) ∧ zkd h (n + 314) = (12, 18)) ∧ kS h (n + 1) ∧ kP h (n + 315) ∧ kIk h (n + 319) ∧ ∀ i : Nat, i < 5 → kS h (n + 54 + 52 * i)
theorem kD0.sl {h h' : Zm} {n : Nat} (s : sr n (n + 467) h h') (k : kD0 h n) : kD0 h' n := by
  obtain ⟨⟨a1, a2, a3, a4, a5, a6, a7, a8⟩, ⟨b1, b2, b3, b4⟩, c1, c2, c3, c4⟩ := k
  have s0 := s n (by omega) (by omega)
  exact ⟨⟨s0.1.trans a1, (s0.2 0).trans a2, (s0.2 1).trans a3, (s0.2 3).trans a4, (s0.2 4).trans a5, (s0.2 5).trans a6, (s0.2 6).trans a7, (s0.2 7).trans a8⟩, ⟨(s _ (by omega) (by omega)).1.trans b1, (s _ (by omega) (by omega)).1.trans b2, (s _ (by omega) (by omega)).1.trans b3, (s _ (by omega) (by omega)).1.trans b4⟩, c1.sl (s.wd (by omega) (by omega)), c2.sl (s.wd (by omega) (by omega)), c3.sl (s.wd (by omega) (by omega)), fun i hi => (c4 i hi).sl (s.wd (by omega) (by omega))⟩
theorem sr_al {lo hi t k : Nat} {h : Zm} (e : hi ≤ h.1.2) : sr lo hi h (zal h t k) := fun a x y => ⟨if_neg (by omega), fun j => if_neg (by omega)⟩
theorem sr_st {lo hi b v : Nat} {i : Int} {h : Zm} (e : b < lo ∨ hi ≤ b) : sr lo hi h (zsR h b i v) := fun a x y => ⟨rfl, fun j => if_neg (by omega)⟩
section C6
variable {h : Zm} {F : Nat → Int → Int}
def kDp (h : Zm) (n : Nat) (L : List (Nat × Nat)) : Prop := zkd h n = (16, 8) ∧ ∀ e ∈ L, zR h n (e.1 : Int) = n + e.2
theorem kDp.st {n : Nat} {L : List (Nat × Nat)} (e : Nat × Nat) (k : kDp h n L) (hL : ∀ x ∈ L, x.1 ≠ e.1) : kDp (zsR h n (e.1 : Int) (n + e.2)) n (e :: L) := by
  refine ⟨k.1, fun x hx => ?_⟩
  rw [rz_st]
  rcases List.mem_cons.mp hx with hx | hx
  · rw [hx, if_pos ⟨rfl, rfl⟩]
  · have := hL x hx
    rw [if_neg (by omega)]
    exact k.2 x hx
theorem kDp.sl {h' : Zm} {n : Nat} {L : List (Nat × Nat)} (s : sr n (n + 1) h h') (k : kDp h n L) : kDp h' n L := ⟨(s n (by omega) (by omega)).1.trans k.1, fun e he => ((s n (by omega) (by omega)).2 _).trans (k.2 e he)⟩
def mX6t (n : Nat) (h : Zm) (Q : Zm → Prop) : Prop :=
  cPi h 16 n 2 0 fun h13 => cNw h13 12 18 fun r14 h15 => cRc h15 12 r14 <| mX2_init r14 h15 fun h16 => cPr h16 16 n 3 r14 fun h17 => cNw h17 13 3 fun r18 h19 => cRc h19 13 r18 <| mX3_init r18 h19 fun h20 => cPr h20 16 n 4 r18 fun h21 => cNw h21 11 2 fun r22 h23 => cRc h23 11 r22 <| mX1_init r22 h23 fun h24 => cPr h24 16 n 5 r22 fun h25 => cNw h25 1 7 fun r26 h27 => cPr h27 16 n 6 r26 fun h28 => cNw h28 1 101 fun r29 h30 => cPr h30 16 n 7 r29 fun h31 => Q h31
theorem s_i6t {Q : Zm → Prop} {n : Nat} (hp : kDp h n [(1, 53), (0, 1)]) (hn : h.1.2 = n + 314) (q : ∀ h' F', h'.1.2 = n + 467 → sr (n + 1) (n + 314) h h' → F' n 2 = 0 → (∀ a j, n + 1 ≤ a → a < n + 314 → F' a j = F a j) → kDp h' n [(7, 466), (6, 465), (5, 319), (4, 315), (3, 314), (1, 53), (0, 1)] → (zkd h' (n + 465) = (1, 7) ∧ zkd h' (n + 466) = (1, 101) ∧ zkd h' (n + 314) = (12, 18)) → kP h' (n + 315) → kIk h' (n + 319) → DC F' n iD → Q (zwI h' F')) : mX6t n (zwI h F) Q := by
  unfold mX6t
  refine f_pi hp.1 ⟨by decide, by decide⟩ ?_
  refine f_nw hn ?_
  have sA : sr 0 (n + 314) h (zal h 12 18) := sr_al (by omega)
  have nA : (zal h 12 18).1.2 = n + 315 := by rw [nz_al]; omega
  have kA : zkd (zal h 12 18) (n + 314) = (12, 18) := by rw [kz_al, if_pos hn.symm]
  have pA := hp.sl (sA.wd (by omega) (by omega))
  generalize zal h 12 18 = hA at sA nA kA pA ⊢
  refine f_rc kA (s_i2 kA (fun j => fz_s) fun F3 g3 w3 => ?_)
  refine f_pr pA.1 ?_
  have pB : kDp (zsR hA n 3 (n + 314)) n [(3, 314), (1, 53), (0, 1)] := pA.st (3, 314) (by decide)
  have sB : sr (n + 1) (n + 315) hA (zsR hA n 3 (n + 314)) := sr_st (Or.inl (by omega))
  have nB : (zsR hA n 3 (n + 314)).1.2 = n + 315 := nA
  generalize zsR hA n 3 (n + 314) = hB at pB sB nB ⊢
  have kB : zkd hB (n + 314) = (12, 18) := (sB _ (by omega) (by omega)).1.trans kA
  have sB := (sA.wd (show 0 ≤ n + 1 by omega) (Nat.le_refl _)).tr (sB.wd (Nat.le_refl _) (by omega))
  refine f_nw nB ?_
  have sC : sr 0 (n + 315) hB (zal hB 13 3) := sr_al (by omega)
  have nC : (zal hB 13 3).1.2 = n + 315 + 1 := by rw [nz_al]; omega
  have kC : zkd (zal hB 13 3) (n + 315) = (13, 3) := by rw [kz_al, if_pos nB.symm]
  have pC := pB.sl (sC.wd (by omega) (by omega))
  generalize zal hB 13 3 = hC at sC nC kC pC ⊢
  refine f_rc kC (s_i3 kC nC fun h4 F4 n4 s4 f4 k4 => ?_)
  have p4 := pC.sl (s4.wd (by omega) (by omega))
  have l4 := sB.tr ((sC.tr s4).wd (by omega) (by omega))
  have k41 : zkd h4 (n + 314) = (12, 18) := ((sC.tr s4) _ (by omega) (by omega)).1.trans kB
  refine f_pr p4.1 ?_
  have pD : kDp (zsR h4 n 4 (n + 315)) n [(4, 315), (3, 314), (1, 53), (0, 1)] := p4.st (4, 315) (by decide)
  have sD : sr (n + 1) (n + 319) h4 (zsR h4 n 4 (n + 315)) := sr_st (Or.inl (by omega))
  have nD : (zsR h4 n 4 (n + 315)).1.2 = n + 319 := n4
  generalize zsR h4 n 4 (n + 315) = hD at pD sD nD ⊢
  refine f_nw nD ?_
  have sE : sr 0 (n + 319) hD (zal hD 11 2) := sr_al (by omega)
  have nE : (zal hD 11 2).1.2 = n + 319 + 1 := by rw [nz_al]; omega
  have kE : zkd (zal hD 11 2) (n + 319) = (11, 2) := by rw [kz_al, if_pos nD.symm]
  have pE := pD.sl (sE.wd (by omega) (by omega))
  generalize zal hD 11 2 = hE at sE nE kE pE ⊢
  refine f_rc kE (s_i1 kE nE fun h6 F6 n6 s6 f6 k6 => ?_)
  have p6 := pE.sl (s6.wd (by omega) (by omega))
  have l46 := sD.tr ((sE.tr s6).wd (by omega) (by omega))
  have l6 := l4.tr (l46.wd (Nat.le_refl _) (by omega))
  have k46 : kP h6 (n + 315) := kP.sl (P := n + 315) (l46.wd (by omega) (by omega)) k4
  have k61 : zkd h6 (n + 314) = (12, 18) := (l46 _ (by omega) (by omega)).1.trans k41
  clear sA nA kA pA pB sB nB kB sC nC kC pC s4 p4 l4 k41 pD sD nD sE nE kE pE s6 l46
  refine f_pr p6.1 ?_
  have pF : kDp (zsR h6 n 5 (n + 319)) n [(5, 319), (4, 315), (3, 314), (1, 53), (0, 1)] := p6.st (5, 319) (by decide)
  have sF : sr (n + 1) (n + 465) h6 (zsR h6 n 5 (n + 319)) := sr_st (Or.inl (by omega))
  have nF : (zsR h6 n 5 (n + 319)).1.2 = n + 465 := n6
  generalize zsR h6 n 5 (n + 319) = hF at pF sF nF ⊢
  refine f_nw nF ?_
  have sG : sr 0 (n + 465) hF (zal hF 1 7) := sr_al (by omega)
  have nG : (zal hF 1 7).1.2 = n + 466 := by rw [nz_al]; omega
  have kG : zkd (zal hF 1 7) (n + 465) = (1, 7) := by rw [kz_al, if_pos nF.symm]
  have pG := pF.sl (sG.wd (by omega) (by omega))
  generalize zal hF 1 7 = hG at sG nG kG pG ⊢
  have sG := sF.tr (sG.wd (by omega) (Nat.le_refl _))
  refine f_pr pG.1 ?_
  have pH : kDp (zsR hG n 6 (n + 465)) n [(6, 465), (5, 319), (4, 315), (3, 314), (1, 53), (0, 1)] := pG.st (6, 465) (by decide)
  have sH : sr (n + 1) (n + 466) hG (zsR hG n 6 (n + 465)) := sr_st (Or.inl (by omega))
  have nH : (zsR hG n 6 (n + 465)).1.2 = n + 466 := nG
  generalize zsR hG n 6 (n + 465) = hH at pH sH nH ⊢
  have kH : zkd hH (n + 465) = (1, 7) := (sH _ (by omega) (by omega)).1.trans kG
  have sH := sG.tr (sH.wd (Nat.le_refl _) (by omega))
  refine f_nw nH ?_
  have sI : sr 0 (n + 466) hH (zal hH 1 101) := sr_al (by omega)
  have nI : (zal hH 1 101).1.2 = n + 467 := by rw [nz_al]; omega
  have kI : zkd (zal hH 1 101) (n + 466) = (1, 101) := by rw [kz_al, if_pos nH.symm]
  have pI := pH.sl (sI.wd (by omega) (by omega))
  generalize zal hH 1 101 = hI at sI nI kI pI ⊢
  have kI2 : zkd hI (n + 465) = (1, 7) := (sI _ (by omega) (by omega)).1.trans kH
  have sI := sH.tr (sI.wd (by omega) (by omega))
  refine f_pr pI.1 ?_
  have pJ : kDp (zsR hI n 7 (n + 466)) n [(7, 466), (6, 465), (5, 319), (4, 315), (3, 314), (1, 53), (0, 1)] := pI.st (7, 466) (by decide)
  have sJ : sr (n + 1) (n + 467) hI (zsR hI n 7 (n + 466)) := sr_st (Or.inl (by omega))
  have nJ : (zsR hI n 7 (n + 466)).1.2 = n + 467 := nI
  generalize zsR hI n 7 (n + 466) = hJ at pJ sJ nJ ⊢
  have sK := sI.tr (sJ.wd (Nat.le_refl _) (by omega))
  refine q _ _ nJ (l6.tr (sK.wd (Nat.le_refl _) (by omega))) ?_ (fun a j x y => ?_) pJ ⟨(sJ _ (by omega) (by omega)).1.trans kI2, (sJ _ (by omega) (by omega)).1.trans kI, (sK _ (by omega) (by omega)).1.trans k61⟩ (kP.sl (P := n + 315) (sK.wd (by omega) (by omega)) k46) (kIk.sl (T := n + 319) (sK.wd (by omega) (by omega)) k6) (fun j x y => ?_)
  · rw [fz_n (by omega), fz_n (by omega), f6 _ _ (by omega) (by omega), fz_n (by omega), f4 _ _ (by omega) (by omega), fz_n (by omega), g3 _ _ (by omega), fz_n (by omega)]
    exact up_s _ _ _ _
  · rw [fz_n (by omega), fz_n (by omega), f6 _ _ (by omega) (by omega), fz_n (by omega), f4 _ _ (by omega) (by omega), fz_n (by omega), g3 _ _ (by omega), fz_n (by omega), up_a (by omega)]
  · rw [fz_n (by omega), fz_n (by omega), f6 _ _ (by omega) (by omega), fz_n (by omega), f4 _ _ (by omega) (by omega), fz_n (by omega), w3]
    unfold iN0 iD
    by_cases e : j = 2 ∨ j = 3
    · rw [if_neg (by omega), if_pos (by omega), if_pos e]
    · rw [if_neg (by omega), if_neg (by omega), if_neg e]
theorem s_i6 {Q : Zm → Prop} {n : Nat} (hk : zkd h n = (16, 8)) (hn : h.1.2 = n + 1) (q : ∀ h' F', h'.1.2 = n + 467 → kD0 h' n → HB h' n (fun i => n + 54 + 52 * i.toNat) → F' n 2 = 0 → CS F' (n + 1) iS iG → DC F' n iD → Q (zwI h' F')) : mX6_init n (zwI h F) Q := by
  unfold mX6_init
  refine f_rc hk (f_nw hn (f_rc (m := 8) (by (try simp only [kz_al, kz_st, rz_al, rz_st, nz_al, nz_st, true_and, and_true, if_true]); (repeat (first | rw [if_pos (by omega)] | rw [if_neg (by omega)] | fail)); all_goals first | done | rfl | assumption | omega) (s_i4 (A := n + 1) (by (try simp only [kz_al, kz_st, rz_al, rz_st, nz_al, nz_st, true_and, and_true, if_true]); (repeat (first | rw [if_pos (by omega)] | rw [if_neg (by omega)] | fail)); all_goals first | done | rfl | assumption | omega) (by (try simp only [kz_al, kz_st, rz_al, rz_st, nz_al, nz_st, true_and, and_true, if_true]); (repeat (first | rw [if_pos (by omega)] | rw [if_neg (by omega)] | fail)); all_goals first | done | rfl | assumption | omega) fun h1 F1 n1 s1 f1 k1 c1 => ?_)))
  have a1 : zkd h1 n = (16, 8) := (s1 n (by omega) (by omega)).1.trans (by (try simp only [kz_al, kz_st, rz_al, rz_st, nz_al, nz_st, true_and, and_true, if_true]); (repeat (first | rw [if_pos (by omega)] | rw [if_neg (by omega)] | fail)); all_goals first | done | rfl | assumption | omega)
  refine f_pr a1 (f_nw (N := n + 53) (by (try simp only [kz_al, kz_st, rz_al, rz_st, nz_al, nz_st, true_and, and_true, if_true]); (repeat (first | rw [if_pos (by omega)] | rw [if_neg (by omega)] | fail)); all_goals first | done | rfl | assumption | omega) (f_pr (m := 8) (by (try simp only [kz_al, kz_st, rz_al, rz_st, nz_al, nz_st, true_and, and_true, if_true]); (repeat (first | rw [if_pos (by omega)] | rw [if_neg (by omega)] | fail)); all_goals first | done | rfl | assumption | omega) ?_))
  unfold mX6_init_H25
  refine lfp1_i (fun i _ => (5 - i).toNat) (fun i m => ∃ h' F', m = zwI h' F' ∧ (0 ≤ i ∧ i ≤ 5) ∧ h'.1.2 = n + 54 + 52 * i.toNat ∧ sr (n + 1) (n + 53) h1 h' ∧ fl (n + 1) (n + 53) F1 F' ∧ ((zkd h' n = (16, 8) ∧ zR h' n 0 = n + 1 ∧ zR h' n 1 = n + 53) ∧ zkd h' (n + 53) = (6, 5)) ∧ ∀ p : Int, 0 ≤ p → p < i → zR h' (n + 53) p = n + 54 + 52 * p.toNat ∧ kS h' (n + 54 + 52 * p.toNat)) (fun X i m hI hX => ?_) 0 _ ⟨_, _, rfl, by decide, (by (try simp only [kz_al, kz_st, rz_al, rz_st, nz_al, nz_st, true_and, and_true, if_true]); (repeat (first | rw [if_pos (by omega)] | rw [if_neg (by omega)] | fail)); all_goals first | done | rfl | assumption | omega), fun a x y => ⟨(by (try simp only [kz_al, kz_st, rz_al, rz_st, nz_al, nz_st, true_and, and_true, if_true]); (repeat (first | rw [if_pos (by omega)] | rw [if_neg (by omega)] | fail)); all_goals first | done | rfl | assumption | omega), fun j => (by (try simp only [kz_al, kz_st, rz_al, rz_st, nz_al, nz_st, true_and, and_true, if_true]); (repeat (first | rw [if_pos (by omega)] | rw [if_neg (by omega)] | fail)); all_goals first | done | rfl | assumption | omega)⟩, fun a j x y => fz_n (by omega), ⟨⟨(by (try simp only [kz_al, kz_st, rz_al, rz_st, nz_al, nz_st, true_and, and_true, if_true]); (repeat (first | rw [if_pos (by omega)] | rw [if_neg (by omega)] | fail)); all_goals first | done | rfl | assumption | omega), (by (try simp only [kz_al, kz_st, rz_al, rz_st, nz_al, nz_st, true_and, and_true, if_true]); (repeat (first | rw [if_pos (by omega)] | rw [if_neg (by omega)] | fail)); all_goals first | done | rfl | assumption | omega), (by (try simp only [kz_al, kz_st, rz_al, rz_st, nz_al, nz_st, true_and, and_true, if_true]); (repeat (first | rw [if_pos (by omega)] | rw [if_neg (by omega)] | fail)); all_goals first | done | rfl | assumption | omega)⟩, (by (try simp only [kz_al, kz_st, rz_al, rz_st, nz_al, nz_st, true_and, and_true, if_true]); (repeat (first | rw [if_pos (by omega)] | rw [if_neg (by omega)] | fail)); all_goals first | done | rfl | assumption | omega)⟩, fun p x y => by omega⟩
  obtain ⟨h2, F2, rfl, hi, n2, s2, f2, ⟨⟨b1, b2, b3⟩, b4⟩, v2⟩ := hI
  unfold mX6_init_B25
  refine f_lt ⟨by omega, by omega⟩ ⟨by decide, by decide⟩ (fun u => ?_) (fun u => ?_)
  · refine f_gr b1 b3 (f_nw (N := n + 54 + 52 * i.toNat) n2 (f_rc (m := 8) (by (try simp only [kz_al, kz_st, rz_al, rz_st, nz_al, nz_st, true_and, and_true, if_true]); (repeat (first | rw [if_pos (by omega)] | rw [if_neg (by omega)] | fail)); all_goals first | done | rfl | assumption | omega) (s_i4 (by (try simp only [kz_al, kz_st, rz_al, rz_st, nz_al, nz_st, true_and, and_true, if_true]); (repeat (first | rw [if_pos (by omega)] | rw [if_neg (by omega)] | fail)); all_goals first | done | rfl | assumption | omega) (by (try simp only [kz_al, kz_st, rz_al, rz_st, nz_al, nz_st, true_and, and_true, if_true]); (repeat (first | rw [if_pos (by omega)] | rw [if_neg (by omega)] | fail)); all_goals first | done | rfl | assumption | omega) fun h5 F5 n5 s6 f6 k6 _ => ?_)))
    have l6 : ∀ a, a < n + 54 + 52 * i.toNat → zkd h5 a = zkd h2 a ∧ ∀ j, zR h5 a j = zR h2 a j := fun a x => ⟨(s6 a (by omega) x).1.trans (by (try simp only [kz_al, kz_st, rz_al, rz_st, nz_al, nz_st, true_and, and_true, if_true]); (repeat (first | rw [if_pos (by omega)] | rw [if_neg (by omega)] | fail)); all_goals first | done | rfl | assumption | omega), fun j => ((s6 a (by omega) x).2 j).trans (by (try simp only [kz_al, kz_st, rz_al, rz_st, nz_al, nz_st, true_and, and_true, if_true]); (repeat (first | rw [if_pos (by omega)] | rw [if_neg (by omega)] | fail)); all_goals first | done | rfl | assumption | omega)⟩
    have m5 : zkd h5 (n + 53) = (6, 5) := (l6 _ (by omega)).1.trans b4
    have zst : ∀ a j, a ≠ n + 53 → zR (zsR h5 (n + 53) i (n + 54 + 52 * i.toNat)) a j = zR h5 a j := fun a j x => by rw [rz_st, if_neg (fun y => x y.1)]
    refine f_str m5 hi.1 u (by rw [k6.1.1]) (hX _ _ ⟨_, _, rfl, by omega, by rw [nz_st]; omega, fun a x y => ⟨?_, fun j => ?_⟩, fun a j x y => ?_, ⟨⟨?_, ?_, ?_⟩, m5⟩, fun p x y => ⟨?_, ?_⟩⟩ (by omega))
    · rw [kz_st, (l6 a (by omega)).1]; exact (s2 a x y).1
    · rw [zst _ _ (by omega), (l6 a (by omega)).2]; exact (s2 a x y).2 j
    · rw [f6 _ _ (by omega) (by omega), fz_n (by omega)]; exact f2 a j x y
    · rw [kz_st, (l6 _ (by omega)).1]; exact b1
    · rw [zst _ _ (by omega), (l6 _ (by omega)).2]; exact b2
    · rw [zst _ _ (by omega), (l6 _ (by omega)).2]; exact b3
    · rw [rz_st]
      by_cases e : p = i
      · rw [if_pos ⟨rfl, e⟩, e]
      · rw [if_neg (fun y => e y.2), (l6 _ (by omega)).2]; exact (v2 p x (by omega)).1
    · by_cases e : p = i
      · rw [e]
        exact kS.sl (h := h5) (fun a x y => ⟨rfl, fun j => zst a j (by omega)⟩) k6
      · refine (v2 p x (by omega)).2.sl fun a x y => ⟨(l6 a (by omega)).1, fun j => ?_⟩
        rw [zst _ _ (by omega)]; exact (l6 a (by omega)).2 j
  · have e5 : i = 5 := by omega
    subst e5
    have pp : kDp h2 n [(1, 53), (0, 1)] := ⟨b1, fun e he => by
      rcases List.mem_cons.mp he with he | he
      · rw [he]; exact b3
      · rcases List.mem_cons.mp he with he | he
        · rw [he]; exact b2
        · cases he⟩
    refine s_i6t pp (by omega) fun h7 F7 n7 l7 z7 g7 p7 t7 kp ki dc => ?_
    have c0 : ∀ x y : Nat, (x, y) ∈ [(7, 466), (6, 465), (5, 319), (4, 315), (3, 314), (1, 53), (0, 1)] → zR h7 n (x : Int) = n + y := fun x y hx => p7.2 (x, y) hx
    refine q h7 F7 n7 ⟨⟨p7.1, c0 0 1 (by decide), c0 1 53 (by decide), c0 3 314 (by decide), c0 4 315 (by decide), c0 5 319 (by decide), c0 6 465 (by decide), c0 7 466 (by decide)⟩, ⟨(l7 _ (by omega) (by omega)).1.trans b4, t7⟩, k1.sl (s2.tr (l7.wd (by omega) (by omega))), kp, ki, fun i hi => ?_⟩ ⟨fun i x y => ⟨?_, i.toNat, by omega, rfl⟩, fun i k x y z => by show n + 54 + 52 * i.toNat ≠ n + 54 + 52 * k.toNat; omega⟩ z7 (c1.keep fun b j x y => ?_) dc
    · have := (v2 (i : Int) (by omega) (by omega)).2
      rw [Int.toNat_natCast] at this
      exact this.sl (l7.wd (by omega) (by omega))
    · rw [(l7 _ (by omega) (by omega)).2]
      exact (v2 i x y).1
    · rw [g7 _ _ (by omega) (by omega)]
      exact f2 b j x (by omega)
def kMp (h : Zm) (M : Nat) (L : List (Nat × Nat × Nat × Nat)) : Prop := zkd h M = (17, 20) ∧ ∀ e ∈ L, zR h M (e.1 : Int) = M + e.2.1 ∧ zkd h (M + e.2.1) = (e.2.2.1, e.2.2.2)
theorem s_mf {Q : Zm → Prop} {M : Nat} {L : List (Nat × Nat × Nat × Nat)} (e : Nat × Nat × Nat × Nat) (km : kMp h M L) (hn : h.1.2 = M + e.2.1) (h0 : 1 ≤ e.2.1) (hL : ∀ x ∈ L, x.1 ≠ e.1 ∧ x.2.1 < e.2.1) (z : ∀ a j, M < a → a < M + e.2.1 → F a j = 0) (q : ∀ h' F', h'.1.2 = M + (e.2.1 + 1) → sr 0 M h h' → fl 0 (M + 1) F F' → kMp h' M (e :: L) → (∀ a j, M < a → a < M + (e.2.1 + 1) → F' a j = 0) → Q (zwI h' F')) : cNw (zwI h F) e.2.2.1 e.2.2.2 fun r h1 => cPr h1 17 M (e.1 : Int) r Q := by
  obtain ⟨k0, k1⟩ := km
  refine f_nw hn (f_pr (m := 20) (by (try simp only [kz_al, kz_st, rz_al, rz_st, nz_al, nz_st, true_and, and_true, if_true]); (repeat (first | rw [if_pos (by omega)] | rw [if_neg (by omega)] | fail)); all_goals first | done | rfl | assumption | omega) (q _ _ (by rw [nz_st, nz_al]; omega) (fun a x y => ⟨(by (try simp only [kz_al, kz_st, rz_al, rz_st, nz_al, nz_st, true_and, and_true, if_true]); (repeat (first | rw [if_pos (by omega)] | rw [if_neg (by omega)] | fail)); all_goals first | done | rfl | assumption | omega), fun j => (by (try simp only [kz_al, kz_st, rz_al, rz_st, nz_al, nz_st, true_and, and_true, if_true]); (repeat (first | rw [if_pos (by omega)] | rw [if_neg (by omega)] | fail)); all_goals first | done | rfl | assumption | omega)⟩) (fun a j x y => fz_n (by omega)) ⟨(by (try simp only [kz_al, kz_st, rz_al, rz_st, nz_al, nz_st, true_and, and_true, if_true]); (repeat (first | rw [if_pos (by omega)] | rw [if_neg (by omega)] | fail)); all_goals first | done | rfl | assumption | omega), fun x hx => ?_⟩ (fun a j x y => ?_)))
  · rcases List.mem_cons.mp hx with hx | hx
    · rw [hx]
      exact ⟨(by (try simp only [kz_al, kz_st, rz_al, rz_st, nz_al, nz_st, true_and, and_true, if_true]); (repeat (first | rw [if_pos (by omega)] | rw [if_neg (by omega)] | fail)); all_goals first | done | rfl | assumption | omega), by rw [kz_st, kz_al, if_pos hn.symm]⟩
    · have hl := hL x hx
      have kx := k1 x hx
      refine ⟨?_, ?_⟩
      · rw [rz_st, if_neg (by omega), rz_al, if_neg (by omega)]; exact kx.1
      · rw [kz_st, kz_al, if_neg (by omega)]; exact kx.2
  · by_cases ea : a = M + e.2.1
    · rw [ea]; exact fz_s
    · rw [fz_n ea]; exact z a j x (by omega)
def mX7t (M : Nat) (h51 : Zm) (Q : Zm → Prop) : Prop :=
  cGr h51 17 M 0 fun r52 => cSt h51 r52 0 8 fun h53 => cGr h53 17 M 0 fun r54 => cSt h53 r54 1 6 fun h55 => cGr h55 17 M 0 fun r56 => cSt h55 r56 2 50 fun h57 => cGr h57 17 M 0 fun r58 => cSt h57 r58 3 40 fun h59 => cGr h59 17 M 0 fun r60 => cSt h59 r60 4 700 fun h61 => mX7_init_H186 M 0 h61 Q
theorem s_i7t {Q : Zm → Prop} {M : Nat} {h0 : Zm} {F0 : Nat → Int → Int} (km : kM h M) (s18 : sr 0 M h0 h) (f19 : fl 0 M F0 F) (hz : F M 3 = 0) (zz : ∀ a j, M < a → a < M + 18 → F a j = 0) (q : ∀ h' F', sr 0 M h0 h' → fl 0 M F0 F' → kM h' M → RS F' M iS → F' M 3 = 0 → DR F' M iD → Q (zwI h' F')) : mX7t M (zwI h F) Q := by
  unfold mX7t
  refine f_gr km.1 km.r0 (f_st km.k0 (by decide) (by decide) ⟨by decide, by decide⟩ (f_gr km.1 km.r0 (f_st km.k0 (by decide) (by decide) ⟨by decide, by decide⟩ (f_gr km.1 km.r0 (f_st km.k0 (by decide) (by decide) ⟨by decide, by decide⟩ (f_gr km.1 km.r0 (f_st km.k0 (by decide) (by decide) ⟨by decide, by decide⟩ (f_gr km.1 km.r0 (f_st km.k0 (by decide) (by decide) ⟨by decide, by decide⟩ ?_)))))))))
  unfold mX7_init_H186
  refine lfp1_up 3 (fun i F' => (0 ≤ i ∧ bu (M + 1) F F') ∧ ∀ j, 0 ≤ j → j < 368 → F' (M + 1) j = if 5 ≤ j ∧ j < 5 + i then 1 else t0 j) (fun X i F1 hi hI hX => ?_) 0 _ (by decide) ⟨⟨by decide, (((bu.up.tr bu.up).tr bu.up).tr bu.up).tr bu.up⟩, fun j x y => ?_⟩
  · obtain ⟨⟨i0, g1⟩, v1⟩ := hI
    unfold mX7_init_B186
    refine f_lt ⟨by omega, by omega⟩ ⟨by decide, by decide⟩ (fun u => f_gr km.1 km.r0 (f_st km.k0 (by omega) (by omega) ⟨by decide, by decide⟩ (hX u _ ⟨⟨by omega, g1.tr bu.up⟩, fun j x y => ?_⟩))) (fun u => ?_)
    · rw [up_e]
      by_cases e : j = 5 + i
      · rw [if_pos ⟨rfl, e⟩, if_pos (by omega)]
      · rw [if_neg (fun y => e y.2), v1 j x y]
        by_cases e2 : 5 ≤ j ∧ j < 5 + i
        · rw [if_pos e2, if_pos (by omega)]
        · rw [if_neg e2, if_neg (by omega)]
    · have v1 : ∀ j, 0 ≤ j → j < 368 → F1 (M + 1) j = t1 j := fun j x y => by
        rw [v1 j x y]
        unfold t1
        rw [show 5 + i = 8 by omega]
      unfold mX7_init_H208
      refine lfp1_up 7 (fun i F' => (0 ≤ i ∧ bu (M + 1) F F') ∧ ∀ j, 0 ≤ j → j < 368 → F' (M + 1) j = if (9 ≤ j ∧ j < 9 + 17 * i) ∧ (j - 9) % 17 = 0 then 2 else if (9 ≤ j ∧ j < 9 + 17 * i) ∧ ((j - 9) % 17 = 3 ∨ (j - 9) % 17 = 4) then 255 else t1 j) (fun X i F2 hi hI hX => ?_) 0 _ (by decide) ⟨⟨by decide, g1⟩, fun j x y => by rw [if_neg (by omega), if_neg (by omega)]; exact v1 j x y⟩
      obtain ⟨⟨i0, g2⟩, v2⟩ := hI
      unfold mX7_init_B208
      refine f_lt ⟨by omega, by omega⟩ ⟨by decide, by decide⟩ (fun u => f_gr km.1 km.r0 (f_st km.k0 (by omega) (by omega) ⟨by decide, by decide⟩ (f_gr km.1 km.r0 (f_st km.k0 (by omega) (by omega) ⟨by decide, by decide⟩ (f_gr km.1 km.r0 (f_st km.k0 (by omega) (by omega) ⟨by decide, by decide⟩ (hX u _ ⟨⟨by omega, ((g2.tr bu.up).tr bu.up).tr bu.up⟩, fun j x y => ?_⟩))))))) (fun u => ?_)
      · rw [up_e, up_e, up_e]
        by_cases e4 : j = 9 + 17 * i + 4
        · rw [if_pos ⟨rfl, e4⟩, if_neg (by omega), if_pos (by omega)]
        · rw [if_neg (fun y => e4 y.2)]
          by_cases e3 : j = 9 + 17 * i + 3
          · rw [if_pos ⟨rfl, e3⟩, if_neg (by omega), if_pos (by omega)]
          · rw [if_neg (fun y => e3 y.2)]
            by_cases e0 : j = 9 + 17 * i
            · rw [if_pos ⟨rfl, e0⟩, if_pos (by omega)]
            · rw [if_neg (fun y => e0 y.2), v2 j x y]
              by_cases c1 : (9 ≤ j ∧ j < 9 + 17 * i) ∧ (j - 9) % 17 = 0
              · rw [if_pos c1, if_pos (by omega)]
              · rw [if_neg c1, if_neg (show ¬ ((9 ≤ j ∧ j < 9 + 17 * (i + 1)) ∧ (j - 9) % 17 = 0) by omega)]
                by_cases c2 : (9 ≤ j ∧ j < 9 + 17 * i) ∧ ((j - 9) % 17 = 3 ∨ (j - 9) % 17 = 4)
                · rw [if_pos c2, if_pos (by omega)]
                · rw [if_neg c2, if_neg (show ¬ ((9 ≤ j ∧ j < 9 + 17 * (i + 1)) ∧ ((j - 9) % 17 = 3 ∨ (j - 9) % 17 = 4)) by omega)]
      · have v2 : ∀ j, 0 ≤ j → j < 368 → F2 (M + 1) j = t2 j := fun j x y => by
          rw [v2 j x y]
          unfold t2
          rw [show 9 + 17 * i = 128 by omega]
        unfold mX7_init_H269
        refine lfp1_up 24 (fun i F' => (0 ≤ i ∧ bu (M + 1) F F') ∧ ∀ j, 0 ≤ j → j < 368 → F' (M + 1) j = if (128 ≤ j ∧ j < 128 + 10 * i) ∧ (j - 128) % 10 = 0 then -1 else t2 j) (fun X i F3 hi hI hX => ?_) 0 _ (by decide) ⟨⟨by decide, g2⟩, fun j x y => by rw [if_neg (by omega)]; exact v2 j x y⟩
        obtain ⟨⟨i0, g3⟩, v3⟩ := hI
        unfold mX7_init_B269
        refine f_lt ⟨by omega, by omega⟩ ⟨by decide, by decide⟩ (fun u => f_gr km.1 km.r0 (f_st km.k0 (by omega) (by omega) ⟨by decide, by decide⟩ (hX u _ ⟨⟨by omega, g3.tr bu.up⟩, fun j x y => ?_⟩))) (fun u => ?_)
        · rw [up_e]
          by_cases e : j = 128 + 10 * i
          · rw [if_pos ⟨rfl, e⟩, if_pos (by omega)]
          · rw [if_neg (fun y => e y.2), v3 j x y]
            by_cases e2 : (128 ≤ j ∧ j < 128 + 10 * i) ∧ (j - 128) % 10 = 0
            · rw [if_pos e2, if_pos (by omega)]
            · rw [if_neg e2, if_neg (show ¬ ((128 ≤ j ∧ j < 128 + 10 * (i + 1)) ∧ (j - 128) % 10 = 0) by omega)]
        · have v3 : ∀ j, 0 ≤ j → j < 368 → F3 (M + 1) j = t3 j := fun j x y => by
            rw [v3 j x y]
            unfold t3
            rw [show 128 + 10 * i = 368 by omega]
          refine f_gr km.1 km.r0 (f_st km.k0 (by decide) (by decide) ⟨by decide, by decide⟩ (f_gr km.1 km.r0 (f_st km.k0 (by decide) (by decide) ⟨by decide, by decide⟩ (f_gr km.1 km.r0 (f_st km.k0 (by decide) (by decide) ⟨by decide, by decide⟩ (f_gr km.1 km.r4 (f_st km.k4 (by decide) (by decide) ⟨by decide, by decide⟩ (f_gr km.1 km.r4 (f_st km.k4 (by decide) (by decide) ⟨by decide, by decide⟩ (q _ _ s18 (fun a j x y => ?_) km (fun j x y => ?_) ?_ ⟨fun j x y => ?_, fun j x y => ?_⟩))))))))))
          · rw [up_a (by omega), up_a (by omega), up_a (by omega), up_a (by omega), up_a (by omega), g3 _ _ (by omega)]; exact f19 a j x y
          · rw [up_a (by omega), up_a (by omega), up_e, up_e, up_e]
            unfold iS
            by_cases e1 : j = 131
            · rw [if_pos ⟨rfl, e1⟩, if_pos e1]
            · rw [if_neg (fun y => e1 y.2), if_neg e1]
              by_cases e2 : j = 129
              · rw [if_pos ⟨rfl, e2⟩, if_pos e2]
              · rw [if_neg (fun y => e2 y.2), if_neg e2]
                by_cases e3 : j = 128
                · rw [if_pos ⟨rfl, e3⟩, if_pos e3]
                · rw [if_neg (fun y => e3 y.2), if_neg e3]
                  exact v3 j x y
          · rw [up_a (by omega), up_a (by omega), up_a (by omega), up_a (by omega), up_a (by omega), g3 _ _ (by omega)]; exact hz
          · rw [up_e, up_e]
            unfold iD
            by_cases e1 : j = 3
            · rw [if_pos ⟨rfl, e1⟩, if_pos (Or.inr e1)]
            · rw [if_neg (fun y => e1 y.2)]
              by_cases e2 : j = 2
              · rw [if_pos ⟨rfl, e2⟩, if_pos (Or.inl e2)]
              · rw [if_neg (fun y => e2 y.2), if_neg (by omega), up_a (by omega), up_a (by omega), up_a (by omega), g3 _ _ (by omega)]
                exact zz _ _ (by omega) (by omega)
          · rw [up_a (by omega), up_a (by omega), up_a (by omega), up_a (by omega), up_a (by omega), g3 _ _ (by omega), zz _ _ (by omega) (by omega)]
            exact (if_neg (by omega)).symm
  · have zj := zz (M + 1) j (by omega) (by omega)
    rw [if_neg (by omega)]
    unfold t0
    rw [up_e, up_e, up_e, up_e, up_e]
    rcases (show j = 0 ∨ j = 1 ∨ j = 2 ∨ j = 3 ∨ j = 4 ∨ 4 < j by omega) with rfl | rfl | rfl | rfl | rfl | z
    · exact (by (try simp only [up_e, fz_e, true_and, and_true, if_true]); (repeat (first | rw [if_pos (by omega)] | rw [if_neg (by omega)] | fail)); all_goals first | done | rfl | assumption | omega)
    · exact (by (try simp only [up_e, fz_e, true_and, and_true, if_true]); (repeat (first | rw [if_pos (by omega)] | rw [if_neg (by omega)] | fail)); all_goals first | done | rfl | assumption | omega)
    · exact (by (try simp only [up_e, fz_e, true_and, and_true, if_true]); (repeat (first | rw [if_pos (by omega)] | rw [if_neg (by omega)] | fail)); all_goals first | done | rfl | assumption | omega)
    · exact (by (try simp only [up_e, fz_e, true_and, and_true, if_true]); (repeat (first | rw [if_pos (by omega)] | rw [if_neg (by omega)] | fail)); all_goals first | done | rfl | assumption | omega)
    · exact (by (try simp only [up_e, fz_e, true_and, and_true, if_true]); (repeat (first | rw [if_pos (by omega)] | rw [if_neg (by omega)] | fail)); all_goals first | done | rfl | assumption | omega)
    · exact (by (try simp only [up_e, fz_e, true_and, and_true, if_true]); (repeat (first | rw [if_pos (by omega)] | rw [if_neg (by omega)] | fail)); all_goals first | done | rfl | assumption | omega)
theorem s_i7 {Q : Zm → Prop} {M : Nat} (hk : zkd h M = (17, 20)) (hn : h.1.2 = M + 1) (hz : F M 3 = 0) (q : ∀ h' F', sr 0 M h h' → fl 0 M F F' → kM h' M → RS F' M iS → F' M 3 = 0 → DR F' M iD → Q (zwI h' F')) : mX7_init M (zwI h F) Q := by
  unfold mX7_init
  refine f_rc hk ?_
  refine s_mf (L := []) (0, 1, 1, 368) ⟨hk, fun x hx => by cases hx⟩ hn (by decide) (by decide) (fun a j x y => by have y : a < M + 1 := y; omega) fun h1 F1 n1 s1 f1 k1 z1 => ?_
  have t1 := s1
  have u1 := f1
  refine s_mf (1, 2, 1, 1840) k1 n1 (by decide) (by decide) z1 fun h2 F2 n2 s2 f2 k2 z2 => ?_
  have t2 := t1.tr s2
  have u2 := u1.tr f2
  clear t1 u1 s2 f2 k1 z1 n1
  refine s_mf (2, 3, 1, 368) k2 n2 (by decide) (by decide) z2 fun h3 F3 n3 s3 f3 k3 z3 => ?_
  have t3 := t2.tr s3
  have u3 := u2.tr f3
  clear t2 u2 s3 f3 k2 z2 n2
  refine s_mf (4, 4, 1, 4) k3 n3 (by decide) (by decide) z3 fun h4 F4 n4 s4 f4 k4 z4 => ?_
  have t4 := t3.tr s4
  have u4 := u3.tr f4
  clear t3 u3 s4 f4 k3 z3 n3
  refine s_mf (5, 5, 1, 3) k4 n4 (by decide) (by decide) z4 fun h5 F5 n5 s5 f5 k5 z5 => ?_
  have t5 := t4.tr s5
  have u5 := u4.tr f5
  clear t4 u4 s5 f5 k4 z4 n4
  refine s_mf (6, 6, 2, 24) k5 n5 (by decide) (by decide) z5 fun h6 F6 n6 s6 f6 k6 z6 => ?_
  have t6 := t5.tr s6
  have u6 := u5.tr f6
  clear t5 u5 s6 f6 k5 z5 n5
  refine s_mf (7, 7, 1, 256) k6 n6 (by decide) (by decide) z6 fun h7 F7 n7 s7 f7 k7 z7 => ?_
  have t7 := t6.tr s7
  have u7 := u6.tr f7
  clear t6 u6 s7 f7 k6 z6 n6
  refine s_mf (8, 8, 1, 24) k7 n7 (by decide) (by decide) z7 fun h8 F8 n8 s8 f8 k8 z8 => ?_
  have t8 := t7.tr s8
  have u8 := u7.tr f8
  clear t7 u7 s8 f8 k7 z7 n7
  refine s_mf (10, 9, 1, 24) k8 n8 (by decide) (by decide) z8 fun h9 F9 n9 s9 f9 k9 z9 => ?_
  have t9 := t8.tr s9
  have u9 := u8.tr f9
  clear t8 u8 s9 f9 k8 z8 n8
  refine s_mf (11, 10, 1, 24) k9 n9 (by decide) (by decide) z9 fun h10 F10 n10 s10 f10 k10 z10 => ?_
  have t10 := t9.tr s10
  have u10 := u9.tr f10
  clear t9 u9 s10 f10 k9 z9 n9
  refine s_mf (12, 11, 1, 24) k10 n10 (by decide) (by decide) z10 fun h11 F11 n11 s11 f11 k11 z11 => ?_
  have t11 := t10.tr s11
  have u11 := u10.tr f11
  clear t10 u10 s11 f11 k10 z10 n10
  refine s_mf (13, 12, 1, 24) k11 n11 (by decide) (by decide) z11 fun h12 F12 n12 s12 f12 k12 z12 => ?_
  have t12 := t11.tr s12
  have u12 := u11.tr f12
  clear t11 u11 s12 f12 k11 z11 n11
  refine s_mf (14, 13, 1, 6) k12 n12 (by decide) (by decide) z12 fun h13 F13 n13 s13 f13 k13 z13 => ?_
  have t13 := t12.tr s13
  have u13 := u12.tr f13
  clear t12 u12 s13 f13 k12 z12 n12
  refine s_mf (15, 14, 1, 7) k13 n13 (by decide) (by decide) z13 fun h14 F14 n14 s14 f14 k14 z14 => ?_
  have t14 := t13.tr s14
  have u14 := u13.tr f14
  clear t13 u13 s14 f14 k13 z13 n13
  refine s_mf (16, 15, 1, 7) k14 n14 (by decide) (by decide) z14 fun h15 F15 n15 s15 f15 k15 z15 => ?_
  have t15 := t14.tr s15
  have u15 := u14.tr f15
  clear t14 u14 s15 f15 k14 z14 n14
  refine s_mf (17, 16, 1, 7) k15 n15 (by decide) (by decide) z15 fun h16 F16 n16 s16 f16 k16 z16 => ?_
  have t16 := t15.tr s16
  have u16 := u15.tr f16
  clear t15 u15 s16 f16 k15 z15 n15
  refine s_mf (18, 17, 1, 1296) k16 n16 (by decide) (by decide) z16 fun h17 F17 n17 s17 f17 k17 z17 => ?_
  have t17 := t16.tr s17
  have u17 := u16.tr f17
  clear t16 u16 s17 f17 k16 z16 n16
  have km : kM h17 M := ⟨k17.1, fun e he => k17.2 e (List.mem_reverse.mpr he)⟩
  exact s_i7t km t17 (u17.wd (by omega) (by omega)) ((u17 M 3 (by omega) (by omega)).trans hz) z17 q
end C6
