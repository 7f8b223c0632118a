/-! addGroup, addRect, addSpot: the class's, on -/
theorem ffi_p (P : Int → Prop) [DecidablePred P] {n : Int} (hn : 0 ≤ n) (h : ffi P n < n) : P (ffi P n) := by
  have key : ∀ m : Nat, ffi P m < m → P (ffi P m) := by
    intro m
    induction m with
    | zero =>
      intro y
      have := ffi_le P (Int.le_refl 0)
      have y : ffi P 0 < 0 := y
      omega
    | succ m ih =>
      intro y
      rw [show ((m + 1 : Nat) : Int) = (m : Int) + 1 by omega] at y ⊢
      rw [ffi_s P (by omega)] at y ⊢
      by_cases e : ffi P m < m
      · rw [if_pos e]; exact ih e
      · rw [if_neg e] at y ⊢
        by_cases e2 : P m
        · rw [if_pos e2]; exact e2
        · rw [if_neg e2] at y
          omega
  have := key n.toNat
  rw [Int.toNat_of_nonneg hn] at this
  exact this h
theorem fre_neg {S : Int → Int} (h : fre S < 24) : nk S (fre S) < 0 := ffi_p (fun i => nk S (i + 1) < 0) (by decide) (by unfold fre at h; omega)
theorem fNb_p {S : Int → Int} {g : Nat → Int → Int} {P : Int} (h : ¬ fNb S g P < 0) : isN S P ∧ nk S P = 0 ∧ gd g P < 4 ∧ fre S < 24 ∧ fNb S g P = fre S := by
  unfold fNb at h ⊢
  by_cases e1 : isN S P
  · rw [if_pos e1] at h ⊢
    by_cases e2 : nk S P = 0 ∧ gd g P < 4
    · rw [if_pos e2] at h ⊢
      by_cases e3 : fre S < 24
      · exact ⟨e1, e2.1, e2.2, e3, if_pos e3⟩
      · rw [if_neg e3] at h
        exact absurd (by decide) h
    · rw [if_neg e2] at h
      exact absurd (by decide) h
  · rw [if_neg e1] at h
    exact absurd (by decide) h
theorem AR_come {S D : Int → Int} {k K P : Int} (hk : 1 ≤ k ∧ k < 24) : AR S (rCome S k K P D) k K P := by
  have e : ∀ j, rCome S k K P D j = if j = 8 then S 8 + 1 else if j = 128 + 10 * k then K else if j = 128 + 10 * k + 1 then P else if j = 128 + 10 * k + 2 then S 8 + 1 else if 128 + 10 * k + 3 ≤ j ∧ j < 128 + 10 * k + 7 then D (j - (128 + 10 * k + 3)) else S j := fun _ => rfl
  refine ⟨fun j a b c => ?_, ?_, fun x a b c j u v => ?_, ?_, ?_, ?_⟩
  · rw [e, if_neg c, if_neg (by omega), if_neg (by omega), if_neg (by omega), if_neg (by omega)]
  · rw [e, if_pos rfl]
  · rw [e, if_neg (by omega), if_neg (by omega), if_neg (by omega), if_neg (by omega), if_neg (by omega)]
  · show rCome S k K P D (128 + 10 * k) = K
    rw [e, if_neg (by omega), if_pos rfl]
  · show rCome S k K P D (128 + 10 * k + 1) = P
    rw [e, if_neg (by omega), if_neg (by omega), if_pos rfl]
  · show rCome S k K P D (128 + 10 * k + 2) = S 8 + 1
    rw [e, if_neg (by omega), if_neg (by omega), if_neg (by omega), if_pos rfl]
theorem come_f {S D : Int → Int} {k K P j : Int} (hk : 1 ≤ k ∧ k < 24) (h0 : 0 ≤ j) (h1 : j < 4) : nf (rCome S k K P D) k j = D j := by
  show (if 128 + 10 * k + (3 + j) = 8 then S 8 + 1 else if 128 + 10 * k + (3 + j) = 128 + 10 * k then K else if 128 + 10 * k + (3 + j) = 128 + 10 * k + 1 then P else if 128 + 10 * k + (3 + j) = 128 + 10 * k + 2 then S 8 + 1 else if 128 + 10 * k + 3 ≤ 128 + 10 * k + (3 + j) ∧ 128 + 10 * k + (3 + j) < 128 + 10 * k + 7 then D (128 + 10 * k + (3 + j) - (128 + 10 * k + 3)) else S (128 + 10 * k + (3 + j))) = D j
  rw [if_neg (by omega), if_neg (by omega), if_neg (by omega), if_neg (by omega), if_pos (by omega)]
  congr 1
  omega
theorem AR.eq {S S' S2 : Int → Int} {k K P : Int} (hk : 1 ≤ k ∧ k < 24) (a : AR S S' k K P) (h : ∀ j, ¬ (128 + 10 * k + 3 ≤ j ∧ j < 128 + 10 * k + 10) → S2 j = S' j) : AR S S2 k K P := by
  obtain ⟨a1, a2, a3, a4, a5, a6⟩ := a
  refine ⟨fun j x y z => ?_, ?_, fun x p q r j u v => ?_, ?_, ?_, ?_⟩
  · rw [h _ (by omega)]; exact a1 j x y z
  · rw [h _ (by omega)]; exact a2
  · rw [h _ (by omega)]; exact a3 x p q r j u v
  · exact (h _ (by omega)).trans a4
  · exact (h _ (by omega)).trans a5
  · exact (h _ (by omega)).trans a6
theorem rowG_AR {S D : Int → Int} {k P o dx dy : Int} (hk : 1 ≤ k ∧ k < 24) : AR S (rowG S k P o dx dy D) k 0 P :=
  (AR_come (D := D) hk).eq hk fun j h => by
    unfold rowG
    rw [ru_n (by omega), ru_n (by omega), ru_n (by omega)]
theorem rowS_AR {S D : Int → Int} {k P p u : Int} (hk : 1 ≤ k ∧ k < 24) : AR S (rowS S k P p u D) k 2 P :=
  (AR_come (D := D) hk).eq hk fun j h => by
    unfold rowS
    rw [ru_n (by omega), ru_n (by omega)]
theorem rowR_AR {S D : Int → Int} {k P : Int} (hk : 1 ≤ k ∧ k < 24) : AR S (rowR S k P D) k 1 P :=
  (AR_come (D := D) hk).eq hk fun j h => if_neg (by omega)
theorem rowG_f {S D : Int → Int} {k P o dx dy : Int} : nf (rowG S k P o dx dy D) k 0 = o ∧ nf (rowG S k P o dx dy D) k 1 = dx ∧ nf (rowG S k P o dx dy D) k 2 = dy := by
  unfold nf rowG
  refine ⟨?_, ?_, ?_⟩
  · rw [ru_n (by omega), ru_n (by omega), show 128 + 10 * k + (3 + 0) = 128 + 10 * k + 3 by omega]; exact ru_s
  · rw [ru_n (by omega), show 128 + 10 * k + (3 + 1) = 128 + 10 * k + 3 + 1 by omega]; exact ru_s
  · rw [show 128 + 10 * k + (3 + 2) = 128 + 10 * k + 3 + 2 by omega]; exact ru_s
theorem rowS_f {S D : Int → Int} {k P p u : Int} (hk : 1 ≤ k ∧ k < 24) : (∀ j, 0 ≤ j → j < 4 → nf (rowS S k P p u D) k j = D j) ∧ nf (rowS S k P p u D) k 4 = p ∧ nf (rowS S k P p u D) k 5 = u := by
  refine ⟨fun j a b => ?_, ?_, ?_⟩
  · rw [← come_f (S := S) (K := 2) (P := P) (D := D) hk a b]
    unfold nf rowS
    rw [ru_n (by omega), ru_n (by omega)]
  · unfold nf rowS
    rw [ru_n (by omega), show 128 + 10 * k + (3 + 4) = 128 + 10 * k + 3 + 4 by omega]; exact ru_s
  · unfold nf rowS
    rw [show 128 + 10 * k + (3 + 5) = 128 + 10 * k + 3 + 5 by omega]; exact ru_s
theorem rowR_f {S D : Int → Int} {k P : Int} (hk : 1 ≤ k ∧ k < 24) : ∀ j, 0 ≤ j → j < 7 → nf (rowR S k P D) k j = D j := fun j a b => by
  by_cases e : j < 4
  · rw [← come_f (S := S) (K := 1) (P := P) (D := D) hk a e]
    exact if_neg (by omega)
  · show (if 128 + 10 * k + 7 ≤ 128 + 10 * k + (3 + j) ∧ 128 + 10 * k + (3 + j) < 128 + 10 * k + 10 then D (4 + (128 + 10 * k + (3 + j) - (128 + 10 * k + 7))) else _) = _
    rw [if_pos (by omega)]
    congr 1
    omega
def gAdd (S' : Int → Int) (g : Nat → Int → Int) (k P : Int) : Nat → Int → Int := mkG S' (fun x => if x = k then gd g P + 1 else gd g x) (oin g (en g (pos g P)) 1 (fun _ => k)) (gc g + 1)
section AC
variable {h : Zm} {F F2 : Nat → Int → Int} {n M : Nat} {S S' : Int → Int} {g : Nat → Int → Int} {c0 k kk K P : Int} {D : Int → Int} {Hs : Int → Int → Int} {Hg : Int → Nat → Int → Int} {b : Int → Nat}
theorem s_addcore {Q : Zm → Prop} (ci : CI h F n S g Hs Hg b kk) (w : WF S g c0) (hk : 1 ≤ k ∧ k < 24) (hn : nk S k < 0) (hP : live S P) (hP0 : nk S P = 0) (hd : gd g P < 4) (hK : 0 ≤ K ∧ K ≤ 2) (a : AR S S' k K P) (o : okN S' k) (f2 : bu (n + 1 + 4 + k.toNat) F F2) (nb : ∀ F3 : Nat → Int → Int, F3 (n + 1 + 4 + k.toNat) 0 = K → F3 (n + 1 + 4 + k.toNat) 1 = P → (∀ j, 2 ≤ j → F3 (n + 1 + 4 + k.toNat) j = F2 (n + 1 + 4 + k.toNat) j) → NB F3 (n + 1 + 4 + k.toNat) S' k) (q : ∀ F3, hf n F F3 → CI h F3 n S' (gAdd S' g k P) Hs Hg b kk → Q (zwI h F3)) : mX5_append (n + 1 + 2) k K P (zwI h F2) Q := by
  have kd := ci.1
  have cs := ci.2.2.2.1
  have wo := w.2.2.2
  have os := cs.os
  have lk : ∀ x, live S x → x ≠ k := fun x hl e => by have := hl.2; rw [e] at this; omega
  have os2 : OS F2 (n + 1) S g := ⟨by rw [f2 _ _ (by omega)]; exact os.1, fun t x y => by rw [f2 _ _ (by omega)]; exact os.2.1 t x y, fun x hl => by have := lk x hl; have := hl.1; rw [f2 _ _ (by omega)]; exact os.2.2 x hl⟩
  refine s_append kd.ks.2.1 os2 w (WF_add w a hk hn hP hP0 hd hK o) hP hk (gc_23 w (by omega) (fun y => lk k y rfl)) ⟨by omega, by omega⟩ (fun F3 f3 e0 e1 => ?_) (fun F3 f3 c3 => ?_)
  · refine BS0_add w cs a hk (fun b j x y z u => ?_) (nb F3 e0 e1 fun j hj => f3 _ _ (by omega) (by omega) (by omega) (by omega))
    rw [f3 b j x y z (fun e => u e.1)]
    exact f2 b j u
  · have f4 : fr (n + 1 + 2) (n + 1 + 29) F F3 := (f2.fr (by omega) (by omega)).tr f3
    exact q F3 (f4.hf (by omega) (by omega)) (ci.pg (f4.wd (by omega) (by omega)) c3)
theorem s_takeBox {Q : Zm → Prop} {a0 a1 : Nat} (h0 : zkd h a0 = (12, 18)) (h1 : zkd h a1 = (12, 18)) (ne : a1 ≠ a0) (q : ∀ F', bu a0 F F' → (∀ j, 0 ≤ j → j < 4 → F' a0 (9 + j) = F a1 (9 + j)) → (∀ j, (j < 9 ∨ 13 ≤ j) → F' a0 j = F a0 j) → Q (zwI h F')) : mX2_takeBox a0 a1 (zwI h F) Q := by
  unfold mX2_takeBox
  refine f_gi h1 fun r => f_pi h0 r (f_giv (v := F a1 10) h1 (by rw [up_a ne]) fun r => f_pi h0 r (f_giv (v := F a1 11) h1 (by rw [up_a ne, up_a ne]) fun r => f_pi h0 r (f_giv (v := F a1 12) h1 (by rw [up_a ne, up_a ne, up_a ne]) fun r => f_pi h0 r (q _ (((bu.up.tr bu.up).tr bu.up).tr bu.up) (fun j a b => ?_) (fun j a => ?_)))))
  · rcases (show j = 0 ∨ j = 1 ∨ j = 2 ∨ j = 3 by omega) with rfl | rfl | rfl | rfl
    · rw [up_n (by omega), up_n (by omega), up_n (by omega)]; exact up_s _ _ _ _
    · rw [up_n (by omega), up_n (by omega)]; exact up_s _ _ _ _
    · rw [up_n (by omega)]; exact up_s _ _ _ _
    · exact up_s _ _ _ _
  · rw [up_n (by omega), up_n (by omega), up_n (by omega), up_n (by omega)]
theorem s_takeColor {Q : Zm → Prop} {a0 a1 : Nat} (h0 : zkd h a0 = (12, 18)) (h1 : zkd h a1 = (12, 18)) (ne : a1 ≠ a0) (q : ∀ F', bu a0 F F' → (∀ j, 4 ≤ j → j < 7 → F' a0 (9 + j) = F a1 (9 + j)) → (∀ j, (j < 13 ∨ 16 ≤ j) → F' a0 j = F a0 j) → Q (zwI h F')) : mX2_takeColor a0 a1 (zwI h F) Q := by
  unfold mX2_takeColor
  refine f_gi h1 fun r => f_pi h0 r (f_giv (v := F a1 14) h1 (by rw [up_a ne]) fun r => f_pi h0 r (f_giv (v := F a1 15) h1 (by rw [up_a ne, up_a ne]) fun r => f_pi h0 r (q _ ((bu.up.tr bu.up).tr bu.up) (fun j a b => ?_) (fun j a => ?_))))
  · rcases (show j = 4 ∨ j = 5 ∨ j = 6 by omega) with rfl | rfl | rfl
    · rw [up_n (by omega), up_n (by omega)]; exact up_s _ _ _ _
    · rw [up_n (by omega)]; exact up_s _ _ _ _
    · exact up_s _ _ _ _
  · rw [up_n (by omega), up_n (by omega), up_n (by omega)]
/-- a free node's opacity and offset are in their ranges too -/
theorem CI.ns (ci : CI h F n S g Hs Hg b kk) (h0 : 0 ≤ k) (h1 : k < 24) : (0 ≤ F (n + 1 + 4 + k.toNat) 3 ∧ F (n + 1 + 4 + k.toNat) 3 ≤ 100) ∧ (-12 ≤ F (n + 1 + 4 + k.toNat) 4 ∧ F (n + 1 + 4 + k.toNat) 4 ≤ 12) ∧ (-12 ≤ F (n + 1 + 4 + k.toNat) 5 ∧ F (n + 1 + 4 + k.toNat) 5 ≤ 12) := (ci.2.2.2.1.2.2.2.2 k h0 h1).1.2
theorem s_addGroup6 {Q : Int → Zm → Prop} {o dx dy : Int} (ci : CI h F n S g Hs Hg b kk) (w : WF S g c0) (hP : InR P) (ho : InR o) (hx : InR dx) (hy : InR dy) (t : ((0 ≤ o ∧ o ≤ 100) ∧ (-12 ≤ dx ∧ dx ≤ 12) ∧ (-12 ≤ dy ∧ dy ≤ 12)) → isN S P → nk S P = 0 → gd g P < 4 → fre S < 24 → fNb S g P = fre S → ∀ h' F' b', sw n h h' → hf n F F' → CI h' F' n (rowG S (fre S) P o dx dy D) (gAdd (rowG S (fre S) P o dx dy D) g (fre S) P) (pH Hs kk S) (pH Hg kk g) b' (pK kk) → Q (fre S) (zwI h' F')) (f1 : ¬ ((0 ≤ o ∧ o ≤ 100) ∧ (-12 ≤ dx ∧ dx ≤ 12) ∧ (-12 ≤ dy ∧ dy ≤ 12)) → Q (-1) (zwI h F)) (f2 : ((0 ≤ o ∧ o ≤ 100) ∧ (-12 ≤ dx ∧ dx ≤ 12) ∧ (-12 ≤ dy ∧ dy ≤ 12)) → fNb S g P < 0 → Q (fNb S g P) (zwI h F)) : mX6_addGroup n P o dx dy (zwI h F) Q := by
  unfold mX6_addGroup
  have kd := ci.1
  have hb := fre_b S
  refine s_within ho z_in0 ⟨by decide, by decide⟩ (f_bi (fun z1 => s_isOffset6 hx (f_bi (fun z2 => s_isOffset6 hy (f_bi (fun z3 => ?_) (fun z3 => f1 (fun y => z3 y.2.2)))) (fun z2 => f1 (fun y => z2 y.2.1)))) (fun z1 => f1 (fun y => z1 y.1)))
  have eb : -3 ≤ fNb S g P ∧ fNb S g P ≤ 24 := by
    unfold fNb
    repeat' split
    all_goals omega
  refine f_rc kd.k (s_numberBelow kd ci.2.2.2.1 w hP (f_lt ⟨by omega, by omega⟩ z_in0 (fun e => f2 ⟨z1, z2, z3⟩ e) (fun e => ?_)))
  obtain ⟨p1, p2, p3, p4, p5⟩ := fNb_p (show ¬ fNb S g P < 0 by omega)
  have t := t ⟨z1, z2, z3⟩ p1 p2 p3 p4 p5
  have hn := fre_neg p4
  rw [p5]
  generalize fre S = k at hb p4 hn t ⊢
  refine f_rc kd.k (s_remember ci w fun h' F' b' s f' ci' => ?_)
  have kd' := ci'.1
  have hk8 := (kd'.ks.2.1.2.2 k (by omega) p4).2
  refine f_gr kd'.k kd'.pg (f_gr kd'.ks.1.1 kd'.ks.1.2.2.1 (f_rc kd'.ks.2.1.1.1 (s_nodeAt kd'.ks.2.1 (by omega) p4 (f_pi hk8 ho (f_pi hk8 hx (f_pi hk8 hy (f_gr kd'.k kd'.pg (f_gr kd'.ks.1.1 kd'.ks.1.2.2.1 (f_rc kd'.ks.2.1.1.1 (s_addcore (S' := rowG S k P o dx dy D) ci' w ⟨hb.1, p4⟩ hn p1 p2 p3 (by decide) (rowG_AR ⟨hb.1, p4⟩) ?_ ((bu.up.tr bu.up).tr bu.up) (fun F3 e0 e1 ej => ?_) (fun F3 f3 c3 => t h' F3 b' s (f'.tr f3) c3)))))))))))
  · have rf := rowG_f (S := S) (D := D) (k := k) (P := P) (o := o) (dx := dx) (dy := dy)
    have rk := (rowG_AR (S := S) (D := D) (P := P) (o := o) (dx := dx) (dy := dy) ⟨hb.1, p4⟩).2.2.2.1
    unfold okN
    rw [rk, rf.1, rf.2.1, rf.2.2]
    exact ⟨fun _ => ⟨z1, z2, z3⟩, fun y => absurd rfl y, fun y => absurd y (by decide), fun y => absurd y (by decide)⟩
  · have rf := rowG_f (S := S) (D := D) (k := k) (P := P) (o := o) (dx := dx) (dy := dy)
    have ra := (rowG_AR (S := S) (D := D) (P := P) (o := o) (dx := dx) (dy := dy) ⟨hb.1, p4⟩).2.2.2
    have v3 := ej 3 (by decide)
    have v4 := ej 4 (by decide)
    have v5 := ej 5 (by decide)
    rw [up_n (by omega), up_n (by omega), up_s] at v3
    rw [up_n (by omega), up_s] at v4
    rw [up_s] at v5
    unfold NB
    rw [ra.1, ra.2.1, rf.1, rf.2.1, rf.2.2, e0, e1, v3, v4, v5]
    exact ⟨⟨rfl, z1, z2, z3⟩, fun _ => ⟨rfl, fun _ => ⟨rfl, rfl, rfl⟩, fun y => absurd rfl y, fun y => absurd y (by decide), fun y => absurd y (by decide)⟩⟩
theorem s_addRect6 {Q : Int → Zm → Prop} (ci : CI h F n S g Hs Hg b kk) (w : WF S g c0) (dc : DC F n D) (od : okD D) (hP : InR P) (t : isN S P → nk S P = 0 → gd g P < 4 → fre S < 24 → fNb S g P = fre S → ∀ h' F' b', sw n h h' → hf n F F' → CI h' F' n (rowR S (fre S) P D) (gAdd (rowR S (fre S) P D) g (fre S) P) (pH Hs kk S) (pH Hg kk g) b' (pK kk) → Q (fre S) (zwI h' F')) (f2 : fNb S g P < 0 → Q (fNb S g P) (zwI h F)) : mX6_addRect n P (zwI h F) Q := by
  unfold mX6_addRect
  have kd := ci.1
  have hb := fre_b S
  have eb : -3 ≤ fNb S g P ∧ fNb S g P ≤ 24 := by
    unfold fNb
    repeat' split
    all_goals omega
  refine f_rc kd.k (s_numberBelow kd ci.2.2.2.1 w hP (f_lt ⟨by omega, by omega⟩ z_in0 (fun e => f2 e) (fun e => ?_)))
  obtain ⟨p1, p2, p3, p4, p5⟩ := fNb_p (show ¬ fNb S g P < 0 by omega)
  have t := t p1 p2 p3 p4 p5
  have hn := fre_neg p4
  rw [p5]
  generalize fre S = k at hb p4 hn t ⊢
  refine f_rc kd.k (s_remember ci w fun h' F' b' s f' ci' => ?_)
  have kd' := ci'.1
  have hk8 := (kd'.ks.2.1.2.2 k (by omega) p4).2
  have hdr := kd'.2.1.2.2.2
  have hns := ci'.ns (k := k) (by omega) p4
  refine f_gr kd'.k kd'.pg (f_gr kd'.ks.1.1 kd'.ks.1.2.2.1 (f_rc kd'.ks.2.1.1.1 (s_nodeAt kd'.ks.2.1 (by omega) p4 (f_gr kd'.k kd'.dr (f_rc hk8 (s_takeBox hk8 hdr (by omega) fun F1 b1 v1 o1 => f_gr kd'.k kd'.dr (f_rc hk8 (s_takeColor hk8 hdr (by omega) fun F2 b2 v2 o2 => f_gr kd'.k kd'.pg (f_gr kd'.ks.1.1 kd'.ks.1.2.2.1 (f_rc kd'.ks.2.1.1.1 (s_addcore (S' := rowR S k P D) ci' w ⟨hb.1, p4⟩ hn p1 p2 p3 (by decide) (rowR_AR ⟨hb.1, p4⟩) ?_ (b1.tr b2) (fun F3 e0 e1 ej => ?_) (fun F3 f3 c3 => t h' F3 b' s (f'.tr f3) c3))))))))))))
  · have rf := rowR_f (S := S) (D := D) (k := k) (P := P) ⟨hb.1, p4⟩
    have rk := (rowR_AR (S := S) (D := D) (P := P) ⟨hb.1, p4⟩).2.2.2.1
    unfold okN
    rw [rk, rf 0 (by decide) (by decide), rf 1 (by decide) (by decide), rf 2 (by decide) (by decide), rf 3 (by decide) (by decide), rf 4 (by decide) (by decide), rf 5 (by decide) (by decide), rf 6 (by decide) (by decide)]
    exact ⟨fun y => absurd y (by decide), fun _ => ⟨od.1, od.2.1⟩, fun _ => od.2.2, fun y => absurd y (by decide)⟩
  · have rf := rowR_f (S := S) (D := D) (k := k) (P := P) ⟨hb.1, p4⟩
    have ra := (rowR_AR (S := S) (D := D) (P := P) ⟨hb.1, p4⟩).2.2.2
    have vd : ∀ j, 0 ≤ j → j < 7 → F3 (n + 1 + 4 + k.toNat) (9 + j) = D j := fun j x y => by
      rw [ej _ (by omega)]
      by_cases e : j < 4
      · rw [o2 _ (by omega), v1 j x e, f' _ _ (by omega)]; exact dc j x y
      · rw [v2 j (by omega) y, b1 _ _ (by omega), f' _ _ (by omega)]; exact dc j x y
    have v3 : ∀ j, 2 ≤ j → j < 9 → F3 (n + 1 + 4 + k.toNat) j = F' (n + 1 + 4 + k.toNat) j := fun j x y => by
      rw [ej j x, o2 j (by omega), o1 j (by omega)]
    have d0 := vd 0 (by decide) (by decide)
    have d1 := vd 1 (by decide) (by decide)
    have d2 := vd 2 (by decide) (by decide)
    have d3 := vd 3 (by decide) (by decide)
    have d4 := vd 4 (by decide) (by decide)
    have d5 := vd 5 (by decide) (by decide)
    have d6 := vd 6 (by decide) (by decide)
    unfold NB
    rw [ra.1, ra.2.1, e0, e1, v3 3 (by decide) (by decide), v3 4 (by decide) (by decide), v3 5 (by decide) (by decide), rf 0 (by decide) (by decide), rf 1 (by decide) (by decide), rf 2 (by decide) (by decide), rf 3 (by decide) (by decide), rf 4 (by decide) (by decide), rf 5 (by decide) (by decide), rf 6 (by decide) (by decide)]
    exact ⟨⟨rfl, hns⟩, fun _ => ⟨rfl, fun y => absurd y (by decide), fun _ => ⟨d0, d1, d2, d3⟩, fun _ => ⟨d4, d5, d6⟩, fun y => absurd y (by decide)⟩⟩
theorem s_addSpot6 {Q : Int → Zm → Prop} {p u : Int} (ci : CI h F n S g Hs Hg b kk) (w : WF S g c0) (dc : DC F n D) (od : okD D) (hP : InR P) (hp : InR p) (hu : InR u) (t : ((0 ≤ p ∧ p ≤ 2) ∧ (0 ≤ u ∧ u ≤ 255)) → isN S P → nk S P = 0 → gd g P < 4 → fre S < 24 → fNb S g P = fre S → ∀ h' F' b', sw n h h' → hf n F F' → CI h' F' n (rowS S (fre S) P p u D) (gAdd (rowS S (fre S) P p u D) g (fre S) P) (pH Hs kk S) (pH Hg kk g) b' (pK kk) → Q (fre S) (zwI h' F')) (f1 : ¬ ((0 ≤ p ∧ p ≤ 2) ∧ (0 ≤ u ∧ u ≤ 255)) → Q (-1) (zwI h F)) (f2 : ((0 ≤ p ∧ p ≤ 2) ∧ (0 ≤ u ∧ u ≤ 255)) → fNb S g P < 0 → Q (fNb S g P) (zwI h F)) : mX6_addSpot n P p u (zwI h F) Q := by
  unfold mX6_addSpot
  have kd := ci.1
  have hb := fre_b S
  have eb : -3 ≤ fNb S g P ∧ fNb S g P ≤ 24 := by
    unfold fNb
    repeat' split
    all_goals omega
  refine s_within hp z_in0 ⟨by decide, by decide⟩ (f_bi (fun z1 => s_isPart6 hu (f_bi (fun z2 => ?_) (fun z2 => f1 (fun y => z2 y.2)))) (fun z1 => f1 (fun y => z1 y.1)))
  refine f_rc kd.k (s_numberBelow kd ci.2.2.2.1 w hP (f_lt ⟨by omega, by omega⟩ z_in0 (fun e => f2 ⟨z1, z2⟩ e) (fun e => ?_)))
  obtain ⟨p1, p2, p3, p4, p5⟩ := fNb_p (show ¬ fNb S g P < 0 by omega)
  have t := t ⟨z1, z2⟩ p1 p2 p3 p4 p5
  have hn := fre_neg p4
  rw [p5]
  generalize fre S = k at hb p4 hn t ⊢
  refine f_rc kd.k (s_remember ci w fun h' F' b' s f' ci' => ?_)
  have kd' := ci'.1
  have hk8 := (kd'.ks.2.1.2.2 k (by omega) p4).2
  have hdr := kd'.2.1.2.2.2
  have hns := ci'.ns (k := k) (by omega) p4
  refine f_gr kd'.k kd'.pg (f_gr kd'.ks.1.1 kd'.ks.1.2.2.1 (f_rc kd'.ks.2.1.1.1 (s_nodeAt kd'.ks.2.1 (by omega) p4 (f_gr kd'.k kd'.dr (f_rc hk8 (s_takeBox hk8 hdr (by omega) fun F1 b1 v1 o1 => f_pi hk8 hp (f_pi hk8 hu (f_gr kd'.k kd'.pg (f_gr kd'.ks.1.1 kd'.ks.1.2.2.1 (f_rc kd'.ks.2.1.1.1 (s_addcore (S' := rowS S k P p u D) ci' w ⟨hb.1, p4⟩ hn p1 p2 p3 (by decide) (rowS_AR ⟨hb.1, p4⟩) ?_ ((b1.tr bu.up).tr bu.up) (fun F3 e0 e1 ej => ?_) (fun F3 f3 c3 => t h' F3 b' s (f'.tr f3) c3))))))))))))
  · have rf := rowS_f (S := S) (D := D) (k := k) (P := P) (p := p) (u := u) ⟨hb.1, p4⟩
    have rk := (rowS_AR (S := S) (D := D) (P := P) (p := p) (u := u) ⟨hb.1, p4⟩).2.2.2.1
    unfold okN
    rw [rk, rf.1 0 (by decide) (by decide), rf.1 1 (by decide) (by decide), rf.1 2 (by decide) (by decide), rf.1 3 (by decide) (by decide), rf.2.1, rf.2.2]
    exact ⟨fun y => absurd y (by decide), fun _ => ⟨od.1, od.2.1⟩, fun y => absurd y (by decide), fun _ => ⟨z1, z2⟩⟩
  · have rf := rowS_f (S := S) (D := D) (k := k) (P := P) (p := p) (u := u) ⟨hb.1, p4⟩
    have ra := (rowS_AR (S := S) (D := D) (P := P) (p := p) (u := u) ⟨hb.1, p4⟩).2.2.2
    have vd : ∀ j, 0 ≤ j → j < 4 → F3 (n + 1 + 4 + k.toNat) (9 + j) = D j := fun j x y => by
      rw [ej _ (by omega), up_n (by omega), up_n (by omega), v1 j x y, f' _ _ (by omega)]; exact dc j x (by omega)
    have v3 : ∀ j, 2 ≤ j → j < 9 → F3 (n + 1 + 4 + k.toNat) j = F' (n + 1 + 4 + k.toNat) j := fun j x y => by
      rw [ej j x, up_n (by omega), up_n (by omega), o1 j (by omega)]
    have d0 := vd 0 (by decide) (by decide)
    have d1 := vd 1 (by decide) (by decide)
    have d2 := vd 2 (by decide) (by decide)
    have d3 := vd 3 (by decide) (by decide)
    have d4 := ej 16 (by decide)
    have d5 := ej 17 (by decide)
    rw [up_n (by omega), up_s] at d4
    rw [up_s] at d5
    unfold NB
    rw [ra.1, ra.2.1, e0, e1, v3 3 (by decide) (by decide), v3 4 (by decide) (by decide), v3 5 (by decide) (by decide), rf.1 0 (by decide) (by decide), rf.1 1 (by decide) (by decide), rf.1 2 (by decide) (by decide), rf.1 3 (by decide) (by decide), rf.2.1, rf.2.2]
    exact ⟨⟨rfl, hns⟩, fun _ => ⟨rfl, fun y => absurd y (by decide), fun _ => ⟨d0, d1, d2, d3⟩, fun y => absurd y (by decide), fun _ => ⟨d4, d5⟩⟩⟩
end AC
