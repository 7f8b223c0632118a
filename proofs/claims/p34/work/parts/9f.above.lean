/-! the law's arrays beside the state; above, moves -/
def lbx (S : Int → Int) (k : Int) : Int := if nk S k = 0 then nf S k 0 + 128 * (nf S k 1 + 12) + 4096 * (nf S k 2 + 12) else nf S k 0 + 12 + 32 * (nf S k 1 + 12) + 1024 * nf S k 2 + 16384 * nf S k 3
def lik (S : Int → Int) (k : Int) : Int := if nk S k = 1 then 65536 * nf S k 4 + 256 * nf S k 5 + nf S k 6 else if nk S k = 2 then 256 * nf S k 4 + nf S k 5 else 0
/-- the law's tree shows the state's -/
def LT (F : Nat → Int → Int) (N : Nat) (S : Int → Int) : Prop := (∀ k, 0 ≤ k → k < 24 → F N k = nk S k) ∧ (∀ k, 1 ≤ k → k < 24 → F (N + 1) k = lp S k) ∧ ((∀ k, 1 ≤ k → k < 24 → F (N + 2) k = lcn S k) ∧ F (N + 2) 0 = S 8) ∧ (∀ k, live S k → F (N + 3) k = lbx S k) ∧ ∀ k, live S k → k ≠ 0 → F (N + 4) k = lik S k
def LSt (F : Nat → Int → Int) (N : Nat) (S : Int → Int) : Prop := (∀ i, 0 ≤ i → i < 3 → F (N + 5) i = S (5 + i)) ∧ ∀ i, 0 ≤ i → i < 3 → F (N + 6) i = S (2 + i)
def kLw (h : Zm) (N : Nat) : Prop := ((zkd h N = (1, 24) ∧ zkd h (N + 1) = (1, 24)) ∧ zkd h (N + 2) = (1, 24) ∧ zkd h (N + 3) = (1, 24) ∧ zkd h (N + 4) = (1, 24)) ∧ (zkd h (N + 5) = (1, 3) ∧ zkd h (N + 6) = (1, 3)) ∧ zkd h (N + 7) = (1, 6) ∧ zkd h (N + 8) = (1, 7) ∧ zkd h (N + 9) = (1, 7)
theorem LT.keep {F F' : Nat → Int → Int} {N : Nat} {S : Int → Int} (e : ∀ a j, N ≤ a → a ≤ N + 4 → F' a j = F a j) (l : LT F N S) : LT F' N S := by
  obtain ⟨l1, l2, ⟨l3, l4⟩, l5, l6⟩ := l
  exact ⟨fun k a b => by rw [e _ _ (by omega) (by omega)]; exact l1 k a b, fun k a b => by rw [e _ _ (by omega) (by omega)]; exact l2 k a b, ⟨fun k a b => by rw [e _ _ (by omega) (by omega)]; exact l3 k a b, by rw [e _ _ (by omega) (by omega)]; exact l4⟩, fun k a => by rw [e _ _ (by omega) (by omega)]; exact l5 k a, fun k a b => by rw [e _ _ (by omega) (by omega)]; exact l6 k a b⟩
theorem LSt.keep {F F' : Nat → Int → Int} {N : Nat} {S : Int → Int} (e : ∀ a j, N + 5 ≤ a → a ≤ N + 6 → F' a j = F a j) (l : LSt F N S) : LSt F' N S :=
  ⟨fun k a b => by rw [e _ _ (by omega) (by omega)]; exact l.1 k a b, fun k a b => by rw [e _ _ (by omega) (by omega)]; exact l.2 k a b⟩
def itp (S : Int → Int) : Nat → Int → Int
  | 0, k => k
  | n + 1, k => np S (itp S n k)
section AB
variable {h : Zm} {F : Nat → Int → Int} {S : Int → Int} {g : Nat → Int → Int} {c : Int} {N r : Nat}
theorem gd_z (w : WF S g c) {k : Int} (hl : live S k) (e : gd g k ≤ 0) : k = 0 := by
  by_cases z : k = 0
  · exact z
  · have h1 := w.2.2.1.2.1 k hl z
    have h2 := w.2.2.1.2.2.1 _ h1.1
    omega
theorem itp_ok (w : WF S g c) {k : Int} (hl : live S k) : ∀ n : Nat, (n : Int) ≤ gd g k → live S (itp S n k) ∧ gd g (itp S n k) = gd g k - n ∧ (1 ≤ n → nk S (itp S n k) = 0) := by
  intro n
  induction n with
  | zero => intro _; exact ⟨hl, by show gd g k = _; omega, fun z => by omega⟩
  | succ n ih =>
    intro hn
    obtain ⟨i1, i2, i3⟩ := ih (by omega)
    have hz : itp S n k ≠ 0 := fun e => by
      have := w.2.2.1.1.1
      rw [e] at i2
      omega
    have h1 := w.2.2.1.2.1 _ i1 hz
    exact ⟨h1.1, by show gd g (np S (itp S n k)) = _; omega, fun _ => h1.2.1⟩
theorem l_above {Q : Zm → Prop} {k : Int} (kp : zkd h (N + 1) = (1, 24)) (kb : zkd h (N + 3) = (1, 24)) (kr : zkd h r = (1, 3)) (hr : r ≠ N + 1 ∧ r ≠ N + 3) (lt : LT F N S) (w : WF S g c) (hc : c ≤ 4000) (hl : live S k) (h0 : k ≠ 0) (q : ∀ F', bu r F F' → F' r 0 = gop g (np S k) → F' r 1 = gox g (np S k) → F' r 2 = goy g (np S k) → Q (zwI h F')) : mL_above (N + 1) (N + 3) k r (zwI h F) Q := by
  unfold mL_above
  have ht := w.2.2.1.2.1 k hl h0
  have hk := hl.1
  have hg0 := w.2.2.1.2.2.1 _ ht.1
  refine f_st kr (by decide) (by decide) ⟨by decide, by decide⟩ (f_st kr (by decide) (by decide) z_in0 (f_st kr (by decide) (by decide) z_in0 (l_depthOf (d := ldp S g) kp (fun j a b => ?_) (tp_of w hc) hk.1 hk.2 ?_)))
  · rw [up_a (Ne.symm hr.1), up_a (Ne.symm hr.1), up_a (Ne.symm hr.1)]
    exact lt.2.1 j a b
  rw [show ldp S g k = gd g k from if_pos hl.2]
  have hb0 : bu r F (up (up (up F r 0 100) r 1 0) r 2 0) := (bu.up.tr bu.up).tr bu.up
  have e0 : up (up (up F r 0 100) r 1 0) r 2 0 r 0 = 100 := by rw [up_n (by omega), up_n (by omega), up_s]
  have e1 : up (up (up F r 0 100) r 1 0) r 2 0 r 1 = 0 := by rw [up_n (by omega), up_s]
  have e2 : up (up (up F r 0 100) r 1 0) r 2 0 r 2 = 0 := up_s _ _ _ _
  generalize up (up (up F r 0 100) r 1 0) r 2 0 = F0 at hb0 e0 e1 e2 ⊢
  unfold mL_above_H23
  have top := itp_ok w hl (gd g k).toNat (by omega)
  have tz := gd_z w top.1 (by omega)
  refine lfp1_i (fun x _ => (gd g k - x).toNat) (fun x m => ∃ F', m = zwI h F' ∧ bu r F F' ∧ (1 ≤ x ∧ x ≤ gd g k) ∧ F' r 0 = gop g (itp S (gd g k - x + 1).toNat k) ∧ F' r 1 = gox g (itp S (gd g k - x + 1).toNat k) ∧ F' r 2 = goy g (itp S (gd g k - x + 1).toNat k)) (fun X x m hI hX => ?_) 1 _ ⟨F0, rfl, hb0, ⟨by decide, by omega⟩, ?_⟩
  · obtain ⟨F', rfl, hb, hx, o1, o2, o3⟩ := hI
    unfold mL_above_B23
    refine f_lt ⟨by omega, by omega⟩ ⟨by omega, by omega⟩ (fun z => ?_) (fun z => ?_)
    · unfold mL_above_H37
      refine lfp2_i (fun _ z _ => (z - x).toNat) (fun y z m => m = zwI h F' ∧ (x ≤ z ∧ z ≤ gd g k) ∧ y = itp S (gd g k - z).toNat k) (fun X2 y z2 m hI hX2 => ?_) k (gd g k) _ ⟨rfl, ⟨by omega, Int.le_refl _⟩, by rw [Int.sub_self]; rfl⟩
      obtain ⟨rfl, hz, rfl⟩ := hI
      have iy := itp_ok w hl (gd g k - z2).toNat (by omega)
      have hy0 : itp S (gd g k - z2).toNat k ≠ 0 := fun e => by
        have := w.2.2.1.1.1
        rw [e] at iy
        omega
      have hyk := iy.1.1
      unfold mL_above_B37
      refine f_le ⟨by omega, by omega⟩ ⟨by omega, by omega⟩ (fun u => ?_) (fun u => ?_)
      · have ez : z2 = x := by omega
        subst ez
        have en : (gd g k - z2 + 1).toNat = (gd g k - z2).toNat + 1 := by omega
        rw [en] at o1 o2 o3
        have o1 : F' r 0 = gop g (np S (itp S (gd g k - z2).toNat k)) := o1
        have o2 : F' r 1 = gox g (np S (itp S (gd g k - z2).toNat k)) := o2
        have o3 : F' r 2 = goy g (np S (itp S (gd g k - z2).toNat k)) := o3
        have hgrp := iy.2.2 (by omega)
        have fin : ∀ F2, bu r F F2 → F2 r 0 = gop g (itp S (gd g k - z2).toNat k) → F2 r 1 = gox g (itp S (gd g k - z2).toNat k) → F2 r 2 = goy g (itp S (gd g k - z2).toNat k) → X (z2 + 1) (zwI h F2) := fun F2 b2 y1 y2 y3 => hX _ _ ⟨F2, rfl, b2, ⟨by omega, by omega⟩, by rw [show (gd g k - (z2 + 1) + 1).toNat = (gd g k - z2).toNat by omega]; exact ⟨y1, y2, y3⟩⟩ (by omega)
        have iy1 := iy.1
        have iyg := iy.2.1
        generalize itp S (gd g k - z2).toNat k = y at o1 o2 o3 hgrp fin iy1 hy0 hyk iyg
        have hp := w.2.2.1.2.1 y iy1 hy0
        have hf := w.2.1.2.2.1 y iy1 hgrp
        have hg := g_op w.2.1 w.2.2.1 hp.1 hp.2.1
        have hy := g_op w.2.1 w.2.2.1 iy1 hgrp
        have hd := w.2.2.1.2.2.2 y iy1 hy0 hgrp
        have hm := mul_bd (a := gop g (np S y)) (b := nf S y 0) (A := 100) (B := 100) hg.1.1 hg.1.2 hf.1.1 hf.1.2
        have eb : F (N + 3) y = nf S y 0 + 128 * (nf S y 1 + 12) + 4096 * (nf S y 2 + 12) := (lt.2.2.2.1 y iy1).trans (if_pos hgrp)
        have eb1 : F' (N + 3) y = nf S y 0 + 128 * (nf S y 1 + 12) + 4096 * (nf S y 2 + 12) := by rw [hb _ _ (Ne.symm hr.2)]; exact eb
        have h1 : InR (gop g (np S y) * nf S y 0 / 100) := by rw [← hd.1]; exact ⟨by omega, by omega⟩
        refine f_ldv kr (by decide) (by decide) o1 fun _ => f_ldv kb (by omega) (by omega) eb1 fun _ => f_remv (v := nf S y 0) ⟨by omega, by omega⟩ ⟨by decide, by decide⟩ (by omega) (f_divv (v := gop g (np S y) * nf S y 0 / 100) ⟨hm.1, by omega⟩ ⟨by decide, by decide⟩ rfl (f_st kr (by decide) (by decide) h1 ?_))
        refine f_ldv (v := gox g (np S y)) kr (by decide) (by decide) (by rw [up_n (by omega)]; exact o2) fun _ => f_ldv (v := nf S y 0 + 128 * (nf S y 1 + 12) + 4096 * (nf S y 2 + 12)) kb (by omega) (by omega) (by rw [up_a (Ne.symm hr.2)]; exact eb1) fun _ => f_divv (v := nf S y 1 + 12 + 32 * (nf S y 2 + 12)) ⟨by omega, by omega⟩ ⟨by decide, by decide⟩ (by omega) (f_remv (v := nf S y 1 + 12) ⟨by omega, by omega⟩ ⟨by decide, by decide⟩ (by omega) (f_st kr (by decide) (by decide) ⟨by omega, by omega⟩ ?_))
        refine f_ldv (v := goy g (np S y)) kr (by decide) (by decide) (by rw [up_n (by omega), up_n (by omega)]; exact o3) fun _ => f_ldv (v := nf S y 0 + 128 * (nf S y 1 + 12) + 4096 * (nf S y 2 + 12)) kb (by omega) (by omega) (by rw [up_a (Ne.symm hr.2), up_a (Ne.symm hr.2)]; exact eb1) fun _ => f_divv (v := nf S y 2 + 12) ⟨by omega, by omega⟩ ⟨by decide, by decide⟩ (by omega) (f_st kr (by decide) (by decide) ⟨by omega, by omega⟩ (fin _ (((hb.tr bu.up).tr bu.up).tr bu.up) ?_ ?_ ?_))
        · rw [up_n (by omega), up_n (by omega), up_s]; exact hd.1.symm
        · rw [up_n (by omega), up_s, hd.2.1]; omega
        · rw [up_s, hd.2.2]; omega
      · have hp := w.2.2.1.2.1 _ iy.1 hy0
        refine f_ldv (v := np S (itp S (gd g k - z2).toNat k)) kp (by omega) (by omega) (by rw [hb _ _ (Ne.symm hr.1), lt.2.1 _ (by omega) hyk.2]; exact if_pos iy.1.2) fun _ => hX2 _ _ _ ⟨rfl, ⟨by omega, by omega⟩, ?_⟩ (by omega)
        rw [show (gd g k - (z2 + -1)).toNat = (gd g k - z2).toNat + 1 by omega]
        rfl
    · have ex : x = gd g k := by omega
      rw [ex, show (gd g k - gd g k + 1).toNat = 1 by omega] at o1 o2 o3
      exact q F' hb o1 o2 o3
  · rw [show (gd g k - 1 + 1).toNat = (gd g k).toNat by omega, tz, w.2.2.1.1.2.1, w.2.2.1.1.2.2.1, w.2.2.1.1.2.2.2]
    exact ⟨e0, e1, e2⟩
theorem l_moves {Q : Zm → Prop} {a m : Nat} {i v t e : Int} (ka : zkd h a = (1, m)) (h0 : 0 ≤ i) (h1 : i < (m : Int)) (hF : F a i = v) (hv : 0 ≤ v ∧ v ≤ 255) (ht : 0 ≤ t ∧ t ≤ 255) (he : 0 ≤ e ∧ e ≤ 100) (q : Q (zwI h (up F a i (mv v t e)))) : mL_moves a i t e (zwI h F) Q := by
  unfold mL_moves
  have hp := mv_p hv ht he
  have hm := mv_r hv ht he
  refine f_ldv ka h0 h1 hF fun _ => f_ldv ka h0 h1 hF fun _ => l_down ⟨by omega, by omega⟩ (f_st ka h0 h1 ?_ q)
  unfold mv at hm
  exact ⟨by omega, by omega⟩
end AB
