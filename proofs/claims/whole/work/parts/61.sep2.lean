/-! separation: the reference's; small things of a separated pixel -/
section SR
variable {h : Zm} {F : Nat → Int → Int} {M : Nat} {S : Int → Int} {g : Nat → Int → Int} {c0 : Int}
theorem fr.rs {lo hi : Nat} {F' : Nat → Int → Int} (b : fr lo hi F F') (hl : M + 1 < lo) (hS : RS F M S) : RS F' M S := fun j x y => by
  rw [b _ _ (by omega)]
  exact hS j x y
theorem s_limits {Q : Zm → Prop} {B : Int → Int} (km : kM h M) (hS : RS F M S) (ws : WS S c0) (hB : b7 B) (hE : ∀ i, 0 ≤ i → i < 7 → F (M + 14) i = B i) (hL : ∀ i, 0 ≤ i → i < 7 → F (M + 15) i = B i) (q : ∀ F', fr (M + 15) (M + 15) F F' → (∀ i, 0 ≤ i → i < 7 → F' (M + 15) i = aft S B i) → Q (zwI h F')) : mX7_limits M (zwI h F) Q := by
  unfold mX7_limits
  have hl := ws.1.2.2.2
  have h4 := hB 4 (by decide) (by decide)
  have h5 := hB 5 (by decide) (by decide)
  have h6 := hB 6 (by decide) (by decide)
  have b3 := hB 3 (by decide) (by decide)
  have e0 := hB 0 (by decide) (by decide)
  have e1 := hB 1 (by decide) (by decide)
  have e2 := hB 2 (by decide) (by decide)
  have ld : ∀ (F' : Nat → Int → Int) (i : Int) (R : Int → Prop), fr (M + 15) (M + 15) F F' → 0 ≤ i → i < 7 → (InR (B i) → R (B i)) → cGr (zwI h F') 17 M 15 fun r => cLd (zwI h F') 1 r i R := fun F' i R f a b c => f_gr km.1 km.r15 (f_ldv km.k15 a (by omega) (by rw [f _ _ (by omega)]; exact hE i a b) c)
  refine ld F 4 _ fr.rf (by decide) (by decide) fun _ => ld F 5 _ fr.rf (by decide) (by decide) fun _ => ld F 6 _ fr.rf (by decide) (by decide) fun _ => r_ld km hS (by decide) (by decide) fun _ => ld F 3 _ fr.rf (by decide) (by decide) fun _ => ld F 0 _ fr.rf (by decide) (by decide) fun _ => ld F 1 _ fr.rf (by decide) (by decide) fun _ => ld F 2 _ fr.rf (by decide) (by decide) fun _ => ?_
  have es : B 4 + B 5 + B 6 = spt B := rfl
  have ec : B 0 + B 1 + B 2 = clr B := rfl
  have er : S 4 - B 3 - spt B = rst S B := rfl
  rw [es, ec, er]
  have hsp : 0 ≤ spt B ∧ spt B ≤ 765 := by unfold spt; omega
  have hcl : 0 ≤ clr B ∧ clr B ≤ 765 := by unfold clr; omega
  have hrs : rst S B = S 4 - B 3 - spt B := rfl
  unfold mX7_limits_H62
  refine lfp1_up (h := h) 3 (fun i F' => fr (M + 15) (M + 15) F F' ∧ 0 ≤ i ∧ ∀ c, 0 ≤ c → c < 7 → F' (M + 15) c = if c < i then aft S B c else B c) (fun X i F' hi hI hX => ?_) 0 F (by decide) ⟨fr.rf, by decide, fun c a b => by rw [if_neg (by omega)]; exact hL c a b⟩
  obtain ⟨g1, g2, g3⟩ := hI
  unfold mX7_limits_B62
  have stp : i < 3 → ∀ v, v = aft S B i → X (i + 1) (zwI h (up F' (M + 15) i v)) := fun z v hv => hX z _ ⟨g1.tr (fr.up (Nat.le_refl _) (Nat.le_refl _)), by omega, fun c a b => by
    rw [up_e]
    by_cases e : c = i
    · subst e
      rw [if_pos ⟨rfl, rfl⟩, if_pos (by omega)]
      exact hv
    · rw [if_neg (by omega), g3 c a b]
      by_cases e2 : c < i
      · rw [if_pos e2, if_pos (by omega)]
      · rw [if_neg e2, if_neg (by omega)]⟩
  refine f_lt ⟨by omega, by omega⟩ ⟨by decide, by decide⟩ (fun z => ?_) (fun z => ?_)
  · have hbi := hB i g2 (by omega)
    refine f_gr km.1 km.r16 (f_lt ⟨by omega, by omega⟩ z_in0 (fun y => f_st km.k16 g2 (by omega) z_in0 (stp z 0 ?_)) (fun y => f_le ⟨by omega, by omega⟩ ⟨by omega, by omega⟩ (fun w => ld F' i _ g1 g2 (by omega) fun _ => f_st km.k16 g2 (by omega) ⟨by omega, by omega⟩ (stp z _ ?_)) (fun w => ld F' i _ g1 g2 (by omega) fun _ => ?_)))
    · unfold aft
      rw [if_pos y, if_pos z]
    · unfold aft
      rw [if_neg (show ¬ rst S B < 0 by omega), if_neg (show ¬ (i < 3 ∧ rst S B < clr B) by omega)]
    · have hm := mul_bd (a := B i) (b := rst S B) (A := 255) (B := 1785) hbi.1 hbi.2 (by omega) (by omega)
      have hp := part_r (x := B i) (r := rst S B) (s := clr B) hbi y (by omega) (by omega)
      refine ⟨⟨by omega, by omega⟩, ⟨by omega, by omega⟩, ?_⟩
      rw [tdiv_pos hm.1]
      refine f_st km.k16 g2 (by omega) ⟨by omega, by omega⟩ (stp z _ ?_)
      unfold aft
      rw [if_neg (show ¬ rst S B < 0 by omega), if_pos (show i < 3 ∧ rst S B < clr B from ⟨z, w⟩)]
  · have hi3 : i = 3 := by omega
    subst hi3
    refine f_lt ⟨by omega, by omega⟩ z_in0 (fun y => ?_) (fun y => q F' g1 (fun c a b => ?_))
    · have hS' := g1.rs (by omega) hS
      have fin : ∀ v, v = max 0 (S 4 - spt B) → mX7_limits_H150 M (spt B) 4 (zwI h (up F' (M + 15) 3 v)) Q := by
        intro v hv
        unfold mX7_limits_H150
        refine lfp1_up (h := h) 7 (fun i F' => fr (M + 15) (M + 15) F F' ∧ 4 ≤ i ∧ ∀ c, 0 ≤ c → c < i → F' (M + 15) c = aft S B c) (fun X i F' hi hI hX => ?_) 4 _ (by decide) ⟨g1.tr (fr.up (Nat.le_refl _) (Nat.le_refl _)), by decide, fun c a b => ?_⟩
        · obtain ⟨j1, j2, j3⟩ := hI
          unfold mX7_limits_B150
          have hS2 := j1.rs (by omega) hS
          have stp : i < 7 → ∀ v, v = aft S B i → X (i + 1) (zwI h (up F' (M + 15) i v)) := fun z v hv => hX z _ ⟨j1.tr (fr.up (Nat.le_refl _) (Nat.le_refl _)), by omega, fun c a b => by
            rw [up_e]
            by_cases e : c = i
            · subst e
              rw [if_pos ⟨rfl, rfl⟩]
              exact hv
            · rw [if_neg (by omega)]
              exact j3 c a (by omega)⟩
          refine f_lt ⟨by omega, by omega⟩ ⟨by decide, by decide⟩ (fun z => ?_) (fun z => q F' j1 (fun c a b => j3 c a (by omega)))
          have hbi := hB i (by omega) z
          refine f_gr km.1 km.r16 (r_ld km hS2 (by decide) (by decide) fun _ => f_lt ⟨by omega, by omega⟩ ⟨by omega, by omega⟩ (fun w => ld F' i _ j1 (by omega) z fun _ => r_ld km hS2 (by decide) (by decide) fun _ => ?_) (fun w => ld F' i _ j1 (by omega) z fun _ => f_st km.k16 (by omega) (by omega) ⟨by omega, by omega⟩ (stp z _ ?_)))
          · have hm := mul_bd (a := B i) (b := S 4) (A := 255) (B := 1785) hbi.1 hbi.2 (by omega) (by omega)
            have hp := part_r (x := B i) (r := S 4) (s := spt B) hbi (by omega) (by omega) (by omega)
            refine ⟨⟨by omega, by omega⟩, ⟨by omega, by omega⟩, ?_⟩
            rw [tdiv_pos hm.1]
            refine f_st km.k16 (by omega) (by omega) ⟨by omega, by omega⟩ (stp z _ ?_)
            unfold aft
            rw [if_pos y, if_neg (show ¬ i < 3 by omega), if_neg (show ¬ i = 3 by omega), if_pos w]
          · unfold aft
            rw [if_pos y, if_neg (show ¬ i < 3 by omega), if_neg (show ¬ i = 3 by omega), if_neg (show ¬ S 4 < spt B by omega)]
        · rw [up_e]
          by_cases e : c = 3
          · subst e
            rw [if_pos ⟨rfl, rfl⟩, hv]
            unfold aft
            rw [if_pos y, if_neg (by decide), if_pos rfl]
          · rw [if_neg (by omega), g3 c a (by omega), if_pos (by omega)]
      refine f_gr km.1 km.r16 (r_ld km hS' (by decide) (by decide) fun _ => f_le ⟨by omega, by omega⟩ ⟨by omega, by omega⟩ (fun w => f_st km.k16 (by decide) (by decide) z_in0 (fin 0 (by omega))) (fun w => r_ld km hS' (by decide) (by decide) fun _ => f_st km.k16 (by decide) (by decide) ⟨by omega, by omega⟩ (fin _ (by omega))))
    · rw [g3 c a b]
      by_cases e : c < 3
      · rw [if_pos e]
      · rw [if_neg e]
        unfold aft
        rw [if_neg (show ¬ rst S B < 0 by omega), if_neg (show ¬ (c < 3 ∧ rst S B < clr B) by omega)]
theorem s_separates {Q : Zm → Prop} {a : Int} {T : Int → Int} (km : kM h M) (hS : RS F M S) (ws : WS S c0) (hT : Tn F (M + 13) T) (ht : tb T) (ha : 0 ≤ a ∧ a ≤ 100) (q : ∀ F', fr (M + 14) (M + 15) F F' → (∀ i, 0 ≤ i → i < 7 → F' (M + 14) i = bef S a T i) → (∀ i, 0 ≤ i → i < 7 → F' (M + 15) i = aft S (bef S a T) i) → Q (zwI h F')) : mX7_separates M a (zwI h F) Q := by
  unfold mX7_separates mX7_separates_H6
  have t0 := ht 0 (by decide) (by decide)
  have t1 := ht 1 (by decide) (by decide)
  have t2 := ht 2 (by decide) (by decide)
  have h3 := ws.1.2.2.1
  have hb := blk_r ws ht ha
  have hgr : 0 ≤ gray S T ∧ gray S T ≤ 255 := by unfold gray; omega
  have hm := mul_bd (a := gray S T) (b := a) (A := 255) (B := 100) hgr.1 hgr.2 ha.1 ha.2
  have eg : max 0 (255 - max (T 0) (max (T 1) (T 2)) - S 3) = gray S T := rfl
  have eb : gray S T * a / 100 = blk S a T := rfl
  have hb0 := hb.2 0 (by decide) (by decide)
  refine lfp2_up2 (h := h) 3 (fun l i F' => fr (M + 14) (M + 15) F F' ∧ 0 ≤ i ∧ (l = if i = 0 then 255 else if i = 1 then 255 - T 0 else if i = 2 then 255 - max (T 0) (T 1) else 255 - max (T 0) (max (T 1) (T 2))) ∧ ∀ c, 0 ≤ c → c < 3 → c < i → F' (M + 14) c = 255 - T c ∧ F' (M + 14) (4 + c) = T (3 + c)) (fun X l i F' hi hI hX => ?_) 255 0 F (by decide) ⟨fr.rf, by decide, rfl, fun c a b d => by omega⟩
  obtain ⟨g1, g2, g3, g4⟩ := hI
  have hlr : 0 ≤ l ∧ l ≤ 255 := by
    rw [g3]
    repeat' split
    all_goals omega
  unfold mX7_separates_B6
  refine f_lt ⟨by omega, by omega⟩ ⟨by decide, by decide⟩ (fun z => ?_) (fun z => ?_)
  · have hti := ht i g2 (by omega)
    have ht3 := ht (3 + i) (by omega) (by omega)
    have hval : up (up F' (M + 14) i (255 - T i)) (M + 14) (4 + i) (T (3 + i)) (M + 14) i = 255 - T i := by
      rw [up_n (by omega)]
      exact up_s _ _ _ _
    have hfin : ∀ c, 0 ≤ c → c < 3 → c < i + 1 → up (up F' (M + 14) i (255 - T i)) (M + 14) (4 + i) (T (3 + i)) (M + 14) c = 255 - T c ∧ up (up F' (M + 14) i (255 - T i)) (M + 14) (4 + i) (T (3 + i)) (M + 14) (4 + c) = T (3 + c) := by
      intro c x y w
      by_cases e : c = i
      · subst e
        exact ⟨hval, up_s _ _ _ _⟩
      · refine ⟨?_, ?_⟩
        · rw [up_n (by omega), up_n (by omega)]
          exact (g4 c x y (by omega)).1
        · rw [up_n (by omega), up_n (by omega)]
          exact (g4 c x y (by omega)).2
    have hf : fr (M + 14) (M + 15) F (up (up F' (M + 14) i (255 - T i)) (M + 14) (4 + i) (T (3 + i))) := (g1.tr (fr.up (Nat.le_refl _) (by omega))).tr (fr.up (Nat.le_refl _) (by omega))
    refine f_gr km.1 km.r15 (f_gr km.1 km.r14 (f_ldv (v := T i) km.k14 g2 (by omega) (by rw [g1 _ _ (by omega)]; exact hT i g2 (by omega)) fun _ => f_st km.k15 g2 (by omega) ⟨by omega, by omega⟩ (f_gr km.1 km.r15 (f_gr km.1 km.r14 (f_ldv (v := T (3 + i)) km.k14 (by omega) (by omega) (by rw [up_a (by omega), g1 _ _ (by omega)]; exact hT _ (by omega) (by omega)) fun _ => f_st km.k15 (by omega) (by omega) ⟨by omega, by omega⟩ (f_gr km.1 km.r15 (f_ldv km.k15 g2 (by omega) hval fun _ => f_lt ⟨by omega, by omega⟩ ⟨by omega, by omega⟩ (fun y => f_gr km.1 km.r15 (f_ldv km.k15 g2 (by omega) hval fun _ => hX z _ _ ⟨hf, by omega, ?_, hfin⟩)) (fun y => hX z _ _ ⟨hf, by omega, ?_, hfin⟩))))))))
    · rcases (show i = 0 ∨ i = 1 ∨ i = 2 by omega) with rfl | rfl | rfl
      · rfl
      · rw [if_neg (by decide), if_pos rfl] at g3
        rw [if_neg (by decide), if_neg (by decide), if_pos (by decide)]
        omega
      · rw [if_neg (by decide), if_neg (by decide), if_pos rfl] at g3
        rw [if_neg (by decide), if_neg (by decide), if_neg (by decide)]
        omega
    · rcases (show i = 0 ∨ i = 1 ∨ i = 2 by omega) with rfl | rfl | rfl
      · rw [if_pos rfl] at g3
        rw [if_neg (by decide), if_pos (by decide)]
        omega
      · rw [if_neg (by decide), if_pos rfl] at g3
        rw [if_neg (by decide), if_neg (by decide), if_pos (by decide)]
        omega
      · rw [if_neg (by decide), if_neg (by decide), if_pos rfl] at g3
        rw [if_neg (by decide), if_neg (by decide), if_neg (by decide)]
        omega
  · have hi3 : i = 3 := by omega
    subst hi3
    rw [if_neg (by decide), if_neg (by decide), if_neg (by decide)] at g3
    have hS' := g1.rs (by omega) hS
    have hj : mX7_separates_J92 M a (gray S T) (zwI h F') Q := by
      unfold mX7_separates_J92
      refine f_gr km.1 km.r15 ⟨⟨by omega, by omega⟩, ⟨by decide, by decide⟩, ?_⟩
      rw [tdiv_pos hm.1, eb]
      refine f_st km.k15 (by decide) (by decide) ⟨by omega, by omega⟩ ?_
      unfold mX7_separates_H108
      refine lfp1_up (h := h) 3 (fun i F' => fr (M + 14) (M + 15) F F' ∧ 0 ≤ i ∧ F' (M + 14) 3 = blk S a T ∧ ∀ c, 0 ≤ c → c < 3 → F' (M + 14) (4 + c) = T (3 + c) ∧ F' (M + 14) c = if c < i then 255 - T c - blk S a T else 255 - T c) (fun X i F' hi hI hX => ?_) 0 _ (by decide) ⟨g1.tr (fr.up (Nat.le_refl _) (by omega)), by decide, up_s _ _ _ _, fun c a b => ?_⟩
      · obtain ⟨j1, j2, j3, j4⟩ := hI
        unfold mX7_separates_B108
        refine f_lt ⟨by omega, by omega⟩ ⟨by decide, by decide⟩ (fun y => ?_) (fun y => ?_)
        · have hti := ht i j2 (by omega)
          have hbi := hb.2 i j2 y
          refine f_gr km.1 km.r15 (f_ldv (v := 255 - T i) km.k15 j2 (by omega) (by rw [(j4 i j2 y).2, if_neg (by omega)]) fun _ => f_gr km.1 km.r15 (f_ldv km.k15 (by decide) (by decide) j3 fun _ => f_st km.k15 j2 (by omega) ⟨by omega, by omega⟩ (hX y _ ⟨j1.tr (fr.up (Nat.le_refl _) (by omega)), by omega, ?_, fun c x w => ⟨?_, ?_⟩⟩)))
          · rw [up_n (by omega)]
            exact j3
          · rw [up_n (by omega)]
            exact (j4 c x w).1
          · rw [up_e]
            by_cases e : c = i
            · subst e
              rw [if_pos ⟨rfl, rfl⟩, if_pos (by omega)]
            · rw [if_neg (by omega), (j4 c x w).2]
              by_cases e2 : c < i
              · rw [if_pos e2, if_pos (by omega)]
              · rw [if_neg e2, if_neg (by omega)]
        · have hi3 : i = 3 := by omega
          subst hi3
          have hraw : ∀ c, 0 ≤ c → c < 7 → F' (M + 14) c = raw S a T c := by
            intro c x w
            unfold raw
            by_cases e : c < 3
            · rw [if_pos e, (j4 c x e).2, if_pos e]
            · rw [if_neg e]
              by_cases e2 : c = 3
              · rw [if_pos e2, e2]
                exact j3
              · rw [if_neg e2]
                have := (j4 (c - 4) (by omega) (by omega)).1
                rw [show 4 + (c - 4) = c by omega, show 3 + (c - 4) = c - 1 by omega] at this
                exact this
          unfold mX7_separates_H139
          refine lfp1_up (h := h) 7 (fun i F' => fr (M + 14) (M + 15) F F' ∧ 0 ≤ i ∧ (∀ c, 0 ≤ c → c < 7 → F' (M + 14) c = if c < i then bef S a T c else raw S a T c) ∧ ∀ c, 0 ≤ c → c < i → F' (M + 15) c = bef S a T c) (fun X i F' hi hI hX => ?_) 0 _ (by decide) ⟨j1, by decide, fun c a b => by rw [if_neg (by omega)]; exact hraw c a b, fun c a b => by omega⟩
          obtain ⟨l1, l2, l3, l4⟩ := hI
          have hS2 := l1.rs (by omega) hS
          unfold mX7_separates_B139
          refine f_lt ⟨by omega, by omega⟩ ⟨by decide, by decide⟩ (fun u => ?_) (fun u => ?_)
          · have hr := raw_r ws ht ha l2 u
            have hbf := bef_r ws ht ha l2 u
            refine f_gr km.1 km.r15 (f_gr km.1 km.r15 (f_ldv (v := raw S a T i) km.k15 l2 (by omega) (by rw [l3 i l2 u, if_neg (by omega)]) fun _ => f_rc km.1 (s_valueOf km hS2 ⟨l2, u⟩ (ws.2.2.2 i l2 u) hr.1 hr.2 (f_st km.k15 l2 (by omega) ⟨by unfold bef at hbf; omega, by unfold bef at hbf; omega⟩ (f_gr km.1 km.r16 (f_gr km.1 km.r15 (f_ldv (v := bef S a T i) km.k15 l2 (by omega) (up_s _ _ _ _) fun _ => f_st km.k16 l2 (by omega) ⟨by omega, by omega⟩ (hX u _ ⟨(l1.tr (fr.up (by omega) (by omega))).tr (fr.up (by omega) (by omega)), by omega, fun c a b => ?_, fun c a b => ?_⟩))))))))
            · rw [up_a (by omega), up_e]
              by_cases e : c = i
              · subst e
                rw [if_pos ⟨rfl, rfl⟩, if_pos (by omega)]
                rfl
              · rw [if_neg (by omega), l3 c a b]
                by_cases e2 : c < i
                · rw [if_pos e2, if_pos (by omega)]
                · rw [if_neg e2, if_neg (by omega)]
            · rw [up_e]
              by_cases e : c = i
              · subst e
                rw [if_pos ⟨rfl, rfl⟩]
              · rw [if_neg (by omega), up_a (by omega)]
                exact l4 c a (by omega)
          · have hi7 : i = 7 := by omega
            subst hi7
            have hE : ∀ i, 0 ≤ i → i < 7 → F' (M + 14) i = bef S a T i := fun i x w => by rw [l3 i x w, if_pos w]
            refine f_rc km.1 (s_limits km hS2 ws (fun i x w => bef_r ws ht ha x w) hE l4 fun F2 f2 v2 => q F2 (l1.tr (f2.wd (by omega) (by omega))) (fun i x w => ?_) v2)
            rw [f2 _ _ (by omega)]
            exact hE i x w
      · refine ⟨?_, ?_⟩
        · rw [up_n (by omega)]
          exact (g4 c a b b).2
        · rw [up_n (by omega), if_neg (by omega)]
          exact (g4 c a b b).1
    refine r_ld km hS' (by decide) (by decide) fun _ => f_le ⟨by omega, by omega⟩ ⟨by omega, by omega⟩ (fun y => ?_) (fun y => r_ld km hS' (by decide) (by decide) fun _ => ?_)
    · rw [show gray S T = 0 by unfold gray; omega] at hj
      exact hj
    · rw [show gray S T = l - S 3 by unfold gray; omega] at hj
      exact hj
end SR
