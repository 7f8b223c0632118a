/-! the law's separates: straight curves, the limit -/
def stc (S : Int → Int) : Prop := ∀ i, 0 ≤ i → i < 7 → (S (9 + 17 * i + 1) = 0 ∧ S (9 + 17 * i + 2) = 0) ∧ S (9 + 17 * i + 3) = 255 ∧ S (9 + 17 * i + 4) = 255
theorem stc_cval {S : Int → Int} (s : stc S) {i v : Int} (h0 : 0 ≤ i) (h1 : i < 7) (v0 : 0 ≤ v) (v1 : v ≤ 255) : cval (cp S i) (cq S i) v = v := by
  obtain ⟨⟨p0, q0⟩, p1, q1⟩ := s i h0 h1
  have P0 : cp S i 0 = 0 := by unfold cp; rw [show 9 + 17 * i + 1 + 2 * 0 = 9 + 17 * i + 1 by omega]; exact p0
  have Q0 : cq S i 0 = 0 := by unfold cq; rw [show 9 + 17 * i + 2 + 2 * 0 = 9 + 17 * i + 2 by omega]; exact q0
  have P1 : cp S i 1 = 255 := by unfold cp; rw [show 9 + 17 * i + 1 + 2 * 1 = 9 + 17 * i + 3 by omega]; exact p1
  have Q1 : cq S i 1 = 255 := by unfold cq; rw [show 9 + 17 * i + 2 + 2 * 1 = 9 + 17 * i + 4 by omega]; exact q1
  unfold cval
  by_cases c : v ≤ 0
  · have e : pfind (cp S i) v 8 0 = 0 := by
      show (if v ≤ cp S i 0 then 0 else _) = (0 : Int)
      rw [P0, if_pos c]
    rw [e]
    unfold cat
    rw [P0, Q0, if_pos (by omega)]
    omega
  · have e : pfind (cp S i) v 8 0 = 1 := by
      show (if v ≤ cp S i 0 then 0 else (if v ≤ cp S i (0 + 1) then 0 + 1 else _)) = (1 : Int)
      rw [P0, if_neg c, show (0 : Int) + 1 = 1 from rfl, P1, if_pos v1]
    rw [e]
    unfold cat
    rw [show (1 : Int) - 1 = 0 from rfl, P0, Q0, P1, Q1]
    split
    · assumption
    · rw [show (255 - 0) * (v - 0) = 255 * v by omega, show (255 : Int) - 0 = 255 from rfl, Int.mul_tdiv_cancel_left _ (by decide)]
      omega
theorem raw_rr {S T : Int → Int} {c a : Int} (ws : WS S c) (hT : tb T) (ha : 0 ≤ a ∧ a ≤ 100) {i : Int} (h0 : 0 ≤ i) (h1 : i < 7) : 0 ≤ raw S a T i ∧ raw S a T i ≤ 255 := by
  have t0 := hT 0 (by decide) (by decide)
  have t1 := hT 1 (by decide) (by decide)
  have t2 := hT 2 (by decide) (by decide)
  have h3 := ws.1.2.2.1
  have hg : 0 ≤ gray S T ∧ gray S T ≤ 255 - max (T 0) (max (T 1) (T 2)) := by
    unfold gray
    omega
  have hm := mul_bd (a := gray S T) (b := a) (A := gray S T) (B := 100) hg.1 (Int.le_refl _) ha.1 ha.2
  have hb : 0 ≤ blk S a T ∧ blk S a T ≤ gray S T := by
    unfold blk
    omega
  unfold raw
  split
  · rcases (show i = 0 ∨ i = 1 ∨ i = 2 by omega) with rfl | rfl | rfl <;> omega
  · split
    · omega
    · exact hT _ (by omega) (by omega)
theorem bef_raw {S T : Int → Int} {c a : Int} (s : stc S) (ws : WS S c) (hT : tb T) (ha : 0 ≤ a ∧ a ≤ 100) {i : Int} (h0 : 0 ≤ i) (h1 : i < 7) : bef S a T i = raw S a T i := by
  have := raw_rr ws hT ha h0 h1
  exact stc_cval s h0 h1 this.1 this.2
section SE2
variable {h : Zm} {F : Nat → Int → Int} {S : Int → Int} {g : Nat → Int → Int} {c : Int} {N : Nat} {Q : Zm → Prop} {T E : Int → Int}
theorem l_159 (kw : kLw h N) (s4 : F (N + 6) 2 = S 4) (h4 : 0 ≤ S 4 ∧ S 4 ≤ 1785) (hE : b7 E) (hF : ∀ j, 0 ≤ j → j < 7 → F (N + 8) j = E j) (q : ∀ F', bu (N + 9) F F' → (∀ j, 0 ≤ j → j < 7 → F' (N + 9) j = aft S E j) → Q (zwI h F')) : mL_separates_H159 (N + 6) (N + 8) (N + 9) (E 4 + E 5 + E 6) (E 0 + E 1 + E 2) (S 4 - (E 4 + E 5 + E 6) - E 3) 0 (zwI h F) Q := by
  unfold mL_separates_H159
  have e0 := hE 0 (by decide) (by decide)
  have e1 := hE 1 (by decide) (by decide)
  have e2 := hE 2 (by decide) (by decide)
  have e3 := hE 3 (by decide) (by decide)
  have e4 := hE 4 (by decide) (by decide)
  have e5 := hE 5 (by decide) (by decide)
  have e6 := hE 6 (by decide) (by decide)
  have er : rst S E = S 4 - (E 4 + E 5 + E 6) - E 3 := by unfold rst spt; omega
  have ec : clr E = E 0 + E 1 + E 2 := rfl
  have es : spt E = E 4 + E 5 + E 6 := rfl
  have hA : ∀ i, aft S E i = if S 4 - (E 4 + E 5 + E 6) - E 3 < 0 then (if i < 3 then 0 else if i = 3 then max 0 (S 4 - (E 4 + E 5 + E 6)) else if S 4 < E 4 + E 5 + E 6 then E i * S 4 / (E 4 + E 5 + E 6) else E i) else if i < 3 ∧ S 4 - (E 4 + E 5 + E 6) - E 3 < E 0 + E 1 + E 2 then E i * (S 4 - (E 4 + E 5 + E 6) - E 3) / (E 0 + E 1 + E 2) else E i := fun i => by
    unfold aft
    rw [er, ec, es]
  generalize hsp : E 4 + E 5 + E 6 = sp at hA ⊢
  generalize hcl : E 0 + E 1 + E 2 = cl at hA ⊢
  generalize hrs : S 4 - sp - E 3 = rs at hA ⊢
  refine lfp1_up (h := h) 7 (fun i F' => bu (N + 9) F F' ∧ 0 ≤ i ∧ ∀ j, 0 ≤ j → j < i → F' (N + 9) j = aft S E j) (fun X i F' hi hI hX => ?_) 0 F (by decide) ⟨bu.rf, by decide, fun j a b => by omega⟩
  obtain ⟨g1, g2, g3⟩ := hI
  unfold mL_separates_B159
  refine f_lt ⟨by omega, by omega⟩ ⟨by decide, by decide⟩ (fun z => ?_) (fun z => q F' g1 (fun j a b => g3 j a (by omega)))
  have ei := hE i g2 z
  have fE : ∀ F2 : Nat → Int → Int, bu (N + 9) F' F2 → F2 (N + 8) i = E i ∧ F2 (N + 6) 2 = S 4 := fun F2 b => ⟨by rw [b _ _ (by omega), g1 _ _ (by omega)]; exact hF i g2 z, by rw [b _ _ (by omega), g1 _ _ (by omega)]; exact s4⟩
  have fin : ∀ F2, bu (N + 9) F' F2 → (∀ j, j ≠ i → F2 (N + 9) j = F' (N + 9) j) → F2 (N + 9) i = aft S E i → X (i + 1) (zwI h F2) := fun F2 b1 b2 b3 => by
    refine hX z _ ⟨g1.tr b1, by omega, fun j a b => ?_⟩
    by_cases o : j = i
    · rw [o]; exact b3
    · rw [b2 j o]; exact g3 j a (by omega)
  have f243 : ∀ F2, bu (N + 9) F' F2 → (∀ j, j ≠ i → F2 (N + 9) j = F' (N + 9) j) → (i ≤ 3 → F2 (N + 9) i = aft S E i) → (3 < i → F2 (N + 9) i = E i) → mL_separates_J243 X (N + 6) (N + 8) (N + 9) sp cl rs i (zwI h F2) Q := by
    intro F2 b1 b2 b3 b4
    unfold mL_separates_J243
    refine f_le ⟨by omega, by omega⟩ ⟨by decide, by decide⟩ (fun z3 => fin F2 b1 b2 (b3 z3)) (fun z3 => ?_)
    refine f_ldv kw.st (by decide) (by decide) (fE F2 b1).2 fun r4 => f_le ⟨by omega, by omega⟩ r4 (fun z4 => fin F2 b1 b2 ?_) (fun z4 => ?_)
    · rw [b4 z3, hA, if_neg (show ¬ i < 3 by omega), if_neg (show ¬ i = 3 by omega), if_neg (show ¬ S 4 < sp by omega), if_neg (show ¬ (i < 3 ∧ rs < cl) by omega)]
      split <;> rfl
    · have hm := mul_bd (a := E i) (b := S 4) (A := 255) (B := 1785) ei.1 ei.2 h4.1 h4.2
      refine f_ldv kw.ea g2 z (fE F2 b1).1 fun _ => f_ldv kw.st (by decide) (by decide) (fE F2 b1).2 fun _ => f_divv (v := E i * S 4 / sp) ⟨by omega, by omega⟩ ⟨by omega, by omega⟩ rfl ?_
      have hd := Int.ediv_nonneg hm.1 (show 0 ≤ sp by omega)
      have hd2 := Int.ediv_le_self sp hm.1
      refine f_st kw.la g2 z ⟨by omega, by omega⟩ (fin _ (b1.tr bu.up) (fun j o => ?_) ?_)
      · rw [up_n (fun y => o y.2)]; exact b2 j o
      · rw [up_s, hA, if_pos (show rs < 0 by omega), if_neg (show ¬ i < 3 by omega), if_neg (show ¬ i = 3 by omega), if_pos z4]
  have f210 : ∀ F2, bu (N + 9) F' F2 → (∀ j, j ≠ i → F2 (N + 9) j = F' (N + 9) j) → (i < 3 → F2 (N + 9) i = aft S E i) → (3 ≤ i → F2 (N + 9) i = E i) → mL_separates_J210 X (N + 6) (N + 8) (N + 9) sp cl rs i (zwI h F2) Q := by
    intro F2 b1 b2 b3 b4
    unfold mL_separates_J210
    refine f_eq ⟨by omega, by omega⟩ ⟨by decide, by decide⟩ (fun z3 => ?_) (fun z3 => f243 F2 b1 b2 (fun o => b3 (by omega)) (fun o => b4 (by omega)))
    refine f_lt ⟨by omega, by omega⟩ z_in0 (fun z4 => ?_) (fun z4 => f243 F2 b1 b2 (fun _ => ?_) (fun o => by omega))
    · refine f_ldv kw.st (by decide) (by decide) (fE F2 b1).2 fun r4 => f_lt r4 ⟨by omega, by omega⟩ (fun z5 => ?_) (fun z5 => ?_)
      · refine f_st kw.la g2 z z_in0 (f243 _ (b1.tr bu.up) (fun j o => ?_) (fun _ => ?_) (fun o => by omega))
        · rw [up_n (fun y => o y.2)]; exact b2 j o
        · rw [up_s, hA, if_pos z4, if_neg (show ¬ i < 3 by omega), if_pos z3]; omega
      · refine f_ldv kw.st (by decide) (by decide) (fE F2 b1).2 fun _ => f_st kw.la g2 z ⟨by omega, by omega⟩ (f243 _ (b1.tr bu.up) (fun j o => ?_) (fun _ => ?_) (fun o => by omega))
        · rw [up_n (fun y => o y.2)]; exact b2 j o
        · rw [up_s, hA, if_pos z4, if_neg (show ¬ i < 3 by omega), if_pos z3]; omega
    · rw [b4 (by omega), hA, if_neg (show ¬ rs < 0 by omega), if_neg (show ¬ (i < 3 ∧ rs < cl) by omega)]
  refine f_ldv kw.ea g2 z (fE F' bu.rf).1 fun re => f_st kw.la g2 z re ?_
  have n1 : ∀ j, j ≠ i → up F' (N + 9) i (E i) (N + 9) j = F' (N + 9) j := fun j o => up_n (fun y => o y.2)
  refine f_lt ⟨by omega, by omega⟩ ⟨by decide, by decide⟩ (fun z3 => ?_) (fun z3 => f210 _ bu.up n1 (fun o => by omega) (fun _ => up_s _ _ _ _))
  refine f_le ⟨by omega, by omega⟩ ⟨by omega, by omega⟩ (fun z4 => f210 _ bu.up n1 (fun _ => ?_) (fun o => by omega)) (fun z4 => f_lt ⟨by omega, by omega⟩ z_in0 (fun z5 => ?_) (fun z5 => ?_))
  · rw [up_s, hA, if_neg (show ¬ rs < 0 by omega), if_neg (show ¬ (i < 3 ∧ rs < cl) by omega)]
  · refine f_st kw.la g2 z z_in0 (f210 _ (bu.up.tr bu.up) (fun j o => ?_) (fun _ => ?_) (fun o => by omega))
    · rw [up_n (fun y => o y.2)]; exact n1 j o
    · rw [up_s, hA, if_pos z5, if_pos z3]
  · have hm := mul_bd (a := E i) (b := rs) (A := 255) (B := 1785) ei.1 ei.2 z5 (by omega)
    refine f_ldv kw.ea g2 z (fE _ bu.up).1 fun _ => f_divv (v := E i * rs / cl) ⟨by omega, by omega⟩ ⟨by omega, by omega⟩ rfl ?_
    have hd := Int.ediv_nonneg hm.1 (show 0 ≤ cl by omega)
    have hd2 := Int.ediv_le_self cl hm.1
    refine f_st kw.la g2 z ⟨by omega, by omega⟩ (f210 _ (bu.up.tr bu.up) (fun j o => ?_) (fun _ => ?_) (fun o => by omega))
    · rw [up_n (fun y => o y.2)]; exact n1 j o
    · rw [up_s, hA, if_neg (show ¬ rs < 0 by omega), if_pos ⟨z3, z4⟩]
theorem l_separates (kw : kLw h N) (ls : LSt F N S) (ws : WS S c) (s : stc S) (hT : Tn F (N + 7) T) (ht : tb T) (q : ∀ F', (∀ b j, b ≠ N + 8 → b ≠ N + 9 → F' b j = F b j) → (∀ j, 0 ≤ j → j < 7 → F' (N + 8) j = bef S (S 2) T j) → (∀ j, 0 ≤ j → j < 7 → F' (N + 9) j = aft S (bef S (S 2) T) j) → Q (zwI h F')) : mL_separates (N + 7) (N + 6) (N + 8) (N + 9) (zwI h F) Q := by
  unfold mL_separates mL_separates_H8
  have t0 := ht 0 (by decide) (by decide)
  have t1 := ht 1 (by decide) (by decide)
  have t2 := ht 2 (by decide) (by decide)
  have s2 := ls.2 0 (by decide) (by decide)
  have s3 := ls.2 1 (by decide) (by decide)
  have s4 := ls.2 2 (by decide) (by decide)
  have hs := ws.1.2
  -- the last two loops
  have tail : ∀ F2, bu (N + 8) F F2 → (∀ j, 0 ≤ j → j < 3 → F2 (N + 8) j = 255 - T j ∧ F2 (N + 8) (4 + j) = T (3 + j)) → F2 (N + 8) 3 = blk S (S 2) T → mL_separates_H95 (N + 6) (N + 8) (N + 9) 0 (zwI h F2) Q := by
    intro F2 b1 b2 b3
    unfold mL_separates_H95
    have r3 := raw_rr ws ht hs.1 (i := 3) (by decide) (by decide)
    have r3 : 0 ≤ blk S (S 2) T ∧ blk S (S 2) T ≤ 255 := r3
    refine lfp1_up (h := h) 3 (fun i F' => bu (N + 8) F F' ∧ 0 ≤ i ∧ (∀ j, 0 ≤ j → j < 3 → F' (N + 8) j = if j < i then 255 - T j - blk S (S 2) T else 255 - T j) ∧ F' (N + 8) 3 = blk S (S 2) T ∧ ∀ j, 0 ≤ j → j < 3 → F' (N + 8) (4 + j) = T (3 + j)) (fun X i F' hi hI hX => ?_) 0 F2 (by decide) ⟨b1, by decide, fun j a b => by rw [if_neg (by omega)]; exact (b2 j a b).1, b3, fun j a b => (b2 j a b).2⟩
    obtain ⟨g1, g2, g3, g4, g5⟩ := hI
    unfold mL_separates_B95
    refine f_lt ⟨by omega, by omega⟩ ⟨by decide, by decide⟩ (fun z => ?_) (fun z => ?_)
    · have ti := ht i g2 (by omega)
      refine f_ldv (v := 255 - T i) kw.ea g2 (by omega) (by rw [g3 i g2 z, if_neg (by omega)]) fun _ => f_ldv kw.ea (by decide) (by decide) g4 fun _ => f_st kw.ea g2 (by omega) ⟨by omega, by omega⟩ (hX z _ ⟨g1.tr bu.up, by omega, fun j a b => ?_, ?_, fun j a b => ?_⟩)
      · rw [up_e]
        split
        · rename_i o
          rw [o.2, if_pos (by omega)]
        · rename_i o
          have : ¬ j = i := fun n => o ⟨rfl, n⟩
          rw [g3 j a b]
          by_cases u : j < i
          · rw [if_pos u, if_pos (by omega)]
          · rw [if_neg u, if_neg (by omega)]
      · rw [up_n (by omega)]; exact g4
      · rw [up_n (by omega)]; exact g5 j a b
    · have hraw : ∀ j, 0 ≤ j → j < 7 → F' (N + 8) j = raw S (S 2) T j := fun j a b => by
        unfold raw
        by_cases u : j < 3
        · rw [if_pos u, g3 j a u, if_pos (by omega)]
        · rw [if_neg u]
          by_cases v : j = 3
          · rw [if_pos v, v]; exact g4
          · rw [if_neg v]
            have := g5 (j - 4) (by omega) (by omega)
            rw [show 4 + (j - 4) = j by omega, show 3 + (j - 4) = j - 1 by omega] at this
            exact this
      have l6 : F' (N + 6) 2 = S 4 := by rw [g1 _ _ (by omega)]; exact s4
      have hb : b7 (raw S (S 2) T) := fun j a b => raw_rr ws ht hs.1 a b
      have R : ∀ j, 0 ≤ j → j < 7 → F' (N + 8) j = raw S (S 2) T j := hraw
      refine f_ldv kw.ea (by decide) (by decide) (R 4 (by decide) (by decide)) fun _ => f_ldv kw.ea (by decide) (by decide) (R 5 (by decide) (by decide)) fun _ => f_ldv kw.ea (by decide) (by decide) (R 6 (by decide) (by decide)) fun _ => f_ldv kw.ea (by decide) (by decide) (R 0 (by decide) (by decide)) fun _ => f_ldv kw.ea (by decide) (by decide) (R 1 (by decide) (by decide)) fun _ => f_ldv kw.ea (by decide) (by decide) (R 2 (by decide) (by decide)) fun _ => f_ldv kw.st (by decide) (by decide) l6 fun _ => f_ldv kw.ea (by decide) (by decide) (R 3 (by decide) (by decide)) fun _ => ?_
      refine l_159 kw l6 hs.2.2 hb hraw (fun F3 b9 e9 => q F3 (fun b j u v => by rw [b9 _ _ v, g1 _ _ u]) (fun j a b => ?_) (fun j a b => ?_))
      · rw [b9 _ _ (by omega), hraw j a b, bef_raw s ws ht hs.1 a b]
      · rw [e9 j a b]
        have eb : ∀ j, 0 ≤ j → j < 7 → bef S (S 2) T j = raw S (S 2) T j := fun j a b => bef_raw s ws ht hs.1 a b
        unfold aft rst clr spt
        rw [eb 0 (by decide) (by decide), eb 1 (by decide) (by decide), eb 2 (by decide) (by decide), eb 3 (by decide) (by decide), eb 4 (by decide) (by decide), eb 5 (by decide) (by decide), eb 6 (by decide) (by decide), eb j a b]
  -- the first loop
  refine lfp2_up2 (h := h) 3 (fun m i F' => bu (N + 8) F F' ∧ 0 ≤ i ∧ (∀ j, 0 ≤ j → j < i → F' (N + 8) j = 255 - T j ∧ F' (N + 8) (4 + j) = T (3 + j)) ∧ (0 ≤ m ∧ m ≤ 255) ∧ (∀ j, 0 ≤ j → j < i → m ≤ 255 - T j) ∧ (m = 255 ∨ ∃ j, (0 ≤ j ∧ j < i) ∧ m = 255 - T j)) (fun X m i F' hi hI hX => ?_) 255 0 F (by decide) ⟨bu.rf, by decide, fun j a b => by omega, ⟨by decide, by decide⟩, fun j a b => by omega, Or.inl rfl⟩
  obtain ⟨g1, g2, g3, g4, g5, g6⟩ := hI
  unfold mL_separates_B8
  refine f_lt ⟨by omega, by omega⟩ ⟨by decide, by decide⟩ (fun z => ?_) (fun z => ?_)
  · have ti := ht i g2 (by omega)
    have ti3 := ht (3 + i) (by omega) (by omega)
    have px : ∀ j, 0 ≤ j → j < 6 → F' (N + 7) j = T j := fun j a b => by rw [g1 _ _ (by omega)]; exact hT j a b
    refine f_ldv kw.px g2 (by omega) (px i g2 (by omega)) fun _ => f_st kw.ea g2 (by omega) ⟨by omega, by omega⟩ (f_ldv (v := T (3 + i)) kw.px (by omega) (by omega) (by rw [up_a (by omega)]; exact px _ (by omega) (by omega)) fun r3 => f_st kw.ea (by omega) (by omega) r3 ?_)
    have b2 : bu (N + 8) F (up (up F' (N + 8) i (255 - T i)) (N + 8) (4 + i) (T (3 + i))) := (g1.tr bu.up).tr bu.up
    have k2 : ∀ j, 0 ≤ j → j < i + 1 → up (up F' (N + 8) i (255 - T i)) (N + 8) (4 + i) (T (3 + i)) (N + 8) j = 255 - T j ∧ up (up F' (N + 8) i (255 - T i)) (N + 8) (4 + i) (T (3 + i)) (N + 8) (4 + j) = T (3 + j) := fun j a b => by
      by_cases o : j = i
      · subst o
        exact ⟨by rw [up_n (by omega), up_s], up_s _ _ _ _⟩
      · have := g3 j a (by omega)
        exact ⟨by rw [up_n (by omega), up_n (by omega)]; exact this.1, by rw [up_n (by omega), up_n (by omega)]; exact this.2⟩
    have ei := (k2 i g2 (by omega)).1
    refine f_ldv kw.ea g2 (by omega) ei fun ri => f_lt ri ⟨by omega, by omega⟩ (fun z2 => f_ldv kw.ea g2 (by omega) ei fun _ => hX z _ _ ⟨b2, by omega, k2, ⟨by omega, by omega⟩, fun j a b => ?_, Or.inr ⟨i, ⟨g2, by omega⟩, rfl⟩⟩) (fun z2 => hX z _ _ ⟨b2, by omega, k2, g4, fun j a b => ?_, ?_⟩)
    · by_cases o : j = i
      · rw [o]; exact Int.le_refl _
      · have := g5 j a (by omega)
        omega
    · by_cases o : j = i
      · rw [o]; exact z2
      · exact g5 j a (by omega)
    · rcases g6 with o | ⟨j, o1, o2⟩
      · exact Or.inl o
      · exact Or.inr ⟨j, ⟨o1.1, by omega⟩, o2⟩
  · have em : m = 255 - max (T 0) (max (T 1) (T 2)) := by
      have a0 := g5 0 (by decide) (by omega)
      have a1 := g5 1 (by decide) (by omega)
      have a2 := g5 2 (by decide) (by omega)
      rcases g6 with o | ⟨j, o1, o2⟩
      · omega
      · rcases (show j = 0 ∨ j = 1 ∨ j = 2 by omega) with rfl | rfl | rfl <;> omega
    have l3 : F' (N + 6) 1 = S 3 := by rw [g1 _ _ (by omega)]; exact s3
    have l2 : F' (N + 6) 0 = S 2 := by rw [g1 _ _ (by omega)]; exact s2
    have kp : ∀ v, ∀ j, 0 ≤ j → j < 3 → up F' (N + 8) 3 v (N + 8) j = 255 - T j ∧ up F' (N + 8) 3 v (N + 8) (4 + j) = T (3 + j) := fun v j a b => ⟨by rw [up_n (by omega)]; exact (g3 j a (by omega)).1, by rw [up_n (by omega)]; exact (g3 j a (by omega)).2⟩
    refine f_ldv kw.st (by decide) (by decide) l3 fun r3 => f_le ⟨by omega, by omega⟩ r3 (fun z2 => f_st kw.ea (by decide) (by decide) z_in0 (tail _ (g1.tr bu.up) (kp _) ?_)) (fun z2 => ?_)
    · rw [up_s]
      unfold blk gray
      rw [show max 0 (255 - max (T 0) (max (T 1) (T 2)) - S 3) = 0 by omega, Int.zero_mul]
      rfl
    · have hm := mul_bd (a := m - S 3) (b := S 2) (A := 255) (B := 100) (by omega) (by omega) hs.1.1 hs.1.2
      refine f_ldv kw.st (by decide) (by decide) l3 fun _ => f_ldv kw.st (by decide) (by decide) l2 fun _ => f_divv (v := (m - S 3) * S 2 / 100) ⟨hm.1, by omega⟩ ⟨by decide, by decide⟩ rfl (f_st kw.ea (by decide) (by decide) ⟨by omega, by omega⟩ (tail _ (g1.tr bu.up) (kp _) ?_))
      rw [up_s]
      unfold blk gray
      rw [show max 0 (255 - max (T 0) (max (T 1) (T 2)) - S 3) = m - S 3 by omega]
end SE2
