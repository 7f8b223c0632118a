/-! separation: what it is; the class's -/
def fr (lo hi : Nat) (F F' : Nat → Int → Int) : Prop := ∀ b j, (b < lo ∨ hi < b) → F' b j = F b j
theorem fr.rf {lo hi : Nat} {F : Nat → Int → Int} : fr lo hi F F := fun _ _ _ => rfl
theorem fr.tr {lo hi : Nat} {F G H : Nat → Int → Int} (h1 : fr lo hi F G) (h2 : fr lo hi G H) : fr lo hi F H := fun b j q => (h2 b j q).trans (h1 b j q)
theorem fr.up {lo hi a : Nat} {F : Nat → Int → Int} {i v : Int} (h1 : lo ≤ a) (h2 : a ≤ hi) : fr lo hi F (up F a i v) := fun b j q => up_a (by omega)
theorem fr.wd {lo hi lo' hi' : Nat} {F F' : Nat → Int → Int} (h : fr lo hi F F') (h1 : lo' ≤ lo) (h2 : hi ≤ hi') : fr lo' hi' F F' := fun b j q => h b j (by omega)
theorem bu.fr {a lo hi : Nat} {F F' : Nat → Int → Int} (h : bu a F F') (h1 : lo ≤ a) (h2 : a ≤ hi) : fr lo hi F F' := fun b j q => h b j (by omega)
theorem fr.cs {lo hi A : Nat} {F F' : Nat → Int → Int} {S : Int → Int} {g : Nat → Int → Int} (h : fr lo hi F F') (hA : A + 52 ≤ lo) (c : CS F A S g) : CS F' A S g := c.keep (fun b j _ z => h b j (Or.inl (by omega)))
def gray (S T : Int → Int) : Int := max 0 (255 - max (T 0) (max (T 1) (T 2)) - S 3)
def blk (S : Int → Int) (a : Int) (T : Int → Int) : Int := gray S T * a / 100
def raw (S : Int → Int) (a : Int) (T : Int → Int) (i : Int) : Int := if i < 3 then 255 - T i - blk S a T else if i = 3 then blk S a T else T (i - 1)
def bef (S : Int → Int) (a : Int) (T : Int → Int) (i : Int) : Int := cval (cp S i) (cq S i) (raw S a T i)
def spt (B : Int → Int) : Int := B 4 + B 5 + B 6
def rst (S B : Int → Int) : Int := S 4 - B 3 - spt B
def clr (B : Int → Int) : Int := B 0 + B 1 + B 2
def aft (S B : Int → Int) (i : Int) : Int :=
  if rst S B < 0 then (if i < 3 then 0 else if i = 3 then max 0 (S 4 - spt B) else if S 4 < spt B then B i * S 4 / spt B else B i)
  else if i < 3 ∧ rst S B < clr B then B i * rst S B / clr B else B i
theorem blk_r {S : Int → Int} {c0 a : Int} {T : Int → Int} (ws : WS S c0) (hT : tb T) (ha : 0 ≤ a ∧ a ≤ 100) : 0 ≤ blk S a T ∧ ∀ i, 0 ≤ i → i < 3 → blk S a T ≤ 255 - T i := by
  have t0 := hT 0 (by decide) (by decide)
  have t1 := hT 1 (by decide) (by decide)
  have t2 := hT 2 (by decide) (by decide)
  have h3 := ws.1.2.2.1
  have hg : 0 ≤ gray S T ∧ gray S T ≤ 255 - max (T 0) (max (T 1) (T 2)) := by unfold gray; omega
  have h := mul_bd (a := gray S T) (b := a) (A := gray S T) (B := 100) hg.1 (Int.le_refl _) ha.1 ha.2
  have hb : 0 ≤ blk S a T ∧ blk S a T ≤ gray S T := by
    unfold blk
    omega
  refine ⟨hb.1, fun i a b => ?_⟩
  rcases (show i = 0 ∨ i = 1 ∨ i = 2 by omega) with rfl | rfl | rfl <;> omega
theorem raw_r {S : Int → Int} {c0 a : Int} {T : Int → Int} (ws : WS S c0) (hT : tb T) (ha : 0 ≤ a ∧ a ≤ 100) {i : Int} (h0 : 0 ≤ i) (h1 : i < 7) : 0 ≤ raw S a T i ∧ raw S a T i ≤ 255 := by
  have hb := blk_r ws hT ha
  unfold raw
  split
  · rename_i z
    have := hT i h0 (by omega)
    have := hb.2 i h0 z
    omega
  · split
    · have := hb.2 0 (by decide) (by decide)
      have := hT 0 (by decide) (by decide)
      omega
    · exact hT (i - 1) (by omega) (by omega)
theorem bef_r {S : Int → Int} {c0 a : Int} {T : Int → Int} (ws : WS S c0) (hT : tb T) (ha : 0 ≤ a ∧ a ≤ 100) {i : Int} (h0 : 0 ≤ i) (h1 : i < 7) : 0 ≤ bef S a T i ∧ bef S a T i ≤ 255 := by
  have h := raw_r ws hT ha h0 h1
  exact cval_r (ws.2.2.2 i h0 h1) h.1 h.2
def b7 (B : Int → Int) : Prop := ∀ i, 0 ≤ i → i < 7 → 0 ≤ B i ∧ B i ≤ 255
theorem part_r {x r s : Int} (hx : 0 ≤ x ∧ x ≤ 255) (hr : 0 ≤ r) (hs : 0 < s) (hrs : r ≤ s) : 0 ≤ x * r / s ∧ x * r / s ≤ x := by
  have := div_part (a := x) (b := r) (d := s) hx.1 hr hs hrs
  rw [tdiv_pos (Int.mul_nonneg hx.1 hr)] at this
  exact this
theorem aft_r {S : Int → Int} {c0 : Int} {B : Int → Int} (ws : WS S c0) (hB : b7 B) {i : Int} (h0 : 0 ≤ i) (h1 : i < 7) : 0 ≤ aft S B i ∧ aft S B i ≤ 1785 := by
  have hL := ws.1.2.2.2
  have hi := hB i h0 h1
  have h4 := hB 4 (by decide) (by decide)
  have h5 := hB 5 (by decide) (by decide)
  have h6 := hB 6 (by decide) (by decide)
  have b3 := hB 3 (by decide) (by decide)
  have e0 := hB 0 (by decide) (by decide)
  have e1 := hB 1 (by decide) (by decide)
  have e2 := hB 2 (by decide) (by decide)
  unfold aft
  split
  · split
    · omega
    · split
      · unfold spt; omega
      · split
        · rename_i z
          have := part_r (x := B i) (r := S 4) (s := spt B) hi hL.1 (by unfold spt at z ⊢; omega) (by omega)
          omega
        · omega
  · split
    · rename_i y z
      have := part_r (x := B i) (r := rst S B) (s := clr B) hi (by omega) (by omega) (by omega)
      omega
    · omega
section SP
variable {h : Zm} {F : Nat → Int → Int} {P A : Nat} {S : Int → Int} {g : Nat → Int → Int} {c0 : Int}
theorem s_shrink {Q : Zm → Prop} {f r s : Int} {V : Int → Int} (kp : kP h P) (hf : 0 ≤ f ∧ f + 3 ≤ 7) (hr : 0 ≤ r ∧ r ≤ 1785) (hs : 0 < s ∧ s ≤ 1785) (hrs : r ≤ s) (hV : ∀ i, f ≤ i → i < f + 3 → 0 ≤ V i ∧ V i ≤ 255) (hF : ∀ i, 0 ≤ i → i < 7 → F (P + 3) i = V i) (q : ∀ F', fr (P + 3) (P + 3) F F' → (∀ i, 0 ≤ i → i < 7 → F' (P + 3) i = if f ≤ i ∧ i < f + 3 then V i * r / s else V i) → Q (zwI h F')) : mX3_shrink P f r s (zwI h F) Q := by
  unfold mX3_shrink mX3_shrink_H8
  obtain ⟨⟨k1, k2, k3, k4⟩, k5, k6, k7⟩ := kp
  refine f_le ⟨by omega, by omega⟩ z_in0 (fun z => by omega) (fun _ => ?_)
  refine lfp1_up (h := h) (f + 3) (fun i F' => fr (P + 3) (P + 3) F F' ∧ f ≤ i ∧ ∀ c, 0 ≤ c → c < 7 → F' (P + 3) c = if f ≤ c ∧ c < i then V c * r / s else V c) (fun X i F' hi hI hX => ?_) f F (by omega) ⟨fr.rf, Int.le_refl _, fun c a b => by rw [if_neg (by omega)]; exact hF c a b⟩
  obtain ⟨g1, g2, g3⟩ := hI
  unfold mX3_shrink_B8
  refine f_lt ⟨by omega, by omega⟩ ⟨by omega, by omega⟩ (fun z => f_lt ⟨by omega, by omega⟩ ⟨by decide, by decide⟩ (fun z2 => ?_) (fun z2 => by omega)) (fun z => q F' g1 (fun c a b => ?_))
  · have hv := hV i g2 z
    have hm := mul_bd (a := V i) (b := r) (A := 255) (B := 1785) hv.1 hv.2 hr.1 hr.2
    have hp := part_r (x := V i) (r := r) (s := s) hv hr.1 hs.1 hrs
    refine f_gr k1 k4 (f_gr k1 k4 (f_ldv k7 (by omega) (by omega) (by rw [g3 i (by omega) z2, if_neg (by omega)]) fun _ => ⟨⟨by omega, by omega⟩, ⟨by omega, by omega⟩, ?_⟩))
    rw [tdiv_pos hm.1]
    refine f_st k7 (by omega) (by omega) ⟨by omega, by omega⟩ (hX z _ ⟨g1.tr (fr.up (Nat.le_refl _) (Nat.le_refl _)), by omega, fun c a b => ?_⟩)
    rw [up_e]
    by_cases e : c = i
    · subst e
      rw [if_pos ⟨rfl, rfl⟩, if_pos (by omega)]
    · rw [if_neg (by omega), g3 c a b]
      by_cases e2 : f ≤ c ∧ c < i
      · rw [if_pos e2, if_pos (by omega)]
      · rw [if_neg e2, if_neg (by omega)]
  · rw [g3 c a b]
    by_cases e2 : f ≤ c ∧ c < i
    · rw [if_pos e2, if_pos (by omega)]
    · rw [if_neg e2, if_neg (by omega)]
theorem s_limitSum {Q : Zm → Prop} {B : Int → Int} (kp : kP h P) (ws : WS S c0) (hB : b7 B) (hF : ∀ i, 0 ≤ i → i < 7 → F (P + 3) i = B i) (q : ∀ F', fr (P + 3) (P + 3) F F' → (∀ i, 0 ≤ i → i < 7 → F' (P + 3) i = aft S B i) → Q (zwI h F')) : mX3_limitSum P (S 4) (zwI h F) Q := by
  unfold mX3_limitSum
  obtain ⟨⟨k1, k2, k3, k4⟩, k5, k6, k7⟩ := id kp
  have hL := ws.1.2.2.2
  have h4 := hB 4 (by decide) (by decide)
  have h5 := hB 5 (by decide) (by decide)
  have h6 := hB 6 (by decide) (by decide)
  have b3 := hB 3 (by decide) (by decide)
  have e0 := hB 0 (by decide) (by decide)
  have e1 := hB 1 (by decide) (by decide)
  have e2 := hB 2 (by decide) (by decide)
  have ld : ∀ (i : Int) (R : Int → Prop), 0 ≤ i → i < 7 → (InR (B i) → R (B i)) → cGr (zwI h F) 13 P 2 fun r => cLd (zwI h F) 1 r i R := fun i R a b c => f_gr k1 k4 (f_ldv k7 a (by omega) (hF i a b) c)
  refine ld 4 _ (by decide) (by decide) fun _ => ld 5 _ (by decide) (by decide) fun _ => ld 6 _ (by decide) (by decide) fun _ => ld 3 _ (by decide) (by decide) fun _ => ld 0 _ (by decide) (by decide) fun _ => ld 1 _ (by decide) (by decide) fun _ => ld 2 _ (by decide) (by decide) fun _ => ?_
  have es : B 4 + B 5 + B 6 = spt B := rfl
  have ec : B 0 + B 1 + B 2 = clr B := rfl
  have er : S 4 - spt B - B 3 = rst S B := by unfold rst; omega
  rw [es, ec, er]
  have hsp : 0 ≤ spt B ∧ spt B ≤ 765 := by unfold spt; omega
  have hcl : 0 ≤ clr B ∧ clr B ≤ 765 := by unfold clr; omega
  have hrs : rst S B = S 4 - B 3 - spt B := rfl
  refine f_lt ⟨by omega, by omega⟩ z_in0 (fun z => ?_) (fun z => ?_)
  · refine f_gr k1 k4 (f_st k7 (by decide) (by decide) z_in0 (f_gr k1 k4 (f_st k7 (by decide) (by decide) z_in0 (f_gr k1 k4 (f_st k7 (by decide) (by decide) z_in0 (f_gr k1 k4 (s_max z_in0 ⟨by omega, by omega⟩ (f_st k7 (by decide) (by decide) ⟨by omega, by omega⟩ ?_))))))))
    have hV : ∀ i, 0 ≤ i → i < 7 → up (up (up (up F (P + 3) 0 0) (P + 3) 1 0) (P + 3) 2 0) (P + 3) 3 (max 0 (S 4 - spt B)) (P + 3) i = if i < 3 then 0 else if i = 3 then max 0 (S 4 - spt B) else B i := by
      intro i a b
      simp only [up_e]
      rcases (show i = 0 ∨ i = 1 ∨ i = 2 ∨ i = 3 ∨ 3 < i by omega) with rfl | rfl | rfl | rfl | h3
      · simp
      · simp
      · simp
      · simp
      · rw [if_neg (by omega), if_neg (by omega), if_neg (by omega), if_neg (by omega), if_neg (by omega), if_neg (by omega)]
        exact hF i a b
    have hfr : fr (P + 3) (P + 3) F (up (up (up (up F (P + 3) 0 0) (P + 3) 1 0) (P + 3) 2 0) (P + 3) 3 (max 0 (S 4 - spt B))) := (((fr.up (Nat.le_refl _) (Nat.le_refl _)).tr (fr.up (Nat.le_refl _) (Nat.le_refl _))).tr (fr.up (Nat.le_refl _) (Nat.le_refl _))).tr (fr.up (Nat.le_refl _) (Nat.le_refl _))
    generalize up (up (up (up F (P + 3) 0 0) (P + 3) 1 0) (P + 3) 2 0) (P + 3) 3 (max 0 (S 4 - spt B)) = F1 at hV hfr ⊢
    refine f_lt ⟨by omega, by omega⟩ ⟨by omega, by omega⟩ (fun y => f_rc k1 (s_shrink kp (V := fun i => if i < 3 then 0 else if i = 3 then max 0 (S 4 - spt B) else B i) (by decide) hL ⟨by omega, by omega⟩ (by omega) (fun i a b => ?_) hV fun F2 f2 v2 => q F2 (hfr.tr f2) (fun i a b => ?_))) (fun y => q F1 hfr (fun i a b => ?_))
    · show 0 ≤ (if i < 3 then 0 else if i = 3 then _ else B i) ∧ (if i < 3 then 0 else if i = 3 then _ else B i) ≤ 255
      rw [if_neg (by omega), if_neg (by omega)]
      exact hB i (by omega) (by omega)
    · rw [v2 i a b]
      unfold aft
      rw [if_pos z]
      by_cases h3 : i < 3
      · rw [if_neg (by omega), if_pos h3]
        simp only [if_pos h3]
      · by_cases h4 : i = 3
        · rw [if_neg (by omega), if_neg h3, if_pos h4]
          simp only [if_neg h3, if_pos h4]
        · rw [if_pos (by omega), if_neg h3, if_neg h4, if_pos y]
          simp only [if_neg h3, if_neg h4]
    · rw [hV i a b]
      unfold aft
      rw [if_pos z]
      by_cases h3 : i < 3
      · rw [if_pos h3, if_pos h3]
      · by_cases h4 : i = 3
        · rw [if_neg h3, if_pos h4, if_neg h3, if_pos h4]
        · rw [if_neg h3, if_neg h4, if_neg h3, if_neg h4, if_neg (by omega)]
  · refine f_le ⟨by omega, by omega⟩ ⟨by omega, by omega⟩ (fun y => q F fr.rf (fun i a b => ?_)) (fun y => f_rc k1 (s_shrink kp (V := B) (by decide) ⟨z, by omega⟩ ⟨by omega, by omega⟩ (by omega) (fun i a b => hB i a (by omega)) hF fun F2 f2 v2 => q F2 f2 (fun i a b => ?_)))
    · rw [hF i a b]
      unfold aft
      rw [if_neg (by omega), if_neg (by omega)]
    · rw [v2 i a b]
      unfold aft
      by_cases h3 : i < 3
      · rw [if_pos (show 0 ≤ i ∧ i < 0 + 3 by omega), if_neg (show ¬ rst S B < 0 by omega), if_pos (show i < 3 ∧ rst S B < clr B from ⟨h3, by omega⟩)]
      · rw [if_neg (show ¬ (0 ≤ i ∧ i < 0 + 3) by omega), if_neg (show ¬ rst S B < 0 by omega), if_neg (show ¬ (i < 3 ∧ rst S B < clr B) from fun e => h3 e.1)]
theorem s_separate {Q : Zm → Prop} {a : Int} {T : Int → Int} (kp : kP h P) (ks : kS h A) (hne : A + 52 ≤ P) (cs : CS F A S g) (ws : WS S c0) (hT : Tn F (P + 1) T) (ht : tb T) (ha : 0 ≤ a ∧ a ≤ 100) (q : ∀ F', fr (P + 2) (P + 3) F F' → (∀ i, 0 ≤ i → i < 7 → F' (P + 2) i = bef S a T i) → (∀ i, 0 ≤ i → i < 7 → F' (P + 3) i = aft S (bef S a T) i) → Q (zwI h F')) : mX3_separate P A a (zwI h F) Q := by
  unfold mX3_separate
  obtain ⟨⟨k1, k2, k3, k4⟩, k5, k6, k7⟩ := id kp
  have t0 := ht 0 (by decide) (by decide)
  have t1 := ht 1 (by decide) (by decide)
  have t2 := ht 2 (by decide) (by decide)
  have h3 := ws.1.2.2.1
  have hb := blk_r ws ht ha
  have ld : ∀ (i : Int) (R : Int → Prop), 0 ≤ i → i < 6 → (InR (T i) → R (T i)) → cGr (zwI h F) 13 P 0 fun r => cLd (zwI h F) 1 r i R := fun i R a b c => f_gr k1 k2 (f_ldv k5 a (by omega) (hT i a b) c)
  have hgr : 0 ≤ gray S T ∧ gray S T ≤ 255 := by unfold gray; omega
  have hm := mul_bd (a := gray S T) (b := a) (A := 255) (B := 100) hgr.1 hgr.2 ha.1 ha.2
  have eg : max 0 (255 - max (T 0) (max (T 1) (T 2)) - S 3) = gray S T := rfl
  refine ld 0 _ (by decide) (by decide) fun _ => ld 1 _ (by decide) (by decide) fun _ => ld 2 _ (by decide) (by decide) fun _ => s_max ⟨by omega, by omega⟩ ⟨by omega, by omega⟩ (s_max ⟨by omega, by omega⟩ ⟨by omega, by omega⟩ (f_giv ks.1.1 (cs.1 3 (by decide) (by decide)) fun _ => s_max z_in0 ⟨by omega, by omega⟩ ?_))
  rw [eg]
  refine ⟨⟨by omega, by omega⟩, ⟨by decide, by decide⟩, ?_⟩
  rw [tdiv_pos hm.1]
  have eb : gray S T * a / 100 = blk S a T := rfl
  rw [eb]
  have hb0 := hb.2 0 (by decide) (by decide)
  unfold mX3_separate_H53
  refine lfp1_up (h := h) 3 (fun i F' => fr (P + 2) (P + 3) F F' ∧ 0 ≤ i ∧ ∀ c, 0 ≤ c → c < i → F' (P + 2) c = raw S a T c) (fun X i F' hi hI hX => ?_) 0 F (by decide) ⟨fr.rf, by decide, fun c a b => by omega⟩
  obtain ⟨g1, g2, g3⟩ := hI
  unfold mX3_separate_B53
  refine f_lt ⟨by omega, by omega⟩ ⟨by decide, by decide⟩ (fun z => ?_) (fun z => ?_)
  · have hti := ht i g2 (by omega)
    have hbi := hb.2 i g2 z
    refine f_gr k1 k3 (f_gr k1 k2 (f_ldv (v := T i) k5 g2 (by omega) (by rw [g1 _ _ (by omega)]; exact hT i g2 (by omega)) fun _ => f_st k6 g2 (by omega) ⟨by omega, by omega⟩ (hX z _ ⟨g1.tr (fr.up (by omega) (by omega)), by omega, fun c a b => ?_⟩)))
    rw [up_e]
    by_cases e : c = i
    · subst e
      rw [if_pos ⟨rfl, rfl⟩]
      unfold raw
      rw [if_pos z]
    · rw [if_neg (by omega)]
      exact g3 c a (by omega)
  · refine f_gr k1 k3 (f_st k6 (by decide) (by decide) ⟨by omega, by omega⟩ ?_)
    unfold mX3_separate_H97
    refine lfp1_up (h := h) 3 (fun i F' => fr (P + 2) (P + 3) F F' ∧ 0 ≤ i ∧ ∀ c, 0 ≤ c → c < 4 + i → F' (P + 2) c = raw S a T c) (fun X i F' hi hI hX => ?_) 0 _ (by decide) ⟨g1.tr (fr.up (by omega) (by omega)), by decide, fun c a b => ?_⟩
    · obtain ⟨j1, j2, j3⟩ := hI
      unfold mX3_separate_B97
      refine f_lt ⟨by omega, by omega⟩ ⟨by decide, by decide⟩ (fun y => ?_) (fun y => ?_)
      · have hti := ht (3 + i) (by omega) (by omega)
        refine f_gr k1 k3 (f_gr k1 k2 (f_ldv (v := T (3 + i)) k5 (by omega) (by omega) (by rw [j1 _ _ (by omega)]; exact hT _ (by omega) (by omega)) fun _ => f_st k6 (by omega) (by omega) ⟨by omega, by omega⟩ (hX y _ ⟨j1.tr (fr.up (by omega) (by omega)), by omega, fun c a b => ?_⟩)))
        rw [up_e]
        by_cases e : c = 4 + i
        · subst e
          rw [if_pos ⟨rfl, rfl⟩]
          unfold raw
          rw [if_neg (by omega), if_neg (by omega)]
          congr 1
          omega
        · rw [if_neg (by omega)]
          exact j3 c a (by omega)
      · unfold mX3_separate_H130
        refine lfp1_up (h := h) 7 (fun i F' => fr (P + 2) (P + 3) F F' ∧ 0 ≤ i ∧ (∀ c, 0 ≤ c → c < 7 → F' (P + 2) c = if c < i then bef S a T c else raw S a T c) ∧ ∀ c, 0 ≤ c → c < i → F' (P + 3) c = bef S a T c) (fun X i F' hi hI hX => ?_) 0 _ (by decide) ⟨j1, by decide, fun c a b => by rw [if_neg (by omega)]; exact j3 c a (by omega), fun c a b => by omega⟩
        obtain ⟨l1, l2, l3, l4⟩ := hI
        have cs' := l1.cs (by omega) cs
        unfold mX3_separate_B130
        refine f_lt ⟨by omega, by omega⟩ ⟨by decide, by decide⟩ (fun u => ?_) (fun u => ?_)
        · have hr := raw_r ws ht ha l2 u
          have hbf := bef_r ws ht ha l2 u
          have hcv := ks.2.2 i l2 u
          refine f_gr k1 k3 (f_gr ks.1.1 ks.1.2.2.2.1 (f_ldr ks.1.2.2.2.2.2 (by decide) l2 (by omega) hcv.1 (f_gr k1 k3 (f_ldv (v := raw S a T i) k6 l2 (by omega) (by rw [l3 i l2 u, if_neg (by omega)]) fun _ => f_rc hcv.2.1 (s_valueAt hcv.2 (cs'.2.2.1 i l2 u) (ws.2.2.2 i l2 u) hr.1 hr.2 (f_st k6 l2 (by omega) ⟨by unfold bef at hbf; omega, by unfold bef at hbf; omega⟩ (f_gr k1 k4 (f_gr k1 k3 (f_ldv (v := bef S a T i) k6 l2 (by omega) (up_s _ _ _ _) fun _ => f_st k7 l2 (by omega) ⟨by omega, by omega⟩ (hX u _ ⟨(l1.tr (fr.up (by omega) (by omega))).tr (fr.up (by omega) (by omega)), by omega, fun c a b => ?_, fun c a b => ?_⟩))))))))))
          · rw [up_a (by omega), up_e]
            by_cases e : c = i
            · subst e
              rw [if_pos ⟨rfl, rfl⟩, if_pos (by omega)]
              rfl
            · rw [if_neg (by omega), l3 c a b]
              by_cases e2 : c < i
              · rw [if_pos e2, if_pos (by omega)]
              · rw [if_neg e2, if_neg (by omega)]
          · rw [up_e]
            by_cases e : c = i
            · subst e
              rw [if_pos ⟨rfl, rfl⟩]
            · rw [if_neg (by omega), up_a (by omega)]
              exact l4 c a (by omega)
        · have hi7 : i = 7 := by omega
          subst hi7
          refine f_giv ks.1.1 (cs'.1 4 (by decide) (by decide)) fun _ => f_rc k1 (s_limitSum kp ws (fun i a b => bef_r ws ht ha a b) l4 fun F2 f2 v2 => q F2 (l1.tr (f2.wd (by omega) (by omega))) (fun i a b => ?_) v2)
          rw [f2 _ _ (by omega), l3 i a b, if_pos b]
    · rw [up_e]
      by_cases e : c = 3
      · subst e
        rw [if_pos ⟨rfl, rfl⟩]
        rfl
      · rw [if_neg (by omega)]
        exact g3 c a (by omega)
end SP
