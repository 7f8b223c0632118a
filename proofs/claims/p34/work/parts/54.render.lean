/-! a pixel's tones: what they are, and the class's rendering -/
def mv (v g e : Int) : Int := v + (g - v) * e / 100
theorem mv_r {v g e : Int} (hv : 0 ≤ v ∧ v ≤ 255) (hg : 0 ≤ g ∧ g ≤ 255) (he : 0 ≤ e ∧ e ≤ 100) : 0 ≤ mv v g e ∧ mv v g e ≤ 255 := by
  unfold mv
  by_cases c : v ≤ g
  · have h := mul_bd (a := g - v) (b := e) (A := g - v) (B := 100) (by omega) (by omega) he.1 he.2
    omega
  · have h := mul_bd (a := v - g) (b := e) (A := v - g) (B := 100) (by omega) (by omega) he.1 he.2
    have e1 : (g - v) * e = -((v - g) * e) := by
      rw [← Int.neg_mul]
      congr 1
      omega
    omega
theorem mv_p {v g e : Int} (hv : 0 ≤ v ∧ v ≤ 255) (hg : 0 ≤ g ∧ g ≤ 255) (he : 0 ≤ e ∧ e ≤ 100) : -25500 ≤ (g - v) * e ∧ (g - v) * e ≤ 25500 := by
  by_cases c : v ≤ g
  · have h := mul_bd (a := g - v) (b := e) (A := 255) (B := 100) (by omega) (by omega) he.1 he.2
    omega
  · have h := mul_bd (a := v - g) (b := e) (A := 255) (B := 100) (by omega) (by omega) he.1 he.2
    have e1 : (g - v) * e = -((v - g) * e) := by
      rw [← Int.neg_mul]
      congr 1
      omega
    omega
abbrev inb (S : Int → Int) (g : Nat → Int → Int) (k x y : Int) : Prop := nk S k ≠ 0 ∧ (nf S k 0 ≤ x - gox g (np S k) ∧ x - gox g (np S k) ≤ nf S k 0 + nf S k 2 - 1) ∧ (nf S k 1 ≤ y - goy g (np S k) ∧ y - goy g (np S k) ≤ nf S k 1 + nf S k 3 - 1)
def pnt (S : Int → Int) (e k : Int) (T : Int → Int) : Int → Int := fun c =>
  if nk S k = 1 then (if c < 3 then mv (T c) (nf S k (4 + c)) e else mv (T c) 0 e)
  else if c = 3 + nf S k 4 then mv (T c) (nf S k 5) e
  else if S (5 + nf S k 4) = 1 then (if c < 3 then mv (T c) 255 e else mv (T c) 0 e)
  else T c
def rnd (S : Int → Int) (g : Nat → Int → Int) (x y : Int) : Nat → Int → Int
  | 0 => fun c => if c < 3 then 255 else 0
  | t + 1 => if inb S g (go g t) x y then pnt S (gop g (np S (go g t))) (go g t) (rnd S g x y t) else rnd S g x y t
def tb (T : Int → Int) : Prop := ∀ c, 0 ≤ c → c < 6 → 0 ≤ T c ∧ T c ≤ 255
def Tn (F : Nat → Int → Int) (a : Nat) (T : Int → Int) : Prop := ∀ c, 0 ≤ c → c < 6 → F a c = T c
/-- F' is F but at a -/
def bu (a : Nat) (F F' : Nat → Int → Int) : Prop := ∀ b j, b ≠ a → F' b j = F b j
theorem bu.rf {a : Nat} {F : Nat → Int → Int} : bu a F F := fun _ _ _ => rfl
theorem bu.tr {a : Nat} {F G H : Nat → Int → Int} (h1 : bu a F G) (h2 : bu a G H) : bu a F H := fun b j q => (h2 b j q).trans (h1 b j q)
theorem bu.up {a : Nat} {F : Nat → Int → Int} {i v : Int} : bu a F (up F a i v) := fun b j q => up_a q
theorem pnt_r {S : Int → Int} {e k : Int} {T : Int → Int} (hT : tb T) (he : 0 ≤ e ∧ e ≤ 100) (wn : WN S) (hk : live S k) (h0 : nk S k ≠ 0) : tb (pnt S e k T) := by
  intro c h1 h2
  unfold pnt
  have hc := hT c h1 h2
  split
  · rename_i z
    have h3 := wn.2.2.2.2.1 k hk z
    split
    · rcases (show c = 0 ∨ c = 1 ∨ c = 2 by omega) with rfl | rfl | rfl
      · exact mv_r hc h3.1 he
      · exact mv_r hc h3.2.1 he
      · exact mv_r hc h3.2.2 he
    · exact mv_r hc ⟨by decide, by decide⟩ he
  · rename_i z
    have h4 := wn.2.2.2.2.2 k hk (by have := WF.nk2 wn hk; omega)
    split
    · exact mv_r hc h4.2 he
    · split
      · split
        · exact mv_r hc ⟨by decide, by decide⟩ he
        · exact mv_r hc ⟨by decide, by decide⟩ he
      · exact hc
theorem o_pos {S : Int → Int} {g : Nat → Int → Int} (w : WO S g) {t : Int} (h0 : 1 ≤ t) (h1 : t < gc g) : go g t ≠ 0 := fun q => w.2.2.1 0 t (by omega) (by omega) h1 (by rw [q]; exact w.1.2)
theorem rnd_r {S : Int → Int} {g : Nat → Int → Int} {c0 : Int} (w : WF S g c0) (x y : Int) : ∀ t : Nat, (t : Int) ≤ gc g → tb (rnd S g x y t) := by
  intro t
  induction t with
  | zero =>
    intro _ c h1 h2
    show 0 ≤ (if c < 3 then (255 : Int) else 0) ∧ (if c < 3 then (255 : Int) else 0) ≤ 255
    split <;> omega
  | succ t ih =>
    intro ht
    have h := ih (by omega)
    show tb (if inb S g (go g t) x y then pnt S (gop g (np S (go g t))) (go g t) (rnd S g x y t) else rnd S g x y t)
    split
    · rename_i z
      have hk := w.2.2.2.2.1 t (by omega) (by omega)
      have hne : go g t ≠ 0 := fun q => z.1 (by rw [q]; exact w.2.1.1.1)
      have h1 := w.2.2.1.2.1 _ hk hne
      exact pnt_r h (g_op w.2.1 w.2.2.1 h1.1 h1.2.1).1 w.2.1 hk z.1
    · exact h
section RD
variable {h : Zm} {F : Nat → Int → Int} {P A : Nat} {S : Int → Int} {g : Nat → Int → Int} {c0 : Int}
theorem s_nodeAt {Q : Nat → Zm → Prop} {k : Int} (kk : kT h A) (h0 : 0 ≤ k) (h1 : k < 24) (q : Q (A + 4 + k.toNat) (zwI h F)) : mX5_nodeAt (A + 2) k (zwI h F) Q := by
  unfold mX5_nodeAt
  obtain ⟨⟨k1, k2, k3, k4⟩, ⟨k5, k6, k7⟩, k8⟩ := kk
  refine s_within ⟨by omega, by omega⟩ z_in0 ⟨by decide, by decide⟩ (f_bi (fun _ => ?_) (fun z => by omega))
  exact f_gr k1 k2 (f_ldr k5 (by decide) h0 (by omega) (k8 k h0 h1).1 q)
theorem s_contains {Q : Int → Zm → Prop} {a : Nat} {k x y : Int} (hk : zkd h a = (12, 18)) (hn : NS F a S g k) (wn : WN S) (hl : live S k) (hx : InR x) (hy : InR y) (q : Q (bi (nk S k ≠ 0 ∧ (nf S k 0 ≤ x ∧ x ≤ nf S k 0 + nf S k 2 - 1) ∧ (nf S k 1 ≤ y ∧ y ≤ nf S k 1 + nf S k 3 - 1))) (zwI h F)) : mX2_contains a x y (zwI h F) Q := by
  unfold mX2_contains
  refine f_giv hk hn.1.1 fun hr => f_eq hr z_in0 (fun z => ?_) (fun z => ?_)
  · rw [bi_f (fun y => y.1 z)] at q; exact q
  · obtain ⟨e9, e10, e11, e12⟩ := (hn.2 hl.2).2.2.1 z
    have hb := wn.2.2.2.1 k hl z
    refine f_giv hk e9 fun _ => f_giv hk e9 fun _ => f_giv hk e11 fun _ => s_within hx ⟨by omega, by omega⟩ ⟨by omega, by omega⟩ (f_bi (fun z1 => ?_) (fun z1 => ?_))
    · refine f_giv hk e10 fun _ => f_giv hk e10 fun _ => f_giv hk e12 fun _ => s_within hy ⟨by omega, by omega⟩ ⟨by omega, by omega⟩ (f_bi (fun z2 => ?_) (fun z2 => ?_))
      · rw [bi_t ⟨z, z1, z2⟩] at q; exact q
      · rw [bi_f (fun y => z2 y.2.2)] at q; exact q
    · rw [bi_f (fun y => z1 y.2.1)] at q; exact q
theorem s_clear {Q : Zm → Prop} (kp : kP h P) (q : ∀ F', bu (P + 1) F F' → Tn F' (P + 1) (fun c => if c < 3 then 255 else 0) → Q (zwI h F')) : mX3_clear P (zwI h F) Q := by
  unfold mX3_clear mX3_clear_H2
  obtain ⟨⟨k1, k2, k3, k4⟩, k5, k6, k7⟩ := kp
  refine lfp1_up (h := h) 6 (fun i F' => bu (P + 1) F F' ∧ 0 ≤ i ∧ ∀ c, 0 ≤ c → c < i → F' (P + 1) c = if c < 3 then 255 else 0) (fun X i F' hi hI hX => ?_) 0 F (by decide) ⟨bu.rf, by decide, fun c a b => by omega⟩
  obtain ⟨g1, g2, g3⟩ := hI
  unfold mX3_clear_B2
  refine f_lt ⟨by omega, by omega⟩ ⟨by decide, by decide⟩ (fun z => f_gr k1 k2 (f_lt ⟨by omega, by omega⟩ ⟨by decide, by decide⟩ (fun z3 => f_st k5 g2 (by omega) ⟨by decide, by decide⟩ ?_) (fun z3 => f_st k5 g2 (by omega) ⟨by decide, by decide⟩ ?_))) (fun z => q F' g1 (fun c a b => g3 c a (by omega)))
  · refine hX z _ ⟨g1.tr bu.up, by omega, fun c a b => ?_⟩
    rw [up_e]
    split
    · rename_i e
      rw [if_pos (by omega)]
    · exact g3 c a (by omega)
  · refine hX z _ ⟨g1.tr bu.up, by omega, fun c a b => ?_⟩
    rw [up_e]
    split
    · rename_i e
      rw [if_neg (by omega)]
    · exact g3 c a (by omega)
theorem s_pull {Q : Zm → Prop} {i v gl e : Int} (kp : kP h P) (h0 : 0 ≤ i) (h1 : i < 6) (hF : F (P + 1) i = v) (hv : 0 ≤ v ∧ v ≤ 255) (hg : 0 ≤ gl ∧ gl ≤ 255) (he : 0 ≤ e ∧ e ≤ 100) (q : Q (zwI h (up F (P + 1) i (mv v gl e)))) : mX3_pull P i gl e (zwI h F) Q := by
  unfold mX3_pull
  obtain ⟨⟨k1, k2, k3, k4⟩, k5, k6, k7⟩ := kp
  have hp := mv_p hv hg he
  have hm := mv_r hv hg he
  refine f_gr k1 k2 (f_ldv k5 h0 (by omega) hF fun _ => f_gr k1 k2 (s_floorDiv ⟨by omega, by omega⟩ ⟨by decide, by decide⟩ (f_st k5 h0 (by omega) ?_ q)))
  unfold mv at hm
  exact ⟨by omega, by omega⟩
theorem s_pullColors {Q : Zm → Prop} {r gr b e : Int} {T : Int → Int} (kp : kP h P) (hT : Tn F (P + 1) T) (ht : tb T) (hr : 0 ≤ r ∧ r ≤ 255) (hg : 0 ≤ gr ∧ gr ≤ 255) (hb : 0 ≤ b ∧ b ≤ 255) (he : 0 ≤ e ∧ e ≤ 100) (q : ∀ F', bu (P + 1) F F' → Tn F' (P + 1) (fun c => if c = 0 then mv (T c) r e else if c = 1 then mv (T c) gr e else if c = 2 then mv (T c) b e else T c) → Q (zwI h F')) : mX3_pullColors P r gr b e (zwI h F) Q := by
  unfold mX3_pullColors
  have k1 := kp.1.1
  refine f_rc k1 (s_pull kp (by decide) (by decide) (hT 0 (by decide) (by decide)) (ht 0 (by decide) (by decide)) hr he (f_rc k1 (s_pull kp (v := T 1) (by decide) (by decide) ?_ (ht 1 (by decide) (by decide)) hg he (f_rc k1 (s_pull kp (v := T 2) (by decide) (by decide) ?_ (ht 2 (by decide) (by decide)) hb he (q _ ((bu.up.tr bu.up).tr bu.up) (fun c a z => ?_)))))))
  · rw [up_n (by omega)]
    exact hT 1 (by decide) (by decide)
  · rw [up_n (by omega), up_n (by omega)]
    exact hT 2 (by decide) (by decide)
  · simp only [up_e]
    by_cases c2 : c = 2
    · subst c2; simp
    · by_cases c1 : c = 1
      · subst c1; simp
      · by_cases c0 : c = 0
        · subst c0; simp
        · simp [c0, c1, c2]
          exact hT c a z
theorem s_pullTints {Q : Zm → Prop} {sp e : Int} {T : Int → Int} (kp : kP h P) (hT : Tn F (P + 1) T) (ht : tb T) (hs : InR sp) (he : 0 ≤ e ∧ e ≤ 100) (q : ∀ F', bu (P + 1) F F' → Tn F' (P + 1) (fun c => if 3 ≤ c ∧ c ≠ 3 + sp then mv (T c) 0 e else T c) → Q (zwI h F')) : mX3_pullTints P sp e (zwI h F) Q := by
  unfold mX3_pullTints mX3_pullTints_H2
  have k1 := kp.1.1
  refine lfp1_up (h := h) 3 (fun i F' => bu (P + 1) F F' ∧ 0 ≤ i ∧ ∀ c, 0 ≤ c → c < 6 → F' (P + 1) c = if (3 ≤ c ∧ c < 3 + i) ∧ c ≠ 3 + sp then mv (T c) 0 e else T c) (fun X i F' hi hI hX => ?_) 0 F (by decide) ⟨bu.rf, by decide, fun c a b => by rw [if_neg (by omega)]; exact hT c a b⟩
  obtain ⟨g1, g2, g3⟩ := hI
  unfold mX3_pullTints_B2
  refine f_lt ⟨by omega, by omega⟩ ⟨by decide, by decide⟩ (fun z => f_eq ⟨by omega, by omega⟩ hs (fun y => ?_) (fun y => f_rc k1 (s_pull kp (v := T (3 + i)) (by omega) (by omega) ?_ (ht _ (by omega) (by omega)) ⟨by decide, by decide⟩ he ?_))) (fun z => q F' g1 (fun c a b => ?_))
  · refine hX z _ ⟨g1, by omega, fun c a b => ?_⟩
    rw [g3 c a b]
    by_cases w : (3 ≤ c ∧ c < 3 + i) ∧ c ≠ 3 + sp
    · rw [if_pos w, if_pos (by omega)]
    · rw [if_neg w, if_neg (by omega)]
  · rw [g3 _ (by omega) (by omega), if_neg (by omega)]
  · refine hX z _ ⟨g1.tr bu.up, by omega, fun c a b => ?_⟩
    rw [up_e]
    by_cases w : c = 3 + i
    · subst w
      rw [if_pos ⟨rfl, rfl⟩, if_pos (by omega)]
    · rw [if_neg (by omega), g3 c a b]
      by_cases w2 : (3 ≤ c ∧ c < 3 + i) ∧ c ≠ 3 + sp
      · rw [if_pos w2, if_pos (by omega)]
      · rw [if_neg w2, if_neg (by omega)]
  · rw [g3 c a b]
    dsimp only
    by_cases w : 3 ≤ c ∧ c ≠ 3 + sp
    · rw [if_pos w, if_pos (by omega)]
    · rw [if_neg w, if_neg (by omega)]
theorem s_paint {Q : Zm → Prop} {a : Nat} {k e : Int} {T : Int → Int} (kp : kP h P) (ks : kS h A) (hne : P + 1 ≠ a ∧ P + 1 ≠ A + 1) (hk : zkd h a = (12, 18)) (hn : NS F a S g k) (wn : WN S) (hl : live S k) (h0 : nk S k ≠ 0) (hkn : ∀ j, 0 ≤ j → j < 3 → F (A + 1) j = S (5 + j)) (hks : ∀ j, 0 ≤ j → j < 3 → S (5 + j) = 0 ∨ S (5 + j) = 1) (hT : Tn F (P + 1) T) (ht : tb T) (he : 0 ≤ e ∧ e ≤ 100) (q : ∀ F', bu (P + 1) F F' → Tn F' (P + 1) (pnt S e k T) → Q (zwI h F')) : mX3_paint P a A e (zwI h F) Q := by
  unfold mX3_paint
  have k1 := kp.1.1
  have hs := hn.2 hl.2
  refine f_giv hk hn.1.1 fun hr => f_eq hr ⟨by decide, by decide⟩ (fun z => ?_) (fun z => ?_)
  · obtain ⟨e13, e14, e15⟩ := hs.2.2.2.1 z
    have hb := wn.2.2.2.2.1 k hl z
    refine f_giv hk e13 fun _ => f_giv hk e14 fun _ => f_giv hk e15 fun _ => f_rc k1 (s_pullColors kp hT ht hb.1 hb.2.1 hb.2.2 he fun F1 b1 t1 => f_rc k1 (s_pullTints kp t1 ?_ ⟨by decide, by decide⟩ he fun F2 b2 t2 => q F2 (b1.tr b2) (fun c x y => ?_)))
    · intro c x y
      have hc := ht c x y
      show 0 ≤ (if c = 0 then _ else if c = 1 then _ else if c = 2 then _ else _) ∧ (if c = 0 then _ else if c = 1 then _ else if c = 2 then _ else _) ≤ 255
      split
      · exact mv_r hc hb.1 he
      · split
        · exact mv_r hc hb.2.1 he
        · split
          · exact mv_r hc hb.2.2 he
          · exact hc
    · rw [t2 c x y]
      dsimp only
      unfold pnt
      rw [if_pos z]
      rcases (show c = 0 ∨ c = 1 ∨ c = 2 ∨ 3 ≤ c by omega) with rfl | rfl | rfl | h3
      · simp
      · simp
      · simp
      · rw [if_pos (by omega), if_neg (by omega), if_neg (by omega), if_neg (by omega), if_neg (by omega)]
  · have z2 : nk S k = 2 := by have := WF.nk2 wn hl; omega
    obtain ⟨e16, e17⟩ := hs.2.2.2.2 z2
    have hb := wn.2.2.2.2.2 k hl z2
    refine f_giv hk e16 fun _ => s_within ⟨by omega, by omega⟩ z_in0 ⟨by decide, by decide⟩ (f_bi (fun _ => ?_) (fun y => absurd ⟨hb.1.1, hb.1.2⟩ y))
    refine f_giv hk e16 fun _ => f_giv hk e17 fun _ => f_rc k1 (s_pull kp (v := T (3 + nf S k 4)) (by omega) (by omega) (hT _ (by omega) (by omega)) (ht _ (by omega) (by omega)) hb.2 he ?_)
    have e16' : up F (P + 1) (3 + nf S k 4) (mv (T (3 + nf S k 4)) (nf S k 5) e) a 16 = nf S k 4 := by rw [up_a hne.1.symm]; exact e16
    have eK : up F (P + 1) (3 + nf S k 4) (mv (T (3 + nf S k 4)) (nf S k 5) e) (A + 1) (nf S k 4) = S (5 + nf S k 4) := by rw [up_a hne.2.symm]; exact hkn _ hb.1.1 (by omega)
    have h01 := hks (nf S k 4) hb.1.1 (by omega)
    refine f_gr ks.1.1 ks.1.2.1 (f_giv hk e16' fun _ => f_ldv ks.1.2.2.2.2.1 hb.1.1 (by omega) eK fun hr2 => f_eq hr2 ⟨by decide, by decide⟩ (fun y => ?_) (fun y => ?_))
    · have t0 : Tn (up F (P + 1) (3 + nf S k 4) (mv (T (3 + nf S k 4)) (nf S k 5) e)) (P + 1) (fun c => if c = 3 + nf S k 4 then mv (T c) (nf S k 5) e else T c) := fun c x w => by
        rw [up_e]
        by_cases w2 : c = 3 + nf S k 4
        · subst w2; simp
        · rw [if_neg (by omega)]
          show _ = if c = 3 + nf S k 4 then _ else _
          rw [if_neg w2]
          exact hT c x w
      refine f_rc k1 (s_pullColors kp t0 ?_ ⟨by decide, by decide⟩ ⟨by decide, by decide⟩ ⟨by decide, by decide⟩ he fun F1 b1 t1 => f_giv hk (v := nf S k 4) (by rw [b1 _ _ hne.1.symm]; exact e16') fun hr4 => f_rc k1 (s_pullTints kp t1 ?_ hr4 he fun F2 b2 t2 => q F2 ((bu.up.tr b1).tr b2) (fun c x w => ?_)))
      · intro c x w
        have hc := ht c x w
        show 0 ≤ (if c = _ then _ else _) ∧ (if c = _ then _ else _) ≤ 255
        split
        · exact mv_r hc hb.2 he
        · exact hc
      · intro c x w
        have hc := ht c x w
        show 0 ≤ (if c = 0 then _ else if c = 1 then _ else if c = 2 then _ else _) ∧ (if c = 0 then _ else if c = 1 then _ else if c = 2 then _ else _) ≤ 255
        have hc2 : 0 ≤ (if c = 3 + nf S k 4 then mv (T c) (nf S k 5) e else T c) ∧ (if c = 3 + nf S k 4 then mv (T c) (nf S k 5) e else T c) ≤ 255 := by
          split
          · exact mv_r hc hb.2 he
          · exact hc
        split
        · exact mv_r hc2 ⟨by decide, by decide⟩ he
        · split
          · exact mv_r hc2 ⟨by decide, by decide⟩ he
          · split
            · exact mv_r hc2 ⟨by decide, by decide⟩ he
            · exact hc2
      · rw [t2 c x w]
        dsimp only
        unfold pnt
        rw [if_neg z]
        by_cases w2 : c = 3 + nf S k 4
        · subst w2
          rw [if_neg (by omega), if_neg (by omega), if_neg (by omega), if_neg (by omega), if_pos rfl, if_pos rfl]
        · rw [if_neg w2, if_pos y]
          by_cases w3 : c < 3
          · rw [if_neg (by omega), if_pos w3]
            rcases (show c = 0 ∨ c = 1 ∨ c = 2 by omega) with rfl | rfl | rfl
            · rw [if_pos rfl, if_neg w2]
            · rw [if_neg (by decide), if_pos rfl, if_neg w2]
            · rw [if_neg (by decide), if_neg (by decide), if_pos rfl, if_neg w2]
          · rw [if_pos (by omega), if_neg (by omega), if_neg (by omega), if_neg (by omega), if_neg w2, if_neg w3]
    · refine q _ bu.up (fun c x w => ?_)
      unfold pnt
      rw [if_neg z, up_e]
      by_cases w2 : c = 3 + nf S k 4
      · subst w2
        rw [if_pos ⟨rfl, rfl⟩, if_pos rfl]
      · rw [if_neg (by omega), if_neg w2, if_neg y]
        exact hT c x w
end RD
