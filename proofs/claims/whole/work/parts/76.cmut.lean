/-! a curve changes: the class's -/
def ins (f : Int → Int) (i x : Int) : Int → Int := fun j => if j < i then f j else if j = i then x else f (j - 1)
def del (f : Int → Int) (i : Int) : Int → Int := fun j => if j < i then f j else f (j + 1)
def put1 (f : Int → Int) (i x : Int) : Int → Int := fun j => if j = i then x else f j
/-- i is the place of u -/
def plc (c : Int) (p : Int → Int) (u i : Int) : Prop := (0 ≤ i ∧ i < c) ∧ (∀ j, 0 ≤ j → j < i → p j < u) ∧ u ≤ p i
abbrev rsn (c : Int) (p q : Int → Int) (i u v : Int) : Prop := (0 < i → q (i - 1) ≤ v) ∧ (p i = u → i + 1 < c → v ≤ q (i + 1)) ∧ (p i ≠ u → v ≤ q i)
theorem wfC_put1 {c i v : Int} {p q : Int → Int} (w : wfC c p q) (hi : 0 ≤ i ∧ i < c) (hv : 0 ≤ v ∧ v ≤ 255) (h0 : 0 < i → q (i - 1) ≤ v) (h1 : i + 1 < c → v ≤ q (i + 1)) : wfC c p (put1 q i v) := by
  obtain ⟨w1, w2, w3, w4, w5, w6⟩ := w
  refine ⟨w1, w2, w3, w4, fun a b x y z => ?_, fun a x y => ?_⟩
  · show (if a = i then v else q a) ≤ if b = i then v else q b
    by_cases e1 : a = i
    · rw [if_pos e1]
      by_cases e2 : b = i
      · rw [if_pos e2]; exact Int.le_refl _
      · rw [if_neg e2]
        have := h1 (by omega)
        have := w5 (i + 1) b (by omega) (by omega) z
        omega
    · rw [if_neg e1]
      by_cases e2 : b = i
      · rw [if_pos e2]
        have := h0 (by omega)
        have := w5 a (i - 1) x (by omega) (by omega)
        omega
      · rw [if_neg e2]; exact w5 a b x y z
  · refine ⟨(w6 a x y).1, ?_⟩
    show 0 ≤ (if a = i then v else q a) ∧ (if a = i then v else q a) ≤ 255
    split
    · exact hv
    · exact (w6 a x y).2
theorem wfC_ins {c i u v : Int} {p q : Int → Int} (w : wfC c p q) (hc : c < 8) (hi : plc c p u i) (hne : p i ≠ u) (hu : 0 ≤ u ∧ u ≤ 255) (hv : 0 ≤ v ∧ v ≤ 255) (h0 : 0 < i → q (i - 1) ≤ v) (h1 : v ≤ q i) : wfC (c + 1) (ins p i u) (ins q i v) := by
  obtain ⟨w1, w2, w3, w4, w5, w6⟩ := w
  obtain ⟨i0, i1, i2⟩ := hi
  have ipos : 0 < i := by
    rcases Int.lt_or_le 0 i with z | z
    · exact z
    · have : i = 0 := by omega
      subst this
      omega
  have eP : ∀ (f : Int → Int) (x a : Int), ins f i x a = if a < i then f a else if a = i then x else f (a - 1) := fun _ _ _ => rfl
  refine ⟨by omega, ?_, ?_, fun a b x y z => ?_, fun a b x y z => ?_, fun a x y => ?_⟩
  · rw [eP, if_pos ipos]; exact w2
  · rw [eP, if_neg (by omega), if_neg (by omega)]
    rw [show c + 1 - 1 - 1 = c - 1 by omega]; exact w3
  · rw [eP, eP]
    by_cases a1 : a < i
    · rw [if_pos a1]
      by_cases b1 : b < i
      · rw [if_pos b1]; exact w4 a b x y (by omega)
      · rw [if_neg b1]
        by_cases b2 : b = i
        · rw [if_pos b2]; exact i1 a x a1
        · rw [if_neg b2]; have := w4 a (b - 1) x (by omega) (by omega); exact this
    · rw [if_neg a1, if_neg (show ¬ b < i by omega), if_neg (show ¬ b = i by omega)]
      by_cases a2 : a = i
      · rw [if_pos a2]
        by_cases e : b - 1 = i
        · rw [e]; omega
        · have := w4 i (b - 1) (by omega) (by omega) (by omega); omega
      · rw [if_neg a2]; exact w4 (a - 1) (b - 1) (by omega) (by omega) (by omega)
  · rw [eP, eP]
    by_cases a1 : a < i
    · rw [if_pos a1]
      have hq := h0 ipos
      by_cases b1 : b < i
      · rw [if_pos b1]; exact w5 a b x y (by omega)
      · rw [if_neg b1]
        by_cases b2 : b = i
        · rw [if_pos b2]; have := w5 a (i - 1) x (by omega) (by omega); omega
        · rw [if_neg b2]; exact w5 a (b - 1) x (by omega) (by omega)
    · rw [if_neg a1, if_neg (show ¬ b < i by omega)]
      by_cases a2 : a = i
      · rw [if_pos a2]
        by_cases b2 : b = i
        · rw [if_pos b2]; exact Int.le_refl _
        · rw [if_neg b2]; have := w5 i (b - 1) (by omega) (by omega) (by omega); omega
      · rw [if_neg a2, if_neg (show ¬ b = i by omega)]; exact w5 (a - 1) (b - 1) (by omega) (by omega) (by omega)
  · rw [eP, eP]
    by_cases a1 : a < i
    · rw [if_pos a1, if_pos a1]; exact w6 a x (by omega)
    · rw [if_neg a1, if_neg a1]
      by_cases a2 : a = i
      · rw [if_pos a2, if_pos a2]; exact ⟨hu, hv⟩
      · rw [if_neg a2, if_neg a2]; exact w6 (a - 1) (by omega) (by omega)
theorem wfC_del {c i : Int} {p q : Int → Int} (w : wfC c p q) (h0 : 0 < i) (h1 : i < c - 1) : wfC (c - 1) (del p i) (del q i) := by
  obtain ⟨w1, w2, w3, w4, w5, w6⟩ := w
  have eP : ∀ (f : Int → Int) (a : Int), del f i a = if a < i then f a else f (a + 1) := fun _ _ => rfl
  refine ⟨by omega, ?_, ?_, fun a b x y z => ?_, fun a b x y z => ?_, fun a x y => ?_⟩
  · rw [eP, if_pos h0]; exact w2
  · rw [eP, if_neg (by omega), show c - 1 - 1 + 1 = c - 1 by omega]; exact w3
  · rw [eP, eP]
    split <;> split
    · exact w4 a b x y (by omega)
    · exact w4 a (b + 1) x (by omega) (by omega)
    · omega
    · exact w4 (a + 1) (b + 1) (by omega) (by omega) (by omega)
  · rw [eP, eP]
    split <;> split
    · exact w5 a b x y (by omega)
    · exact w5 a (b + 1) x (by omega) (by omega)
    · omega
    · exact w5 (a + 1) (b + 1) (by omega) (by omega) (by omega)
  · rw [eP, eP]
    split
    · exact w6 a x (by omega)
    · exact w6 (a + 1) (by omega) (by omega)
theorem up2a {G : Nat → Int → Int} {C : Nat} {x u v j : Int} : up (up G (C + 1) x u) (C + 2) x v (C + 1) j = if j = x then u else G (C + 1) j := by
  rw [up_a (by omega), up_e]
  by_cases e : j = x
  · rw [if_pos ⟨rfl, e⟩, if_pos e]
  · rw [if_neg (fun y => e y.2), if_neg e]
theorem up2b {G : Nat → Int → Int} {C : Nat} {x u v j : Int} : up (up G (C + 1) x u) (C + 2) x v (C + 2) j = if j = x then v else G (C + 2) j := by
  rw [up_e]
  by_cases e : j = x
  · rw [if_pos ⟨rfl, e⟩, if_pos e]
  · rw [if_neg (fun y => e y.2), if_neg e, up_a (by omega)]
section CM
variable {h : Zm} {F : Nat → Int → Int} {C : Nat} {c i u v : Int} {p q : Int → Int}
theorem s_indexOf {Q : Int → Zm → Prop} (kc : kC h C) (cc : CC F C c p q) (w : wfC c p q) (hi : plc c p u i) (hu : InR u) (r : Q (if p i = u then i else -1) (zwI h F)) : mX0_indexOf C u (zwI h F) Q := by
  unfold mX0_indexOf mX0_indexOf_H2
  obtain ⟨k1, k2, k3, k4, k5⟩ := kc
  obtain ⟨w1, w2, w3, w4, w5, w6⟩ := w
  refine lfp1_up (h := h) c (fun x F' => F' = F ∧ 0 ≤ x ∧ ∀ j, 0 ≤ j → j < x → p j ≠ u) (fun X x F' hx hI hX => ?_) 0 F (by omega) ⟨rfl, Int.le_refl _, fun j a b => by omega⟩
  obtain ⟨rfl, x0, x1⟩ := hI
  unfold mX0_indexOf_B2
  refine f_giv k1 cc.1 fun _ => f_lt ⟨by omega, by omega⟩ ⟨by omega, by omega⟩ (fun z => f_gr k1 k2 (f_ldv k4 x0 (by omega) (cc.2 x x0 z).1 fun rr => f_eq rr hu (fun e => ?_) (fun e => hX z _ ⟨rfl, by omega, fun j a b => ?_⟩))) (fun z => ?_)
  · have ex : x = i := by
      rcases Int.lt_trichotomy x i with y | y | y
      · have := hi.2.1 x x0 y; omega
      · exact y
      · have := w4 i x hi.1.1 y z; have := hi.2.2; omega
    rw [← ex, if_pos e] at r
    exact r
  · by_cases ej : j = x
    · rw [ej]; exact e
    · exact x1 j a (by omega)
  · rw [if_neg (x1 i hi.1.1 (by have := hi.1.2; omega))] at r
    exact r
theorem s_keepsRising {Q : Int → Zm → Prop} (kc : kC h C) (cc : CC F C c p q) (w : wfC c p q) (hi : plc c p u i) (hu : InR u) (hv : InR v) (r : Q (bi (rsn c p q i u v)) (zwI h F)) : mX0_keepsRising C u v (zwI h F) Q := by
  unfold mX0_keepsRising mX0_keepsRising_H2
  obtain ⟨k1, k2, k3, k4, k5⟩ := kc
  obtain ⟨w1, w2, w3, w4, w5, w6⟩ := w
  obtain ⟨i0, i1, i2⟩ := hi
  refine lfp1_up (h := h) c (fun x F' => F' = F ∧ 0 ≤ x ∧ ∀ j, 0 ≤ j → j < x → (p j < u → q j ≤ v) ∧ (u < p j → v ≤ q j)) (fun X x F' hx hI hX => ?_) 0 F (by omega) ⟨rfl, Int.le_refl _, fun j a b => by omega⟩
  obtain ⟨rfl, x0, x1⟩ := hI
  unfold mX0_keepsRising_B2
  have nx : x < c → ((p x < u → q x ≤ v) ∧ (u < p x → v ≤ q x)) → X (x + 1) (zwI h F') := fun z t => hX z _ ⟨rfl, by omega, fun j a b => by
    by_cases ej : j = x
    · rw [ej]; exact t
    · exact x1 j a (by omega)⟩
  refine f_giv k1 cc.1 fun _ => f_lt ⟨by omega, by omega⟩ ⟨by omega, by omega⟩ (fun z => ?_) (fun z => ?_)
  · have hc := cc.2 x x0 z
    have jn : (p x < u → q x ≤ v) → mX0_keepsRising_J32 X C u v x (zwI h F') Q := by
      intro t
      unfold mX0_keepsRising_J32
      refine f_gr k1 k2 (f_ldv k4 x0 (by omega) hc.1 fun r1 => f_le r1 hu (fun e => nx z ⟨t, fun y => by omega⟩) (fun e => f_gr k1 k3 (f_ldv k5 x0 (by omega) hc.2 fun r2 => f_lt r2 hv (fun e2 => ?_) (fun e2 => nx z ⟨t, fun _ => e2⟩))))
      rw [bi_f (fun y => by
        by_cases e3 : p i = u
        · have hix : i < x := by
            rcases Int.lt_or_le i x with z2 | z2
            · exact z2
            · rcases Int.lt_or_le x i with z3 | z3
              · have := i1 x x0 z3; omega
              · have : x = i := by omega
                rw [this] at e; omega
          have h1 := y.2.1 e3 (by omega)
          have h2 := w5 (i + 1) x (by omega) (by omega) z
          omega
        · have hix : i ≤ x := by
            rcases Int.lt_or_le x i with z3 | z3
            · have := i1 x x0 z3; omega
            · exact z3
          have h1 := y.2.2 e3
          have h2 := w5 i x (by omega) hix z
          omega)] at r
      exact r
    refine f_gr k1 k2 (f_ldv k4 x0 (by omega) hc.1 fun r1 => f_lt r1 hu (fun e => f_gr k1 k3 (f_ldv k5 x0 (by omega) hc.2 fun r2 => f_le r2 hv (fun e2 => jn (fun _ => e2)) (fun e2 => ?_))) (fun e => jn (fun y => by omega)))
    rw [bi_f (fun y => by
      have hxi : x < i := by
        rcases Int.lt_or_le x i with z3 | z3
        · exact z3
        · rcases Int.lt_or_le i x with z4 | z4
          · have := w4 i x (by omega) z4 z; omega
          · have : x = i := by omega
            rw [this] at e; omega
      have h1 := y.1 (by omega)
      have h2 := w5 x (i - 1) x0 (by omega) (by omega)
      omega)] at r
    exact r
  · rw [bi_t ⟨fun y => (x1 (i - 1) (by omega) (by omega)).1 (i1 (i - 1) (by omega) (by omega)), fun e y => (x1 (i + 1) (by omega) (by omega)).2 (by have := w4 i (i + 1) (by omega) (by omega) (by omega); omega), fun e => (x1 i (by omega) (by omega)).2 (by omega)⟩] at r
    exact r
theorem s_put17 {Q : Zm → Prop} {n : Int} (kc : kC h C) (hn : 0 ≤ n ∧ n < 8) (hu : InR u) (hv : InR v) (r : Q (zwI h (up (up F (C + 1) n u) (C + 2) n v))) : mX0_put_J17 C u v n (zwI h F) Q := by
  unfold mX0_put_J17
  obtain ⟨k1, k2, k3, k4, k5⟩ := kc
  exact f_lt ⟨by omega, by omega⟩ ⟨by decide, by decide⟩ (fun z => f_gr k1 k2 (f_st k4 hn.1 z hu (f_gr k1 k3 (f_st k5 hn.1 z hv r)))) (fun z => by omega)
theorem s_putO {Q : Zm → Prop} (kc : kC h C) (cc : CC F C c p q) (w : wfC c p q) (hi : plc c p u i) (e : p i = u) (hu : InR u) (hv : InR v) (r : ∀ F', fr C (C + 2) F F' → CC F' C c p (put1 q i v) → Q (zwI h F')) : mX0_put C u v (zwI h F) Q := by
  unfold mX0_put
  have w1 := w.1
  have hi1 := hi.1
  refine f_rc kc.1 (s_indexOf kc cc w hi hu ?_)
  rw [if_pos e]
  refine f_eq ⟨by omega, by omega⟩ ⟨by decide, by decide⟩ (fun y => by omega) (fun _ => s_put17 kc ⟨by omega, by omega⟩ hu hv (r _ ((fr.up (by omega) (by omega)).tr (fr.up (by omega) (by omega))) ⟨by rw [up_a (by omega), up_a (by omega)]; exact cc.1, fun j a b => ?_⟩))
  have := cc.2 j a b
  rw [up2a, up2b]
  show _ = _ ∧ _ = if j = i then v else q j
  by_cases e2 : j = i
  · rw [if_pos e2, if_pos e2, if_pos e2, e2]
    exact ⟨e.symm, rfl⟩
  · rw [if_neg e2, if_neg e2, if_neg e2]
    exact this
theorem s_putN {Q : Zm → Prop} (kc : kC h C) (cc : CC F C c p q) (w : wfC c p q) (hi : plc c p u i) (e : p i ≠ u) (hc : c < 8) (hu : InR u) (hv : InR v) (r : ∀ F', fr C (C + 2) F F' → CC F' C (c + 1) (ins p i u) (ins q i v) → Q (zwI h F')) : mX0_put C u v (zwI h F) Q := by
  unfold mX0_put
  obtain ⟨k1, k2, k3, k4, k5⟩ := id kc
  obtain ⟨w1, w2, w3, w4, w5, w6⟩ := id w
  have hi1 := hi.1
  refine f_rc kc.1 (s_indexOf kc cc w hi hu ?_)
  rw [if_neg e]
  refine f_eq ⟨by decide, by decide⟩ ⟨by decide, by decide⟩ (fun _ => f_rc k1 ?_) (fun y => absurd rfl y)
  unfold mX0_openGap
  refine f_giv k1 cc.1 fun _ => f_lt ⟨by omega, by omega⟩ ⟨by decide, by decide⟩ (fun _ => f_giv k1 cc.1 fun _ => ?_) (fun y => by omega)
  unfold mX0_openGap_H17
  refine lfp1_i (fun x _ => x.toNat) (fun x m => ∃ F', m = zwI h F' ∧ fr C (C + 2) F F' ∧ F' C 2 = c ∧ (i ≤ x ∧ x ≤ c) ∧ ∀ j, 0 ≤ j → j ≤ c → (j < x → F' (C + 1) j = p j ∧ F' (C + 2) j = q j) ∧ (x < j → F' (C + 1) j = p (j - 1) ∧ F' (C + 2) j = q (j - 1))) (fun X x m hI hX => ?_) c _ ⟨F, rfl, fr.rf, cc.1, by omega, fun j a b => ⟨fun y => cc.2 j a y, fun y => by omega⟩⟩
  obtain ⟨F', rfl, f1, x2, xr, xv⟩ := hI
  have fin : x = i → cGi (zwI h F') 10 C 2 fun v3 => cPi (zwI h F') 10 C 2 (v3 + 1) fun h4 => mX0_put_J17 C u v x h4 Q := by
    intro ex
    subst ex
    refine f_giv k1 x2 fun _ => f_pi k1 ⟨by omega, by omega⟩ (s_put17 kc ⟨by omega, by omega⟩ hu hv (r _ ((f1.tr (fr.up (by omega) (by omega))).tr ((fr.up (by omega) (by omega)).tr (fr.up (by omega) (by omega)))) ⟨by rw [up_a (by omega), up_a (by omega)]; exact up_s _ _ _ _, fun j a b => ?_⟩))
    have := xv j a (by omega)
    rw [up2a, up2b]
    show _ = (if j < x then p j else if j = x then u else p (j - 1)) ∧ _ = (if j < x then q j else if j = x then v else q (j - 1))
    by_cases e2 : j = x
    · rw [if_pos e2, if_pos e2, if_neg (by omega), if_pos e2, if_neg (by omega), if_pos e2]
      exact ⟨rfl, rfl⟩
    · simp only [if_neg e2]
      rw [up_a (by omega), up_a (by omega)]
      by_cases e3 : j < x
      · simp only [if_pos e3]
        exact this.1 e3
      · simp only [if_neg e3]
        exact this.2 (by omega)
  unfold mX0_openGap_B17
  refine f_le ⟨by omega, by omega⟩ z_in0 (fun z => fin (by omega)) (fun z => ?_)
  have h1 := (xv (x - 1) (by omega) (by omega)).1 (by omega)
  have hp := w6 (x - 1) (by omega) (by omega)
  refine f_gr k1 k2 (f_ldv k4 (by omega) (by omega) h1.1 fun _ => f_le ⟨by omega, by omega⟩ hu (fun e2 => fin ?_) (fun e2 => f_gr k1 k2 (f_gr k1 k2 (f_ldv k4 (by omega) (by omega) h1.1 fun _ => f_st k4 (by omega) (by omega) ⟨by omega, by omega⟩ (f_gr k1 k3 (f_gr k1 k3 (f_ldv (v := q (x - 1)) k5 (by omega) (by omega) (by rw [up_a (by omega)]; exact h1.2) fun _ => f_st k5 (by omega) (by omega) ⟨by omega, by omega⟩ (hX _ _ ⟨_, rfl, (f1.tr (fr.up (by omega) (by omega))).tr (fr.up (by omega) (by omega)), by rw [up_a (by omega), up_a (by omega)]; exact x2, ?_, fun j a b => ?_⟩ (by omega)))))))))
  · rcases Int.lt_or_le i x with y | y
    · have h2 := hi.2.2
      by_cases e3 : x - 1 = i
      · rw [e3] at e2; omega
      · have := w4 i (x - 1) (by omega) (by omega) (by omega); omega
    · omega
  · have : i < x := by
      rcases Int.lt_or_le i x with y | y
      · exact y
      · have e3 : x = i := by omega
        have := hi.2.1 (x - 1) (by omega) (by omega)
        omega
    omega
  · have hj := xv j a b
    rw [up2a, up2b]
    refine ⟨fun y => ?_, fun y => ?_⟩
    · rw [if_neg (by omega), if_neg (by omega)]
      exact hj.1 (by omega)
    · by_cases e3 : j = x
      · rw [if_pos e3, if_pos e3, e3]
        exact ⟨rfl, rfl⟩
      · rw [if_neg (by omega), if_neg (by omega)]
        exact hj.2 (by omega)
theorem s_drop {Q : Int → Zm → Prop} (kc : kC h C) (cc : CC F C c p q) (w : wfC c p q) (hi : 0 ≤ i ∧ i < c) (r : ∀ F', fr C (C + 2) F F' → CC F' C (c - 1) (del p i) (del q i) → Q (q i) (zwI h F')) : mX0_drop C i (zwI h F) Q := by
  unfold mX0_drop mX0_drop_H11
  obtain ⟨k1, k2, k3, k4, k5⟩ := kc
  obtain ⟨w1, w2, w3, w4, w5, w6⟩ := w
  refine f_gr k1 k3 (f_ldv k5 hi.1 (by omega) (cc.2 i hi.1 hi.2).2 fun _ => ?_)
  refine lfp1_up (h := h) c (fun x F' => fr C (C + 2) F F' ∧ F' C 2 = c ∧ i < x ∧ ∀ j, 0 ≤ j → j < c → (j < x - 1 → F' (C + 1) j = del p i j ∧ F' (C + 2) j = del q i j) ∧ (x ≤ j → F' (C + 1) j = p j ∧ F' (C + 2) j = q j)) (fun X x F' hx hI hX => ?_) (i + 1) F (by omega) ⟨fr.rf, cc.1, by omega, fun j a b => ⟨fun y => ?_, fun y => cc.2 j a b⟩⟩
  · obtain ⟨f1, x2, x0, xv⟩ := hI
    unfold mX0_drop_B11
    refine f_giv k1 x2 fun _ => f_lt ⟨by omega, by omega⟩ ⟨by omega, by omega⟩ (fun z => ?_) (fun z => ?_)
    · have h1 := (xv x (by omega) z).2 (Int.le_refl _)
      have hp := w6 x (by omega) z
      refine f_gr k1 k2 (f_gr k1 k2 (f_ldv k4 (by omega) (by omega) h1.1 fun _ => f_st k4 (by omega) (by omega) ⟨by omega, by omega⟩ (f_gr k1 k3 (f_gr k1 k3 (f_ldv (v := q x) k5 (by omega) (by omega) (by rw [up_a (by omega)]; exact h1.2) fun _ => f_st k5 (by omega) (by omega) ⟨by omega, by omega⟩ (hX z _ ⟨(f1.tr (fr.up (by omega) (by omega))).tr (fr.up (by omega) (by omega)), by rw [up_a (by omega), up_a (by omega)]; exact x2, by omega, fun j a b => ?_⟩))))))
      have hj := xv j a b
      rw [up2a, up2b]
      refine ⟨fun y => ?_, fun y => ?_⟩
      · by_cases e3 : j = x - 1
        · rw [if_pos e3, if_pos e3]
          show _ = (if j < i then p j else p (j + 1)) ∧ _ = (if j < i then q j else q (j + 1))
          rw [if_neg (by omega), if_neg (by omega), e3, show x - 1 + 1 = x by omega]
          exact ⟨rfl, rfl⟩
        · rw [if_neg (by omega), if_neg (by omega)]
          exact hj.1 (by omega)
      · rw [if_neg (by omega), if_neg (by omega)]
        exact hj.2 (by omega)
    · have : x = c := by omega
      subst this
      refine f_giv k1 x2 fun _ => f_pi k1 ⟨by omega, by omega⟩ (r _ (f1.tr (fr.up (by omega) (by omega))) ⟨up_s _ _ _ _, fun j a b => ?_⟩)
      rw [up_a (by omega), up_a (by omega)]
      exact (xv j a (by omega)).1 b
  · show _ = (if j < i then p j else p (j + 1)) ∧ _ = (if j < i then q j else q (j + 1))
    rw [if_pos (by omega), if_pos (by omega)]
    exact cc.2 j a b
def stp (i : Int) : Int := 85 * i
def stq (p q : Int → Int) (i : Int) : Int := cval p q (85 * i)
theorem cval_0 (w : wfC c p q) : cval p q 0 = q 0 := by
  have h := w
  rw [cval_at w (k := 0) (Int.le_refl _) (by have := w.1; omega) (fun j a b => by omega) (by rw [w.2.1]; exact Int.le_refl _)]
  unfold cat
  rw [if_pos w.2.1]
theorem s_straighten {Q : Zm → Prop} (kc : kC h C) (cc : CC F C c p q) (w : wfC c p q) (r : ∀ F', fr C (C + 2) F F' → CC F' C 4 stp (stq p q) → Q (zwI h F')) : mX0_straighten C (zwI h F) Q := by
  unfold mX0_straighten
  obtain ⟨k1, k2, k3, k4, k5⟩ := id kc
  have r1 := cval_r w (v := 85) (by decide) (by decide)
  have r2 := cval_r w (v := 170) (by decide) (by decide)
  have r3 := cval_r w (v := 255) (by decide) (by decide)
  refine f_rc k1 (s_valueAt kc cc w (by decide) (by decide) (f_rc k1 (s_valueAt kc cc w (by decide) (by decide) (f_rc k1 (s_valueAt kc cc w (by decide) (by decide) (f_gr k1 k2 (f_st k4 (by decide) (by decide) ⟨by decide, by decide⟩ (f_gr k1 k3 (f_st k5 (by decide) (by decide) ⟨by omega, by omega⟩ (f_gr k1 k2 (f_st k4 (by decide) (by decide) ⟨by decide, by decide⟩ (f_gr k1 k3 (f_st k5 (by decide) (by decide) ⟨by omega, by omega⟩ (f_gr k1 k2 (f_st k4 (by decide) (by decide) ⟨by decide, by decide⟩ (f_gr k1 k3 (f_st k5 (by decide) (by decide) ⟨by omega, by omega⟩ (f_pi k1 ⟨by decide, by decide⟩ (r _ ?_ ⟨up_s _ _ _ _, fun j a b => ?_⟩)))))))))))))))))))
  · intro x y hh
    rw [up_a (by omega), up_a (by omega), up_a (by omega), up_a (by omega), up_a (by omega), up_a (by omega), up_a (by omega)]
  · have h0 := cc.2 0 (by decide) (by have := w.1; omega)
    unfold stp stq
    rcases (show j = 0 ∨ j = 1 ∨ j = 2 ∨ j = 3 by omega) with rfl | rfl | rfl | rfl
    · simp [up_e, h0.1, h0.2, w.2.1, cval_0 w]
    · simp [up_e]
    · simp [up_e]
    · simp [up_e]
end CM
