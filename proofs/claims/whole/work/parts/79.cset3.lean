/-! points of curves: the reference's calls -/
section CY
variable {h : Zm} {F : Nat → Int → Int} {M : Nat} {S : Int → Int} {g : Nat → Int → Int} {c0 k : Int} {Hs : Int → Int → Int}
theorem s_endsI2 {Q : Int → Zm → Prop} {F0 : Nat → Int → Int} {S' : Int → Int} {v : Int} (km : kM h M) (hv : InR v) (ri : RI F0 M S Hs k) (hf : ∀ a j, (a < M ∨ (a = M ∧ j = 3) ∨ a = M + 2 ∨ a = M + 4 ∨ a = M + 5 ∨ M + 17 < a) → F a j = F0 a j) (hA : ∀ j, 0 ≤ j → j < 368 → F (M + 3) j = S j) (hS : RS F M S') (q : ∀ F', RI F' M S' (pH Hs k S) (pK k) → qe M F0 F' → Q v (zwI h F')) : mX7_ends M v (zwI h F) Q := by
  obtain ⟨r1, r2, r3⟩ := ri
  refine s_ends (S0 := S) (Hs := Hs) km hv hA (by rw [hf _ _ (by omega)]; exact r2) (fun i j a c x y => by rw [hf _ _ (by omega)]; exact r3 i j a c x y) (fun F2 f2 e2 p2 => q F2 ⟨fun j a c => ?_, ⟨e2, pK_r r2.2.1 r2.2.2⟩, p2⟩ (fun a j ha => ?_))
  · rw [f2 _ _ (by omega) (by omega)]; exact hS j a c
  · rw [f2 _ _ (by omega) (by omega)]; exact hf _ _ (by omega)
theorem s_pt232 {Q : Int → Zm → Prop} {S' : Int → Int} {F1 : Nat → Int → Int} {b i v : Int} (km : kM h M) (ri : RI F M S Hs k) (hb : 0 ≤ b) (hi : 0 ≤ i) (hj : b + 2 + 2 * i < 368) (hv : InR v) (hf : ∀ a j, a ≠ M + 1 → a ≠ M + 3 → F1 a j = F a j) (hA : ∀ j, 0 ≤ j → j < 368 → F1 (M + 3) j = S j) (hS : RS (up F1 (M + 1) (b + 2 + 2 * i) v) M S') (q : ∀ F', RI F' M S' (pH Hs k S) (pK k) → qe M F F' → Q (S' b) (zwI h F')) : mX7_setPoint_J232 M v b i (zwI h F1) Q := by
  unfold mX7_setPoint_J232
  refine f_gr km.1 km.r0 (f_st km.k0 (by omega) (by omega) hv (r_ld km hS hb (by omega) fun r => f_rc km.1 (s_endsI km r ri (fun a j x y => ?_) (fun j a c => ?_) hS q)))
  · rw [up_a x]; exact hf _ _ x y
  · rw [up_a (by omega)]; exact hA j a c
theorem s_setPoint7 {Q : Int → Zm → Prop} {p u v : Int} (km : kM h M) (ri : RI F M S Hs k) (w : WF S g c0) (hp : InR p) (hu : InR u) (hv : InR v) (t : fPt S p u v = 0 → ∀ F', RI F' M (sPt S p u v) (pH Hs k S) (pK k) → qe M F F' → Q (cc (sPt S p u v) p) (zwI h F')) (f : fPt S p u v ≠ 0 → Q (fPt S p u v) (zwI h F)) : mX7_setPoint M p u v (zwI h F) Q := by
  unfold mX7_setPoint
  have hS := ri.1
  have bad : ¬ ((0 ≤ p ∧ p ≤ 6) ∧ (0 ≤ u ∧ u ≤ 255) ∧ (0 ≤ v ∧ v ≤ 255)) → Q (-1) (zwI h F) := fun y => by
    have e : fPt S p u v = -1 := if_neg y
    rw [e] at f
    exact f (by decide)
  refine s_isPlate7 hp (f_bi (fun z => s_isValue7 hu (f_bi (fun z2 => s_isValue7 hv (f_bi (fun z3 => ?_) (fun z3 => bad (fun y => z3 y.2.2)))) (fun z2 => bad (fun y => z2 y.2.1)))) (fun z => bad (fun y => z y.1)))
  have a : (0 ≤ p ∧ p ≤ 6) ∧ (0 ≤ u ∧ u ≤ 255) ∧ (0 ≤ v ∧ v ≤ 255) := ⟨z, z2, z3⟩
  have hw := w.1.2.2.2 p z.1 (by omega)
  have hpl := pl_ok hw z2.2
  have hok := fun f0 => sPt_ok (p := p) (u := u) (v := v) w f0
  have ef : fPt S p u v = if rsn (cc S p) (cp S p) (cq S p) (pl S p u) u v then (if cp S p (pl S p u) ≠ u ∧ cc S p = 8 then -3 else 0) else -2 := if_pos a
  have esP : sPt S p u v = if cp S p (pl S p u) = u then ru S (9 + 17 * p + 2 + 2 * pl S p u) v else rIns S p (pl S p u) u v := rfl
  have hw1 := hw.1
  have hp1 := hpl.1
  generalize hi : pl S p u = i at hpl hp1 ef esP
  have e5 : S (9 + 17 * p) = cc S p := rfl
  have ei : S (9 + 17 * p + 1 + 2 * i) = cp S p i := rfl
  have hri := hw.2.2.2.2.2 i hp1.1 hp1.2
  refine r_ld km hS (by omega) (by omega) fun _ => f_rc km.1 (s_pointAt km hS ⟨z.1, by omega⟩ hw hu hpl.1.1 hpl.1.2 hpl.2.1 hpl.2.2 (r_ld km hS (by omega) (by omega) fun _ => ?_))
  rw [e5, ei]
  -- the change
  have chg : ∀ s7 : Int, (s7 = if cp S p i = u then 1 else 0) → rsn (cc S p) (cp S p) (cq S p) i u v → (cp S p i ≠ u → cc S p < 8) → mX7_setPoint_J154 M u v (9 + 17 * p) (cc S p) i s7 (zwI h F) Q := by
    intro s7 e7 hr hc
    have f0 : fPt S p u v = 0 := by
      rw [ef, if_pos hr, if_neg (fun y => by have := hc y.1; omega)]
    have t := t f0
    unfold mX7_setPoint_J154
    refine f_rc km.1 (s_hold km hS fun F1 b1 v1 => ?_)
    have hS1 : RS F1 M S := fun j a c => by rw [b1 _ _ (by omega)]; exact hS j a c
    by_cases e : cp S p i = u
    · rw [if_pos e] at e7 esP
      subst e7
      rw [esP] at t
      refine f_eq ⟨by decide, by decide⟩ z_in0 (fun y => absurd y (by decide)) (fun _ => s_pt232 (S' := ru S (9 + 17 * p + 2 + 2 * i) v) km ri (by omega) hp1.1 (by omega) hv (fun a j x y => b1 _ _ y) v1 (fun j a c => ?_) t)
      rw [up_e]
      by_cases ej : j = 9 + 17 * p + 2 + 2 * i
      · rw [if_pos ⟨rfl, ej⟩, ej, ru_s]
      · rw [if_neg (fun y => ej y.2), ru_n ej]
        exact hS1 j a c
    · rw [if_neg e] at e7 esP
      subst e7
      rw [esP] at t
      have hc8 := hc e
      refine f_eq z_in0 z_in0 (fun _ => ?_) (fun y => absurd rfl y)
      unfold mX7_setPoint_H169
      refine lfp1_i (fun x _ => x.toNat) (fun x m => ∃ F', m = zwI h F' ∧ bu (M + 1) F1 F' ∧ (2 * i ≤ x ∧ x ≤ 2 * cc S p) ∧ ∀ j, 0 ≤ j → j < 368 → F' (M + 1) j = if 9 + 17 * p + 2 + x < j ∧ j ≤ 9 + 17 * p + 2 + 2 * cc S p then S (j - 2) else S j) (fun X x m hI hX => ?_) (2 * cc S p) _ ⟨F1, rfl, bu.rf, by omega, fun j a c => by rw [if_neg (by omega)]; exact hS1 j a c⟩
      obtain ⟨F', rfl, f1, xr, xv⟩ := hI
      unfold mX7_setPoint_B169
      refine f_le ⟨by omega, by omega⟩ ⟨by omega, by omega⟩ (fun y => ?_) (fun y => ?_)
      · have ex : x = 2 * i := by omega
        subst ex
        refine f_gr km.1 km.r0 (f_ldv (v := cc S p) km.k0 (by omega) (by omega) (by rw [xv _ (by omega) (by omega), if_neg (by omega)]; exact e5) fun _ => f_st km.k0 (by omega) (by omega) ⟨by omega, by omega⟩ (f_gr km.1 km.r0 (f_st km.k0 (by omega) (by omega) hu (s_pt232 (S' := rIns S p i u v) km ri (by omega) hp1.1 (by omega) hv (fun a j x y => ?_) (fun j a c => ?_) (fun j a c => ?_) t))))
        · rw [up_a x, up_a x, f1 _ _ x]; exact b1 _ _ y
        · rw [up_a (by omega), up_a (by omega), f1 _ _ (by omega)]; exact v1 j a c
        · have hx := xv j a c
          show _ = if j = 9 + 17 * p then S j + 1 else if j = 9 + 17 * p + 1 + 2 * i then u else if j = 9 + 17 * p + 2 + 2 * i then v else if 9 + 17 * p + 2 + 2 * i < j ∧ j ≤ 9 + 17 * p + 2 + 2 * cc S p then S (j - 2) else S j
          by_cases j2 : j = 9 + 17 * p + 2 + 2 * i
          · rw [j2, up_s, if_neg (by omega), if_neg (by omega), if_pos rfl]
          · rw [up_n (fun y => j2 y.2)]
            by_cases j1 : j = 9 + 17 * p + 1 + 2 * i
            · rw [j1, up_s, if_neg (by omega), if_pos rfl]
            · rw [up_n (fun y => j1 y.2)]
              by_cases j0 : j = 9 + 17 * p
              · rw [j0, up_s, if_pos rfl, e5]
              · rw [up_n (fun y => j0 y.2), if_neg j0, if_neg j1, if_neg j2]
                exact hx
      · refine f_gr km.1 km.r0 (f_gr km.1 km.r0 (f_ldv (v := S (9 + 17 * p + x)) km.k0 (by omega) (by omega) (by rw [xv _ (by omega) (by omega), if_neg (by omega)]) fun r => f_st km.k0 (by omega) (by omega) r (hX _ _ ⟨_, rfl, f1.tr bu.up, by omega, fun j a c => ?_⟩ (by omega))))
        rw [up_e]
        by_cases ej : j = 9 + 17 * p + 2 + x
        · rw [if_pos ⟨rfl, ej⟩, if_pos (by omega)]
          congr 1
          omega
        · rw [if_neg (fun y => ej y.2), xv j a c]
          by_cases e2 : 9 + 17 * p + 2 + x < j ∧ j ≤ 9 + 17 * p + 2 + 2 * cc S p
          · rw [if_pos e2, if_pos (by omega)]
          · rw [if_neg e2, if_neg (by omega)]
  have no : ∀ r, fPt S p u v = r → r ≠ 0 → Q r (zwI h F) := fun r e n => by
    rw [e] at f
    exact f n
  have n2 : ¬ rsn (cc S p) (cp S p) (cq S p) i u v → Q (-2) (zwI h F) := fun y => no (-2) (by rw [ef, if_neg y]) (by decide)
  have last : ∀ s7 : Int, (s7 = if cp S p i = u then 1 else 0) → rsn (cc S p) (cp S p) (cq S p) i u v → cEq s7 0 (cEq (cc S p) 8 (Q (-3) (zwI h F)) (mX7_setPoint_J154 M u v (9 + 17 * p) (cc S p) i s7 (zwI h F) Q)) (mX7_setPoint_J154 M u v (9 + 17 * p) (cc S p) i s7 (zwI h F) Q) := by
    intro s7 e7 hr
    by_cases e : cp S p i = u
    · have c := chg s7 e7 hr (fun y => absurd e y)
      rw [if_pos e] at e7
      subst e7
      exact f_eq ⟨by decide, by decide⟩ z_in0 (fun y => absurd y (by decide)) (fun _ => c)
    · have c := fun hc => chg s7 e7 hr hc
      rw [if_neg e] at e7
      subst e7
      exact f_eq z_in0 z_in0 (fun _ => f_eq ⟨by omega, by omega⟩ ⟨by decide, by decide⟩ (fun y => no (-3) (by rw [ef, if_pos hr, if_pos ⟨e, y⟩]) (by decide)) (fun y => c (fun _ => by omega))) (fun y => absurd rfl y)
  have j111 : ∀ s7 s8 : Int, (s7 = if cp S p i = u then 1 else 0) → s8 = i + s7 → (0 < i → cq S p (i - 1) ≤ v) → mX7_setPoint_J111 M u v (9 + 17 * p) (cc S p) i s7 s8 (zwI h F) Q := by
    intro s7 s8 e7 e8 hr
    unfold mX7_setPoint_J111
    have s7b : 0 ≤ s7 ∧ s7 ≤ 1 := by rw [e7]; split <;> decide
    refine f_lt ⟨by omega, by omega⟩ ⟨by omega, by omega⟩ (fun y => r_ld km hS (by omega) (by omega) fun r => f_lt r hv (fun y2 => n2 (fun x => ?_)) (fun y2 => last s7 e7 ⟨hr, fun x x2 => ?_, fun x => ?_⟩)) (fun y => last s7 e7 ⟨hr, fun x x2 => ?_, fun x => ?_⟩)
    · have y2 : cq S p s8 < v := y2
      by_cases e : cp S p i = u
      · rw [if_pos e] at e7
        have := x.2.1 e (by omega)
        rw [e8, e7] at y2
        omega
      · rw [if_neg e] at e7
        have := x.2.2 e
        rw [e8, e7, Int.add_zero] at y2
        omega
    · have y2 : v ≤ cq S p s8 := y2
      rw [if_pos x] at e7
      rw [e8, e7] at y2
      exact y2
    · have y2 : v ≤ cq S p s8 := y2
      rw [if_neg x] at e7
      rw [e8, e7, Int.add_zero] at y2
      exact y2
    · rw [if_pos x] at e7
      omega
    · rw [if_neg x] at e7
      omega
  have j88 : ∀ s7 s8 : Int, (s7 = if cp S p i = u then 1 else 0) → s8 = i + s7 → mX7_setPoint_J88 M u v (9 + 17 * p) (cc S p) i s7 s8 (zwI h F) Q := by
    intro s7 s8 e7 e8
    unfold mX7_setPoint_J88
    refine f_le ⟨by omega, by omega⟩ z_in0 (fun y => j111 s7 s8 e7 e8 (fun y2 => by omega)) (fun y => r_ld km hS (by omega) (by omega) fun r => ?_)
    have eq : S (9 + 17 * p + 2 * i) = cq S p (i - 1) := by
      unfold cq
      congr 1
      omega
    rw [eq] at r ⊢
    exact f_le r hv (fun y2 => j111 s7 s8 e7 e8 (fun _ => y2)) (fun y2 => n2 (fun x => by have := x.1 y; omega))
  refine f_eq ⟨by omega, by omega⟩ hu (fun e => ?_) (fun e => ?_)
  · unfold mX7_setPoint_J72
    exact f_eq ⟨by decide, by decide⟩ z_in0 (fun y => absurd y (by decide)) (fun _ => j88 1 (i + 1) (if_pos e).symm rfl)
  · unfold mX7_setPoint_J72
    exact f_eq z_in0 z_in0 (fun _ => j88 0 i (if_neg e).symm (by omega)) (fun y => absurd rfl y)
theorem s_removePoint7 {Q : Int → Zm → Prop} {p u : Int} (km : kM h M) (ri : RI F M S Hs k) (w : WF S g c0) (hp : InR p) (hu : InR u) (t : fRm S p u = 0 → ∀ F', RI F' M (rDel S p (pl S p u)) (pH Hs k S) (pK k) → qe M F F' → Q (cq S p (pl S p u)) (zwI h F')) (f : fRm S p u ≠ 0 → Q (fRm S p u) (zwI h F)) : mX7_removePoint M p u (zwI h F) Q := by
  unfold mX7_removePoint
  have hS := ri.1
  have bad : ¬ ((0 ≤ p ∧ p ≤ 6) ∧ (1 ≤ u ∧ u ≤ 254)) → Q (-1) (zwI h F) := fun y => by
    have e : fRm S p u = -1 := if_neg y
    rw [e] at f
    exact f (by decide)
  refine s_isPlate7 hp (f_bi (fun z => s_in hu ⟨by decide, by decide⟩ ⟨by decide, by decide⟩ (f_bi (fun z2 => ?_) (fun z2 => bad (fun y => z2 y.2)))) (fun z => bad (fun y => z y.1)))
  have a : (0 ≤ p ∧ p ≤ 6) ∧ (1 ≤ u ∧ u ≤ 254) := ⟨z, z2⟩
  have hw := w.1.2.2.2 p z.1 (by omega)
  have hpl := pl_ok hw (show u ≤ 255 by omega)
  have ef : fRm S p u = if cp S p (pl S p u) = u then 0 else -4 := if_pos a
  have hw1 := hw.1
  have hp1 := hpl.1
  have hri := hw.2.2.2.2.2 _ hp1.1 hp1.2
  generalize pl S p u = i at hpl hp1 ef hri t
  have ei : S (9 + 17 * p + 1 + 2 * i) = cp S p i := rfl
  refine f_rc km.1 (s_pointAt km hS ⟨z.1, by omega⟩ hw hu hpl.1.1 hpl.1.2 hpl.2.1 hpl.2.2 (r_ld km hS (by omega) (by omega) fun _ => ?_))
  rw [ei]
  refine f_eq ⟨by omega, by omega⟩ hu (fun e => ?_) (fun e => ?_)
  · rw [if_pos e] at ef
    have t := t ef
    refine f_rc km.1 (s_hold km hS fun F1 b1 v1 => ?_)
    have hS1 : RS F1 M S := fun j a c => by rw [b1 _ _ (by omega)]; exact hS j a c
    refine r_ld km hS1 (by omega) (by omega) fun rq => f_gr km.1 km.r0 (f_ldv (v := cc S p) km.k0 (by omega) (by omega) (hS1 _ (by omega) (by omega)) fun _ => f_st km.k0 (by omega) (by omega) ⟨by omega, by omega⟩ ?_)
    unfold mX7_removePoint_H93
    refine lfp1_up (h := h) (2 * (cc S p - 1) + 1) (fun x F' => bu (M + 1) F1 F' ∧ 2 * i + 1 ≤ x ∧ ∀ j, 0 ≤ j → j < 368 → F' (M + 1) j = if j = 9 + 17 * p then S j - 1 else if 9 + 17 * p + 1 + 2 * i ≤ j ∧ j < 9 + 17 * p + x then S (j + 2) else S j) (fun X x F' hx hI hX => ?_) (2 * i + 1) _ (by omega) ⟨bu.up, by omega, fun j a c => ?_⟩
    · obtain ⟨f1, x0, xv⟩ := hI
      unfold mX7_removePoint_B93
      refine f_gr km.1 km.r0 (f_ldv (v := cc S p - 1) km.k0 (by omega) (by omega) (by rw [xv _ (by omega) (by omega), if_pos rfl]; rfl) fun _ => f_le ⟨by omega, by omega⟩ ⟨by omega, by omega⟩ (fun y => ?_) (fun y => ?_))
      · refine f_gr km.1 km.r0 (f_gr km.1 km.r0 (f_ldv (v := S (9 + 17 * p + x + 2)) km.k0 (by omega) (by omega) (by rw [xv _ (by omega) (by omega), if_neg (by omega), if_neg (by omega)]) fun r => f_st km.k0 (by omega) (by omega) r (hX (by omega) _ ⟨f1.tr bu.up, by omega, fun j a c => ?_⟩)))
        rw [up_e]
        by_cases ej : j = 9 + 17 * p + x
        · rw [if_pos ⟨rfl, ej⟩, if_neg (by omega), if_pos (by omega), ej]
        · rw [if_neg (fun y => ej y.2), xv j a c]
          by_cases e0 : j = 9 + 17 * p
          · rw [if_pos e0, if_pos e0]
          · rw [if_neg e0, if_neg e0]
            by_cases e2 : 9 + 17 * p + 1 + 2 * i ≤ j ∧ j < 9 + 17 * p + x
            · rw [if_pos e2, if_pos (by omega)]
            · rw [if_neg e2, if_neg (by omega)]
      · have ex : x = 2 * (cc S p - 1) + 1 := by omega
        subst ex
        refine f_rc km.1 (s_endsI km rq ri (fun a j x y => ?_) (fun j a c => ?_) (fun j a c => ?_) t)
        · rw [f1 _ _ x]; exact b1 _ _ y
        · rw [f1 _ _ (by omega)]; exact v1 j a c
        · rw [xv j a c]
          show _ = if j = 9 + 17 * p then S j - 1 else if 9 + 17 * p + 1 + 2 * i ≤ j ∧ j ≤ 9 + 17 * p + 2 * (cc S p - 1) then S (j + 2) else S j
          by_cases e0 : j = 9 + 17 * p
          · rw [if_pos e0, if_pos e0]
          · rw [if_neg e0, if_neg e0]
            by_cases e2 : 9 + 17 * p + 1 + 2 * i ≤ j ∧ j ≤ 9 + 17 * p + 2 * (cc S p - 1)
            · rw [if_pos e2, if_pos (by omega)]
            · rw [if_neg e2, if_neg (by omega)]
    · rw [up_e]
      by_cases e0 : j = 9 + 17 * p
      · rw [if_pos ⟨rfl, e0⟩, if_pos e0, e0]
        rfl
      · rw [if_neg (fun y => e0 y.2), if_neg e0, if_neg (by omega)]
        exact hS1 j a c
  · rw [if_neg e] at ef
    rw [ef] at f
    exact f (by decide)
theorem s_simplify7 {Q : Int → Zm → Prop} {p : Int} (km : kM h M) (ri : RI F M S Hs k) (w : WF S g c0) (hp : InR p) (t : 0 ≤ p ∧ p ≤ 6 → ∀ F', RI F' M (rSim S p) (pH Hs k S) (pK k) → qe M F F' → Q (aSim S p) (zwI h F')) (f : ¬ (0 ≤ p ∧ p ≤ 6) → Q (-1) (zwI h F)) : mX7_simplify M p (zwI h F) Q := by
  unfold mX7_simplify
  have hS := ri.1
  refine s_isPlate7 hp (f_bi (fun z => ?_) (fun z => f z))
  have hw := w.1.2.2.2 p z.1 (by omega)
  have hw' := wfC_rSim hw
  refine f_rc km.1 (s_hold km hS fun F1 b1 v1 => ?_)
  have hS1 : RS F1 M S := fun j a c => by rw [b1 _ _ (by omega)]; exact hS j a c
  unfold mX7_simplify_H15
  refine lfp1_up (h := h) 256 (fun x F' => bu (M + 7) F1 F' ∧ 0 ≤ x ∧ ∀ j, 0 ≤ j → j < x → F' (M + 7) j = cval (cp S p) (cq S p) j) (fun X x F' hx hI hX => ?_) 0 F1 (by decide) ⟨bu.rf, by decide, fun c x y => by omega⟩
  obtain ⟨f1, x0, xv⟩ := hI
  have hS2 : RS F' M S := fun j a c => by rw [f1 _ _ (by omega)]; exact hS1 j a c
  unfold mX7_simplify_B15
  refine f_lt ⟨by omega, by omega⟩ ⟨by decide, by decide⟩ (fun y => ?_) (fun y => ?_)
  · have hr := cval_r hw x0 (show x ≤ 255 by omega)
    refine f_gr km.1 km.r7 (f_rc km.1 (s_valueOf km hS2 ⟨z.1, by omega⟩ hw x0 (by omega) (f_st km.k7 x0 (by omega) ⟨by omega, by omega⟩ (hX y _ ⟨f1.tr bu.up, by omega, fun j a c => ?_⟩))))
    rw [up_e]
    by_cases e : j = x
    · rw [if_pos ⟨rfl, e⟩, e]
    · rw [if_neg (fun y => e y.2)]; exact xv j a (by omega)
  · have wv : ∀ j, 0 ≤ j → j ≤ 255 → F' (M + 7) j = cval (cp S p) (cq S p) j := fun j a c => xv j a (by omega)
    refine f_gr km.1 km.r0 (f_st km.k0 (by omega) (by omega) ⟨by decide, by decide⟩ ?_)
    unfold mX7_simplify_H57
    refine lfp1_up (h := h) 4 (fun i F2 => bu (M + 1) F' F2 ∧ 0 ≤ i ∧ ∀ j, 0 ≤ j → j < 368 → F2 (M + 1) j = if j = 9 + 17 * p ∨ j ≤ 9 + 17 * p + 2 * i then rSim S p j else S j) (fun X2 i F2 hi hI hX2 => ?_) 0 _ (by decide) ⟨bu.up, by decide, fun j a c => ?_⟩
    · obtain ⟨f2, i0, iv⟩ := hI
      have wv2 : ∀ j, 0 ≤ j → j ≤ 255 → F2 (M + 7) j = cval (cp S p) (cq S p) j := fun j a c => by rw [f2 _ _ (by omega)]; exact wv j a c
      unfold mX7_simplify_B57
      refine f_lt ⟨by omega, by omega⟩ ⟨by decide, by decide⟩ (fun y => ?_) (fun y => ?_)
      · have hr := cval_r hw (v := 85 * i) (by omega) (by omega)
        have hv := rSim_v (S := S) (p := p) i0 y
        refine f_gr km.1 km.r0 (f_st km.k0 (by omega) (by omega) ⟨by omega, by omega⟩ (f_gr km.1 km.r0 (f_gr km.1 km.r7 (f_ldv (v := cval (cp S p) (cq S p) (85 * i)) km.k7 (by omega) (by omega) (by rw [up_a (by omega)]; exact wv2 _ (by omega) (by omega)) fun _ => f_st km.k0 (by omega) (by omega) ⟨by omega, by omega⟩ (hX2 y _ ⟨(f2.tr bu.up).tr bu.up, by omega, fun j a c => ?_⟩)))))
        by_cases j2 : j = 9 + 17 * p + 2 + 2 * i
        · rw [j2, up_s, if_pos (by omega)]
          exact hv.2.symm
        · rw [up_n (fun y => j2 y.2)]
          by_cases j1 : j = 9 + 17 * p + 1 + 2 * i
          · rw [j1, up_s, if_pos (by omega)]
            exact hv.1.symm
          · rw [up_n (fun y => j1 y.2), iv j a c]
            by_cases e : j = 9 + 17 * p ∨ j ≤ 9 + 17 * p + 2 * i
            · rw [if_pos e, if_pos (by omega)]
            · rw [if_neg e, if_neg (by omega)]
      · have i4 : i = 4 := by omega
        subst i4
        have hS3 : RS F2 M (rSim S p) := fun j a c => by
          rw [iv j a c]
          by_cases e : j = 9 + 17 * p ∨ j ≤ 9 + 17 * p + 2 * 4
          · rw [if_pos e]
          · rw [if_neg e]
            show S j = if j = 9 + 17 * p then 4 else if 9 + 17 * p < j ∧ j ≤ 9 + 17 * p + 8 then _ else S j
            rw [if_neg (by omega), if_neg (by omega)]
        unfold mX7_simplify_H110
        refine lfp2_up2 (h := h) 256 (fun d x F3 => F3 = F2 ∧ 0 ≤ x ∧ d = mxI (dfv S (rSim S p) p) x) (fun X3 d x F3 hx hI hX3 => ?_) 0 0 F2 (by decide) ⟨rfl, by decide, rfl⟩
        obtain ⟨rfl, x0, x1⟩ := hI
        have hd := mxI_b (f := dfv S (rSim S p) p) (m := 255) (k := x) (by decide) (fun i a b => dfv_b hw hw' a (by omega))
        unfold mX7_simplify_B110
        refine f_lt ⟨by omega, by omega⟩ ⟨by decide, by decide⟩ (fun u => ?_) (fun u => ?_)
        · have r1 := cval_r hw x0 (show x ≤ 255 by omega)
          have r2 := cval_r hw' x0 (show x ≤ 255 by omega)
          have vd := dfv_b hw hw' x0 (show x ≤ 255 by omega)
          have es := mxI_s (dfv S (rSim S p) p) x0
          have jn : ∀ s, s = dfv S (rSim S p) p x → mX7_simplify_J148 X3 M p d x s (zwI h F3) Q := by
            intro s hs
            rw [← hs] at vd es
            unfold mX7_simplify_J148
            refine f_le ⟨by omega, by omega⟩ ⟨by omega, by omega⟩ (fun y => hX3 u _ _ ⟨rfl, by omega, ?_⟩) (fun y => hX3 u _ _ ⟨rfl, by omega, ?_⟩)
            · rw [es]; omega
            · rw [es]; omega
          refine f_rc km.1 (s_valueOf km hS3 ⟨z.1, by omega⟩ hw' x0 (by omega) (f_gr km.1 km.r7 (f_ldv km.k7 x0 (by omega) (wv2 x x0 (by omega)) fun _ => f_lt ⟨by omega, by omega⟩ z_in0 (fun y => jn _ ?_) (fun y => jn _ ?_))))
          · unfold dfv
            rw [if_neg (by omega)]
            omega
          · unfold dfv
            by_cases e : cval (cp S p) (cq S p) x - cval (cp (rSim S p) p) (cq (rSim S p) p) x < 0
            · rw [if_pos e]; omega
            · rw [if_neg e]; omega
        · have e : x = 256 := by omega
          subst e
          rw [x1]
          refine f_rc km.1 (s_endsI2 (F0 := F) km ⟨by omega, by omega⟩ ri (fun a j x => ?_) (fun j a c => ?_) hS3 (t z))
          · rw [f2 _ _ (by omega), f1 _ _ (by omega)]; exact b1 _ _ (by omega)
          · rw [f2 _ _ (by omega), f1 _ _ (by omega)]; exact v1 j a c
    · rw [up_e]
      by_cases e : j = 9 + 17 * p
      · rw [if_pos ⟨rfl, e⟩, if_pos (by omega), e]
        exact rSim_c.symm
      · rw [if_neg (fun y => e y.2)]
        by_cases e2 : j ≤ 9 + 17 * p
        · rw [if_pos (by omega), hS2 j a c]
          exact (rSim_q j (by omega)).symm
        · rw [if_neg (by omega)]
          exact hS2 j a c
end CY
