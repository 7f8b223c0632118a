/-! a new node comes: the reference's row -/
def rCome (S : Int → Int) (k K P : Int) (D : Int → Int) : Int → Int := fun j => if j = 8 then S 8 + 1 else if j = 128 + 10 * k then K else if j = 128 + 10 * k + 1 then P else if j = 128 + 10 * k + 2 then S 8 + 1 else if 128 + 10 * k + 3 ≤ j ∧ j < 128 + 10 * k + 7 then D (j - (128 + 10 * k + 3)) else S j
section CMS
variable {h : Zm} {F : Nat → Int → Int} {M : Nat} {S : Int → Int} {g : Nat → Int → Int} {c0 : Int} {D : Int → Int}
theorem s_comes {Q : Int → Zm → Prop} {P K : Int} (km : kM h M) (hS : RS F M S) (w : WF S g c0) (hc9 : c0 ≤ 1000) (dr : DR F M D) (hP : live S P) (hK : 0 ≤ K ∧ K ≤ 2) (t : fNb S g P = fre S → fre S < 24 → ∀ F', (∀ a j, a ≠ M + 1 → a ≠ M + 3 → F' a j = F a j) → (∀ j, 0 ≤ j → j < 368 → F' (M + 3) j = S j) → RS F' M (rCome S (fre S) K P D) → Q (fre S) (zwI h F')) (f : fNb S g P < 0 → Q (fNb S g P) (zwI h F)) : mX7_comes M P K (zwI h F) Q := by
  unfold mX7_comes
  have hPr := hP.1
  have hd := gd_b w hP
  have ef : fNb S g P = if nk S P = 0 ∧ gd g P < 4 then (if fre S < 24 then fre S else -3) else -2 := if_pos hP
  have h8 := w.1.2.2.1
  have hb := fre_b S
  refine f_rc km.1 (s_ofk km hS hPr.1 hPr.2 fun r => f_eq r z_in0 (fun e => f_rc km.1 (s_depth km hS w hP (f_eq ⟨by omega, by omega⟩ ⟨by decide, by decide⟩ (fun e2 => ?_) (fun e2 => f_rc km.1 (s_free km hS ?_))))) (fun e => ?_))
  · rw [if_neg (by omega)] at ef
    rw [ef] at f
    exact f (by decide)
  · rw [if_pos ⟨e, by omega⟩] at ef
    by_cases l : fre S < 24
    · rw [if_pos l] at ef ⊢
      have t := t ef l
      generalize fre S = k at hb l t ⊢
      refine f_lt ⟨by omega, by omega⟩ z_in0 (fun y => by omega) (fun _ => f_rc km.1 (s_hold km hS fun F1 b1 v1 => ?_))
      have hS1 : RS F1 M S := fun j a c => by rw [b1 _ _ (by omega)]; exact hS j a c
      refine f_gr km.1 km.r0 (f_ldv km.k0 (by decide) (by decide) (hS1 8 (by decide) (by decide)) fun _ => f_st km.k0 (by decide) (by decide) ⟨by omega, by omega⟩ (f_gr km.1 km.r0 (f_st km.k0 (by omega) (by omega) ⟨by omega, by omega⟩ (f_gr km.1 km.r0 (f_st km.k0 (by omega) (by omega) ⟨by omega, by omega⟩ (f_gr km.1 km.r0 (f_gr km.1 km.r0 (f_ldv (v := S 8 + 1) km.k0 (by decide) (by decide) (by rw [up_n (by omega), up_n (by omega)]; exact up_s _ _ _ _) fun _ => f_st km.k0 (by omega) (by omega) ⟨by omega, by omega⟩ ?_))))))))
      unfold mX7_comes_H95
      refine lfp1_up (h := h) 4 (fun i F' => bu (M + 1) F1 F' ∧ 0 ≤ i ∧ ∀ j, 0 ≤ j → j < 368 → F' (M + 1) j = if j < 128 + 10 * k + 3 ∨ j < 128 + 10 * k + 3 + i ∨ 128 + 10 * k + 7 ≤ j then rCome S k K P D j else S j) (fun X i F' hi hI hX => ?_) 0 _ (by decide) ⟨((bu.up.tr bu.up).tr bu.up).tr bu.up, by decide, fun j a c => ?_⟩
      · obtain ⟨f1, i0, i1⟩ := hI
        unfold mX7_comes_B95
        refine f_lt ⟨by omega, by omega⟩ ⟨by decide, by decide⟩ (fun z => f_gr km.1 km.r0 (f_gr km.1 km.r4 (f_ldv (v := D i) km.k4 i0 (by omega) (by rw [f1 _ _ (by omega), b1 _ _ (by omega)]; exact dr.1 i i0 z) fun r => f_st km.k0 (by omega) (by omega) r (hX z _ ⟨f1.tr bu.up, by omega, fun j a c => ?_⟩)))) (fun z => t F' (fun a j x y => by rw [f1 _ _ x]; exact b1 _ _ y) (fun j a c => by rw [f1 _ _ (by omega)]; exact v1 j a c) (fun j a c => by rw [i1 j a c, if_pos (by omega)]))
        rw [up_e]
        by_cases ej : j = 128 + 10 * k + 3 + i
        · rw [if_pos ⟨rfl, ej⟩, if_pos (by omega)]
          show _ = if j = 8 then S 8 + 1 else if j = 128 + 10 * k then K else if j = 128 + 10 * k + 1 then P else if j = 128 + 10 * k + 2 then S 8 + 1 else if 128 + 10 * k + 3 ≤ j ∧ j < 128 + 10 * k + 7 then D (j - (128 + 10 * k + 3)) else S j
          rw [if_neg (by omega), if_neg (by omega), if_neg (by omega), if_neg (by omega), if_pos (by omega)]
          congr 1
          omega
        · rw [if_neg (fun y => ej y.2), i1 j a c]
          by_cases e5 : j < 128 + 10 * k + 3 ∨ j < 128 + 10 * k + 3 + i ∨ 128 + 10 * k + 7 ≤ j
          · rw [if_pos e5, if_pos (by omega)]
          · rw [if_neg e5, if_neg (by omega)]
      · have hs := hS1 j a c
        have er : rCome S k K P D j = if j = 8 then S 8 + 1 else if j = 128 + 10 * k then K else if j = 128 + 10 * k + 1 then P else if j = 128 + 10 * k + 2 then S 8 + 1 else if 128 + 10 * k + 3 ≤ j ∧ j < 128 + 10 * k + 7 then D (j - (128 + 10 * k + 3)) else S j := rfl
        rw [er]
        by_cases j8 : j = 8
        · rw [up_n (by omega), up_n (by omega), up_n (by omega), j8, up_s, if_pos (by omega), if_pos rfl]
        · by_cases j0 : j = 128 + 10 * k
          · rw [up_n (by omega), up_n (by omega), j0, up_s, if_pos (by omega), if_neg (by omega), if_pos rfl]
          · by_cases j1 : j = 128 + 10 * k + 1
            · rw [up_n (by omega), j1, up_s, if_pos (by omega), if_neg (by omega), if_neg (by omega), if_pos rfl]
            · by_cases j2 : j = 128 + 10 * k + 2
              · rw [j2, up_s, if_pos (by omega), if_neg (by omega), if_neg (by omega), if_neg (by omega), if_pos rfl]
              · rw [up_n (by omega), up_n (by omega), up_n (by omega), up_n (by omega), hs, if_neg j8, if_neg j0, if_neg j1, if_neg j2]
                by_cases j3 : 128 + 10 * k + 3 ≤ j ∧ j < 128 + 10 * k + 7
                · rw [if_neg (by omega)]
                · rw [if_pos (by omega), if_neg j3]
    · rw [if_neg l] at ef ⊢
      rw [ef] at f
      exact f_lt ⟨by decide, by decide⟩ z_in0 (fun _ => f (by decide)) (fun y => absurd y (by decide))
  · rw [if_neg (fun y => e y.1)] at ef
    rw [ef] at f
    exact f (by decide)
end CMS
