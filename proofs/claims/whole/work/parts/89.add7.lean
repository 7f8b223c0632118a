/-! addGroup, addRect, addSpot: the reference's -/
def rowG (S : Int → Int) (k P o dx dy : Int) (D : Int → Int) : Int → Int := ru (ru (ru (rCome S k 0 P D) (128 + 10 * k + 3) o) (128 + 10 * k + 3 + 1) dx) (128 + 10 * k + 3 + 2) dy
def rowR (S : Int → Int) (k P : Int) (D : Int → Int) : Int → Int := fun j => if 128 + 10 * k + 7 ≤ j ∧ j < 128 + 10 * k + 10 then D (4 + (j - (128 + 10 * k + 7))) else rCome S k 1 P D j
def rowS (S : Int → Int) (k P p t : Int) (D : Int → Int) : Int → Int := ru (ru (rCome S k 2 P D) (128 + 10 * k + 3 + 4) p) (128 + 10 * k + 3 + 5) t
theorem RS_ru {F : Nat → Int → Int} {M : Nat} {S : Int → Int} {x v : Int} (h : RS F M S) : RS (up F (M + 1) x v) M (ru S x v) := fun j a b => by
  rw [up_e]
  by_cases e : j = x
  · rw [if_pos ⟨rfl, e⟩, e, ru_s]
  · rw [if_neg (fun y => e y.2), ru_n e]
    exact h j a b
section AD
variable {h : Zm} {F : Nat → Int → Int} {M : Nat} {S : Int → Int} {g : Nat → Int → Int} {c0 k : Int} {D : Int → Int} {Hs : Int → Int → Int}
theorem fNb_n {P : Int} (hP : ¬ isN S P) : fNb S g P = -1 := if_neg hP
theorem s_addGroup7 {Q : Int → Zm → Prop} {P o dx dy : Int} (km : kM h M) (ri : RI F M S Hs k) (w : WF S g c0) (hc9 : c0 ≤ 1000) (dr : DR F M D) (hP : InR P) (ho : InR o) (hx : InR dx) (hy : InR dy) (t : ((0 ≤ o ∧ o ≤ 100) ∧ (-12 ≤ dx ∧ dx ≤ 12) ∧ (-12 ≤ dy ∧ dy ≤ 12)) → isN S P → fNb S g P = fre S → fre S < 24 → ∀ F', RI F' M (rowG S (fre S) P o dx dy D) (pH Hs k S) (pK k) → qe M F F' → Q (fre S) (zwI h F')) (f1 : ¬ ((0 ≤ o ∧ o ≤ 100) ∧ (-12 ≤ dx ∧ dx ≤ 12) ∧ (-12 ≤ dy ∧ dy ≤ 12)) → Q (-1) (zwI h F)) (f2 : ((0 ≤ o ∧ o ≤ 100) ∧ (-12 ≤ dx ∧ dx ≤ 12) ∧ (-12 ≤ dy ∧ dy ≤ 12)) → fNb S g P < 0 → Q (fNb S g P) (zwI h F)) : mX7_addGroup M P o dx dy (zwI h F) Q := by
  unfold mX7_addGroup
  have hS := ri.1
  have hb := fre_b S
  have nn : ¬ isN S P → Q (-1) (zwI h F) := fun z => by
    by_cases a : (0 ≤ o ∧ o ≤ 100) ∧ (-12 ≤ dx ∧ dx ≤ 12) ∧ (-12 ≤ dy ∧ dy ≤ 12)
    · have := f2 a
      rw [fNb_n z] at this
      exact this (by decide)
    · exact f1 a
  refine f_rc km.1 (s_isNode km hS hP (f_bi (fun z => s_in ho z_in0 ⟨by decide, by decide⟩ (f_bi (fun z1 => s_isOffset7 hx (f_bi (fun z2 => s_isOffset7 hy (f_bi (fun z3 => ?_) (fun z3 => f1 (fun y => z3 y.2.2)))) (fun z2 => f1 (fun y => z2 y.2.1)))) (fun z1 => f1 (fun y => z1 y.1)))) (fun z => nn z)))
  refine f_rc km.1 (s_comes km hS w hc9 dr z ⟨by decide, by decide⟩ (fun e l F1 fa va hS1 => ?_) (fun e => ?_))
  · refine f_lt ⟨by omega, by omega⟩ z_in0 (fun y => by omega) (fun _ => f_gr km.1 km.r0 (f_st km.k0 (by omega) (by omega) ho (f_gr km.1 km.r0 (f_st km.k0 (by omega) (by omega) hx (f_gr km.1 km.r0 (f_st km.k0 (by omega) (by omega) hy (f_rc km.1 (s_endsI (F0 := F) (S := S) km ⟨by omega, by omega⟩ ri (fun a j x y => ?_) (fun j a c => ?_) (RS_ru (RS_ru (RS_ru hS1))) (t ⟨z1, z2, z3⟩ z e l)))))))))
    · rw [up_a x, up_a x, up_a x]; exact fa a j x y
    · rw [up_a (by omega), up_a (by omega), up_a (by omega)]; exact va j a c
  · have eb : -3 ≤ fNb S g P := by
      unfold fNb
      repeat' split
      all_goals omega
    exact f_lt ⟨by omega, by omega⟩ z_in0 (fun _ => f2 ⟨z1, z2, z3⟩ e) (fun y => by omega)
theorem s_addSpot7 {Q : Int → Zm → Prop} {P p u : Int} (km : kM h M) (ri : RI F M S Hs k) (w : WF S g c0) (hc9 : c0 ≤ 1000) (dr : DR F M D) (hP : InR P) (hp : InR p) (hu : InR u) (t : ((0 ≤ p ∧ p ≤ 2) ∧ (0 ≤ u ∧ u ≤ 255)) → isN S P → fNb S g P = fre S → fre S < 24 → ∀ F', RI F' M (rowS S (fre S) P p u D) (pH Hs k S) (pK k) → qe M F F' → Q (fre S) (zwI h F')) (f1 : ¬ ((0 ≤ p ∧ p ≤ 2) ∧ (0 ≤ u ∧ u ≤ 255)) → Q (-1) (zwI h F)) (f2 : ((0 ≤ p ∧ p ≤ 2) ∧ (0 ≤ u ∧ u ≤ 255)) → fNb S g P < 0 → Q (fNb S g P) (zwI h F)) : mX7_addSpot M P p u (zwI h F) Q := by
  unfold mX7_addSpot
  have hS := ri.1
  have hb := fre_b S
  have nn : ¬ isN S P → Q (-1) (zwI h F) := fun z => by
    by_cases a : (0 ≤ p ∧ p ≤ 2) ∧ (0 ≤ u ∧ u ≤ 255)
    · have := f2 a
      rw [fNb_n z] at this
      exact this (by decide)
    · exact f1 a
  refine f_rc km.1 (s_isNode km hS hP (f_bi (fun z => s_in hp z_in0 ⟨by decide, by decide⟩ (f_bi (fun z1 => s_in hu z_in0 ⟨by decide, by decide⟩ (f_bi (fun z2 => ?_) (fun z2 => f1 (fun y => z2 y.2)))) (fun z1 => f1 (fun y => z1 y.1)))) (fun z => nn z)))
  refine f_rc km.1 (s_comes km hS w hc9 dr z ⟨by decide, by decide⟩ (fun e l F1 fa va hS1 => ?_) (fun e => ?_))
  · refine f_lt ⟨by omega, by omega⟩ z_in0 (fun y => by omega) (fun _ => f_gr km.1 km.r0 (f_st km.k0 (by omega) (by omega) hp (f_gr km.1 km.r0 (f_st km.k0 (by omega) (by omega) hu (f_rc km.1 (s_endsI (F0 := F) (S := S) km ⟨by omega, by omega⟩ ri (fun a j x y => ?_) (fun j a c => ?_) (RS_ru (RS_ru hS1)) (t ⟨z1, z2⟩ z e l)))))))
    · rw [up_a x, up_a x]; exact fa a j x y
    · rw [up_a (by omega), up_a (by omega)]; exact va j a c
  · have eb : -3 ≤ fNb S g P := by
      unfold fNb
      repeat' split
      all_goals omega
    exact f_lt ⟨by omega, by omega⟩ z_in0 (fun _ => f2 ⟨z1, z2⟩ e) (fun y => by omega)
theorem s_addRect7 {Q : Int → Zm → Prop} {P : Int} (km : kM h M) (ri : RI F M S Hs k) (w : WF S g c0) (hc9 : c0 ≤ 1000) (dr : DR F M D) (hP : InR P) (t : isN S P → fNb S g P = fre S → fre S < 24 → ∀ F', RI F' M (rowR S (fre S) P D) (pH Hs k S) (pK k) → qe M F F' → Q (fre S) (zwI h F')) (f2 : fNb S g P < 0 → Q (fNb S g P) (zwI h F)) : mX7_addRect M P (zwI h F) Q := by
  unfold mX7_addRect
  have hS := ri.1
  have hb := fre_b S
  refine f_rc km.1 (s_isNode km hS hP (f_bi (fun z => ?_) (fun z => by rw [fNb_n z] at f2; exact f2 (by decide))))
  refine f_rc km.1 (s_comes km hS w hc9 dr z ⟨by decide, by decide⟩ (fun e l F1 fa va hS1 => ?_) (fun e => ?_))
  · have t := t z e l
    generalize fre S = k' at hb l hS1 t ⊢
    refine f_lt ⟨by omega, by omega⟩ z_in0 (fun y => by omega) (fun _ => ?_)
    unfold mX7_addRect_H25
    refine lfp1_up (h := h) 3 (fun i F' => bu (M + 1) F1 F' ∧ 0 ≤ i ∧ ∀ j, 0 ≤ j → j < 368 → F' (M + 1) j = if j < 128 + 10 * k' + 7 + i ∨ 128 + 10 * k' + 10 ≤ j then rowR S k' P D j else rCome S k' 1 P D j) (fun X i F' hi hI hX => ?_) 0 F1 (by decide) ⟨bu.rf, by decide, fun j a c => ?_⟩
    · obtain ⟨g1, i0, i1⟩ := hI
      unfold mX7_addRect_B25
      refine f_lt ⟨by omega, by omega⟩ ⟨by decide, by decide⟩ (fun u => f_gr km.1 km.r0 (f_gr km.1 km.r5 (f_ldv (v := D (4 + i)) km.k5 i0 (by omega) (by rw [g1 _ _ (by omega), fa _ _ (by omega) (by omega)]; exact dr.2 i i0 u) fun r => f_st km.k0 (by omega) (by omega) r (hX u _ ⟨g1.tr bu.up, by omega, fun j a c => ?_⟩)))) (fun u => f_rc km.1 (s_endsI (F0 := F) (S := S) km ⟨by omega, by omega⟩ ri (fun a j x y => by rw [g1 _ _ x]; exact fa a j x y) (fun j a c => by rw [g1 _ _ (by omega)]; exact va j a c) (fun j a c => by rw [i1 j a c, if_pos (by omega)]) t))
      rw [up_e]
      by_cases ej : j = 128 + 10 * k' + 3 + 4 + i
      · rw [if_pos ⟨rfl, ej⟩, if_pos (by omega)]
        show _ = if 128 + 10 * k' + 7 ≤ j ∧ j < 128 + 10 * k' + 10 then D (4 + (j - (128 + 10 * k' + 7))) else _
        rw [if_pos (by omega)]
        congr 1
        omega
      · rw [if_neg (fun y => ej y.2), i1 j a c]
        by_cases e2 : j < 128 + 10 * k' + 7 + i ∨ 128 + 10 * k' + 10 ≤ j
        · rw [if_pos e2, if_pos (by omega)]
        · rw [if_neg e2, if_neg (by omega)]
    · rw [hS1 j a c]
      by_cases e2 : j < 128 + 10 * k' + 7 + 0 ∨ 128 + 10 * k' + 10 ≤ j
      · rw [if_pos e2]
        exact (if_neg (show ¬ (128 + 10 * k' + 7 ≤ j ∧ j < 128 + 10 * k' + 10) by omega)).symm
      · rw [if_neg e2]
  · have eb : -3 ≤ fNb S g P := by
      unfold fNb
      repeat' split
      all_goals omega
    exact f_lt ⟨by omega, by omega⟩ z_in0 (fun _ => f2 e) (fun y => by omega)
end AD
