/-! remove: both sides -/
theorem WS_cg {S S' : Int → Int} {c : Int} (h : ∀ j, 0 ≤ j → j < 128 → S' j = S j) (w : WS S c) : WS S' c := by
  obtain ⟨⟨a0, a2⟩, b, d, ws⟩ := w
  refine ⟨⟨?_, ?_⟩, fun j x y => ?_, ?_, fun r x y => ?_⟩
  · rw [h 0 (by decide) (by decide), h 1 (by decide) (by decide)]; exact a0
  · rw [h 2 (by decide) (by decide), h 3 (by decide) (by decide), h 4 (by decide) (by decide)]; exact a2
  · rw [h (5 + j) (by omega) (by omega)]; exact b j x y
  · rw [h 8 (by decide) (by decide)]; exact d
  · have w2 := ws r x y
    have e : cc S' r = cc S r := h _ (by omega) (by omega)
    rw [e]
    exact wfC_cg w2 (fun i u v => ⟨h _ (by omega) (by have := w2.1; omega), h _ (by omega) (by have := w2.1; omega)⟩)
def rKill (S : Int → Int) (g : Nat → Int → Int) (s e : Int) : Int → Int := fun j => if (128 ≤ j ∧ (j - 128) % 10 = 0) ∧ 0 ≤ S j ∧ (s ≤ pos g ((j - 128) / 10) ∧ pos g ((j - 128) / 10) < e) then -1 else S j
section RMV
variable {S : Int → Int} {g : Nat → Int → Int} {c s e k : Int}
theorem rKill_e (j : Int) : rKill S g s e j = if (128 ≤ j ∧ (j - 128) % 10 = 0) ∧ 0 ≤ S j ∧ (s ≤ pos g ((j - 128) / 10) ∧ pos g ((j - 128) / 10) < e) then -1 else S j := rfl
theorem rKill_k (h0 : 0 ≤ k) : nk (rKill S g s e) k = if 0 ≤ nk S k ∧ (s ≤ pos g k ∧ pos g k < e) then -1 else nk S k := by
  show rKill S g s e (128 + 10 * k) = _
  rw [rKill_e, show (128 + 10 * k - 128) / 10 = k by omega]
  by_cases y : 0 ≤ nk S k ∧ (s ≤ pos g k ∧ pos g k < e)
  · rw [if_pos y, if_pos ⟨by omega, y⟩]
  · rw [if_neg y, if_neg (fun z => y z.2)]
    rfl
theorem rKill_o {j : Int} (h : j < 128 ∨ (j - 128) % 10 ≠ 0) : rKill S g s e j = S j := by
  rw [rKill_e, if_neg (by omega)]
theorem rKill_KL (w : WF S g c) : KL S (rKill S g s e) g s e := by
  have wn := w.2.1
  refine ⟨fun k => ⟨fun h => ?_, fun h => ?_⟩, fun k a b => ?_, fun k h => ?_, fun k a b => ⟨rKill_o (by omega), rKill_o (by omega), fun j x y => rKill_o (by omega)⟩⟩
  · have h2 := h.2
    rw [rKill_k h.1.1] at h2
    by_cases y : 0 ≤ nk S k ∧ (s ≤ pos g k ∧ pos g k < e)
    · rw [if_pos y] at h2
      exact absurd h2 (by decide)
    · rw [if_neg y] at h2
      exact ⟨⟨h.1, h2⟩, fun z => y ⟨h2, z⟩⟩
  · refine ⟨h.1.1, ?_⟩
    rw [rKill_k h.1.1.1, if_neg (fun y => h.2 y.2)]
    exact h.1.2
  · rw [rKill_k a]
    split
    · decide
    · exact wn.2.1 k a b
  · have h2 := h.2
    rw [rKill_k h.1.1] at h2 ⊢
    by_cases y : 0 ≤ nk S k ∧ (s ≤ pos g k ∧ pos g k < e)
    · rw [if_pos y] at h2
      exact absurd h2 (by decide)
    · rw [if_neg y]
theorem WF_kill (w : WF S g c) {x : Int} (hl : live S x) (hx : x ≠ 0) : WF (rKill S g (pos g x) (en g (pos g x))) (gcut g (pos g x) (en g (pos g x) - pos g x)) c := by
  have wo := w.2.2.2
  obtain ⟨⟨p0, p1⟩, p2⟩ := pos_ok wo hl
  have p3 : 1 ≤ pos g x := by
    rcases Int.lt_or_le (pos g x) 1 with z | z
    · have : pos g x = 0 := by omega
      rw [this, wo.1.2] at p2
      exact absurd p2.symm hx
    · exact z
  exact WF_cut w ⟨p3, p1⟩ (en_SE p0 p1) (rKill_KL w) (rKill_o (by omega)) (WS_cg (fun j a b => rKill_o (by omega)) w.1)
end RMV
section RMC
variable {h : Zm} {F : Nat → Int → Int} {n M : Nat} {S : Int → Int} {g : Nat → Int → Int} {c0 k : Int} {Hs : Int → Int → Int} {Hg : Int → Nat → Int → Int} {b : Int → Nat}
theorem s_remove7 {Q : Int → Zm → Prop} {x : Int} (km : kM h M) (ri : RI F M S Hs k) (w : WF S g c0) (hx : InR x) (t : isN S x → x ≠ 0 → ∀ F', RI F' M (rKill S g (pos g x) (en g (pos g x))) (pH Hs k S) (pK k) → qe M F F' → Q (en g (pos g x) - pos g x) (zwI h F')) (f1 : ¬ isN S x → Q (-1) (zwI h F)) (f2 : isN S x → x = 0 → Q (-2) (zwI h F)) : mX7_remove M x (zwI h F) Q := by
  unfold mX7_remove
  have hS := ri.1
  refine f_rc km.1 (s_isNode km hS hx (f_bi (fun z => f_eq hx z_in0 (fun e => f2 z e) (fun e => ?_)) (fun z => f1 z)))
  have hl : live S x := z
  have t := t z e
  have wo := w.2.2.2
  obtain ⟨⟨p0, p1⟩, p2⟩ := pos_ok wo hl
  have he := (en_SE p0 p1).1
  refine f_rc km.1 (s_hold km hS fun F1 b1 v1 => ?_)
  have hS1 : RS F1 M S := fun j a c => by rw [b1 _ _ (by omega)]; exact hS j a c
  unfold mX7_remove_H25
  refine lfp1_up (h := h) 24 (fun i F' => bu (M + 6) F1 F' ∧ 0 ≤ i ∧ ∀ j, 0 ≤ j → j < i → F' (M + 6) j = bi (0 ≤ nk S j ∧ (pos g x ≤ pos g j ∧ pos g j < en g (pos g x)))) (fun X i F' hi hI hX => ?_) 0 F1 (by decide) ⟨bu.rf, by decide, fun c x y => by omega⟩
  obtain ⟨g1, i0, i1⟩ := hI
  have hS2 : RS F' M S := fun j a c => by rw [g1 _ _ (by omega)]; exact hS1 j a c
  unfold mX7_remove_B25
  refine f_lt ⟨by omega, by omega⟩ ⟨by decide, by decide⟩ (fun u => ?_) (fun u => ?_)
  · have st : ∀ v, v = bi (0 ≤ nk S i ∧ (pos g x ≤ pos g i ∧ pos g i < en g (pos g x))) → X (i + 1) (zwI h (up F' (M + 6) i v)) := fun v hv => hX u _ ⟨g1.tr bu.up, by omega, fun j a c => by
      rw [up_e]
      by_cases ej : j = i
      · rw [if_pos ⟨rfl, ej⟩, ej]; exact hv
      · rw [if_neg (fun y => ej y.2)]; exact i1 j a (by omega)⟩
    refine f_gr km.1 km.r6 (f_rc km.1 (s_ofk km hS2 i0 u fun r => f_lt r z_in0 (fun y => f_stz km.k6 i0 (by omega) (Or.inl rfl) (st 0 (bi_f (by omega)).symm)) (fun y => f_rc km.1 (s_isBelow km hS2 w ⟨⟨i0, u⟩, y⟩ hl (f_bi (fun v => f_stz km.k6 i0 (by omega) (Or.inr rfl) (st 1 (bi_t ⟨y, v⟩).symm)) (fun v => f_stz km.k6 i0 (by omega) (Or.inl rfl) (st 0 (bi_f (fun q => v q.2)).symm)))))))
  · have gv : ∀ j, 0 ≤ j → j < 24 → F' (M + 6) j = bi (0 ≤ nk S j ∧ (pos g x ≤ pos g j ∧ pos g j < en g (pos g x))) := fun j a c => i1 j a (by omega)
    unfold mX7_remove_H68
    refine lfp2_up2 (h := h) 24 (fun v i F2 => bu (M + 1) F' F2 ∧ 0 ≤ i ∧ v = smI (fun j => bi (0 ≤ nk S j ∧ (pos g x ≤ pos g j ∧ pos g j < en g (pos g x)))) i ∧ ∀ j, 0 ≤ j → j < 368 → F2 (M + 1) j = if j < 128 + 10 * i then rKill S g (pos g x) (en g (pos g x)) j else S j) (fun X2 v i F2 hi hI hX2 => ?_) 0 0 F' (by decide) ⟨bu.rf, by decide, rfl, fun j a c => ?_⟩
    · obtain ⟨g2, j0, j1, j2⟩ := hI
      have es := smI_s (fun j => bi (0 ≤ nk S j ∧ (pos g x ≤ pos g j ∧ pos g j < en g (pos g x)))) j0
      have sb := smI_b (f := fun j => bi (0 ≤ nk S j ∧ (pos g x ≤ pos g j ∧ pos g j < en g (pos g x)))) (m := 1) j0 (fun i _ _ => bi_b _)
      unfold mX7_remove_B68
      refine f_lt ⟨by omega, by omega⟩ ⟨by decide, by decide⟩ (fun y => f_gr km.1 km.r6 (f_ldv km.k6 j0 (by omega) (by rw [g2 _ _ (by omega)]; exact gv i j0 y) fun _ => f_bi (fun q => f_gr km.1 km.r0 (f_st km.k0 (by omega) (by omega) ⟨by decide, by decide⟩ (hX2 y _ _ ⟨g2.tr bu.up, by omega, ?_, fun j a c => ?_⟩))) (fun q => hX2 y _ _ ⟨g2, by omega, ?_, fun j a c => ?_⟩))) (fun y => ?_)
      · rw [es, j1, bi_t q]
      · rw [up_e]
        by_cases ej : j = 128 + 10 * i
        · rw [if_pos ⟨rfl, ej⟩, if_pos (by omega), ej]
          have := rKill_k (S := S) (g := g) (s := pos g x) (e := en g (pos g x)) j0
          rw [if_pos q] at this
          exact this.symm
        · rw [if_neg (fun y => ej y.2), j2 j a c]
          by_cases e2 : j < 128 + 10 * i
          · rw [if_pos e2, if_pos (by omega)]
          · rw [if_neg e2]
            by_cases e3 : j < 128 + 10 * (i + 1)
            · rw [if_pos e3, rKill_o (by omega)]
            · rw [if_neg e3]
      · rw [es, j1, bi_f q, Int.add_zero]
      · rw [j2 j a c]
        by_cases e2 : j < 128 + 10 * i
        · rw [if_pos e2, if_pos (by omega)]
        · rw [if_neg e2]
          by_cases e3 : j < 128 + 10 * (i + 1)
          · rw [if_pos e3]
            by_cases e4 : j = 128 + 10 * i
            · have := rKill_k (S := S) (g := g) (s := pos g x) (e := en g (pos g x)) j0
              rw [if_neg q] at this
              rw [e4]
              exact this.symm
            · rw [rKill_o (by omega)]
          · rw [if_neg e3]
      · have e24 : i = 24 := by omega
        subst e24
        have hv : v = en g (pos g x) - pos g x := by
          rw [j1, perm wo (fun k a b hn => bi_f fun y => hn ⟨⟨a, b⟩, y.1⟩)]
          have : smI (fun i => bi (0 ≤ nk S (go g i) ∧ (pos g x ≤ pos g (go g i) ∧ pos g (go g i) < en g (pos g x)))) (gc g) = smI (fun i => bi (pos g x ≤ i ∧ i < en g (pos g x))) (gc g) := by
            refine smI_c fun i a b => ?_
            rw [pos_u wo a b rfl]
            by_cases y : pos g x ≤ i ∧ i < en g (pos g x)
            · rw [bi_t y, bi_t ⟨(wo.2.1 i a b).2, y⟩]
            · rw [bi_f y, bi_f (fun q => y q.2)]
          rw [this, smI_iv p0 (by omega) he.2]
        rw [hv]
        refine f_rc km.1 (s_endsI2 (F0 := F) km ⟨by omega, by have := wo.1.1; omega⟩ ri (fun a j y => ?_) (fun j a c => ?_) (fun j a c => ?_) t)
        · rw [g2 _ _ (by omega), g1 _ _ (by omega)]; exact b1 _ _ (by omega)
        · rw [g2 _ _ (by omega), g1 _ _ (by omega)]; exact v1 j a c
        · rw [j2 j a c, if_pos (by omega)]
    · rw [hS2 j a c]
      by_cases e2 : j < 128 + 10 * 0
      · rw [if_pos e2, rKill_o (by omega)]
      · rw [if_neg e2]
end RMC
