/-! isAdded -/
section IA
variable {h : Zm} {F : Nat → Int → Int} {S D : Int → Int} {g : Nat → Int → Int} {n : Nat} {c : Int} {Q : Int → Zm → Prop} {P K x y w hh a b d o : Int}
theorem fre_no (z : ∀ j, 1 ≤ j → j < 24 → 0 ≤ nk S j) : fre S = 24 := by
  unfold fre
  rw [ffi_n (n := 23) (by decide) (fun i u v => by have := z (i + 1) (by omega) (by omega); omega)]
  rfl
theorem fre_at {v : Int} (h0 : 1 ≤ v) (h1 : v < 24) (hv : nk S v < 0) (z : ∀ j, 1 ≤ j → j < v → 0 ≤ nk S j) : fre S = v := by
  unfold fre
  rw [ffi_f (n := 23) (i := v - 1) (by omega) (by omega) (by show nk S (v - 1 + 1) < 0; rw [show v - 1 + 1 = v by omega]; exact hv) (fun i u v => by have := z (i + 1) (by omega) (by omega); omega)]
  omega
theorem l_169 (l : LV n c S g D h F) (hc : c ≤ 3000) (hP : -1 ≤ P ∧ P ≤ 24) (hK : 0 ≤ K ∧ K ≤ 2) (hx : -12 ≤ x ∧ x ≤ 12) (hy : -12 ≤ y ∧ y ≤ 12) (hw : 1 ≤ w ∧ w ≤ 12) (hh1 : 1 ≤ hh ∧ hh ≤ 12) (ha : 0 ≤ a ∧ a ≤ 255) (hb : 0 ≤ b ∧ b ≤ 255) (hd : 0 ≤ d ∧ d ≤ 255) (ho : 0 ≤ o ∧ o ≤ 100) (q : ∀ h' F' S' g' D', LV n (c + 1) S' g' D' h' F' → S' 0 = S 0 → S' 1 = S 1 → h'.1.2 = h.1.2 → Q 1 (zwI h' F')) : mL_isAdded_H169 n (n + 467) (n + 467 + 1) (n + 467 + 2) (n + 467 + 3) (n + 467 + 4) P K x y w hh a b d o (-3) 23 (zwI h F) Q := by
  unfold mL_isAdded_H169
  have kw := l.2.2.2.2.1
  have lt := l.2.2.2.1.1
  have wf := l.2.1
  have fin : ∀ e, fNb S g P = e → mL_isAdded_J243 n (n + 467) (n + 467 + 1) (n + 467 + 2) (n + 467 + 3) (n + 467 + 4) P K x y w hh a b d o e (zwI h F) Q := fun e he => by
    rw [← he]
    exact l_add l hc ⟨by omega, by omega⟩ hK hx hy hw hh1 ha hb hd ho q
  refine lfp2_i (fun _ z _ => z.toNat) (fun v z m => m = zwI h F ∧ (0 ≤ z ∧ z ≤ 23) ∧ ((v = -3 ∧ ∀ j, z < j → j < 24 → 0 ≤ nk S j) ∨ ((z < v ∧ v < 24) ∧ nk S v < 0 ∧ ∀ j, z < j → j < v → 0 ≤ nk S j))) (fun X v z m hI hX => ?_) (-3) 23 _ ⟨rfl, ⟨by decide, by decide⟩, Or.inl ⟨rfl, fun j u v => by omega⟩⟩
  obtain ⟨rfl, hz, hI⟩ := hI
  unfold mL_isAdded_B169
  refine f_le ⟨by omega, by omega⟩ z_in0 (fun c1 => ?_) (fun c1 => ?_)
  · have ez : z = 0 := by omega
    subst ez
    have ev : v = if fre S < 24 then fre S else -3 := by
      rcases hI with ⟨e, f⟩ | ⟨e, f1, f2⟩
      · rw [fre_no (fun j u v => f j (by omega) v), if_neg (by decide)]
        exact e
      · rw [fre_at (by omega) e.2 f1 (fun j u v => f2 j (by omega) v), if_pos e.2]
    refine f_lt ⟨by omega, by omega⟩ z_in0 (fun c2 => fin _ ?_) (fun c2 => f_le ⟨by omega, by omega⟩ ⟨by decide, by decide⟩ (fun c3 => ?_) (fun c3 => fin _ ?_))
    · unfold fNb
      rw [if_neg (fun y => by omega)]
    · have eP := lt.1 P c2 (by omega)
      refine f_ldv kw.kd c2 (by omega) eP fun rP => f_lt rP z_in0 (fun c4 => fin _ ?_) (fun c4 => f_ldv kw.kd c2 (by omega) eP fun rP => f_eq rP z_in0 (fun c5 => ?_) (fun c5 => fin _ ?_))
      · unfold fNb
        rw [if_neg (fun y => by omega)]
      · have hl : live S P := ⟨⟨c2, by omega⟩, c4⟩
        refine l_depthOf (d := ldp S g) kw.pa lt.2.1 (tp_of wf (by omega)) c2 (by omega) ?_
        rw [show ldp S g P = gd g P from if_pos c4]
        have hg := wf.2.2.1.2.2.1 P hl
        have hg4 : gd g P ≤ 4 := by
          by_cases e : P = 0
          · rw [e, wf.2.2.1.1.1]; decide
          · exact (wf.2.2.1.2.1 P hl e).2.2.1.2
        refine f_eq ⟨by omega, by omega⟩ ⟨by decide, by decide⟩ (fun c6 => fin _ ?_) (fun c6 => fin _ ?_)
        · unfold fNb
          rw [if_pos (show isN S P from hl), if_neg (fun y => by omega)]
        · unfold fNb
          rw [if_pos (show isN S P from hl), if_pos ⟨c5, by omega⟩, ev]
      · unfold fNb
        rw [if_pos ⟨⟨c2, by omega⟩, c4⟩, if_neg (fun y => c5 y.1)]
    · unfold fNb
      rw [if_neg (fun y => by omega)]
  · have ek := lt.1 z (by omega) (by omega)
    refine f_ldv kw.kd (by omega) (by omega) ek fun rz => f_lt rz z_in0 (fun c2 => hX _ _ _ ⟨rfl, ⟨by omega, by omega⟩, Or.inr ⟨⟨by omega, by omega⟩, c2, fun j u v => by omega⟩⟩ (by omega)) (fun c2 => hX _ _ _ ⟨rfl, ⟨by omega, by omega⟩, ?_⟩ (by omega))
    rcases hI with ⟨e, f⟩ | ⟨e, f1, f2⟩
    · refine Or.inl ⟨e, fun j u v => ?_⟩
      by_cases q : j = z
      · rw [q]; exact c2
      · exact f j (by omega) v
    · refine Or.inr ⟨⟨by omega, e.2⟩, f1, fun j u v => ?_⟩
      by_cases q : j = z
      · rw [q]; exact c2
      · exact f2 j (by omega) v
theorem l_isAdded {z : Int} (l : LV n c S g D h F) (hc : c ≤ 3000) (hz : InR z) (q : ∀ h' F' S' g' D', LV n (c + 1) S' g' D' h' F' → S' 0 = S 0 → S' 1 = S 1 → h'.1.2 = h.1.2 → Q 1 (zwI h' F')) : mL_isAdded n (n + 467) (n + 467 + 1) (n + 467 + 2) (n + 467 + 3) (n + 467 + 4) z (zwI h F) Q := by
  have j31 : ∀ P, -1 ≤ P → P ≤ 24 → mL_isAdded_J31 n (n + 467) (n + 467 + 1) (n + 467 + 2) (n + 467 + 3) (n + 467 + 4) z P (zwI h F) Q := fun P h0 h1 => by
    unfold mL_isAdded_J31
    refine ⟨hz, l_low ⟨by omega, by omega⟩ ⟨by decide, by decide⟩ fun v1 a1 b1 => ⟨hz, l_low ⟨by omega, by omega⟩ ⟨by decide, by decide⟩ fun v2 a2 b2 => ⟨hz, l_low ⟨by omega, by omega⟩ ⟨by decide, by decide⟩ fun v3 a3 b3 => ⟨hz, l_low ⟨by omega, by omega⟩ ⟨by decide, by decide⟩ fun v4 a4 b4 => ⟨hz, l_low ⟨by omega, by omega⟩ ⟨by decide, by decide⟩ fun v5 a5 b5 => ⟨hz, l_low ⟨by omega, by omega⟩ ⟨by decide, by decide⟩ fun v6 a6 b6 => ⟨hz, l_low ⟨by omega, by omega⟩ ⟨by decide, by decide⟩ fun v7 a7 b7 => ⟨hz, l_low ⟨by omega, by omega⟩ ⟨by decide, by decide⟩ fun v8 a8 b8 => ⟨hz, l_low ⟨by omega, by omega⟩ ⟨by decide, by decide⟩ fun v9 a9 b9 => ?_⟩⟩⟩⟩⟩⟩⟩⟩⟩
    refine f_eq ⟨by omega, by omega⟩ z_in0 (fun _ => ?_) (fun _ => f_remv (v := v6 % 101) ⟨by omega, by omega⟩ ⟨by decide, by decide⟩ rfl ?_)
    · exact l_169 l hc ⟨h0, h1⟩ ⟨by omega, by omega⟩ ⟨by omega, by omega⟩ ⟨by omega, by omega⟩ ⟨by omega, by omega⟩ ⟨by omega, by omega⟩ ⟨by omega, by omega⟩ ⟨by omega, by omega⟩ ⟨by omega, by omega⟩ ⟨by decide, by decide⟩ q
    · exact l_169 l hc ⟨h0, h1⟩ ⟨by omega, by omega⟩ ⟨by omega, by omega⟩ ⟨by omega, by omega⟩ ⟨by omega, by omega⟩ ⟨by omega, by omega⟩ ⟨by omega, by omega⟩ ⟨by omega, by omega⟩ ⟨by omega, by omega⟩ ⟨by omega, by omega⟩ q
  unfold mL_isAdded
  exact ⟨hz, l_low ⟨by omega, by omega⟩ ⟨by decide, by decide⟩ fun v1 a1 b1 => ⟨hz, l_low ⟨by omega, by omega⟩ ⟨by decide, by decide⟩ fun v2 a2 b2 => f_eq ⟨by omega, by omega⟩ z_in0 (fun _ => j31 0 (by decide) (by decide)) (fun _ => j31 (v1 - 1) (by omega) (by omega))⟩⟩
end IA
