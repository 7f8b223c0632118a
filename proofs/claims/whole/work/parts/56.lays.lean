/-! the reference: children, the last child below a stamp -/
def ch (S : Int → Int) (k p : Int) : Prop := live S k ∧ 1 ≤ k ∧ np S k = p
/-- r is the child of p with the greatest stamp below b; -4 if there is none -/
def LC (S : Int → Int) (p b : Int) (n r : Int) : Prop := (r = -4 ∧ ∀ k, k < n → ch S k p → b ≤ no S k) ∨ (ch S r p ∧ r < n ∧ no S r < b ∧ ∀ k, k < n → ch S k p → no S k < b → no S k ≤ no S r)
section LY
variable {h : Zm} {F : Nat → Int → Int} {M : Nat} {S : Int → Int} {g : Nat → Int → Int} {c0 : Int}
theorem s_ofk {Q : Int → Zm → Prop} {x : Int} (k : kM h M) (hS : RS F M S) (h0 : 0 ≤ x) (h1 : x < 24) (q : InR (nk S x) → Q (nk S x) (zwI h F)) : mX7_of M x 0 (zwI h F) Q :=
  s_of k hS h0 h1 (by decide) (by decide) (by rw [Int.add_zero]; exact q)
theorem s_ofp {Q : Int → Zm → Prop} {x : Int} (k : kM h M) (hS : RS F M S) (h0 : 0 ≤ x) (h1 : x < 24) (q : InR (np S x) → Q (np S x) (zwI h F)) : mX7_of M x 1 (zwI h F) Q :=
  s_of k hS h0 h1 (by decide) (by decide) q
theorem s_ofo {Q : Int → Zm → Prop} {x : Int} (k : kM h M) (hS : RS F M S) (h0 : 0 ≤ x) (h1 : x < 24) (q : InR (no S x) → Q (no S x) (zwI h F)) : mX7_of M x 2 (zwI h F) Q :=
  s_of k hS h0 h1 (by decide) (by decide) q
theorem s_off {Q : Int → Zm → Prop} {x w : Int} (j : Int) (hw : w = 3 + j) (k : kM h M) (hS : RS F M S) (h0 : 0 ≤ x) (h1 : x < 24) (h2 : 0 ≤ j) (h3 : j < 7) (q : InR (nf S x j) → Q (nf S x j) (zwI h F)) : mX7_of M x w (zwI h F) Q := by
  subst hw
  exact s_of k hS h0 h1 (by omega) (by omega) q
theorem s_isChild {Q : Int → Zm → Prop} {k p : Int} (km : kM h M) (hS : RS F M S) (h0 : 0 ≤ k) (h1 : k < 24) (hp : InR p) (q : ∀ r, (r = 0 ∧ ¬ ch S k p) ∨ (r = 1 ∧ ch S k p) → Q r (zwI h F)) : mX7_isChild M k p (zwI h F) Q := by
  unfold mX7_isChild
  refine f_le ⟨by omega, by omega⟩ z_in0 (fun z => q 0 (Or.inl ⟨rfl, fun y => by have := y.2.1; omega⟩)) (fun z => f_rc km.1 (s_ofk km hS h0 h1 fun hr => ?_))
  refine f_lt hr z_in0 (fun y => q 0 (Or.inl ⟨rfl, fun x => by have := x.1.2; omega⟩)) (fun y => f_rc km.1 (s_ofp km hS h0 h1 fun hr2 => ?_))
  exact f_eq hr2 hp (fun x => q 1 (Or.inr ⟨rfl, ⟨⟨h0, h1⟩, y⟩, by omega, x⟩)) (fun x => q 0 (Or.inl ⟨rfl, fun y => x y.2.2⟩))
theorem s_lastChild {Q : Int → Zm → Prop} {p b : Int} (km : kM h M) (hS : RS F M S) (hp : InR p) (hb : InR b) (q : ∀ r, LC S p b 24 r → Q r (zwI h F)) : mX7_lastChild M p b (zwI h F) Q := by
  unfold mX7_lastChild mX7_lastChild_H6
  refine lfp2_up2 (h := h) 24 (fun r k F' => F' = F ∧ 1 ≤ k ∧ LC S p b k r) (fun X r k F' hi hI hX => ?_) (-4) 1 F (by decide) ⟨rfl, by decide, Or.inl ⟨rfl, fun k y z => by have := z.2.1; omega⟩⟩
  obtain ⟨rfl, h1, hL⟩ := hI
  unfold mX7_lastChild_B6
  have hrr : InR r := by
    rcases hL with ⟨rfl, -⟩ | ⟨hc, -⟩
    · exact ⟨by decide, by decide⟩
    · have := hc.1.1
      exact ⟨by omega, by omega⟩
  refine f_lt ⟨by omega, by omega⟩ ⟨by decide, by decide⟩ (fun z => ?_) (fun z => ?_)
  · refine f_rc km.1 (s_isChild km hS (by omega) z hp fun x hx => ?_)
    rcases hx with ⟨rfl, hn⟩ | ⟨rfl, hc⟩
    · refine f_eq z_in0 z_in0 (fun _ => hX z _ _ ⟨rfl, by omega, ?_⟩) (fun y => absurd rfl y)
      rcases hL with ⟨e, ha⟩ | ⟨a1, a2, a3, a4⟩
      · refine Or.inl ⟨e, fun k' y hz => ?_⟩
        by_cases e2 : k' = k
        · rw [e2] at hz; exact absurd hz hn
        · exact ha k' (by omega) hz
      · refine Or.inr ⟨a1, by omega, a3, fun k' y hz => ?_⟩
        by_cases e2 : k' = k
        · rw [e2] at hz; exact absurd hz hn
        · exact a4 k' (by omega) hz
    · refine f_eq ⟨by decide, by decide⟩ z_in0 (fun y => absurd y (by decide)) (fun _ => f_rc km.1 (s_ofo km hS (by omega) z fun hr2 => ?_))
      refine f_lt hr2 hb (fun y => ?_) (fun y => hX z _ _ ⟨rfl, by omega, ?_⟩)
      · refine f_lt hrr z_in0 (fun x => hX z _ _ ⟨rfl, by omega, ?_⟩) (fun x => f_rc km.1 (s_ofo km hS (by omega) z fun hr3 => ?_))
        · rcases hL with ⟨e, ha⟩ | ⟨a1, a2, a3, a4⟩
          · refine Or.inr ⟨hc, by omega, y, fun k' y2 z2 w2 => ?_⟩
            by_cases e2 : k' = k
            · subst e2; exact Int.le_refl _
            · have := ha k' (by omega) z2; omega
          · have := a1.2.1; omega
        · rcases hL with ⟨e, ha⟩ | ⟨a1, a2, a3, a4⟩
          · omega
          · refine f_rc km.1 (s_ofo km hS a1.1.1.1 a1.1.1.2 fun hr4 => ?_)
            refine f_le hr3 hr4 (fun v => hX z _ _ ⟨rfl, by omega, Or.inr ⟨a1, by omega, a3, fun k' y2 z2 w2 => ?_⟩⟩) (fun v => hX z _ _ ⟨rfl, by omega, Or.inr ⟨hc, by omega, y, fun k' y2 z2 w2 => ?_⟩⟩)
            · by_cases e2 : k' = k
              · subst e2; exact v
              · exact a4 k' (by omega) z2 w2
            · by_cases e2 : k' = k
              · subst e2; exact Int.le_refl _
              · have := a4 k' (by omega) z2 w2; omega
      · rcases hL with ⟨e, ha⟩ | ⟨a1, a2, a3, a4⟩
        · refine Or.inl ⟨e, fun k' y2 z2 => ?_⟩
          by_cases e2 : k' = k
          · subst e2; omega
          · exact ha k' (by omega) z2
        · refine Or.inr ⟨a1, by omega, a3, fun k' y2 z2 w2 => ?_⟩
          by_cases e2 : k' = k
          · subst e2; omega
          · exact a4 k' (by omega) z2 w2
  · have : k = 24 := by omega
    subst this
    exact q r hL
end LY
