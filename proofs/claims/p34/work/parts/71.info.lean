/-! what is asked of nodes and curves; box and ink -/
theorem gd_b {S : Int → Int} {g : Nat → Int → Int} {c0 k : Int} (w : WF S g c0) (hl : live S k) : 0 ≤ gd g k ∧ gd g k ≤ 4 := by
  refine ⟨w.2.2.1.2.2.1 k hl, ?_⟩
  by_cases e : k = 0
  · rw [e, w.2.2.1.1.1]; decide
  · exact (w.2.2.1.2.1 k hl e).2.2.1.2
abbrev isN (S : Int → Int) (x : Int) : Prop := (0 ≤ x ∧ x < 24) ∧ 0 ≤ nk S x
section NI
variable {h : Zm} {F : Nat → Int → Int} {A n M : Nat} {S : Int → Int} {g : Nat → Int → Int} {c0 : Int}
theorem s_has {Q : Int → Zm → Prop} {x : Int} (kt : kT h A) (cs : CS F A S g) (wn : WN S) (hx : InR x) (q : Q (bi (isN S x)) (zwI h F)) : mX5_has (A + 2) x (zwI h F) Q := by
  unfold mX5_has
  obtain ⟨⟨k1, k2, k3, k4⟩, ⟨k5, k6, k7⟩, k8⟩ := kt
  refine s_within hx z_in0 ⟨by decide, by decide⟩ (f_bi (fun z => ?_) (fun z => ?_))
  · have h8 := k8 x z.1 (by omega)
    have hn := wn.2.1 x z.1 (by omega)
    refine f_gr k1 k2 (f_ldr k5 (by decide) z.1 (by omega) h8.1 (f_giv h8.2 (cs.2.2.2.2 x z.1 (by omega)).1.1 fun r => f_eq r ⟨by decide, by decide⟩ (fun e => ?_) (fun e => ?_)))
    · rw [bi_f (fun y => by have := y.2; omega)] at q; exact q
    · rw [bi_t ⟨⟨z.1, by omega⟩, by omega⟩] at q; exact q
  · rw [bi_f (fun y => z ⟨y.1.1, by have := y.1.2; omega⟩)] at q; exact q
end NI
