/-! the keys stand in the visiting order -/
def lp (S : Int → Int) (k : Int) : Int := if 0 ≤ nk S k then np S k else 0
def lcn (S : Int → Int) (k : Int) : Int := if 0 ≤ nk S k then no S k else 0
def ldp (S : Int → Int) (g : Nat → Int → Int) (k : Int) : Int := if 0 ≤ nk S k then gd g k else 1
def KY (S : Int → Int) (g : Nat → Int → Int) (k : Int) : Int := ky (lp S) (lcn S) (ldp S g) k
section OR
variable {S : Int → Int} {g : Nat → Int → Int} {c : Int}
theorem tp_of (w : WF S g c) (hc : c ≤ 4000) : TP (lp S) (lcn S) (ldp S g) := by
  have h8 := w.1.2.2.1
  have l0 := live0 w.2.1
  have d0 : ldp S g 0 = 0 := by
    unfold ldp
    rw [if_pos l0.2]
    exact w.2.2.1.1.1
  refine ⟨d0, fun k h0 h1 => ?_, fun k h0 h1 => ?_⟩
  · by_cases hl : 0 ≤ nk S k
    · have hk : live S k := ⟨⟨by omega, h1⟩, hl⟩
      have h := w.2.2.1.2.1 k hk (by omega)
      have hd := w.2.2.1.2.2.1 (np S k) h.1
      have e1 : lp S k = np S k := if_pos hl
      have e2 : ldp S g k = gd g k := if_pos hl
      have e3 : ldp S g (np S k) = gd g (np S k) := if_pos h.1.2
      rw [e1, e2, e3]
      exact ⟨h.1.1, h.2.2.1.1, by omega, h.2.2.1.2⟩
    · have e1 : lp S k = 0 := if_neg hl
      have e2 : ldp S g k = 1 := if_neg hl
      rw [e1, e2, d0]
      exact ⟨⟨by decide, by decide⟩, by decide, by decide, by decide⟩
  · by_cases hl : 0 ≤ nk S k
    · have hk : live S k := ⟨⟨by omega, h1⟩, hl⟩
      have h := w.2.2.1.2.1 k hk (by omega)
      have e1 : lcn S k = no S k := if_pos hl
      rw [e1]
      omega
    · have e1 : lcn S k = 0 := if_neg hl
      rw [e1]
      decide
theorem kyl_s (w : WF S g c) (hc : c ≤ 4000) {k : Int} (hk : live S k) (h0 : k ≠ 0) : KY S g k = KY S g (np S k) + no S k * Wt (gd g k) := by
  have t := tp_of w hc
  have h1 := hk.1
  have := ky_s t (k := k) (by omega) h1.2
  have e1 : lp S k = np S k := if_pos hk.2
  have e2 : ldp S g k = gd g k := if_pos hk.2
  have e3 : lcn S k = no S k := if_pos hk.2
  rw [e1, e2, e3] at this
  exact this
theorem kdesc (w : WF S g c) (hc : c ≤ 4000) {q j b : Int} (hq : 0 ≤ q) (hj : j < gc g) (hb : b = gd g (go g q) + 1) (hd : ∀ t, q < t → t < j → b ≤ gd g (go g t)) : ∀ (m : Nat) (i : Int), i ≤ q + m → q < i → i < j → ∃ i', (q < i' ∧ i' ≤ i) ∧ np S (go g i') = go g q ∧ gd g (go g i') = b ∧ KY S g (go g i) + Wt (gd g (go g i)) ≤ KY S g (go g i') + Wt b := by
  intro m
  induction m with
  | zero => intro i h1 h2 h3; omega
  | succ m ih =>
    intro i h1 h2 h3
    obtain ⟨⟨p0, p1⟩, p2, p3, p4⟩ := par_pos w (i := i) (by omega) (by omega)
    have hdi := hd i h2 h3
    generalize pos g (np S (go g i)) = r at p0 p1 p2 p3
    rcases (show r < q ∨ r = q ∨ q < r by omega) with e | e | e
    · have := p3 q e h2
      omega
    · subst e
      have e5 : gd g (go g i) = b := by rw [p4, ← p2]; exact hb.symm
      exact ⟨i, ⟨h2, Int.le_refl _⟩, p2.symm, e5, by rw [e5]; exact Int.le_refl _⟩
    · obtain ⟨i', a1, a2, a3, a4⟩ := ih r (by omega) e (by omega)
      refine ⟨i', ⟨a1.1, by omega⟩, a2, a3, Int.le_trans ?_ a4⟩
      have hli := w.2.2.2.2.1 i (by omega) (by omega)
      have hni := o_pos w.2.2.2 (t := i) (by omega) (by omega)
      have hs := kyl_s w hc hli hni
      have ht := w.2.2.1.2.1 _ hli hni
      have hr := hd r e (by omega)
      have h0 := w.2.2.1.2.2.1 _ (w.2.2.2.2.1 q hq (by omega))
      have h8 := w.1.2.2.1
      have eg : gd g (go g i) = gd g (go g r) + 1 := by rw [p2]; exact p4
      have ew := Wt_s (e := gd g (go g r)) (by omega) (by omega)
      rw [← eg] at ew
      have wb := Wt_b (gd g (go g i))
      have hm : (no S (go g i) + 1) * Wt (gd g (go g i)) ≤ 4096 * Wt (gd g (go g i)) := Int.mul_le_mul_of_nonneg_right (by omega) (by omega)
      rw [Int.add_mul, Int.one_mul] at hm
      rw [hs, ← p2, ew]
      omega
theorem kmono (w : WF S g c) (hc : c ≤ 4000) : ∀ (m : Nat) (i j : Int), j ≤ m → 0 ≤ i → i < j → j < gc g → KY S g (go g i) < KY S g (go g j) := by
  intro m
  induction m with
  | zero => intro i j a b d e; omega
  | succ m ih =>
    intro i j hj h0 h1 h2
    obtain ⟨⟨p0, p1⟩, p2, p3, p4⟩ := par_pos w (i := j) (by omega) h2
    have hlj := w.2.2.2.2.1 j (by omega) h2
    have hnj := o_pos w.2.2.2 (t := j) (by omega) h2
    have hs := kyl_s w hc hlj hnj
    have ht := w.2.2.1.2.1 _ hlj hnj
    have wb := Wt_b (gd g (go g j))
    generalize pos g (np S (go g j)) = q at p0 p1 p2 p3
    by_cases c1 : i ≤ q
    · have hm : 1 * Wt (gd g (go g j)) ≤ no S (go g j) * Wt (gd g (go g j)) := Int.mul_le_mul_of_nonneg_right (by omega) (by omega)
      have h3 : KY S g (go g i) ≤ KY S g (go g q) := by
        by_cases c2 : i = q
        · rw [c2]; exact Int.le_refl _
        · exact Int.le_of_lt (ih i q (by omega) h0 (by omega) (by omega))
      rw [p2] at h3
      omega
    · have eb : gd g (go g j) = gd g (go g q) + 1 := by rw [p2]; exact p4
      obtain ⟨i', a1, a2, a3, a4⟩ := kdesc w hc p0 h2 eb p3 (i - q).toNat i (by omega) (by omega) h1
      have hli := w.2.2.2.2.1 i' (by omega) (by omega)
      have hni := o_pos w.2.2.2 (t := i') (by omega) (by omega)
      have hsi := kyl_s w hc hli hni
      have sib := w.2.2.2.2.2.2.2.2 i' j (by omega) (by omega) h2 (by rw [a2, p2])
      have wi := Wt_b (gd g (go g i))
      have hm : (no S (go g i') + 1) * Wt (gd g (go g j)) ≤ no S (go g j) * Wt (gd g (go g j)) := Int.mul_le_mul_of_nonneg_right (by omega) (by omega)
      rw [Int.add_mul, Int.one_mul] at hm
      rw [a3, a2, p2] at hsi
      omega
theorem nx_pos (w : WF S g c) (hc : c ≤ 4000) {t r : Int} (h0 : 0 ≤ t) (h1 : t < gc g) (hx : NX (nk S) (KY S g) (KY S g (go g t)) r) : (r = -1 ∧ ∀ u, t < u → u < gc g → nk S (go g u) = 0) ∨ ∃ u, (t < u ∧ u < gc g) ∧ r = go g u ∧ nk S (go g u) ≠ 0 ∧ ∀ v, t < v → v < u → nk S (go g v) = 0 := by
  have gk : ∀ u, t < u → u < gc g → nk S (go g u) ≠ 0 → (1 ≤ go g u ∧ go g u < 24) ∧ 0 < nk S (go g u) := fun u a b e => by
    have hl := w.2.2.2.2.1 u (by omega) b
    have hn := o_pos w.2.2.2 (t := u) (by omega) b
    have h2 := hl.1
    have h3 := hl.2
    omega
  rcases hx with ⟨e, f⟩ | ⟨e, f1, f2, f3⟩
  · refine Or.inl ⟨e, fun u a b => ?_⟩
    by_cases z : nk S (go g u) = 0
    · exact z
    · obtain ⟨z1, z2⟩ := gk u a b z
      exact absurd (kmono w hc u.toNat t u (by omega) h0 a b) (f _ z1.1 z1.2 z2)
  · obtain ⟨u, ⟨u0, u1⟩, u2⟩ := w.2.2.2.2.2.2.1 r ⟨⟨by omega, e.2⟩, by omega⟩
    subst u2
    have htu : t < u := by
      rcases Int.lt_or_le t u with z | z
      · exact z
      · by_cases z2 : u = t
        · rw [z2] at f2; omega
        · have := kmono w hc t.toNat u t (by omega) u0 (by omega) h1
          omega
    refine Or.inr ⟨u, ⟨htu, u1⟩, rfl, by omega, fun v a b => ?_⟩
    by_cases z : nk S (go g v) = 0
    · exact z
    · obtain ⟨z1, z2⟩ := gk v a (by omega) z
      have h2 := f3 _ z1.1 z1.2 z2 (kmono w hc v.toNat t v (by omega) h0 a (by omega))
      have h3 := kmono w hc u.toNat v u (by omega) (by omega) b u1
      omega
end OR
