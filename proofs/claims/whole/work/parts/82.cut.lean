/-! a segment is cut out of the tree -/
def gcut (g : Nat → Int → Int) (s L : Int) : Nat → Int → Int
  | 0 => g 0
  | 1 => g 1
  | 2 => g 2
  | 3 => g 3
  | 4 => fun t => if t < s then g 4 t else g 4 (t + L)
  | 5 => fun _ => g 5 0 - L
  | _ => fun _ => 0
def seg (g : Nat → Int → Int) (s e k : Int) : Prop := s ≤ pos g k ∧ pos g k < e
/-- S0 is S without the nodes of the segment -/
def KL (S S0 : Int → Int) (g : Nat → Int → Int) (s e : Int) : Prop := (∀ k, live S0 k ↔ live S k ∧ ¬ seg g s e k) ∧ (∀ k, 0 ≤ k → k < 24 → -1 ≤ nk S0 k ∧ nk S0 k ≤ 2) ∧ (∀ k, live S0 k → nk S0 k = nk S k) ∧ (∀ k, 0 ≤ k → k < 24 → np S0 k = np S k ∧ no S0 k = no S k ∧ ∀ j, 0 ≤ j → j < 7 → nf S0 k j = nf S k j)
section CUT
variable {S S0 : Int → Int} {g : Nat → Int → Int} {c s e : Int}
theorem WF_cut (w : WF S g c) (hs : 1 ≤ s ∧ s < gc g) (he : SE g s e) (kl : KL S S0 g s e) (h8 : S0 8 = S 8) (ws : WS S0 c) : WF S0 (gcut g s (e - s)) c := by
  obtain ⟨kl1, kl2, kl3, kl4⟩ := kl
  obtain ⟨-, wn, wt, wo⟩ := id w
  have he1 := he.1
  have ll : ∀ k, live S0 k → live S k := fun k h => ((kl1 k).mp h).1
  have root : live S0 0 := (kl1 0).mpr ⟨live0 wn, fun y => by have := y.1; rw [pos_0 wo] at this; omega⟩
  have gc' : gc (gcut g s (e - s)) = gc g - (e - s) := rfl
  have go' : ∀ t, go (gcut g s (e - s)) t = if t < s then go g t else go g (t + (e - s)) := fun _ => rfl
  -- the old place of a new one
  have old : ∀ t, 0 ≤ t → t < gc g - (e - s) → ∃ t', (0 ≤ t' ∧ t' < gc g) ∧ go (gcut g s (e - s)) t = go g t' ∧ ¬ (s ≤ t' ∧ t' < e) ∧ t' = if t < s then t else t + (e - s) := fun t a b => by
    rw [go']
    by_cases z : t < s
    · exact ⟨t, by omega, if_pos z, by omega, (if_pos z).symm⟩
    · exact ⟨t + (e - s), by omega, if_neg z, by omega, (if_neg z).symm⟩
  have par0 : ∀ k, live S0 k → k ≠ 0 → live S0 (np S k) := by
    intro k hl hk
    have hlk := (kl1 k).mp hl
    obtain ⟨⟨p0, p1⟩, p2⟩ := pos_ok wo hlk.1
    have p3 : 1 ≤ pos g k := by
      rcases Int.lt_or_le (pos g k) 1 with z | z
      · have : pos g k = 0 := by omega
        rw [this, wo.1.2] at p2
        exact absurd p2.symm hk
      · exact z
    have hne : pos g k ≠ s := fun y => hlk.2 ⟨by omega, by omega⟩
    have := seg_par w (by omega) he p3 p1 hne
    rw [p2] at this
    exact (kl1 _).mpr ⟨(wt.2.1 k hlk.1 hk).1, fun y => hlk.2 (this.mpr y)⟩
  refine ⟨ws, ⟨?_, kl2, fun k hl z => ?_, fun k hl z => ?_, fun k hl z => ?_, fun k hl z => ?_⟩, ⟨wt.1, fun k hl hk => ?_, fun k hl => wt.2.2.1 k (ll k hl), fun k hl hk z => ?_⟩, ⟨⟨?_, ?_⟩, fun t a b => ?_, fun i j a b d => ?_, fun k hl => ?_, fun i a b => ?_, fun i j a b d y => ?_⟩⟩
  · have h4 := kl4 0 (by decide) (by decide)
    rw [kl3 0 root, h4.1, h4.2.2 0 (by decide) (by decide), h4.2.2 1 (by decide) (by decide), h4.2.2 2 (by decide) (by decide)]
    exact wn.1
  · have h4 := (kl4 k hl.1.1 hl.1.2).2.2
    rw [kl3 k hl] at z
    rw [h4 0 (by decide) (by decide), h4 1 (by decide) (by decide), h4 2 (by decide) (by decide)]
    exact wn.2.2.1 k (ll k hl) z
  · have h4 := (kl4 k hl.1.1 hl.1.2).2.2
    rw [kl3 k hl] at z
    rw [h4 0 (by decide) (by decide), h4 1 (by decide) (by decide), h4 2 (by decide) (by decide), h4 3 (by decide) (by decide)]
    exact wn.2.2.2.1 k (ll k hl) z
  · have h4 := (kl4 k hl.1.1 hl.1.2).2.2
    rw [kl3 k hl] at z
    rw [h4 4 (by decide) (by decide), h4 5 (by decide) (by decide), h4 6 (by decide) (by decide)]
    exact wn.2.2.2.2.1 k (ll k hl) z
  · have h4 := (kl4 k hl.1.1 hl.1.2).2.2
    rw [kl3 k hl] at z
    rw [h4 4 (by decide) (by decide), h4 5 (by decide) (by decide)]
    exact wn.2.2.2.2.2 k (ll k hl) z
  · have h4 := kl4 k hl.1.1 hl.1.2
    have hp := par0 k hl hk
    have := wt.2.1 k (ll k hl) hk
    rw [h4.1, h4.2.1, h8, kl3 _ hp]
    exact ⟨hp, this.2⟩
  · have h4 := kl4 k hl.1.1 hl.1.2
    rw [kl3 k hl] at z
    rw [h4.1, h4.2.2 0 (by decide) (by decide), h4.2.2 1 (by decide) (by decide), h4.2.2 2 (by decide) (by decide)]
    exact wt.2.2.2 k (ll k hl) hk z
  · rw [gc']
    have := wo.1.1
    omega
  · rw [go', if_pos (by omega)]
    exact wo.1.2
  · obtain ⟨t', t1, t2, t3, -⟩ := old t a b
    rw [t2]
    exact (kl1 _).mpr ⟨wo.2.1 t' t1.1 t1.2, fun y => by
      unfold seg at y
      rw [pos_u wo t1.1 t1.2 rfl] at y
      exact t3 y⟩
  · obtain ⟨t', t1, t2, t3, t4⟩ := old i a (by rw [gc'] at d; omega)
    obtain ⟨u', u1, u2, u3, u4⟩ := old j (by omega) d
    rw [t2, u2]
    refine wo.2.2.1 t' u' t1.1 ?_ u1.2
    rw [t4, u4]
    split <;> split <;> omega
  · have hlk := (kl1 k).mp hl
    obtain ⟨⟨p0, p1⟩, p2⟩ := pos_ok wo hlk.1
    by_cases z : pos g k < s
    · exact ⟨pos g k, ⟨p0, by rw [gc']; omega⟩, by rw [go', if_pos z]; exact p2⟩
    · have : ¬ pos g k < e := fun y => hlk.2 ⟨by omega, y⟩
      exact ⟨pos g k - (e - s), ⟨by omega, by rw [gc']; omega⟩, by rw [go', if_neg (by omega), show pos g k - (e - s) + (e - s) = pos g k by omega]; exact p2⟩
  · obtain ⟨t', t1, t2, t3, t4⟩ := old i (by omega) b
    have i' : 1 ≤ t' := by rw [t4]; split <;> omega
    have hl := wo.2.1 t' t1.1 t1.2
    obtain ⟨⟨j0, j1⟩, j2, j3, -⟩ := par_pos w i' t1.2
    have sp := seg_par w (by omega) he i' t1.2 (fun y => t3 (by omega))
    rw [t2, (kl4 _ hl.1.1 hl.1.2).1]
    generalize pos g (np S (go g t')) = j at j0 j1 j2 j3 sp
    have j4 : ¬ (s ≤ j ∧ j < e) := fun y => t3 (sp.mpr y)
    by_cases z : j < s
    · refine ⟨j, ⟨j0, ?_⟩, by rw [go', if_pos z]; exact j2, fun t u v => ?_⟩
      · rw [t4] at j1
        split at j1 <;> omega
      · rw [go']
        show gd g (go g t') ≤ gd g _
        by_cases z2 : t < s
        · rw [if_pos z2]
          exact j3 t u (by rw [t4]; split <;> omega)
        · rw [if_neg z2]
          exact j3 _ (by omega) (by rw [t4]; split <;> omega)
    · have z3 : e ≤ j := by omega
      have ti : t' = i + (e - s) := by
        rw [t4] at j1 ⊢
        split at j1
        · omega
        · rename_i y
          rw [if_neg y]
      refine ⟨j - (e - s), ⟨by omega, by omega⟩, by rw [go', if_neg (by omega), show j - (e - s) + (e - s) = j by omega]; exact j2, fun t u v => ?_⟩
      rw [go', if_neg (by omega)]
      exact j3 _ (by omega) (by omega)
  · obtain ⟨t', t1, t2, t3, t4⟩ := old i (by omega) (by rw [gc'] at d; omega)
    obtain ⟨u', u1, u2, u3, u4⟩ := old j (by omega) d
    have hl := wo.2.1 t' t1.1 t1.2
    have hl2 := wo.2.1 u' u1.1 u1.2
    rw [t2, u2, (kl4 _ hl.1.1 hl.1.2).1, (kl4 _ hl2.1.1 hl2.1.2).1] at y
    rw [t2, u2, (kl4 _ hl.1.1 hl.1.2).2.1, (kl4 _ hl2.1.1 hl2.1.2).2.1]
    refine wo.2.2.2.2.2 t' u' ?_ ?_ u1.2 y
    · rw [t4]; split <;> omega
    · rw [t4, u4]; split <;> split <;> omega
end CUT
