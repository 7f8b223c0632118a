/-! the tree: positions in the visiting order, segments, counts -/
theorem smI_z {f : Int → Int} {n : Int} (h : ∀ i, 0 ≤ i → i < n → f i = 0) : smI f n = 0 := by
  have : smI f n = smI (fun _ => 0) n := smI_c h
  rw [this]
  unfold smI
  induction n.toNat with
  | zero => rfl
  | succ m ih => show sm _ m + 0 = 0; rw [ih]; rfl
theorem smI_1 {f : Int → Int} {n j : Int} (h0 : 0 ≤ j) (h1 : j < n) (h : ∀ i, 0 ≤ i → i < n → i ≠ j → f i = 0) : smI f n = f j := by
  have key : ∀ m : Nat, j + 1 + m ≤ n → smI f (j + 1 + m) = f j := by
    intro m
    induction m with
    | zero => intro _; rw [show j + 1 + ((0 : Nat) : Int) = j + 1 by omega, smI_s _ h0, smI_z (fun i a b => h i a (by omega) (by omega))]; omega
    | succ m ih =>
      intro hm
      rw [show j + 1 + ((m + 1 : Nat) : Int) = (j + 1 + (m : Int)) + 1 by omega, smI_s _ (by omega), ih (by omega), h (j + 1 + (m : Int)) (by omega) (by omega) (by omega)]
      omega
  have := key (n - (j + 1)).toNat (by omega)
  rw [show j + 1 + (((n - (j + 1)).toNat : Nat) : Int) = n by omega] at this
  exact this
theorem smI_iv {a b n : Int} (h0 : 0 ≤ a) (h1 : a ≤ b) (h2 : b ≤ n) : smI (fun i => bi (a ≤ i ∧ i < b)) n = b - a := by
  have key : ∀ m : Nat, smI (fun i => bi (a ≤ i ∧ i < b)) m = min (m : Int) b - min (m : Int) a := by
    intro m
    induction m with
    | zero => rw [show ((0 : Nat) : Int) = 0 from rfl, smI_0]; omega
    | succ m ih =>
      rw [show ((m + 1 : Nat) : Int) = (m : Int) + 1 by omega, smI_s _ (by omega), ih]
      by_cases e : a ≤ (m : Int) ∧ (m : Int) < b
      · rw [bi_t e]; omega
      · rw [bi_f e]; omega
  have := key n.toNat
  rw [Int.toNat_of_nonneg (by omega)] at this
  omega
def pos (g : Nat → Int → Int) (k : Int) : Int := ffi (fun i => go g i = k) (gc g)
/-- e is the end of the segment that starts at s -/
def SE (g : Nat → Int → Int) (s e : Int) : Prop := (s < e ∧ e ≤ gc g) ∧ (∀ t, s < t → t < e → gd g (go g s) < gd g (go g t)) ∧ (e < gc g → gd g (go g e) ≤ gd g (go g s))
def en (g : Nat → Int → Int) (s : Int) : Int := ffi (fun i => s < i ∧ gd g (go g i) ≤ gd g (go g s)) (gc g)
section TR
variable {S : Int → Int} {g : Nat → Int → Int} {c0 : Int}
theorem pos_u (wo : WO S g) {i k : Int} (h0 : 0 ≤ i) (h1 : i < gc g) (e : go g i = k) : pos g k = i := by
  refine ffi_f h0 h1 e (fun c a b y => ?_)
  exact wo.2.2.1 c i a b h1 (by rw [e]; exact y)
theorem pos_ok (wo : WO S g) {k : Int} (hl : live S k) : (0 ≤ pos g k ∧ pos g k < gc g) ∧ go g (pos g k) = k := by
  obtain ⟨t, ⟨t0, t1⟩, e⟩ := wo.2.2.2.1 k hl
  rw [pos_u wo t0 t1 e]
  exact ⟨⟨t0, t1⟩, e⟩
theorem en_SE {s : Int} (h0 : 0 ≤ s) (h1 : s < gc g) : SE g s (en g s) := by
  by_cases x : ∃ i, (s < i ∧ i < gc g) ∧ gd g (go g i) ≤ gd g (go g s)
  · obtain ⟨i, ⟨i0, i1⟩, i2⟩ := x
    have key : ∀ m : Nat, ∀ i : Int, s < i → i ≤ s + 1 + m → i < gc g → gd g (go g i) ≤ gd g (go g s) → ∃ j, (s < j ∧ j < gc g) ∧ gd g (go g j) ≤ gd g (go g s) ∧ ∀ c, s < c → c < j → gd g (go g s) < gd g (go g c) := by
      intro m
      induction m with
      | zero => intro i a b c d; exact ⟨i, ⟨a, c⟩, d, fun c' u v => by omega⟩
      | succ m ih =>
        intro i a b c d
        by_cases y : ∃ j, (s < j ∧ j < i) ∧ gd g (go g j) ≤ gd g (go g s)
        · obtain ⟨j, ⟨j0, j1⟩, j2⟩ := y
          exact ih j j0 (by omega) (by omega) j2
        · refine ⟨i, ⟨a, c⟩, d, fun c' u v => ?_⟩
          rcases Int.lt_or_le (gd g (go g s)) (gd g (go g c')) with z | z
          · exact z
          · exact absurd ⟨c', ⟨u, v⟩, z⟩ y
    obtain ⟨j, ⟨j0, j1⟩, j2, j3⟩ := key (i - (s + 1)).toNat i i0 (by omega) i1 i2
    have : en g s = j := ffi_f (by omega) j1 ⟨j0, j2⟩ (fun c a b y => by have := j3 c y.1 b; omega)
    rw [this]
    exact ⟨⟨j0, by omega⟩, j3, fun _ => j2⟩
  · have : en g s = gc g := ffi_n (by omega) (fun c a b y => x ⟨c, ⟨y.1, b⟩, y.2⟩)
    rw [this]
    refine ⟨⟨h1, Int.le_refl _⟩, fun t a b => ?_, fun y => by omega⟩
    rcases Int.lt_or_le (gd g (go g s)) (gd g (go g t)) with z | z
    · exact z
    · exact absurd ⟨t, ⟨a, b⟩, z⟩ x
/-- the parent's position -/
theorem par_pos (w : WF S g c0) {i : Int} (h0 : 1 ≤ i) (h1 : i < gc g) : (0 ≤ pos g (np S (go g i)) ∧ pos g (np S (go g i)) < i) ∧ go g (pos g (np S (go g i))) = np S (go g i) ∧ (∀ t, pos g (np S (go g i)) < t → t < i → gd g (go g i) ≤ gd g (go g t)) ∧ gd g (go g i) = gd g (np S (go g i)) + 1 := by
  have wo := w.2.2.2
  obtain ⟨j, ⟨j0, j1⟩, j2, j3⟩ := wo.2.2.2.2.1 i h0 h1
  rw [pos_u wo j0 (by omega) j2]
  exact ⟨⟨j0, j1⟩, j2, j3, (w.2.2.1.2.1 _ (wo.2.1 i (by omega) h1) (o_pos wo h0 h1)).2.2.1.1⟩
/-- a node is in a segment with its parent, but for the segment's first -/
theorem seg_par (w : WF S g c0) {s e i : Int} (hs : 0 ≤ s) (he : SE g s e) (h0 : 1 ≤ i) (h1 : i < gc g) (hne : i ≠ s) : (s ≤ i ∧ i < e) ↔ (s ≤ pos g (np S (go g i)) ∧ pos g (np S (go g i)) < e) := by
  obtain ⟨⟨p0, p1⟩, p2, p3, p4⟩ := par_pos w h0 h1
  rw [← p2] at p4
  generalize pos g (np S (go g i)) = j at p0 p1 p2 p3 p4
  constructor
  · rintro ⟨a, b⟩
    refine ⟨?_, by omega⟩
    rcases Int.lt_or_le j s with z | z
    · have h2 := p3 s z (by omega)
      have h3 := he.2.1 i (by omega) b
      omega
    · exact z
  · rintro ⟨a, b⟩
    refine ⟨by omega, ?_⟩
    rcases Int.lt_or_le i e with z | z
    · exact z
    · have hj : gd g (go g s) ≤ gd g (go g j) := by
        by_cases q : j = s
        · rw [q]; exact Int.le_refl _
        · have := he.2.1 j (by omega) b; omega
      have h2 := he.2.2 (by omega)
      by_cases q : e = i
      · rw [q] at h2; omega
      · have := p3 e b (by omega); omega
/-- counting over nodes is counting over positions -/
theorem perm (wo : WO S g) {f : Int → Int} (hz : ∀ k, 0 ≤ k → k < 24 → ¬ live S k → f k = 0) : smI f 24 = smI (fun i => f (go g i)) (gc g) := by
  have hc := wo.1.1
  have e1 : smI f 24 = smI (fun k => smI (fun i => if go g i = k then f k else 0) (gc g)) 24 := by
    refine smI_c fun k a b => ?_
    by_cases hl : live S k
    · obtain ⟨⟨p0, p1⟩, p2⟩ := pos_ok wo hl
      rw [smI_1 p0 p1 (fun i x y z => if_neg fun t => z (pos_u wo x y t).symm)]
      rw [if_pos p2]
    · rw [hz k a b hl, smI_z (fun i x y => if_neg fun t => hl (by rw [← t]; exact wo.2.1 i x y))]
  rw [e1, smI_swap (fun k i => if go g i = k then f k else 0) (gc g) (by decide)]
  refine smI_c fun i a b => ?_
  have hl := wo.2.1 i a b
  rw [smI_1 hl.1.1 hl.1.2 (fun k x y z => if_neg fun t => z t.symm)]
  exact if_pos rfl
end TR
