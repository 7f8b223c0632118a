/-! what a state is: the reference's row S, the ghosts g (depths, effective opacities and offsets, the visiting order), and the class's block at A that shows them -/
def nk (S : Int → Int) (k : Int) : Int := S (128 + 10 * k)
def np (S : Int → Int) (k : Int) : Int := S (128 + 10 * k + 1)
def no (S : Int → Int) (k : Int) : Int := S (128 + 10 * k + 2)
def nf (S : Int → Int) (k j : Int) : Int := S (128 + 10 * k + (3 + j))
def live (S : Int → Int) (k : Int) : Prop := (0 ≤ k ∧ k < 24) ∧ 0 ≤ nk S k
abbrev gd (g : Nat → Int → Int) : Int → Int := g 0
abbrev gop (g : Nat → Int → Int) : Int → Int := g 1
abbrev gox (g : Nat → Int → Int) : Int → Int := g 2
abbrev goy (g : Nat → Int → Int) : Int → Int := g 3
abbrev go (g : Nat → Int → Int) : Int → Int := g 4
abbrev gc (g : Nat → Int → Int) : Int := g 5 0
/-- size, settings, knockouts, the stamp, curves -/
def WS (S : Int → Int) (c : Int) : Prop := (((1 ≤ S 0 ∧ S 0 ≤ 12) ∧ (1 ≤ S 1 ∧ S 1 ≤ 12)) ∧ ((0 ≤ S 2 ∧ S 2 ≤ 100) ∧ (0 ≤ S 3 ∧ S 3 ≤ 255) ∧ (0 ≤ S 4 ∧ S 4 ≤ 1785))) ∧ (∀ j, 0 ≤ j → j < 3 → S (5 + j) = 0 ∨ S (5 + j) = 1) ∧ (0 ≤ S 8 ∧ S 8 ≤ c) ∧ wfS S
/-- what nodes hold -/
def WN (S : Int → Int) : Prop := (nk S 0 = 0 ∧ np S 0 = -1 ∧ nf S 0 0 = 100 ∧ nf S 0 1 = 0 ∧ nf S 0 2 = 0) ∧ (∀ k, 0 ≤ k → k < 24 → -1 ≤ nk S k ∧ nk S k ≤ 2) ∧ (∀ k, live S k → nk S k = 0 → (0 ≤ nf S k 0 ∧ nf S k 0 ≤ 100) ∧ (-12 ≤ nf S k 1 ∧ nf S k 1 ≤ 12) ∧ (-12 ≤ nf S k 2 ∧ nf S k 2 ≤ 12)) ∧ (∀ k, live S k → nk S k ≠ 0 → ((-12 ≤ nf S k 0 ∧ nf S k 0 ≤ 12) ∧ (-12 ≤ nf S k 1 ∧ nf S k 1 ≤ 12)) ∧ ((1 ≤ nf S k 2 ∧ nf S k 2 ≤ 12) ∧ (1 ≤ nf S k 3 ∧ nf S k 3 ≤ 12))) ∧ (∀ k, live S k → nk S k = 1 → (0 ≤ nf S k 4 ∧ nf S k 4 ≤ 255) ∧ (0 ≤ nf S k 5 ∧ nf S k 5 ≤ 255) ∧ (0 ≤ nf S k 6 ∧ nf S k 6 ≤ 255)) ∧ (∀ k, live S k → nk S k = 2 → (0 ≤ nf S k 4 ∧ nf S k 4 ≤ 2) ∧ (0 ≤ nf S k 5 ∧ nf S k 5 ≤ 255))
/-- the tree and its ghosts -/
def WT (S : Int → Int) (g : Nat → Int → Int) : Prop := (gd g 0 = 0 ∧ gop g 0 = 100 ∧ gox g 0 = 0 ∧ goy g 0 = 0) ∧ (∀ k, live S k → k ≠ 0 → live S (np S k) ∧ nk S (np S k) = 0 ∧ (gd g k = gd g (np S k) + 1 ∧ gd g k ≤ 4) ∧ 1 ≤ no S k ∧ no S k ≤ S 8) ∧ (∀ k, live S k → 0 ≤ gd g k) ∧ (∀ k, live S k → k ≠ 0 → nk S k = 0 → gop g k = gop g (np S k) * nf S k 0 / 100 ∧ gox g k = gox g (np S k) + nf S k 1 ∧ goy g k = goy g (np S k) + nf S k 2)
/-- the visiting order -/
def WO (S : Int → Int) (g : Nat → Int → Int) : Prop := ((1 ≤ gc g ∧ gc g ≤ 24) ∧ go g 0 = 0) ∧ (∀ t, 0 ≤ t → t < gc g → live S (go g t)) ∧ (∀ i j, 0 ≤ i → i < j → j < gc g → go g i ≠ go g j) ∧ (∀ k, live S k → ∃ t, (0 ≤ t ∧ t < gc g) ∧ go g t = k) ∧ (∀ i, 1 ≤ i → i < gc g → ∃ j, (0 ≤ j ∧ j < i) ∧ go g j = np S (go g i) ∧ ∀ t, j < t → t < i → gd g (go g i) ≤ gd g (go g t)) ∧ (∀ i j, 1 ≤ i → i < j → j < gc g → np S (go g i) = np S (go g j) → no S (go g i) < no S (go g j))
def WF (S : Int → Int) (g : Nat → Int → Int) (c : Int) : Prop := WS S c ∧ WN S ∧ WT S g ∧ WO S g
/-- the class's node at a shows node k -/
def NS (F : Nat → Int → Int) (a : Nat) (S : Int → Int) (g : Nat → Int → Int) (k : Int) : Prop := (F a 0 = nk S k ∧ (0 ≤ F a 3 ∧ F a 3 ≤ 100) ∧ (-12 ≤ F a 4 ∧ F a 4 ≤ 12) ∧ (-12 ≤ F a 5 ∧ F a 5 ≤ 12)) ∧ (0 ≤ nk S k → (F a 1 = np S k ∧ F a 2 = gd g k) ∧ (nk S k = 0 → (F a 3 = nf S k 0 ∧ F a 4 = nf S k 1 ∧ F a 5 = nf S k 2) ∧ F a 6 = gop g k ∧ F a 7 = gox g k ∧ F a 8 = goy g k) ∧ (nk S k ≠ 0 → F a 9 = nf S k 0 ∧ F a 10 = nf S k 1 ∧ F a 11 = nf S k 2 ∧ F a 12 = nf S k 3) ∧ (nk S k = 1 → F a 13 = nf S k 4 ∧ F a 14 = nf S k 5 ∧ F a 15 = nf S k 6) ∧ (nk S k = 2 → F a 16 = nf S k 4 ∧ F a 17 = nf S k 5))
/-- the class's block at A shows the state -/
def CS (F : Nat → Int → Int) (A : Nat) (S : Int → Int) (g : Nat → Int → Int) : Prop := (∀ j, 0 ≤ j → j < 5 → F A j = S j) ∧ (∀ j, 0 ≤ j → j < 3 → F (A + 1) j = S (5 + j)) ∧ (∀ p, 0 ≤ p → p < 7 → CC F (A + 31 + 3 * p.toNat) (cc S p) (cp S p) (cq S p)) ∧ (F (A + 2) 3 = gc g ∧ ∀ t, 0 ≤ t → t < gc g → F (A + 28) t = go g t) ∧ (∀ k, 0 ≤ k → k < 24 → NS F (A + 4 + k.toNat) S g k)
/-- what lies where in a block -/
def kT (h : Zm) (A : Nat) : Prop := (zkd h (A + 2) = (15, 4) ∧ zR h (A + 2) 0 = A + 3 ∧ zR h (A + 2) 1 = A + 28 ∧ zR h (A + 2) 2 = A + 29) ∧ (zkd h (A + 3) = (5, 24) ∧ zkd h (A + 28) = (1, 24) ∧ zkd h (A + 29) = (1, 24)) ∧ ∀ k : Int, 0 ≤ k → k < 24 → zR h (A + 3) k = A + 4 + k.toNat ∧ zkd h (A + 4 + k.toNat) = (12, 18)
def kS (h : Zm) (A : Nat) : Prop := (zkd h A = (14, 8) ∧ zR h A 5 = A + 1 ∧ zR h A 6 = A + 2 ∧ zR h A 7 = A + 30 ∧ zkd h (A + 1) = (1, 3) ∧ zkd h (A + 30) = (4, 7)) ∧ kT h A ∧ ∀ p : Int, 0 ≤ p → p < 7 → zR h (A + 30) p = A + 31 + 3 * p.toNat ∧ kC h (A + 31 + 3 * p.toNat)
def kP (h : Zm) (P : Nat) : Prop := (zkd h P = (13, 3) ∧ zR h P 0 = P + 1 ∧ zR h P 1 = P + 2 ∧ zR h P 2 = P + 3) ∧ zkd h (P + 1) = (1, 6) ∧ zkd h (P + 2) = (1, 7) ∧ zkd h (P + 3) = (1, 7)
def kIk (h : Zm) (T : Nat) : Prop := (zkd h T = (11, 2) ∧ zR h T 0 = T + 1 ∧ zkd h (T + 1) = (7, 144)) ∧ ∀ i : Int, 0 ≤ i → i < 144 → zR h (T + 1) i = T + 2 + i.toNat ∧ zkd h (T + 2 + i.toNat) = (1, 9)
def kD (h : Zm) (n : Nat) : Prop := (zkd h n = (16, 8) ∧ zR h n 0 = n + 1 ∧ zR h n 1 = n + 53 ∧ zR h n 3 = n + 314 ∧ zR h n 4 = n + 315 ∧ zR h n 5 = n + 319 ∧ zR h n 6 = n + 465 ∧ zR h n 7 = n + 466) ∧ (zkd h (n + 53) = (6, 5) ∧ zkd h (n + 465) = (1, 7) ∧ zkd h (n + 466) = (1, 101) ∧ zkd h (n + 314) = (12, 18)) ∧ kS h (n + 1) ∧ kP h (n + 315) ∧ kIk h (n + 319) ∧ (∀ i : Nat, i < 5 → kS h (n + 54 + 52 * i)) ∧ kM h (n + 467)
theorem WF.nk2 {S : Int → Int} {k : Int} (w : WN S) (hk : live S k) : nk S k = 0 ∨ nk S k = 1 ∨ nk S k = 2 := by
  have h1 := w.2.1 k hk.1.1 hk.1.2
  have h2 := hk.2
  omega
theorem live0 {S : Int → Int} (w : WN S) : live S 0 := ⟨⟨by decide, by decide⟩, by rw [w.1.1]; decide⟩
/-- groups: opacities and offsets are small -/
theorem g_small {S : Int → Int} {g : Nat → Int → Int} (wn : WN S) (w : WT S g) : ∀ (n : Nat) (k : Int), live S k → nk S k = 0 → gd g k ≤ n → (0 ≤ gop g k ∧ gop g k ≤ 100) ∧ (-12 * gd g k ≤ gox g k ∧ gox g k ≤ 12 * gd g k) ∧ (-12 * gd g k ≤ goy g k ∧ goy g k ≤ 12 * gd g k) := by
  intro n
  induction n with
  | zero =>
    intro k hk h0 hd
    by_cases e : k = 0
    · subst e
      obtain ⟨e1, e2, e3, e4⟩ := w.1
      omega
    · have h1 := w.2.1 k hk e
      have h2 := w.2.2.1 _ h1.1
      omega
  | succ n ih =>
    intro k hk h0 hd
    by_cases e : k = 0
    · subst e
      obtain ⟨e1, e2, e3, e4⟩ := w.1
      omega
    · have h1 := w.2.1 k hk e
      have h2 := ih (np S k) h1.1 h1.2.1 (by omega)
      have h3 := w.2.2.2 k hk e h0
      have h4 := wn.2.2.1 k hk h0
      have h5 := mul_bd (a := gop g (np S k)) (b := nf S k 0) (A := 100) (B := 100) h2.1.1 h2.1.2 h4.1.1 h4.1.2
      refine ⟨?_, ?_, ?_⟩
      · rw [h3.1]
        exact ⟨Int.ediv_nonneg h5.1 (by decide), by omega⟩
      · rw [h3.2.1]; omega
      · rw [h3.2.2]; omega
theorem g_op {S : Int → Int} {g : Nat → Int → Int} (wn : WN S) (w : WT S g) {k : Int} (hk : live S k) (h0 : nk S k = 0) : (0 ≤ gop g k ∧ gop g k ≤ 100) ∧ (-48 ≤ gox g k ∧ gox g k ≤ 48) ∧ (-48 ≤ goy g k ∧ goy g k ≤ 48) := by
  have hd : gd g k ≤ 4 := by
    by_cases e : k = 0
    · subst e
      have := w.1.1
      omega
    · have := w.2.1 k hk e
      omega
  have h0d := w.2.2.1 k hk
  have := g_small wn w 4 k hk h0 hd
  omega
