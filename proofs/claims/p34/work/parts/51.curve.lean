/-! curves: what they are, and the class's and the reference's reading of them -/
theorem mul_bd {a b A B : Int} (h1 : 0 ≤ a) (h2 : a ≤ A) (h3 : 0 ≤ b) (h4 : b ≤ B) : 0 ≤ a * b ∧ a * b ≤ A * B :=
  ⟨Int.mul_nonneg h1 h3, Int.mul_le_mul h2 h4 h3 (Int.le_trans h1 h2)⟩
/-- the first place from k on whose value is no less than v -/
def pfind (p : Int → Int) (v : Int) : Nat → Int → Int
  | 0, k => k
  | f + 1, k => if v ≤ p k then k else pfind p v f (k + 1)
theorem pfind_eq {p : Int → Int} {v : Int} : ∀ (f : Nat) (k0 k : Int), k0 ≤ k → k - k0 < f → (∀ j, k0 ≤ j → j < k → p j < v) → v ≤ p k → pfind p v f k0 = k := by
  intro f
  induction f with
  | zero => intro k0 k h1 h2; omega
  | succ f ih =>
    intro k0 k h1 h2 h3 h4
    unfold pfind
    by_cases e : k0 = k
    · subst e
      rw [if_pos h4]
    · have := h3 k0 (Int.le_refl _) (by omega)
      rw [if_neg (by omega)]
      exact ih (k0 + 1) k (by omega) (by omega) (fun j hj => h3 j (by omega)) h4
def cat (p q : Int → Int) (v k : Int) : Int := if p k = v then q k else q (k - 1) + ((q k - q (k - 1)) * (v - p (k - 1))).tdiv (p k - p (k - 1))
/-- the value of the curve with the points (p i, q i) -/
def cval (p q : Int → Int) (v : Int) : Int := cat p q v (pfind p v 8 0)
def wfC (c : Int) (p q : Int → Int) : Prop := (2 ≤ c ∧ c ≤ 8) ∧ p 0 = 0 ∧ p (c - 1) = 255 ∧ (∀ i j, 0 ≤ i → i < j → j < c → p i < p j) ∧ (∀ i j, 0 ≤ i → i ≤ j → j < c → q i ≤ q j) ∧ (∀ i, 0 ≤ i → i < c → (0 ≤ p i ∧ p i ≤ 255) ∧ 0 ≤ q i ∧ q i ≤ 255)
theorem cval_at {c : Int} {p q : Int → Int} {v k : Int} (hw : wfC c p q) (h0 : 0 ≤ k) (h1 : k < c) (h2 : ∀ j, 0 ≤ j → j < k → p j < v) (h3 : v ≤ p k) : cval p q v = cat p q v k := by
  unfold cval
  rw [pfind_eq 8 0 k h0 (by have := hw.1; omega) (fun j a b => h2 j a b) h3]
/-- there is such a place -/
theorem c_place {c : Int} {p q : Int → Int} {v : Int} (hw : wfC c p q) (hv : v ≤ 255) : ∃ k, 0 ≤ k ∧ k < c ∧ (∀ j, 0 ≤ j → j < k → p j < v) ∧ v ≤ p k := by
  have key : ∀ (n : Nat), (n : Int) ≤ c - 1 → (∃ k, 0 ≤ k ∧ k < c ∧ (∀ j, 0 ≤ j → j < k → p j < v) ∧ v ≤ p k) ∨ ∀ j, 0 ≤ j → j < (n : Int) → p j < v := by
    intro n
    induction n with
    | zero => intro _; exact Or.inr (fun j a b => by omega)
    | succ n ih =>
      intro hn
      rcases ih (by omega) with h | h
      · exact Or.inl h
      · by_cases e : v ≤ p n
        · exact Or.inl ⟨n, by omega, by omega, h, e⟩
        · refine Or.inr (fun j a b => ?_)
          by_cases e2 : j = n
          · subst e2; omega
          · exact h j a (by omega)
  rcases key (c - 1).toNat (by have := hw.1; omega) with h | h
  · exact h
  · exact ⟨c - 1, by have := hw.1; omega, by omega, fun j a b => h j a (by omega), by rw [hw.2.2.1]; exact hv⟩
theorem div_part {a b d : Int} (ha : 0 ≤ a) (hb : 0 ≤ b) (hd : 0 < d) (hbd : b ≤ d) : 0 ≤ (a * b).tdiv d ∧ (a * b).tdiv d ≤ a := by
  rw [tdiv_pos (Int.mul_nonneg ha hb)]
  refine ⟨Int.ediv_nonneg (Int.mul_nonneg ha hb) (Int.le_of_lt hd), ?_⟩
  have : a * b ≤ a * d := Int.mul_le_mul_of_nonneg_left hbd ha
  calc a * b / d ≤ a * d / d := Int.ediv_le_ediv hd this
    _ = a := Int.mul_ediv_cancel a (Int.ne_of_gt hd)
theorem cat_r {c : Int} {p q : Int → Int} {v k : Int} (hw : wfC c p q) (hv0 : 0 ≤ v) (h0 : 0 ≤ k) (h1 : k < c) (h2 : ∀ j, 0 ≤ j → j < k → p j < v) (h3 : v ≤ p k) : 0 ≤ cat p q v k ∧ cat p q v k ≤ 255 := by
  unfold cat
  have hk := hw.2.2.2.2.2 k h0 h1
  split
  · exact hk.2
  · rename_i e
    have hk0 : k ≠ 0 := fun z => by
      subst z
      have := hw.2.1
      omega
    have hk1 := hw.2.2.2.2.2 (k - 1) (by omega) (by omega)
    have ha := h2 (k - 1) (by omega) (by omega)
    have hq := hw.2.2.2.2.1 (k - 1) k (by omega) (by omega) h1
    have := div_part (a := q k - q (k - 1)) (b := v - p (k - 1)) (d := p k - p (k - 1)) (by omega) (by omega) (by omega) (by omega)
    omega
theorem cval_r {c : Int} {p q : Int → Int} {v : Int} (hw : wfC c p q) (hv0 : 0 ≤ v) (hv : v ≤ 255) : 0 ≤ cval p q v ∧ cval p q v ≤ 255 := by
  obtain ⟨k, h0, h1, h2, h3⟩ := c_place hw hv
  rw [cval_at hw h0 h1 h2 h3]
  exact cat_r hw hv0 h0 h1 h2 h3
/-- the class's curve at C -/
def kC (h : Zm) (C : Nat) : Prop := zkd h C = (10, 3) ∧ zR h C 0 = C + 1 ∧ zR h C 1 = C + 2 ∧ zkd h (C + 1) = (1, 8) ∧ zkd h (C + 2) = (1, 8)
def CC (F : Nat → Int → Int) (C : Nat) (c : Int) (p q : Int → Int) : Prop := F C 2 = c ∧ ∀ i, 0 ≤ i → i < c → F (C + 1) i = p i ∧ F (C + 2) i = q i
section CU
variable {h : Zm} {F : Nat → Int → Int} {C : Nat} {c : Int} {p q : Int → Int}
theorem s_between {Q : Int → Zm → Prop} {i v : Int} (hk : kC h C) (hC : CC F C c p q) (hw : wfC c p q) (h0 : 1 ≤ i) (h1 : i < c) (hv0 : 0 ≤ v) (h2 : p (i - 1) ≤ v) (h3 : v ≤ p i) (r : Q (q (i - 1) + ((q i - q (i - 1)) * (v - p (i - 1))).tdiv (p i - p (i - 1))) (zwI h F)) : mX0_between C i v (zwI h F) Q := by
  unfold mX0_between
  obtain ⟨k1, k2, k3, k4, k5⟩ := hk
  have e1 := hC.2 i (by omega) h1
  have e0 := hC.2 (i - 1) (by omega) (by omega)
  have b1 := hw.2.2.2.2.2 i (by omega) h1
  have b0 := hw.2.2.2.2.2 (i - 1) (by omega) (by omega)
  have hp := hw.2.2.2.1 (i - 1) i (by omega) (by omega) h1
  have hq := hw.2.2.2.2.1 (i - 1) i (by omega) (by omega) h1
  have hc8 := hw.1
  refine f_gr k1 k3 (f_ldv k5 (by omega) (by omega) e0.2 fun _ => f_gr k1 k2 (f_ldv k4 (by omega) (by omega) e1.1 fun _ => f_gr k1 k2 (f_ldv k4 (by omega) (by omega) e0.1 fun _ => ?_)))
  refine f_le ⟨by omega, by omega⟩ z_in0 (fun z => by omega) (fun z => ?_)
  refine f_gr k1 k3 (f_ldv k5 (by omega) (by omega) e1.2 fun _ => f_gr k1 k2 (f_ldv k4 (by omega) (by omega) e0.1 fun _ => ?_))
  have := mul_bd (a := q i - q (i - 1)) (b := v - p (i - 1)) (A := 255) (B := 255) (by omega) (by omega) (by omega) (by omega)
  exact ⟨⟨by omega, by omega⟩, ⟨by omega, by omega⟩, r⟩
theorem s_valueAt {Q : Int → Zm → Prop} {v : Int} (hk : kC h C) (hC : CC F C c p q) (hw : wfC c p q) (hv0 : 0 ≤ v) (hv : v ≤ 255) (r : Q (cval p q v) (zwI h F)) : mX0_valueAt C v (zwI h F) Q := by
  unfold mX0_valueAt mX0_valueAt_H2
  have hc8 := hw.1
  obtain ⟨k1, k2, k3, k4, k5⟩ := id hk
  refine lfp1_up (h := h) c (fun i F' => F' = F ∧ 1 ≤ i ∧ ∀ j, 1 ≤ j → j < i → p j < v) (fun X i F' hi hI hX => ?_) 1 F (by omega) ⟨rfl, by omega, fun j a b => by omega⟩
  obtain ⟨rfl, g1, g2⟩ := hI
  unfold mX0_valueAt_B2
  have hir : i < c := by
    rcases Int.lt_or_le i c with z | z
    · exact z
    · have := g2 (c - 1) (by omega) (by omega)
      rw [hw.2.2.1] at this
      omega
  refine f_giv k1 hC.1 fun _ => f_lt ⟨by omega, by omega⟩ ⟨by omega, by omega⟩ (fun _ => ?_) (fun z => by omega)
  have e1 := hC.2 i (by omega) hir
  have b1 := hw.2.2.2.2.2 i (by omega) hir
  refine f_gr k1 k2 (f_ldv k4 (by omega) (by omega) e1.1 fun _ => f_le ⟨by omega, by omega⟩ ⟨by omega, by omega⟩ (fun z => f_rc k1 ?_) (fun z => hX hir _ ⟨rfl, by omega, fun j a b => ?_⟩))
  · have hlow : p (i - 1) ≤ v := by
      by_cases e : i = 1
      · subst e
        show p 0 ≤ v
        rw [hw.2.1]
        exact hv0
      · have := g2 (i - 1) (by omega) (by omega)
        omega
    refine s_between hk hC hw g1 hir hv0 hlow z ?_
    by_cases e0 : v ≤ p 0
    · -- v = 0
      have hp0 := hw.2.1
      have hv00 : v = 0 := by omega
      have hi1 : i = 1 := by
        rcases Int.lt_or_le 1 i with z2 | z2
        · have := g2 1 (by omega) z2
          have := hw.2.2.2.1 0 1 (by omega) (by omega) (by omega)
          omega
        · omega
      subst hi1 hv00
      rw [cval_at hw (k := 0) (by omega) (by omega) (fun j a b => by omega) (by omega)] at r
      unfold cat at r
      rw [if_pos hp0] at r
      have e3 : ((1 : Int) - 1) = 0 := by omega
      rw [e3, hp0, Int.sub_zero, Int.mul_zero, Int.zero_tdiv, Int.add_zero]
      exact r
    · have hall : ∀ j, 0 ≤ j → j < i → p j < v := fun j a b => by
        by_cases e : j = 0
        · subst e; omega
        · exact g2 j (by omega) b
      rw [cval_at hw (k := i) (by omega) hir hall z] at r
      unfold cat at r
      by_cases e : p i = v
      · rw [if_pos e] at r
        have hlt := hall (i - 1) (by omega) (by omega)
        rw [e, Int.mul_tdiv_cancel _ (by omega)]
        have e4 : q (i - 1) + (q i - q (i - 1)) = q i := by omega
        rw [e4]
        exact r
      · rw [if_neg e] at r
        exact r
  · by_cases e : j = i
    · subst e; omega
    · exact g2 j a (by omega)
end CU
