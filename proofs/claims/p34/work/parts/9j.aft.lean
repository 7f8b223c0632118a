/-! what the limit leaves: no more than it was, no more than the limit, in the same order -/
theorem smI_7 (f : Int → Int) : smI f 7 = 0 + f 0 + f 1 + f 2 + f 3 + f 4 + f 5 + f 6 := rfl
theorem fl3 {a b d r m : Int} (hm : m = a + b + d) (h : 0 < m) : a * r / m + b * r / m + d * r / m ≤ r := by
  have h1 := Int.ediv_mul_le (a * r) (Int.ne_of_gt h)
  have h2 := Int.ediv_mul_le (b * r) (Int.ne_of_gt h)
  have h3 := Int.ediv_mul_le (d * r) (Int.ne_of_gt h)
  have h4 : (a * r / m + b * r / m + d * r / m) * m ≤ r * m := by
    have h5 : r * m = a * r + b * r + d * r := by rw [hm, Int.mul_comm, Int.add_mul, Int.add_mul]
    rw [Int.add_mul, Int.add_mul, h5]
    omega
  exact Int.le_of_mul_le_mul_right h4 h
theorem fl1 {a r m : Int} (ha : 0 ≤ a) (hr : 0 ≤ r) (hrm : r ≤ m) (h : 0 < m) : 0 ≤ a * r / m ∧ a * r / m ≤ a := by
  have := div_part ha hr h hrm
  rw [tdiv_pos (Int.mul_nonneg ha hr)] at this
  exact this
theorem flm {a b r m : Int} (hab : a ≤ b) (hr : 0 ≤ r) (h : 0 < m) : a * r / m ≤ b * r / m := Int.ediv_le_ediv h (Int.mul_le_mul_of_nonneg_right hab hr)
section AF
variable {S B : Int → Int}
theorem aft_facts (hB : b7 B) (h4 : 0 ≤ S 4) : (∀ i, 0 ≤ i → i < 7 → 0 ≤ aft S B i ∧ aft S B i ≤ B i) ∧ smI (aft S B) 7 ≤ S 4 ∧ ∀ i j, 0 ≤ i → i < 3 → 0 ≤ j → j < 3 → B i ≤ B j → aft S B i ≤ aft S B j := by
  have e0 := hB 0 (by decide) (by decide)
  have e1 := hB 1 (by decide) (by decide)
  have e2 := hB 2 (by decide) (by decide)
  have e3 := hB 3 (by decide) (by decide)
  have e4 := hB 4 (by decide) (by decide)
  have e5 := hB 5 (by decide) (by decide)
  have e6 := hB 6 (by decide) (by decide)
  have es : spt B = B 4 + B 5 + B 6 := rfl
  have ec : clr B = B 0 + B 1 + B 2 := rfl
  have er : rst S B = S 4 - B 3 - spt B := rfl
  by_cases c1 : rst S B < 0
  · by_cases c2 : S 4 < spt B
    · have hA : ∀ i, aft S B i = if i < 3 then 0 else if i = 3 then 0 else B i * S 4 / spt B := fun i => by
        unfold aft
        rw [if_pos c1, if_pos c2, show max 0 (S 4 - spt B) = 0 by omega]
      refine ⟨fun i a b => ?_, ?_, fun i j a b d e f => ?_⟩
      · have := hB i a b
        rw [hA]
        split
        · omega
        · split
          · omega
          · exact fl1 this.1 h4 (by omega) (by omega)
      · have h3 := fl3 (r := S 4) es (show 0 < spt B by omega)
        rw [smI_7, hA 0, hA 1, hA 2, hA 3, hA 4, hA 5, hA 6]
        show 0 + 0 + 0 + 0 + 0 + B 4 * S 4 / spt B + B 5 * S 4 / spt B + B 6 * S 4 / spt B ≤ S 4
        omega
      · rw [hA, hA, if_pos b, if_pos e]
        exact Int.le_refl _
    · have hA : ∀ i, aft S B i = if i < 3 then 0 else if i = 3 then S 4 - spt B else B i := fun i => by
        unfold aft
        rw [if_pos c1, if_neg c2, show max 0 (S 4 - spt B) = S 4 - spt B by omega]
      refine ⟨fun i a b => ?_, ?_, fun i j a b d e f => ?_⟩
      · have := hB i a b
        rw [hA]
        split
        · omega
        · split
          · rename_i z
            rw [z]
            omega
          · omega
      · rw [smI_7, hA 0, hA 1, hA 2, hA 3, hA 4, hA 5, hA 6]
        show 0 + 0 + 0 + 0 + (S 4 - spt B) + B 4 + B 5 + B 6 ≤ S 4
        omega
      · rw [hA, hA, if_pos b, if_pos e]
        exact Int.le_refl _
  · by_cases c2 : rst S B < clr B
    · have hA : ∀ i, aft S B i = if i < 3 then B i * rst S B / clr B else B i := fun i => by
        unfold aft
        rw [if_neg c1]
        by_cases z : i < 3
        · rw [if_pos ⟨z, c2⟩, if_pos z]
        · rw [if_neg (fun v => z v.1), if_neg z]
      refine ⟨fun i a b => ?_, ?_, fun i j a b d e f => ?_⟩
      · have := hB i a b
        rw [hA]
        split
        · exact fl1 this.1 (by omega) (by omega) (by omega)
        · omega
      · have h3 := fl3 (r := rst S B) ec (show 0 < clr B by omega)
        rw [smI_7, hA 0, hA 1, hA 2, hA 3, hA 4, hA 5, hA 6]
        show 0 + B 0 * rst S B / clr B + B 1 * rst S B / clr B + B 2 * rst S B / clr B + B 3 + B 4 + B 5 + B 6 ≤ S 4
        omega
      · rw [hA, hA, if_pos b, if_pos e]
        exact flm f (by omega) (by omega)
    · have hA : ∀ i, aft S B i = B i := fun i => by
        unfold aft
        rw [if_neg c1, if_neg (fun v => c2 v.2)]
      refine ⟨fun i a b => ?_, ?_, fun i j a b d e f => ?_⟩
      · have := hB i a b
        rw [hA]
        omega
      · rw [smI_7, hA 0, hA 1, hA 2, hA 3, hA 4, hA 5, hA 6]
        omega
      · rw [hA, hA]
        exact f
theorem aft_dsn (hB : b7 B) (h4 : 0 ≤ S 4) : ¬ dsn B (aft S B) := by
  have m := (aft_facts hB h4).2.2
  have m01 := m 0 1 (by decide) (by decide) (by decide) (by decide)
  have m10 := m 1 0 (by decide) (by decide) (by decide) (by decide)
  have m02 := m 0 2 (by decide) (by decide) (by decide) (by decide)
  have m20 := m 2 0 (by decide) (by decide) (by decide) (by decide)
  have m12 := m 1 2 (by decide) (by decide) (by decide) (by decide)
  have m21 := m 2 1 (by decide) (by decide) (by decide) (by decide)
  rintro ((⟨a, b⟩ | ⟨a, b⟩ | ⟨a, b⟩) | (⟨a, b⟩ | ⟨a, b⟩ | ⟨a, b⟩))
  · have := m01 (by omega); omega
  · have := m02 (by omega); omega
  · have := m10 (by omega); omega
  · have := m12 (by omega); omega
  · have := m20 (by omega); omega
  · have := m21 (by omega); omega
theorem aft_lim (hB : b7 B) (h4 : 0 ≤ S 4) : bi (¬ sm7 B (aft S B)) = if smI (aft S B) 7 < smI B 7 then 1 else 0 := by
  have m := (aft_facts hB h4).1
  have m0 := (m 0 (by decide) (by decide)).2
  have m1 := (m 1 (by decide) (by decide)).2
  have m2 := (m 2 (by decide) (by decide)).2
  have m3 := (m 3 (by decide) (by decide)).2
  have m4 := (m 4 (by decide) (by decide)).2
  have m5 := (m 5 (by decide) (by decide)).2
  have m6 := (m 6 (by decide) (by decide)).2
  rw [smI_7, smI_7]
  by_cases p : sm7 B (aft S B)
  · rw [bi_f (fun v => v p)]
    obtain ⟨p0, p1, p2, p3, p4, p5, p6⟩ := p
    rw [if_neg (by omega)]
  · rw [bi_t p]
    rw [if_pos]
    have p2 : ¬ (B 0 = aft S B 0 ∧ B 1 = aft S B 1 ∧ B 2 = aft S B 2 ∧ B 3 = aft S B 3 ∧ B 4 = aft S B 4 ∧ B 5 = aft S B 5 ∧ B 6 = aft S B 6) := p
    omega
end AF
