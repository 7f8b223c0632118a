/-! the start: the first state, and the class's constructor -/
def t0 (j : Int) : Int := if j = 0 then 8 else if j = 1 then 6 else if j = 2 then 50 else if j = 3 then 40 else if j = 4 then 700 else 0
def t1 (j : Int) : Int := if 5 ≤ j ∧ j < 8 then 1 else t0 j
def t2 (j : Int) : Int := if (9 ≤ j ∧ j < 128) ∧ (j - 9) % 17 = 0 then 2 else if (9 ≤ j ∧ j < 128) ∧ ((j - 9) % 17 = 3 ∨ (j - 9) % 17 = 4) then 255 else t1 j
def t3 (j : Int) : Int := if (128 ≤ j ∧ j < 368) ∧ (j - 128) % 10 = 0 then -1 else t2 j
def iS (j : Int) : Int := if j = 131 then 100 else if j = 129 then -1 else if j = 128 then 0 else t3 j
def iG (i : Nat) : Int → Int := if i = 1 then fun _ => 100 else if i = 5 then fun _ => 1 else fun _ => 0
theorem t0_z {j : Int} (h : 5 ≤ j) : t0 j = 0 := by
  unfold t0
  rw [if_neg (by omega), if_neg (by omega), if_neg (by omega), if_neg (by omega), if_neg (by omega)]
theorem iS_t {j : Int} (h : j < 128) : iS j = t2 j := by
  unfold iS t3
  rw [if_neg (by omega), if_neg (by omega), if_neg (by omega), if_neg (by omega)]
theorem iS_n {k j : Int} (h0 : 0 ≤ k) (h1 : k < 24) (h2 : 0 ≤ j) (h3 : j < 10) : iS (128 + 10 * k + j) = if j = 0 then (if k = 0 then 0 else -1) else if k = 0 ∧ j = 1 then -1 else if k = 0 ∧ j = 3 then 100 else 0 := by
  unfold iS t3 t2 t1
  by_cases k0 : k = 0
  · subst k0
    rcases (show j = 0 ∨ j = 1 ∨ j = 3 ∨ (j ≠ 0 ∧ j ≠ 1 ∧ j ≠ 3) by omega) with rfl | rfl | rfl | z
    · exact (by (try simp only [up_e, fz_e, true_and, and_true, if_true]); (repeat (first | rw [if_pos (by omega)] | rw [if_neg (by omega)] | fail)); all_goals first | done | rfl | assumption | omega)
    · exact (by (try simp only [up_e, fz_e, true_and, and_true, if_true]); (repeat (first | rw [if_pos (by omega)] | rw [if_neg (by omega)] | fail)); all_goals first | done | rfl | assumption | omega)
    · exact (by (try simp only [up_e, fz_e, true_and, and_true, if_true]); (repeat (first | rw [if_pos (by omega)] | rw [if_neg (by omega)] | fail)); all_goals first | done | rfl | assumption | omega)
    · rw [if_neg (by omega), if_neg (by omega), if_neg (by omega), if_neg (by omega), if_neg (by omega), if_neg (by omega), if_neg (by omega), if_neg (by omega), if_neg (by omega), if_neg (by omega)]
      exact t0_z (by omega)
  · by_cases j0 : j = 0
    · subst j0
      rw [if_neg (by omega), if_neg (by omega), if_neg (by omega), if_pos (by omega), if_pos rfl, if_neg k0]
    · rw [if_neg (by omega), if_neg (by omega), if_neg (by omega), if_neg (by omega), if_neg (by omega), if_neg (by omega), if_neg (by omega), if_neg (by omega), if_neg (by omega), if_neg (by omega)]
      exact t0_z (by omega)
theorem iS_k {k : Int} (h0 : 0 ≤ k) (h1 : k < 24) : nk iS k = if k = 0 then 0 else -1 := by
  have := iS_n h0 h1 (j := 0) (by decide) (by decide)
  rw [Int.add_zero, if_pos rfl] at this
  exact this
theorem iS_l {k : Int} : live iS k ↔ k = 0 := by
  constructor
  · intro h
    have h2 := h.2
    rw [iS_k h.1.1 h.1.2] at h2
    by_cases e : k = 0
    · exact e
    · rw [if_neg e] at h2
      exact absurd h2 (by decide)
  · intro e
    rw [e]
    exact ⟨⟨by decide, by decide⟩, by decide⟩
theorem iS_cc {p : Int} (h0 : 0 ≤ p) (h1 : p < 7) : cc iS p = 2 := by
  unfold cc
  rw [iS_t (by omega)]
  unfold t2
  exact if_pos (by omega)
theorem iS_cpq {p : Int} (h0 : 0 ≤ p) (h1 : p < 7) : (cp iS p 0 = 0 ∧ cp iS p 1 = 255) ∧ (cq iS p 0 = 0 ∧ cq iS p 1 = 255) := by
  unfold cp cq
  rw [iS_t (by omega), iS_t (by omega), iS_t (by omega), iS_t (by omega)]
  unfold t2 t1
  refine ⟨⟨?_, ?_⟩, ?_, ?_⟩
  · rw [if_neg (by omega), if_neg (by omega), if_neg (by omega)]; exact t0_z (by omega)
  · rw [if_neg (by omega), if_pos (by omega)]
  · rw [if_neg (by omega), if_neg (by omega), if_neg (by omega)]; exact t0_z (by omega)
  · rw [if_neg (by omega), if_pos (by omega)]
theorem iS_WF {c : Int} (hc : 0 ≤ c) : WF iS iG c := by
  have n0 : np iS 0 = -1 := by decide
  refine ⟨⟨⟨⟨by decide, by decide⟩, by decide, by decide, by decide⟩, fun j a b => Or.inr ?_, ⟨by decide, ?_⟩, fun p a b => ?_⟩, ⟨by decide, fun k a b => ?_, fun k h z => ?_, fun k h z => ?_, fun k h z => ?_, fun k h z => ?_⟩, ⟨⟨rfl, rfl, rfl, rfl⟩, fun k h z => absurd (iS_l.mp h) z, fun k h => Int.le_refl 0, fun k h z => absurd (iS_l.mp h) z⟩, ⟨⟨⟨by decide, by decide⟩, rfl⟩, fun t a b => iS_l.mpr rfl, fun i j a b d => ?_, fun k h => ⟨0, ⟨by decide, by decide⟩, (iS_l.mp h).symm⟩, fun i a b => ?_, fun i j a b d => ?_⟩⟩
  · rw [iS_t (by omega)]
    unfold t2 t1
    rw [if_neg (by omega), if_neg (by omega), if_pos (by omega)]
  · rw [show iS 8 = 0 by decide]; exact hc
  · obtain ⟨⟨p0, p1⟩, q0, q1⟩ := iS_cpq a b
    rw [iS_cc a b]
    have pp : ∀ i, 0 ≤ i → i < 2 → (i = 0 ∧ cp iS p i = 0 ∧ cq iS p i = 0) ∨ (i = 1 ∧ cp iS p i = 255 ∧ cq iS p i = 255) := fun i x y => by
      rcases (show i = 0 ∨ i = 1 by omega) with rfl | rfl
      · exact Or.inl ⟨rfl, p0, q0⟩
      · exact Or.inr ⟨rfl, p1, q1⟩
    refine ⟨⟨by decide, by decide⟩, p0, p1, fun i j x y z => ?_, fun i j x y z => ?_, fun i x y => ?_⟩
    · have := pp i x (by omega)
      have := pp j (by omega) z
      omega
    · have := pp i x (by omega)
      have := pp j (by omega) z
      omega
    · have := pp i x y
      omega
  · rw [iS_k a b]
    split <;> decide
  · rw [iS_l.mp h]; decide
  · rw [iS_l.mp h] at z
    exact absurd (by decide) z
  · rw [iS_l.mp h] at z
    exact absurd z (by decide)
  · rw [iS_l.mp h] at z
    exact absurd z (by decide)
  · have : gc iG = 1 := rfl
    omega
  · have : gc iG = 1 := rfl
    omega
  · have : gc iG = 1 := rfl
    omega
section C4
variable {h : Zm} {F : Nat → Int → Int}
theorem iN_NS {a : Nat} {k : Int} (h0 : 0 ≤ k) (h1 : k < 24) (v : ∀ j, F a j = iN k j) : NS F a iS iG k := by
  by_cases e : k = 0
  · subst e
    refine ⟨⟨?_, ?_, ?_, ?_⟩, fun _ => ⟨⟨?_, ?_⟩, fun _ => ⟨⟨?_, ?_, ?_⟩, ?_, ?_, ?_⟩, fun z => absurd (by decide) z, fun z => absurd z (by decide), fun z => absurd z (by decide)⟩⟩ <;> simp only [v] <;> decide
  · have ek := iS_k h0 h1
    rw [if_neg e] at ek
    have e2 : ∀ j, iN k j = iN0 j := fun j => by
      unfold iN
      rw [if_neg (fun y => e y.1), if_neg (fun y => e y.1)]
    refine ⟨?_, fun z => ?_⟩
    · rw [ek]
      simp only [v, e2]
      decide
    · rw [ek] at z
      exact absurd z (by decide)
theorem s_i4 {Q : Zm → Prop} {A : Nat} (hk : zkd h A = (14, 8)) (hn : h.1.2 = A + 1) (q : ∀ h' F', h'.1.2 = A + 52 → sr 0 A h h' → fl 0 A F F' → kS h' A → CS F' A iS iG → Q (zwI h' F')) : mX4_init A (zwI h F) Q := by
  unfold mX4_init
  refine f_rc hk (f_pi hk ⟨by decide, by decide⟩ (f_pi hk ⟨by decide, by decide⟩ (f_pi hk ⟨by decide, by decide⟩ (f_pi hk ⟨by decide, by decide⟩ (f_pi hk ⟨by decide, by decide⟩ (f_nw hn (f_pr (m := 8) (by (try simp only [kz_al, kz_st, rz_al, rz_st, nz_al, nz_st, true_and, and_true, if_true]); (repeat (first | rw [if_pos (by omega)] | rw [if_neg (by omega)] | fail)); all_goals first | done | rfl | assumption | omega) ?_)))))))
  unfold mX4_init_H44
  refine lfp1_up 3 (fun i F' => (0 ≤ i ∧ fl 0 A F F') ∧ (∀ j, 0 ≤ j → j < 5 → F' A j = iS j) ∧ ∀ j, 0 ≤ j → j < i → F' (A + 1) j = 1) (fun X i F1 hi hI hX => ?_) 0 _ (by decide) ⟨⟨by decide, fun a j x y => (by (try simp only [up_e, fz_e, true_and, and_true, if_true]); (repeat (first | rw [if_pos (by omega)] | rw [if_neg (by omega)] | fail)); all_goals first | done | rfl | assumption | omega)⟩, fun j x y => ?_, fun j x y => by omega⟩
  · obtain ⟨⟨i0, f1⟩, v1, w1⟩ := hI
    unfold mX4_init_B44
    refine f_lt ⟨by omega, by omega⟩ ⟨by decide, by decide⟩ (fun z => ?_) (fun z => ?_)
    · refine f_gr (m := 8) (r := A + 1) (by (try simp only [kz_al, kz_st, rz_al, rz_st, nz_al, nz_st, true_and, and_true, if_true]); (repeat (first | rw [if_pos (by omega)] | rw [if_neg (by omega)] | fail)); all_goals first | done | rfl | assumption | omega) (by (try simp only [kz_al, kz_st, rz_al, rz_st, nz_al, nz_st, true_and, and_true, if_true]); (repeat (first | rw [if_pos (by omega)] | rw [if_neg (by omega)] | fail)); all_goals first | done | rfl | assumption | omega) (f_st (m := 3) (by (try simp only [kz_al, kz_st, rz_al, rz_st, nz_al, nz_st, true_and, and_true, if_true]); (repeat (first | rw [if_pos (by omega)] | rw [if_neg (by omega)] | fail)); all_goals first | done | rfl | assumption | omega) i0 z ⟨by decide, by decide⟩ (hX z _ ⟨⟨by omega, fun a j x y => ?_⟩, fun j x y => ?_, fun j x y => ?_⟩))
      · rw [up_a (by omega)]; exact f1 a j x y
      · rw [up_a (by omega)]; exact v1 j x y
      · rw [up_e]
        by_cases e : j = i
        · rw [if_pos ⟨rfl, e⟩]
        · rw [if_neg (fun y => e y.2)]; exact w1 j x (by omega)
    · refine f_nw (N := A + 2) (by (try simp only [kz_al, kz_st, rz_al, rz_st, nz_al, nz_st, true_and, and_true, if_true]); (repeat (first | rw [if_pos (by omega)] | rw [if_neg (by omega)] | fail)); all_goals first | done | rfl | assumption | omega) (f_rc (m := 4) (by (try simp only [kz_al, kz_st, rz_al, rz_st, nz_al, nz_st, true_and, and_true, if_true]); (repeat (first | rw [if_pos (by omega)] | rw [if_neg (by omega)] | fail)); all_goals first | done | rfl | assumption | omega) (s_i5 (by (try simp only [kz_al, kz_st, rz_al, rz_st, nz_al, nz_st, true_and, and_true, if_true]); (repeat (first | rw [if_pos (by omega)] | rw [if_neg (by omega)] | fail)); all_goals first | done | rfl | assumption | omega) (by (try simp only [kz_al, kz_st, rz_al, rz_st, nz_al, nz_st, true_and, and_true, if_true]); (repeat (first | rw [if_pos (by omega)] | rw [if_neg (by omega)] | fail)); all_goals first | done | rfl | assumption | omega) fun h2 F2 n2 s2 f2 k2 c2 o2 v2 => ?_))
      have sA := s2 A (by omega) (by omega)
      have sA1 := s2 (A + 1) (by omega) (by omega)
      have a1 : zkd h2 A = (14, 8) := sA.1.trans (by (try simp only [kz_al, kz_st, rz_al, rz_st, nz_al, nz_st, true_and, and_true, if_true]); (repeat (first | rw [if_pos (by omega)] | rw [if_neg (by omega)] | fail)); all_goals first | done | rfl | assumption | omega)
      have a2 : zR h2 A 5 = A + 1 := (sA.2 5).trans (by (try simp only [kz_al, kz_st, rz_al, rz_st, nz_al, nz_st, true_and, and_true, if_true]); (repeat (first | rw [if_pos (by omega)] | rw [if_neg (by omega)] | fail)); all_goals first | done | rfl | assumption | omega)
      have a3 : zkd h2 (A + 1) = (1, 3) := sA1.1.trans (by (try simp only [kz_al, kz_st, rz_al, rz_st, nz_al, nz_st, true_and, and_true, if_true]); (repeat (first | rw [if_pos (by omega)] | rw [if_neg (by omega)] | fail)); all_goals first | done | rfl | assumption | omega)
      have s3 : sr 0 A h h2 := fun a x y => ⟨(s2 a x (by omega)).1.trans (by (try simp only [kz_al, kz_st, rz_al, rz_st, nz_al, nz_st, true_and, and_true, if_true]); (repeat (first | rw [if_pos (by omega)] | rw [if_neg (by omega)] | fail)); all_goals first | done | rfl | assumption | omega), fun j => ((s2 a x (by omega)).2 j).trans (by (try simp only [kz_al, kz_st, rz_al, rz_st, nz_al, nz_st, true_and, and_true, if_true]); (repeat (first | rw [if_pos (by omega)] | rw [if_neg (by omega)] | fail)); all_goals first | done | rfl | assumption | omega)⟩
      have f3 : fl 0 A F F2 := fun a j x y => by rw [f2 a j x (by omega), fz_n (by omega)]; exact f1 a j x y
      have v3 : ∀ j, 0 ≤ j → j < 5 → F2 A j = iS j := fun j x y => by rw [f2 A j (by omega) (by omega), fz_n (by omega)]; exact v1 j x y
      have w3 : ∀ j, 0 ≤ j → j < 3 → F2 (A + 1) j = 1 := fun j x y => by rw [f2 (A + 1) j (by omega) (by omega), fz_n (by omega)]; exact w1 j x (by omega)
      refine f_pr a1 (f_nw (N := A + 30) (by (try simp only [kz_al, kz_st, rz_al, rz_st, nz_al, nz_st, true_and, and_true, if_true]); (repeat (first | rw [if_pos (by omega)] | rw [if_neg (by omega)] | fail)); all_goals first | done | rfl | assumption | omega) (f_pr (m := 8) (by (try simp only [kz_al, kz_st, rz_al, rz_st, nz_al, nz_st, true_and, and_true, if_true]); (repeat (first | rw [if_pos (by omega)] | rw [if_neg (by omega)] | fail)); all_goals first | done | rfl | assumption | omega) ?_))
      unfold mX4_init_H84
      refine lfp1_i (fun i _ => (7 - i).toNat) (fun i m => ∃ h' F', m = zwI h' F' ∧ (0 ≤ i ∧ i ≤ 7) ∧ h'.1.2 = A + 31 + 3 * i.toNat ∧ (sr 0 A h2 h' ∧ sr (A + 1) (A + 30) h2 h') ∧ fl 0 (A + 30) F2 F' ∧ ((zkd h' A = (14, 8) ∧ zR h' A 5 = A + 1 ∧ zR h' A 6 = A + 2 ∧ zR h' A 7 = A + 30) ∧ zkd h' (A + 30) = (4, 7)) ∧ ∀ p : Int, 0 ≤ p → p < i → (zR h' (A + 30) p = A + 31 + 3 * p.toNat ∧ kC h' (A + 31 + 3 * p.toNat)) ∧ F' (A + 31 + 3 * p.toNat) 2 = 2 ∧ (F' (A + 31 + 3 * p.toNat + 1) 0 = 0 ∧ F' (A + 31 + 3 * p.toNat + 1) 1 = 255) ∧ (F' (A + 31 + 3 * p.toNat + 2) 0 = 0 ∧ F' (A + 31 + 3 * p.toNat + 2) 1 = 255)) (fun X2 i m hI hX2 => ?_) 0 _ ⟨_, _, rfl, by decide, (by (try simp only [kz_al, kz_st, rz_al, rz_st, nz_al, nz_st, true_and, and_true, if_true]); (repeat (first | rw [if_pos (by omega)] | rw [if_neg (by omega)] | fail)); all_goals first | done | rfl | assumption | omega), ⟨fun a x y => ⟨(by (try simp only [kz_al, kz_st, rz_al, rz_st, nz_al, nz_st, true_and, and_true, if_true]); (repeat (first | rw [if_pos (by omega)] | rw [if_neg (by omega)] | fail)); all_goals first | done | rfl | assumption | omega), fun j => (by (try simp only [kz_al, kz_st, rz_al, rz_st, nz_al, nz_st, true_and, and_true, if_true]); (repeat (first | rw [if_pos (by omega)] | rw [if_neg (by omega)] | fail)); all_goals first | done | rfl | assumption | omega)⟩, fun a x y => ⟨(by (try simp only [kz_al, kz_st, rz_al, rz_st, nz_al, nz_st, true_and, and_true, if_true]); (repeat (first | rw [if_pos (by omega)] | rw [if_neg (by omega)] | fail)); all_goals first | done | rfl | assumption | omega), fun j => (by (try simp only [kz_al, kz_st, rz_al, rz_st, nz_al, nz_st, true_and, and_true, if_true]); (repeat (first | rw [if_pos (by omega)] | rw [if_neg (by omega)] | fail)); all_goals first | done | rfl | assumption | omega)⟩⟩, fun a j x y => fz_n (by omega), ⟨⟨(by (try simp only [kz_al, kz_st, rz_al, rz_st, nz_al, nz_st, true_and, and_true, if_true]); (repeat (first | rw [if_pos (by omega)] | rw [if_neg (by omega)] | fail)); all_goals first | done | rfl | assumption | omega), (by (try simp only [kz_al, kz_st, rz_al, rz_st, nz_al, nz_st, true_and, and_true, if_true]); (repeat (first | rw [if_pos (by omega)] | rw [if_neg (by omega)] | fail)); all_goals first | done | rfl | assumption | omega), (by (try simp only [kz_al, kz_st, rz_al, rz_st, nz_al, nz_st, true_and, and_true, if_true]); (repeat (first | rw [if_pos (by omega)] | rw [if_neg (by omega)] | fail)); all_goals first | done | rfl | assumption | omega), (by (try simp only [kz_al, kz_st, rz_al, rz_st, nz_al, nz_st, true_and, and_true, if_true]); (repeat (first | rw [if_pos (by omega)] | rw [if_neg (by omega)] | fail)); all_goals first | done | rfl | assumption | omega)⟩, (by (try simp only [kz_al, kz_st, rz_al, rz_st, nz_al, nz_st, true_and, and_true, if_true]); (repeat (first | rw [if_pos (by omega)] | rw [if_neg (by omega)] | fail)); all_goals first | done | rfl | assumption | omega)⟩, fun p x y => by omega⟩
      obtain ⟨h4, F4, rfl, hi4, n4, ⟨s4, s5⟩, f4, ⟨⟨b1, b2, b3, b4⟩, b5⟩, v4⟩ := hI
      unfold mX4_init_B84
      refine f_lt ⟨by omega, by omega⟩ ⟨by decide, by decide⟩ (fun u => ?_) (fun u => ?_)
      · refine f_gr b1 b4 (f_nw (N := A + 31 + 3 * i.toNat) n4 (f_rc (m := 3) (by (try simp only [kz_al, kz_st, rz_al, rz_st, nz_al, nz_st, true_and, and_true, if_true]); (repeat (first | rw [if_pos (by omega)] | rw [if_neg (by omega)] | fail)); all_goals first | done | rfl | assumption | omega) (s_i0 (by (try simp only [kz_al, kz_st, rz_al, rz_st, nz_al, nz_st, true_and, and_true, if_true]); (repeat (first | rw [if_pos (by omega)] | rw [if_neg (by omega)] | fail)); all_goals first | done | rfl | assumption | omega) (by (try simp only [kz_al, kz_st, rz_al, rz_st, nz_al, nz_st, true_and, and_true, if_true]); (repeat (first | rw [if_pos (by omega)] | rw [if_neg (by omega)] | fail)); all_goals first | done | rfl | assumption | omega) fun h5 F5 n5 s6 f6 k6 c6 p6 q6 => ?_)))
        have l6 : ∀ a, a < A + 31 + 3 * i.toNat → zkd h5 a = zkd h4 a ∧ ∀ j, zR h5 a j = zR h4 a j := fun a x => ⟨(s6 a (by omega) x).1.trans (by (try simp only [kz_al, kz_st, rz_al, rz_st, nz_al, nz_st, true_and, and_true, if_true]); (repeat (first | rw [if_pos (by omega)] | rw [if_neg (by omega)] | fail)); all_goals first | done | rfl | assumption | omega), fun j => ((s6 a (by omega) x).2 j).trans (by (try simp only [kz_al, kz_st, rz_al, rz_st, nz_al, nz_st, true_and, and_true, if_true]); (repeat (first | rw [if_pos (by omega)] | rw [if_neg (by omega)] | fail)); all_goals first | done | rfl | assumption | omega)⟩
        have g6 : ∀ a j, a < A + 31 + 3 * i.toNat → F5 a j = F4 a j := fun a j x => by rw [f6 a j (by omega) x, fz_n (by omega)]
        have m5 : zkd h5 (A + 30) = (4, 7) := (l6 _ (by omega)).1.trans b5
        have zst : ∀ a j, a ≠ A + 30 → zR (zsR h5 (A + 30) i (A + 31 + 3 * i.toNat)) a j = zR h5 a j := fun a j x => by rw [rz_st, if_neg (fun y => x y.1)]
        refine f_str m5 hi4.1 u (by rw [k6.1]) (hX2 _ _ ⟨_, _, rfl, by omega, by rw [nz_st]; omega, ⟨fun a x y => ⟨?_, fun j => ?_⟩, fun a x y => ⟨?_, fun j => ?_⟩⟩, fun a j x y => ?_, ⟨⟨?_, ?_, ?_, ?_⟩, m5⟩, fun p x y => ⟨⟨?_, ?_⟩, ?_⟩⟩ (by omega))
        · rw [kz_st, (l6 a (by omega)).1]; exact (s4 a x y).1
        · rw [zst _ _ (by omega), (l6 a (by omega)).2]; exact (s4 a x y).2 j
        · rw [kz_st, (l6 a (by omega)).1]; exact (s5 a x y).1
        · rw [zst _ _ (by omega), (l6 a (by omega)).2]; exact (s5 a x y).2 j
        · rw [g6 _ _ (by omega)]; exact f4 a j x y
        · rw [kz_st, (l6 _ (by omega)).1]; exact b1
        · rw [zst _ _ (by omega), (l6 _ (by omega)).2]; exact b2
        · rw [zst _ _ (by omega), (l6 _ (by omega)).2]; exact b3
        · rw [zst _ _ (by omega), (l6 _ (by omega)).2]; exact b4
        · rw [rz_st]
          by_cases e : p = i
          · rw [if_pos ⟨rfl, e⟩, e]
          · rw [if_neg (fun y => e y.2), (l6 _ (by omega)).2]; exact (v4 p x (by omega)).1.1
        · by_cases e : p = i
          · rw [e]
            exact kC.sl (h := h5) (fun a x y => ⟨rfl, fun j => zst a j (by omega)⟩) k6
          · refine (v4 p x (by omega)).1.2.sl fun a x y => ⟨(l6 a (by omega)).1, fun j => ?_⟩
            rw [zst _ _ (by omega)]; exact (l6 a (by omega)).2 j
        · by_cases e : p = i
          · rw [e]
            exact ⟨c6, p6, q6⟩
          · rw [g6 _ _ (by omega), g6 _ _ (by omega), g6 _ _ (by omega), g6 _ _ (by omega), g6 _ _ (by omega)]
            exact (v4 p x (by omega)).2
      · have e7 : i = 7 := by omega
        subst e7
        refine q h4 F4 (by omega) (s3.tr s4) (f3.tr (f4.wd (by omega) (by omega))) ⟨⟨b1, b2, b3, b4, (s5 (A + 1) (by omega) (by omega)).1.trans a3, b5⟩, k2.sl (s5.wd (by omega) (by omega)), fun p x y => (v4 p x y).1⟩ ⟨fun j x y => ?_, fun j x y => ?_, fun p x y => ?_, ⟨?_, fun t x y => ?_⟩, fun k x y => ?_⟩
        · rw [f4 _ _ (by omega) (by omega)]; exact v3 j x y
        · rw [f4 _ _ (by omega) (by omega), w3 j x y, iS_t (by omega)]
          unfold t2 t1
          rw [if_neg (by omega), if_neg (by omega), if_pos (by omega)]
        · obtain ⟨-, c1, c2, c3⟩ := v4 p x y
          obtain ⟨⟨p0, p1⟩, q0, q1⟩ := iS_cpq x y
          rw [iS_cc x y]
          refine ⟨c1, fun i u v => ?_⟩
          rcases (show i = 0 ∨ i = 1 by omega) with rfl | rfl
          · rw [p0, q0]; exact ⟨c2.1, c3.1⟩
          · rw [p1, q1]; exact ⟨c2.2, c3.2⟩
        · rw [f4 _ _ (by omega) (by omega)]; exact c2
        · rw [f4 _ _ (by omega) (by omega)]; exact o2 t
        · exact iN_NS x y fun j => by rw [f4 _ _ (by omega) (by omega)]; exact v2 k x y j
  · rcases (show j = 0 ∨ j = 1 ∨ j = 2 ∨ j = 3 ∨ j = 4 by omega) with rfl | rfl | rfl | rfl | rfl
    · rw [show iS 0 = 8 by decide]; exact (by (try simp only [up_e, fz_e, true_and, and_true, if_true]); (repeat (first | rw [if_pos (by omega)] | rw [if_neg (by omega)] | fail)); all_goals first | done | rfl | assumption | omega)
    · rw [show iS 1 = 6 by decide]; exact (by (try simp only [up_e, fz_e, true_and, and_true, if_true]); (repeat (first | rw [if_pos (by omega)] | rw [if_neg (by omega)] | fail)); all_goals first | done | rfl | assumption | omega)
    · rw [show iS 2 = 50 by decide]; exact (by (try simp only [up_e, fz_e, true_and, and_true, if_true]); (repeat (first | rw [if_pos (by omega)] | rw [if_neg (by omega)] | fail)); all_goals first | done | rfl | assumption | omega)
    · rw [show iS 3 = 40 by decide]; exact (by (try simp only [up_e, fz_e, true_and, and_true, if_true]); (repeat (first | rw [if_pos (by omega)] | rw [if_neg (by omega)] | fail)); all_goals first | done | rfl | assumption | omega)
    · rw [show iS 4 = 700 by decide]; exact (by (try simp only [up_e, fz_e, true_and, and_true, if_true]); (repeat (first | rw [if_pos (by omega)] | rw [if_neg (by omega)] | fail)); all_goals first | done | rfl | assumption | omega)
end C4
