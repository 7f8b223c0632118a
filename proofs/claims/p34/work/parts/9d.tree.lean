/-! the law's own tree: small methods, depths, keys -/
theorem lfp3_i {B : (Int → Int → Int → Zm → Prop) → Int → Int → Int → Zm → Prop} (μ : Int → Int → Int → Zm → Nat) (I : Int → Int → Int → Zm → Prop) (hs : ∀ (X : Int → Int → Int → Zm → Prop) (x y z : Int) (m : Zm), I x y z m → (∀ x' y' z' m', I x' y' z' m' → μ x' y' z' m' < μ x y z m → X x' y' z' m') → B X x y z m) : ∀ x y z m, I x y z m → lfp3 B x y z m := by
  intro x y z m hm X hX
  have key : ∀ (n : Nat) (x y z : Int) (m : Zm), μ x y z m < n → I x y z m → X x y z m := by
    intro n
    induction n with
    | zero => intro x y z m h; omega
    | succ n ih => intro x y z m h hI; exact hX x y z m (hs X x y z m hI (fun x' y' z' m' hI' hlt => ih x' y' z' m' (by omega) hI'))
  exact key _ x y z m (Nat.lt_succ_self _) hm
theorem lfp4_i {B : (Int → Int → Int → Int → Zm → Prop) → Int → Int → Int → Int → Zm → Prop} (μ : Int → Int → Int → Int → Zm → Nat) (I : Int → Int → Int → Int → Zm → Prop) (hs : ∀ (X : Int → Int → Int → Int → Zm → Prop) (x y z u : Int) (m : Zm), I x y z u m → (∀ x' y' z' u' m', I x' y' z' u' m' → μ x' y' z' u' m' < μ x y z u m → X x' y' z' u' m') → B X x y z u m) : ∀ x y z u m, I x y z u m → lfp4 B x y z u m := by
  intro x y z u m hm X hX
  have key : ∀ (n : Nat) (x y z u : Int) (m : Zm), μ x y z u m < n → I x y z u m → X x y z u m := by
    intro n
    induction n with
    | zero => intro x y z u m h; omega
    | succ n ih => intro x y z u m h hI; exact hX x y z u m (hs X x y z u m hI (fun x' y' z' u' m' hI' hlt => ih x' y' z' u' m' (by omega) hI'))
  exact key _ x y z u m (Nat.lt_succ_self _) hm
theorem lfp5_i {B : (Int → Int → Int → Int → Int → Zm → Prop) → Int → Int → Int → Int → Int → Zm → Prop} (μ : Int → Int → Int → Int → Int → Zm → Nat) (I : Int → Int → Int → Int → Int → Zm → Prop) (hs : ∀ (X : Int → Int → Int → Int → Int → Zm → Prop) (x y z u v : Int) (m : Zm), I x y z u v m → (∀ x' y' z' u' v' m', I x' y' z' u' v' m' → μ x' y' z' u' v' m' < μ x y z u v m → X x' y' z' u' v' m') → B X x y z u v m) : ∀ x y z u v m, I x y z u v m → lfp5 B x y z u v m := by
  intro x y z u v m hm X hX
  have key : ∀ (n : Nat) (x y z u v : Int) (m : Zm), μ x y z u v m < n → I x y z u v m → X x y z u v m := by
    intro n
    induction n with
    | zero => intro x y z u v m h; omega
    | succ n ih => intro x y z u v m h hI; exact hX x y z u v m (hs X x y z u v m hI (fun x' y' z' u' v' m' hI' hlt => ih x' y' z' u' v' m' (by omega) hI'))
  exact key _ x y z u v m (Nat.lt_succ_self _) hm
theorem f_remv {a b v : Int} {Q : Int → Prop} (ha : 0 ≤ a ∧ a ≤ 2147483647) (hb : 0 < b ∧ b ≤ 2147483647) (hv : a % b = v) (q : Q v) : cRem a b Q := ⟨⟨by omega, by omega⟩, hb, by rw [Int.tmod_eq_emod_of_nonneg ha.1, hv]; exact q⟩
theorem f_divv {a b v : Int} {Q : Int → Prop} (ha : 0 ≤ a ∧ a ≤ 2147483647) (hb : 0 < b ∧ b ≤ 2147483647) (hv : a / b = v) (q : Q v) : cDiv a b Q := ⟨⟨by omega, by omega⟩, hb, by rw [Int.tdiv_eq_ediv_of_nonneg ha.1, hv]; exact q⟩
theorem l_low {x n : Int} {m : Zm} {Q : Int → Zm → Prop} (hx : InR x) (hn : 1 ≤ n ∧ n ≤ 2147483647) (q : ∀ v, 0 ≤ v → v < n → Q v m) : mL_low x n m Q := by
  unfold mL_low
  have h1 := Int.emod_nonneg x (show (2147483648 : Int) ≠ 0 by decide)
  have h2 := Int.emod_lt_of_pos x (show (0 : Int) < 2147483648 by decide)
  have h3 := Int.tmod_nonneg n h1
  have h4 := Int.tmod_lt_of_pos (x % 2147483648) (show 0 < n by omega)
  exact ⟨hx, ⟨by omega, by omega⟩, ⟨by omega, by omega⟩, q _ h3 h4⟩
theorem l_cell {L : Nat} {sc : Int → Int} {a0 : Nat} {k : Int} {m : Zm} {Q : Int → Zm → Prop} (hL : L ≤ 260) (hsc : ∀ i, InR (sc i)) (hk : 0 ≤ k ∧ k ≤ 40) (q : ∀ v, InR v → Q v m) : mL_cell L sc a0 k m Q := by
  unfold mL_cell
  exact f_lt ⟨by omega, by omega⟩ ⟨by omega, by omega⟩ (fun z => ⟨⟨by omega, z⟩, q _ (hsc _)⟩) (fun z => q _ ⟨by omega, by omega⟩)
theorem l_down {x : Int} {m : Zm} {Q : Int → Zm → Prop} (hx : -1000000 ≤ x ∧ x ≤ 1000000) (q : Q (x / 100) m) : mL_down x 100 m Q := by
  unfold mL_down
  have h1 := Int.mul_tdiv_add_tmod x 100
  have h2 := Int.lt_tmod_of_pos x (show (0 : Int) < 100 by decide)
  have h3 := Int.tmod_lt_of_pos x (show (0 : Int) < 100 by decide)
  refine ⟨⟨by omega, by omega⟩, ⟨by decide, by decide⟩, f_lt ⟨by omega, by omega⟩ z_in0 (fun z => ⟨⟨by omega, by omega⟩, ⟨by decide, by decide⟩, ?_⟩) (fun z => ⟨⟨by omega, by omega⟩, ⟨by decide, by decide⟩, ?_⟩)⟩
  · rw [show x - (x.tmod 100 + 100) = 100 * (x.tdiv 100 - 1) by omega, Int.mul_tdiv_cancel_left _ (by decide), show x.tdiv 100 - 1 = x / 100 by omega]
    exact q
  · rw [show x - x.tmod 100 = 100 * x.tdiv 100 by omega, Int.mul_tdiv_cancel_left _ (by decide), show x.tdiv 100 = x / 100 by omega]
    exact q
section LB
variable {h : Zm} {F : Nat → Int → Int}
theorem l_begins {a0 a1 a2 a3 a4 : Nat} {Q : Zm → Prop} (k0 : zkd h a0 = (1, 24)) (k1 : zkd h a1 = (1, 24)) (k3 : zkd h a3 = (1, 24)) (d : a0 ≠ a1 ∧ a0 ≠ a3 ∧ a1 ≠ a3) (q : ∀ F', (∀ b j, b ≠ a0 → b ≠ a1 → b ≠ a3 → F' b j = F b j) → (F' a0 0 = 0 ∧ ∀ j, 1 ≤ j → j < 24 → F' a0 j = -1) → (F' a1 0 = -1 ∧ ∀ j, 1 ≤ j → F' a1 j = F a1 j) → F' a3 0 = 50788 → Q (zwI h F')) : mL_begins a0 a1 a2 a3 a4 (zwI h F) Q := by
  unfold mL_begins mL_begins_H3
  refine lfp1_up (h := h) 24 (fun i F' => bu a0 F F' ∧ 0 ≤ i ∧ ∀ j, 0 ≤ j → j < i → F' a0 j = -1) (fun X i F' hi hI hX => ?_) 0 F (by decide) ⟨bu.rf, by decide, fun c a b => by omega⟩
  obtain ⟨g1, g2, g3⟩ := hI
  unfold mL_begins_B3
  refine f_lt ⟨by omega, by omega⟩ ⟨by decide, by decide⟩ (fun z => f_st k0 g2 (by omega) ⟨by decide, by decide⟩ (hX z _ ⟨g1.tr bu.up, by omega, fun c a b => ?_⟩)) (fun z => f_st k0 (by decide) (by decide) z_in0 (f_st k1 (by decide) (by decide) ⟨by decide, by decide⟩ (f_st k3 (by decide) (by decide) ⟨by decide, by decide⟩ (q _ (fun b j x y w => ?_) ⟨?_, fun j x y => ?_⟩ ⟨?_, fun j x => ?_⟩ ?_))))
  · rw [up_e]
    split
    · rfl
    · exact g3 c a (by omega)
  · rw [up_a w, up_a y, up_a x, g1 b j x]
  · rw [up_a d.2.1, up_a d.1, up_s]
  · rw [up_a d.2.1, up_a d.1, up_n (by omega), g3 j (by omega) (by omega)]
  · rw [up_a d.2.2, up_s]
  · rw [up_a d.2.2, up_n (by omega), up_a (Ne.symm d.1), g1 _ _ (Ne.symm d.1)]
  · rw [up_s]
end LB
/-- parents, comings and depths that belong together -/
def TP (p cm d : Int → Int) : Prop := d 0 = 0 ∧ (∀ k, 1 ≤ k → k < 24 → (0 ≤ p k ∧ p k < 24) ∧ d k = d (p k) + 1 ∧ 1 ≤ d k ∧ d k ≤ 4) ∧ ∀ k, 1 ≤ k → k < 24 → 0 ≤ cm k ∧ cm k ≤ 4000
def Wt (e : Int) : Int := if e = 1 then 68719476736 else if e = 2 then 16777216 else if e = 3 then 4096 else 1
theorem Wt_s {e : Int} (h0 : 1 ≤ e) (h1 : e < 4) : Wt e = 4096 * Wt (e + 1) := by
  rcases (show e = 1 ∨ e = 2 ∨ e = 3 by omega) with rfl | rfl | rfl <;> decide
theorem Wt_b (e : Int) : 1 ≤ Wt e ∧ Wt e ≤ 68719476736 := by
  unfold Wt
  split
  · decide
  · split
    · decide
    · split <;> decide
def kyf (p cm : Int → Int) : Nat → Int → Int
  | 0, _ => 0
  | m + 1, k => kyf p cm m (p k) + cm k * Wt ((m : Int) + 1)
def ky (p cm d : Int → Int) (k : Int) : Int := kyf p cm (d k).toNat k
section TT
variable {p cm d : Int → Int}
theorem TP.b (t : TP p cm d) {k : Int} (h0 : 0 ≤ k) (h1 : k < 24) : 0 ≤ d k ∧ d k ≤ 4 := by
  by_cases e : k = 0
  · subst e
    have := t.1
    omega
  · have := t.2.1 k (by omega) h1
    omega
theorem TP.z (t : TP p cm d) {k : Int} (h0 : 0 ≤ k) (h1 : k < 24) (e : d k = 0) : k = 0 := by
  by_cases z : k = 0
  · exact z
  · have := t.2.1 k (by omega) h1
    omega
theorem ky_0 (t : TP p cm d) : ky p cm d 0 = 0 := by
  unfold ky
  rw [t.1]
  rfl
theorem ky_s (t : TP p cm d) {k : Int} (h0 : 1 ≤ k) (h1 : k < 24) : ky p cm d k = ky p cm d (p k) + cm k * Wt (d k) := by
  unfold ky
  have h := t.2.1 k h0 h1
  rw [show (d k).toNat = (d (p k)).toNat + 1 by omega]
  show _ + cm k * Wt (((d (p k)).toNat : Int) + 1) = _
  rw [show (((d (p k)).toNat : Nat) : Int) + 1 = d k by omega]
theorem kyf_b (t : TP p cm d) : ∀ (m : Nat) (k : Int), 0 ≤ k → k < 24 → d k = m → 0 ≤ kyf p cm m k ∧ kyf p cm m k ≤ 300000000000000 * m := by
  intro m
  induction m with
  | zero =>
    intro k _ _ _
    show 0 ≤ (0 : Int) ∧ (0 : Int) ≤ _
    omega
  | succ m ih =>
    intro k h0 h1 hd
    have hk : k ≠ 0 := fun e => by
      subst e
      have := t.1
      omega
    have h := t.2.1 k (by omega) h1
    have hc := t.2.2 k (by omega) h1
    have i := ih (p k) h.1.1 h.1.2 (by omega)
    have w := Wt_b ((m : Int) + 1)
    have hm := mul_bd (a := cm k) (b := Wt ((m : Int) + 1)) (A := 4000) (B := 68719476736) hc.1 hc.2 (by omega) w.2
    show 0 ≤ kyf p cm m (p k) + cm k * Wt ((m : Int) + 1) ∧ kyf p cm m (p k) + cm k * Wt ((m : Int) + 1) ≤ _
    omega
theorem ky_b (t : TP p cm d) {k : Int} (h0 : 0 ≤ k) (h1 : k < 24) : 0 ≤ ky p cm d k ∧ ky p cm d k ≤ 1200000000000000 := by
  have h := t.b h0 h1
  have := kyf_b t (d k).toNat k h0 h1 (by omega)
  unfold ky
  omega
section TM
variable {h : Zm} {F : Nat → Int → Int} {a b : Nat}
theorem l_depthOf {Q : Int → Zm → Prop} {k : Int} (ka : zkd h a = (1, 24)) (hp : ∀ j, 1 ≤ j → j < 24 → F a j = p j) (t : TP p cm d) (h0 : 0 ≤ k) (h1 : k < 24) (q : Q (d k) (zwI h F)) : mL_depthOf a k (zwI h F) Q := by
  unfold mL_depthOf mL_depthOf_H4
  refine lfp2_i (fun _ y _ => (d y).toNat) (fun x y m => m = zwI h F ∧ (0 ≤ y ∧ y < 24) ∧ x + d y = d k ∧ 0 ≤ x) (fun X x y m hI hX => ?_) 0 k _ ⟨rfl, ⟨h0, h1⟩, by omega, by decide⟩
  obtain ⟨rfl, hy, hd, hx⟩ := hI
  have hb := t.b hy.1 hy.2
  have hbk := t.b h0 h1
  unfold mL_depthOf_B4
  refine f_le ⟨by omega, by omega⟩ z_in0 (fun z => ?_) (fun z => ?_)
  · have e : y = 0 := by omega
    subst e
    rw [t.1] at hd
    rw [show x = d k by omega]
    exact q
  · have hs := t.2.1 y (by omega) hy.2
    exact f_ldv (v := p y) ka (by omega) (by omega) (hp y (by omega) hy.2) fun _ => hX _ _ _ ⟨rfl, hs.1, by omega, by omega⟩ (by omega)
theorem l_keyOf {Q : Int → Zm → Prop} {k : Int} (ka : zkd h a = (1, 24)) (kb : zkd h b = (1, 24)) (hp : ∀ j, 1 ≤ j → j < 24 → F a j = p j) (hc : ∀ j, 1 ≤ j → j < 24 → F b j = cm j) (t : TP p cm d) (h0 : 0 ≤ k) (h1 : k < 24) (q : Q (ky p cm d k) (zwI h F)) : mL_keyOf a b k (zwI h F) Q := by
  unfold mL_keyOf
  refine l_depthOf ka hp t h0 h1 ?_
  unfold mL_keyOf_H16
  have hbk := t.b h0 h1
  refine lfp3_i (fun _ _ z _ => z.toNat) (fun x y z m => m = zwI h F ∧ (0 ≤ y ∧ y < 24) ∧ d y = z ∧ x + kyf p cm z.toNat y = ky p cm d k) (fun X x y z m hI hX => ?_) 0 k (d k) _ ⟨rfl, ⟨h0, h1⟩, rfl, by unfold ky; omega⟩
  obtain ⟨rfl, hy, hd, hx⟩ := hI
  have hb := t.b hy.1 hy.2
  unfold mL_keyOf_B16
  refine f_le ⟨by omega, by omega⟩ z_in0 (fun c => ?_) (fun c => ?_)
  · rw [show z.toNat = 0 by omega] at hx
    have hx : x + 0 = ky p cm d k := hx
    rw [show x = ky p cm d k by omega]
    exact q
  · have hy1 : y ≠ 0 := fun e => by
      subst e
      have := t.1
      omega
    have hs := t.2.1 y (by omega) hy.2
    have hcm := t.2.2 y (by omega) hy.2
    refine f_ldv (v := cm y) kb (by omega) (by omega) (hc y (by omega) hy.2) fun r => ⟨r, ?_⟩
    unfold mL_keyOf_H32
    refine lfp2_i (fun _ w _ => (4 - w).toNat) (fun u w m => m = zwI h F ∧ (z ≤ w ∧ w ≤ 4) ∧ u * Wt w = cm y * Wt z) (fun X2 u w m hI hX2 => ?_) (cm y) z _ ⟨rfl, ⟨by omega, by omega⟩, rfl⟩
    obtain ⟨rfl, hw, hu⟩ := hI
    unfold mL_keyOf_B32
    refine f_lt ⟨by omega, by omega⟩ ⟨by decide, by decide⟩ (fun c2 => hX2 _ _ _ ⟨rfl, ⟨by omega, by omega⟩, ?_⟩ (by omega)) (fun c2 => ?_)
    · rw [Int.mul_assoc, ← Wt_s (by omega) c2]
      exact hu
    · refine f_ldv (v := p y) ka (by omega) (by omega) (hp y (by omega) hy.2) fun _ => hX _ _ _ _ ⟨rfl, hs.1, by omega, ?_⟩ (by omega)
      have hw4 : w = 4 := by omega
      subst hw4
      rw [show Wt 4 = 1 from by decide, Int.mul_one] at hu
      rw [show z.toNat = (z + -1).toNat + 1 by omega] at hx
      have hx : x + (kyf p cm (z + -1).toNat (p y) + cm y * Wt (((z + -1).toNat : Int) + 1)) = ky p cm d k := hx
      rw [show (((z + -1).toNat : Nat) : Int) + 1 = z by omega] at hx
      omega
/-- what next finds -/
def NX (K key : Int → Int) (last r : Int) : Prop := (r = -1 ∧ ∀ j, 1 ≤ j → j < 24 → 0 < K j → ¬ last < key j) ∨ ((1 ≤ r ∧ r < 24) ∧ 0 < K r ∧ last < key r ∧ ∀ j, 1 ≤ j → j < 24 → 0 < K j → last < key j → key r ≤ key j)
theorem l_next {Q : Int → Zm → Prop} {c : Nat} {K : Int → Int} {last : Int} (kc : zkd h c = (1, 24)) (ka : zkd h a = (1, 24)) (kb : zkd h b = (1, 24)) (hK : ∀ j, 1 ≤ j → j < 24 → F c j = K j ∧ -1 ≤ K j ∧ K j ≤ 2) (hp : ∀ j, 1 ≤ j → j < 24 → F a j = p j) (hc : ∀ j, 1 ≤ j → j < 24 → F b j = cm j) (t : TP p cm d) (hl : 0 ≤ last ∧ last ≤ 1200000000000000) (q : ∀ r, NX K (ky p cm d) last r → Q r (zwI h F)) : mL_next c a b last (zwI h F) Q := by
  unfold mL_next mL_next_H9
  refine lfp3_i (fun _ _ z _ => (24 - z).toNat) (fun x y z m => m = zwI h F ∧ (1 ≤ z ∧ z ≤ 24) ∧ ((x = -1 ∧ ∀ j, 1 ≤ j → j < z → 0 < K j → ¬ last < ky p cm d j) ∨ ((1 ≤ x ∧ x < z) ∧ 0 < K x ∧ last < ky p cm d x ∧ y = ky p cm d x ∧ ∀ j, 1 ≤ j → j < z → 0 < K j → last < ky p cm d j → ky p cm d x ≤ ky p cm d j))) (fun X x y z m hI hX => ?_) (-1) 0 1 _ ⟨rfl, ⟨by decide, by decide⟩, Or.inl ⟨rfl, fun j a b => by omega⟩⟩
  obtain ⟨rfl, hz, hI⟩ := hI
  unfold mL_next_B9
  refine f_lt ⟨by omega, by omega⟩ ⟨by decide, by decide⟩ (fun c1 => ?_) (fun c1 => ?_)
  · refine l_keyOf ka kb hp hc t (by omega) c1 ?_
    have hb := ky_b t (show 0 ≤ z by omega) c1
    obtain ⟨k1, k2, k3⟩ := hK z hz.1 c1
    have skip : ¬ (0 < K z ∧ last < ky p cm d z) → X x y (z + 1) (zwI h F) := fun no => by
      refine hX _ _ _ _ ⟨rfl, ⟨by omega, by omega⟩, ?_⟩ (by omega)
      rcases hI with ⟨e, f⟩ | ⟨e, f1, f2, f3, f4⟩
      · refine Or.inl ⟨e, fun j u v w s => ?_⟩
        by_cases g : j = z
        · subst g; exact no ⟨w, s⟩
        · exact f j u (by omega) w s
      · refine Or.inr ⟨⟨e.1, by omega⟩, f1, f2, f3, fun j u v w s => ?_⟩
        by_cases g : j = z
        · subst g; exact absurd ⟨w, s⟩ no
        · exact f4 j u (by omega) w s
    have take : 0 < K z → last < ky p cm d z → (x < 0 ∨ ky p cm d z < ky p cm d x) → X z (ky p cm d z) (z + 1) (zwI h F) := fun g1 g2 g3 => by
      refine hX _ _ _ _ ⟨rfl, ⟨by omega, by omega⟩, Or.inr ⟨⟨hz.1, by omega⟩, g1, g2, rfl, fun j u v w s => ?_⟩⟩ (by omega)
      by_cases g : j = z
      · subst g; exact Int.le_refl _
      · rcases hI with ⟨e, f⟩ | ⟨e, f1, f2, f3, f4⟩
        · exact absurd s (f j u (by omega) w)
        · have := f4 j u (by omega) w s
          omega
    refine f_ldv (v := K z) kc (by omega) (by omega) k1 fun r => f_le r z_in0 (fun c2 => skip fun g => by omega) (fun c2 => ⟨⟨⟨by omega, by omega⟩, ⟨by omega, by omega⟩⟩, ?_⟩)
    by_cases c3 : last < ky p cm d z
    · rw [if_pos c3]
      refine f_le ⟨by decide, by decide⟩ z_in0 (fun c4 => by omega) (fun c4 => ?_)
      rcases hI with ⟨e, f⟩ | ⟨e, f1, f2, f3, f4⟩
      · exact f_lt ⟨by omega, by omega⟩ z_in0 (fun _ => take c2 c3 (Or.inl (by omega))) (fun c5 => by omega)
      · have hbx := ky_b t (show 0 ≤ x by omega) (show x < 24 by omega)
        refine f_lt ⟨by omega, by omega⟩ z_in0 (fun c5 => by omega) (fun c5 => ⟨⟨⟨by omega, by omega⟩, ⟨by omega, by omega⟩⟩, ?_⟩)
        by_cases c6 : y < ky p cm d z
        · rw [if_pos c6]
          refine f_lt ⟨by decide, by decide⟩ z_in0 (fun c7 => by omega) (fun _ => ?_)
          refine hX _ _ _ _ ⟨rfl, ⟨by omega, by omega⟩, Or.inr ⟨⟨e.1, by omega⟩, f1, f2, f3, fun j u v w s => ?_⟩⟩ (by omega)
          by_cases g : j = z
          · subst g; omega
          · exact f4 j u (by omega) w s
        · rw [if_neg c6]
          by_cases c7 : ky p cm d z = y
          · rw [if_pos c7]
            refine f_lt z_in0 z_in0 (fun c8 => by omega) (fun _ => ?_)
            refine hX _ _ _ _ ⟨rfl, ⟨by omega, by omega⟩, Or.inr ⟨⟨e.1, by omega⟩, f1, f2, f3, fun j u v w s => ?_⟩⟩ (by omega)
            by_cases g : j = z
            · subst g; omega
            · exact f4 j u (by omega) w s
          · rw [if_neg c7]
            exact f_lt ⟨by decide, by decide⟩ z_in0 (fun _ => take c2 c3 (Or.inr (by omega))) (fun c8 => by omega)
    · rw [if_neg c3]
      by_cases c4 : ky p cm d z = last
      · rw [if_pos c4]
        exact f_le z_in0 z_in0 (fun _ => skip fun g => c3 g.2) (fun c5 => by omega)
      · rw [if_neg c4]
        exact f_le ⟨by decide, by decide⟩ z_in0 (fun _ => skip fun g => c3 g.2) (fun c5 => by omega)
  · have e24 : z = 24 := by omega
    subst e24
    refine q x ?_
    rcases hI with ⟨e, f⟩ | ⟨e, f1, f2, f3, f4⟩
    · exact Or.inl ⟨e, f⟩
    · exact Or.inr ⟨e, f1, f2, f4⟩
end TM
end TT
