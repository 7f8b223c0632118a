/-! a separated pixel: sums, likeness, order -/
def sm (f : Int → Int) : Nat → Int
  | 0 => 0
  | n + 1 => sm f n + f n
def smI (f : Int → Int) (k : Int) : Int := sm f k.toNat
theorem smI_0 (f : Int → Int) : smI f 0 = 0 := rfl
theorem smI_s (f : Int → Int) {k : Int} (hk : 0 ≤ k) : smI f (k + 1) = smI f k + f k := by
  unfold smI
  rw [show (k + 1).toNat = k.toNat + 1 by omega]
  show sm f k.toNat + f (k.toNat : Int) = _
  rw [Int.toNat_of_nonneg hk]
theorem sm_b {f : Int → Int} {m : Int} : ∀ n : Nat, (∀ i : Int, 0 ≤ i → i < n → 0 ≤ f i ∧ f i ≤ m) → 0 ≤ sm f n ∧ sm f n ≤ m * n := by
  intro n
  induction n with
  | zero => intro _; exact ⟨Int.le_refl _, by show (0 : Int) ≤ m * 0; rw [Int.mul_zero]; decide⟩
  | succ n ih =>
    intro hf
    have h1 := ih (fun i a b => hf i a (by omega))
    have h2 := hf n (by omega) (by omega)
    have h3 : m * ((n + 1 : Nat) : Int) = m * n + m := by
      rw [show ((n + 1 : Nat) : Int) = (n : Int) + 1 by omega, Int.mul_add, Int.mul_one]
    show 0 ≤ sm f n + f n ∧ sm f n + f n ≤ _
    omega
theorem smI_b {f : Int → Int} {m k : Int} (hk : 0 ≤ k) (hf : ∀ i : Int, 0 ≤ i → i < k → 0 ≤ f i ∧ f i ≤ m) : 0 ≤ smI f k ∧ smI f k ≤ m * k := by
  have := sm_b (f := f) (m := m) k.toNat (fun i a b => hf i a (by omega))
  rw [Int.toNat_of_nonneg hk] at this
  exact this
theorem smI_c {f f' : Int → Int} {k : Int} (hf : ∀ i : Int, 0 ≤ i → i < k → f i = f' i) : smI f k = smI f' k := by
  unfold smI
  have key : ∀ n : Nat, n ≤ k.toNat → sm f n = sm f' n := by
    intro n
    induction n with
    | zero => intro _; rfl
    | succ n ih =>
      intro h
      show sm f n + f n = sm f' n + f' n
      rw [ih (by omega), hf n (by omega) (by omega)]
  exact key _ (Nat.le_refl _)
def r7 (A : Int → Int) : Prop := ∀ i, 0 ≤ i → i < 7 → 0 ≤ A i ∧ A i ≤ 1785
theorem b7.r7 {B : Int → Int} (h : b7 B) : r7 B := fun i a b => by have := h i a b; omega
abbrev tl (A : Int → Int) (p : Int) : Int := if p = 7 then smI A 7 else A p
theorem tl_b {A : Int → Int} (h : r7 A) {p : Int} (h0 : 0 ≤ p) (h1 : p ≤ 7) : 0 ≤ tl A p ∧ tl A p ≤ 12495 := by
  unfold tl
  split
  · have := smI_b (f := A) (m := 1785) (k := 7) (by decide) h
    omega
  · have := h p h0 (by omega)
    omega
abbrev sm7 (B A : Int → Int) : Prop := B 0 = A 0 ∧ B 1 = A 1 ∧ B 2 = A 2 ∧ B 3 = A 3 ∧ B 4 = A 4 ∧ B 5 = A 5 ∧ B 6 = A 6
theorem sm7_i {B A : Int → Int} : sm7 B A ↔ ∀ i, 0 ≤ i → i < 7 → B i = A i := by
  constructor
  · rintro ⟨a0, a1, a2, a3, a4, a5, a6⟩ i h0 h1
    rcases (show i = 0 ∨ i = 1 ∨ i = 2 ∨ i = 3 ∨ i = 4 ∨ i = 5 ∨ i = 6 by omega) with rfl | rfl | rfl | rfl | rfl | rfl | rfl <;> assumption
  · intro h
    exact ⟨h 0 (by decide) (by decide), h 1 (by decide) (by decide), h 2 (by decide) (by decide), h 3 (by decide) (by decide), h 4 (by decide) (by decide), h 5 (by decide) (by decide), h 6 (by decide) (by decide)⟩
def bad (B A : Int → Int) (i j : Int) : Prop := B i < B j ∧ A j < A i
abbrev dsn (B A : Int → Int) : Prop := ((B 0 < B 1 ∧ A 1 < A 0) ∨ (B 0 < B 2 ∧ A 2 < A 0) ∨ (B 1 < B 0 ∧ A 0 < A 1)) ∨ ((B 1 < B 2 ∧ A 2 < A 1) ∨ (B 2 < B 0 ∧ A 0 < A 2) ∨ (B 2 < B 1 ∧ A 1 < A 2))
theorem dsn_t {B A : Int → Int} {i j : Int} (hi : 0 ≤ i ∧ i < 3) (hj : 0 ≤ j ∧ j < 3) (h : bad B A i j) : dsn B A := by
  unfold bad at h
  unfold dsn
  rcases (show i = 0 ∨ i = 1 ∨ i = 2 by omega) with rfl | rfl | rfl <;> rcases (show j = 0 ∨ j = 1 ∨ j = 2 by omega) with rfl | rfl | rfl <;> omega
theorem dsn_f {B A : Int → Int} (h : ∀ i j, 0 ≤ i → i < 3 → 0 ≤ j → j < 3 → ¬ bad B A i j) : ¬ dsn B A := by
  have h01 := h 0 1 (by decide) (by decide) (by decide) (by decide)
  have h02 := h 0 2 (by decide) (by decide) (by decide) (by decide)
  have h10 := h 1 0 (by decide) (by decide) (by decide) (by decide)
  have h12 := h 1 2 (by decide) (by decide) (by decide) (by decide)
  have h20 := h 2 0 (by decide) (by decide) (by decide) (by decide)
  have h21 := h 2 1 (by decide) (by decide) (by decide) (by decide)
  unfold bad at h01 h02 h10 h12 h20 h21
  unfold dsn
  omega
section PXX
variable {h : Zm} {F : Nat → Int → Int} {P M a b : Nat} {A B : Int → Int}
theorem s_sumOf {Q : Int → Zm → Prop} (hk : zkd h a = (1, 7)) (hF : ∀ i, 0 ≤ i → i < 7 → F a i = A i) (hA : r7 A) (q : Q (smI A 7) (zwI h F)) : mX6_sumOf a (zwI h F) Q := by
  unfold mX6_sumOf mX6_sumOf_H10
  refine f_len hk (lfp2_up2 (h := h) 7 (fun v i F' => F' = F ∧ 0 ≤ i ∧ v = smI A i) (fun X v i F' hi hI hX => ?_) 0 0 F (by decide) ⟨rfl, by decide, rfl⟩)
  obtain ⟨rfl, g2, g3⟩ := hI
  unfold mX6_sumOf_B10
  have hv := smI_b (f := A) (m := 1785) (k := i) g2 (fun c x y => hA c x (by omega))
  refine f_lt ⟨by omega, by omega⟩ ⟨by decide, by decide⟩ (fun z => f_ldv hk g2 z (hF i g2 z) fun _ => hX z _ _ ⟨rfl, by omega, ?_⟩) (fun z => ?_)
  · rw [smI_s A g2, g3]
  · have : i = 7 := by have : ((7 : Nat) : Int) = 7 := rfl; omega
    rw [g3, this]
    exact q
theorem s_sameValues {Q : Int → Zm → Prop} {ma mb : Nat} (hka : zkd h a = (1, ma)) (hkb : zkd h b = (1, mb)) (hma : 7 ≤ ma) (hmb : 7 ≤ mb) (hB : ∀ i, 0 ≤ i → i < 7 → F a i = B i) (hA : ∀ i, 0 ≤ i → i < 7 → F b i = A i) (q : Q (bi (sm7 B A)) (zwI h F)) : mX6_sameValues a b (zwI h F) Q := by
  unfold mX6_sameValues mX6_sameValues_H2
  refine lfp1_up (h := h) 7 (fun i F' => F' = F ∧ 0 ≤ i ∧ ∀ c, 0 ≤ c → c < i → B c = A c) (fun X i F' hi hI hX => ?_) 0 F (by decide) ⟨rfl, by decide, fun c x y => by omega⟩
  obtain ⟨rfl, g2, g3⟩ := hI
  unfold mX6_sameValues_B2
  refine f_lt ⟨by omega, by omega⟩ ⟨by decide, by decide⟩ (fun z => f_ldv hka g2 (by omega) (hB i g2 z) fun r1 => f_ldv hkb g2 (by omega) (hA i g2 z) fun r2 => f_eq r1 r2 (fun y => hX z _ ⟨rfl, by omega, fun c x w => ?_⟩) (fun y => ?_)) (fun z => ?_)
  · by_cases e : c = i
    · rw [e]; exact y
    · exact g3 c x (by omega)
  · rw [bi_f (fun w => y (sm7_i.mp w i g2 z))] at q
    exact q
  · rw [bi_t (sm7_i.mpr fun c x y => g3 c x (by omega))] at q
    exact q
theorem s_valueOf3 {Q : Int → Zm → Prop} {p : Int} (kp : kP h P) (hp : 0 ≤ p ∧ p ≤ 7) (hF : ∀ i, 0 ≤ i → i < 7 → F (P + 3) i = A i) (hA : r7 A) (q : Q (tl A p) (zwI h F)) : mX3_valueOf P p (zwI h F) Q := by
  unfold mX3_valueOf
  obtain ⟨⟨k1, k2, k3, k4⟩, k5, k6, k7⟩ := kp
  unfold tl at q
  refine s_within ⟨by omega, by omega⟩ z_in0 ⟨by decide, by decide⟩ (f_bi (fun z => ?_) (fun z => ?_))
  · rw [if_neg (by omega)] at q
    exact f_gr k1 k4 (f_ldv k7 (by omega) (by omega) (hF p (by omega) (by omega)) fun _ => q)
  · rw [if_pos (by omega)] at q
    exact f_gr k1 k4 (s_sumOf k7 hF hA q)
theorem s_isDisordered3 {Q : Int → Zm → Prop} (kp : kP h P) (hB : ∀ i, 0 ≤ i → i < 7 → F (P + 2) i = B i) (hA : ∀ i, 0 ≤ i → i < 7 → F (P + 3) i = A i) (q : Q (bi (dsn B A)) (zwI h F)) : mX3_isDisordered P (zwI h F) Q := by
  unfold mX3_isDisordered mX3_isDisordered_H2
  obtain ⟨⟨k1, k2, k3, k4⟩, k5, k6, k7⟩ := kp
  refine lfp1_up (h := h) 3 (fun i F' => F' = F ∧ 0 ≤ i ∧ ∀ c d, 0 ≤ c → c < i → 0 ≤ d → d < 3 → ¬ bad B A c d) (fun X i F' hi hI hX => ?_) 0 F (by decide) ⟨rfl, by decide, fun c d x y => by omega⟩
  obtain ⟨rfl, g2, g3⟩ := hI
  unfold mX3_isDisordered_B2
  refine f_lt ⟨by omega, by omega⟩ ⟨by decide, by decide⟩ (fun z => ?_) (fun z => ?_)
  · unfold mX3_isDisordered_H9
    refine lfp1_up (h := h) 3 (fun j F'' => F'' = F' ∧ 0 ≤ j ∧ ∀ d, 0 ≤ d → d < j → ¬ bad B A i d) (fun X2 j F'' hj hJ hX2 => ?_) 0 F' (by decide) ⟨rfl, by decide, fun d x y => by omega⟩
    obtain ⟨rfl, j2, j3⟩ := hJ
    unfold mX3_isDisordered_B9
    refine f_lt ⟨by omega, by omega⟩ ⟨by decide, by decide⟩ (fun y => ?_) (fun y => hX z _ ⟨rfl, by omega, fun c d x1 x2 x3 x4 => ?_⟩)
    · have nx : ¬ bad B A i j → X2 (j + 1) (zwI h F'') := fun nb => hX2 y _ ⟨rfl, by omega, fun d x w => by
        by_cases e : d = j
        · rw [e]; exact nb
        · exact j3 d x (by omega)⟩
      refine f_gr k1 k3 (f_ldv k6 g2 (by omega) (hB i g2 (by omega)) fun r1 => f_gr k1 k3 (f_ldv k6 j2 (by omega) (hB j j2 (by omega)) fun r2 => f_lt r1 r2 (fun u => f_gr k1 k4 (f_ldv k7 g2 (by omega) (hA i g2 (by omega)) fun r3 => f_gr k1 k4 (f_ldv k7 j2 (by omega) (hA j j2 (by omega)) fun r4 => f_le r3 r4 (fun v => nx (fun e => by unfold bad at e; omega)) (fun v => ?_)))) (fun u => nx (fun e => by unfold bad at e; omega))))
      rw [bi_t (dsn_t ⟨g2, z⟩ ⟨j2, y⟩ ⟨u, v⟩)] at q
      exact q
    · by_cases e : c = i
      · rw [e]; exact j3 d x3 (by omega)
      · exact g3 c d x1 (by omega) x3 x4
  · rw [bi_f (dsn_f fun i j x1 x2 x3 x4 => g3 i j x1 (by omega) x3 x4)] at q
    exact q
end PXX
