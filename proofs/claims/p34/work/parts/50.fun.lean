/-! the meanings, read: memory with a table of numbers F over a world h; rows for the pieces -/
def zwI (h : Zm) (F : Nat → Int → Int) : Zm := (h.1, F, h.2.2)
def up (F : Nat → Int → Int) (a : Nat) (i v : Int) : Nat → Int → Int := fun b k => if b = a ∧ k = i then v else F b k
theorem up_s (F : Nat → Int → Int) (a : Nat) (i v : Int) : up F a i v a i = v := if_pos ⟨rfl, rfl⟩
theorem up_n {F : Nat → Int → Int} {a b : Nat} {i k v : Int} (h : ¬ (b = a ∧ k = i)) : up F a i v b k = F b k := if_neg h
theorem up_a {F : Nat → Int → Int} {a b : Nat} {i k v : Int} (h : b ≠ a) : up F a i v b k = F b k := if_neg (fun q => h q.1)
theorem up_e {F : Nat → Int → Int} {a b : Nat} {i k v : Int} : up F a i v b k = if b = a ∧ k = i then v else F b k := rfl
section FR
variable {h : Zm} {F : Nat → Int → Int} {d a m : Nat} {i k v : Int}
theorem f_gi {Q : Int → Prop} (hk : zkd h a = (d, m)) (q : InR (F a k) → Q (F a k)) : cGi (zwI h F) d a k Q := ⟨by show (zkd h a).1 = d; rw [hk], q⟩
theorem f_giv {Q : Int → Prop} (hk : zkd h a = (d, m)) (hv : F a k = v) (q : InR v → Q v) : cGi (zwI h F) d a k Q := ⟨by show (zkd h a).1 = d; rw [hk], fun r => by have r : InR (F a k) := r; show Q (F a k); rw [hv] at r ⊢; exact q r⟩
theorem f_gr {Q : Nat → Prop} {r : Nat} (hk : zkd h a = (d, m)) (hv : zR h a k = r) (q : Q r) : cGr (zwI h F) d a k Q := ⟨by show (zkd h a).1 = d; rw [hk], by show Q (zR h a k); rw [hv]; exact q⟩
theorem f_ld {Q : Int → Prop} (hk : zkd h a = (d, m)) (h0 : 0 ≤ i) (h1 : i < (m : Int)) (q : InR (F a i) → Q (F a i)) : cLd (zwI h F) d a i Q := ⟨⟨by show (zkd h a).1 = d; rw [hk], h0, by show i < ((zkd h a).2 : Int); rw [hk]; exact h1⟩, q⟩
theorem f_ldv {Q : Int → Prop} (hk : zkd h a = (d, m)) (h0 : 0 ≤ i) (h1 : i < (m : Int)) (hv : F a i = v) (q : InR v → Q v) : cLd (zwI h F) d a i Q := f_ld hk h0 h1 (by rw [hv]; exact q)
theorem f_ldr {Q : Nat → Prop} {r : Nat} (hk : zkd h a = (d, m)) (hd : 4 ≤ d ∧ d ≤ 7) (h0 : 0 ≤ i) (h1 : i < (m : Int)) (hv : zR h a i = r) (q : Q r) : cLdR (zwI h F) a i Q := ⟨⟨by show 4 ≤ (zkd h a).1 ∧ (zkd h a).1 ≤ 7; rw [hk]; exact hd, h0, by show i < ((zkd h a).2 : Int); rw [hk]; exact h1⟩, by show Q (zR h a i); rw [hv]; exact q⟩
theorem f_st {Q : Zm → Prop} (hk : zkd h a = (1, m)) (h0 : 0 ≤ i) (h1 : i < (m : Int)) (hv : InR v) (q : Q (zwI h (up F a i v))) : cSt (zwI h F) a i v Q := ⟨⟨by show (zkd h a).1 = 1; rw [hk], h0, by show i < ((zkd h a).2 : Int); rw [hk]; exact h1⟩, hv, q⟩
theorem f_pi {Q : Zm → Prop} (hk : zkd h a = (d, m)) (hv : InR v) (q : Q (zwI h (up F a k v))) : cPi (zwI h F) d a k v Q := ⟨by show (zkd h a).1 = d; rw [hk], hv, q⟩
theorem f_rc {P : Prop} (hk : zkd h a = (d, m)) (q : P) : cRc (zwI h F) d a P := ⟨by show (zkd h a).1 = d; rw [hk], q⟩
theorem f_len {Q : Int → Prop} (hk : zkd h a = (1, m)) (q : Q (m : Int)) : cLen (zwI h F) a Q := ⟨Or.inl (by show (zkd h a).1 = 1; rw [hk]), by show Q ((zkd h a).2 : Int); rw [hk]; exact q⟩
end FR
theorem f_lt {a b : Int} {A B : Prop} (ha : InR a) (hb : InR b) (t : a < b → A) (f : b ≤ a → B) : cLt a b A B := ⟨⟨ha, hb⟩, t, fun q => f (by omega)⟩
theorem f_le {a b : Int} {A B : Prop} (ha : InR a) (hb : InR b) (t : a ≤ b → A) (f : b < a → B) : cLe a b A B := ⟨⟨ha, hb⟩, t, fun q => f (by omega)⟩
theorem f_eq {a b : Int} {A B : Prop} (ha : InR a) (hb : InR b) (t : a = b → A) (f : a ≠ b → B) : cEq a b A B := ⟨⟨ha, hb⟩, t, f⟩
/-- a truth as a number -/
def bi (p : Prop) [Decidable p] : Int := if p then 1 else 0
theorem bi_t {p : Prop} [Decidable p] (h : p) : bi p = 1 := if_pos h
theorem bi_f {p : Prop} [Decidable p] (h : ¬ p) : bi p = 0 := if_neg h
theorem f_bi {p : Prop} [Decidable p] {A B : Prop} (t : p → B) (f : ¬ p → A) : cEq (bi p) 0 A B := by
  by_cases q : p
  · rw [bi_t q]
    exact f_eq ⟨by decide, by decide⟩ z_in0 (fun z => absurd z (by decide)) (fun _ => t q)
  · rw [bi_f q]
    exact f_eq z_in0 z_in0 (fun _ => f q) (fun z => absurd rfl z)
theorem bi_01 (p : Prop) [Decidable p] : bi p = 0 ∨ bi p = 1 := by
  unfold bi
  split
  · exact Or.inr rfl
  · exact Or.inl rfl
theorem lfp1_i {B : (Int → Zm → Prop) → Int → Zm → Prop} (μ : Int → Zm → Nat) (I : Int → Zm → Prop) (hs : ∀ (X : Int → Zm → Prop) (x : Int) (m : Zm), I x m → (∀ x' m', I x' m' → μ x' m' < μ x m → X x' m') → B X x m) : ∀ x m, I x m → lfp1 B x m := by
  intro x m hm X hX
  have key : ∀ (n : Nat) (x : Int) (m : Zm), μ x m < n → I x m → X x m := by
    intro n
    induction n with
    | zero => intro x m h; omega
    | succ n ih => intro x m h hI; exact hX x m (hs X x m hI (fun x' m' hI' hlt => ih x' m' (by omega) hI'))
  exact key _ x m (Nat.lt_succ_self _) hm
theorem lfp2_i {B : (Int → Int → Zm → Prop) → Int → Int → Zm → Prop} (μ : Int → Int → Zm → Nat) (I : Int → Int → Zm → Prop) (hs : ∀ (X : Int → Int → Zm → Prop) (x y : Int) (m : Zm), I x y m → (∀ x' y' m', I x' y' m' → μ x' y' m' < μ x y m → X x' y' m') → B X x y m) : ∀ x y m, I x y m → lfp2 B x y m := by
  intro x y m hm X hX
  have key : ∀ (n : Nat) (x y : Int) (m : Zm), μ x y m < n → I x y m → X x y m := by
    intro n
    induction n with
    | zero => intro x y m h; omega
    | succ n ih => intro x y m h hI; exact hX x y m (hs X x y m hI (fun x' y' m' hI' hlt => ih x' y' m' (by omega) hI'))
  exact key _ x y m (Nat.lt_succ_self _) hm
/-- counting up to N, the memory's numbers going along -/
theorem lfp1_up {h : Zm} {B : (Int → Zm → Prop) → Int → Zm → Prop} (N : Int) (I : Int → (Nat → Int → Int) → Prop) (hs : ∀ (X : Int → Zm → Prop) (x : Int) (F : Nat → Int → Int), x ≤ N → I x F → (x < N → ∀ F', I (x + 1) F' → X (x + 1) (zwI h F')) → B X x (zwI h F)) : ∀ x F, x ≤ N → I x F → lfp1 B x (zwI h F) := by
  intro x F hx hI
  refine lfp1_i (fun x _ => (N - x).toNat) (fun x m => ∃ F, m = zwI h F ∧ x ≤ N ∧ I x F) (fun X x m hm hX => ?_) x _ ⟨F, rfl, hx, hI⟩
  obtain ⟨F, rfl, h1, h2⟩ := hm
  exact hs X x F h1 h2 (fun hlt F' hI' => hX _ _ ⟨F', rfl, by omega, hI'⟩ (by omega))
/-- a sum (or a count, a best one) along with the counter: the counter first -/
theorem lfp2_up {h : Zm} {B : (Int → Int → Zm → Prop) → Int → Int → Zm → Prop} (N : Int) (I : Int → Int → (Nat → Int → Int) → Prop) (hs : ∀ (X : Int → Int → Zm → Prop) (x y : Int) (F : Nat → Int → Int), x ≤ N → I x y F → (x < N → ∀ y' F', I (x + 1) y' F' → X (x + 1) y' (zwI h F')) → B X x y (zwI h F)) : ∀ x y F, x ≤ N → I x y F → lfp2 B x y (zwI h F) := by
  intro x y F hx hI
  refine lfp2_i (fun x _ _ => (N - x).toNat) (fun x y m => ∃ F, m = zwI h F ∧ x ≤ N ∧ I x y F) (fun X x y m hm hX => ?_) x y _ ⟨F, rfl, hx, hI⟩
  obtain ⟨F, rfl, h1, h2⟩ := hm
  exact hs X x y F h1 h2 (fun hlt y' F' hI' => hX _ _ _ ⟨F', rfl, by omega, hI'⟩ (by omega))
/-- the counter second -/
theorem lfp2_up2 {h : Zm} {B : (Int → Int → Zm → Prop) → Int → Int → Zm → Prop} (N : Int) (I : Int → Int → (Nat → Int → Int) → Prop) (hs : ∀ (X : Int → Int → Zm → Prop) (y x : Int) (F : Nat → Int → Int), x ≤ N → I y x F → (x < N → ∀ y' F', I y' (x + 1) F' → X y' (x + 1) (zwI h F')) → B X y x (zwI h F)) : ∀ y x F, x ≤ N → I y x F → lfp2 B y x (zwI h F) := by
  intro y x F hx hI
  refine lfp2_i (fun _ x _ => (N - x).toNat) (fun y x m => ∃ F, m = zwI h F ∧ x ≤ N ∧ I y x F) (fun X y x m hm hX => ?_) y x _ ⟨F, rfl, hx, hI⟩
  obtain ⟨F, rfl, h1, h2⟩ := hm
  exact hs X y x F h1 h2 (fun hlt y' F' hI' => hX _ _ _ ⟨F', rfl, by omega, hI'⟩ (by omega))
-- small methods without memory
theorem s_within {x y z : Int} {m : Zm} {Q : Int → Zm → Prop} (hx : InR x) (hy : InR y) (hz : InR z) (q : Q (bi (y ≤ x ∧ x ≤ z)) m) : mX6_within x y z m Q := by
  unfold mX6_within
  refine f_le hy hx (fun c1 => f_le hx hz (fun c2 => ?_) (fun c2 => ?_)) (fun c1 => ?_)
  · rw [bi_t ⟨c1, c2⟩] at q; exact q
  · rw [bi_f (by omega)] at q; exact q
  · rw [bi_f (by omega)] at q; exact q
theorem s_max {x y : Int} {m : Zm} {Q : Int → Zm → Prop} (hx : InR x) (hy : InR y) (q : Q (max x y) m) : mJ9_max_7cf53 x y m Q := by
  unfold mJ9_max_7cf53
  refine f_lt hx hy (fun c => ?_) (fun c => ?_)
  · rw [show max x y = y by omega] at q; exact q
  · rw [show max x y = x by omega] at q; exact q
theorem s_min {x y : Int} {m : Zm} {Q : Int → Zm → Prop} (hx : InR x) (hy : InR y) (q : Q (min x y) m) : mJ9_min_7cf53 x y m Q := by
  unfold mJ9_min_7cf53
  refine f_le hx hy (fun c => ?_) (fun c => ?_)
  · rw [show min x y = x by omega] at q; exact q
  · rw [show min x y = y by omega] at q; exact q
theorem tdiv_pos {x y : Int} (hx : 0 ≤ x) : x.tdiv y = x / y := Int.tdiv_eq_ediv_of_nonneg hx
theorem tmod_np {x y : Int} (hx : x < 0) : x.tmod y ≤ 0 := by
  have h := Int.tmod_nonneg (a := -x) y (by omega)
  rw [Int.neg_tmod] at h
  omega
/-- the division that rounds down, by one that rounds to 0 -/
theorem fdiv_neg {x y : Int} (hx : x < 0) (hy : 0 < y) : x / y = if x.tdiv y * y = x then x.tdiv y else x.tdiv y - 1 := by
  have h1 := Int.mul_tdiv_add_tmod x y
  have h2 := tmod_np (y := y) hx
  have h3 := Int.lt_tmod_of_pos x hy
  have h4 := Int.mul_ediv_add_emod x y
  have h5 := Int.emod_nonneg x (Int.ne_of_gt hy)
  have h6 := Int.emod_lt_of_pos x hy
  have hc : y * x.tdiv y = x.tdiv y * y := Int.mul_comm _ _
  split
  · rename_i h7
    refine Int.ediv_eq_of_eq_mul_left (Int.ne_of_gt hy) h7.symm
  · rename_i h7
    have e : x = (x.tmod y + y) + y * (x.tdiv y - 1) := by rw [Int.mul_sub, Int.mul_one]; omega
    rw [e, Int.add_mul_ediv_left _ _ (Int.ne_of_gt hy), Int.ediv_eq_zero_of_lt (by omega) (by omega)]
    rw [← e]
    omega
theorem s_floorDiv {x y : Int} {m : Zm} {Q : Int → Zm → Prop} (hx : InR x) (hy : 0 < y ∧ y ≤ 2147483647) (q : Q (x / y) m) : mJ9_floorDiv_7cf53 x y m Q := by
  unfold mJ9_floorDiv_7cf53
  refine ⟨hx, hy, ⟨hx, ⟨by omega, by omega⟩⟩, fun w hw hs => f_lt hw z_in0 (fun c => ?_) (fun c => ?_)⟩
  · have hxn : x < 0 := by omega
    have h1 := Int.mul_tdiv_add_tmod x y
    have hc : y * x.tdiv y = x.tdiv y * y := Int.mul_comm _ _
    have h2 := tmod_np (y := y) hxn
    have h3 := Int.lt_tmod_of_pos x hy.1
    rw [fdiv_neg hxn hy.1] at q
    refine f_eq ⟨by have := hx.1; omega, by omega⟩ hx (fun e => ?_) (fun e => ?_)
    · rw [if_pos e] at q; exact q
    · rw [if_neg e] at q; exact q
  · rw [tdiv_pos (by omega)]; exact q
