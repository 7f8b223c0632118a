/-! totals, ranks, needs: the class's -/
theorem smI_swap (f : Int → Int → Int) (N : Int) {m : Int} (hm : 0 ≤ m) : smI (fun p => smI (f p) N) m = smI (fun k => smI (fun p => f p k) m) N := by
  have key : ∀ a : Nat, smI (fun p => smI (f p) N) a = smI (fun k => smI (fun p => f p k) a) N := by
    intro a
    induction a with
    | zero =>
      show (0 : Int) = _
      have hz : ∀ b : Nat, sm (fun k => smI (fun p => f p k) (0 : Nat)) b = 0 := by
        intro b
        induction b with
        | zero => rfl
        | succ b ih =>
          show sm _ b + 0 = 0
          rw [ih]
          rfl
      exact (hz _).symm
    | succ a ih =>
      rw [show ((a + 1 : Nat) : Int) = (a : Int) + 1 by omega, smI_s _ (by omega), ih]
      have hadd : ∀ (u v : Int → Int) (b : Nat), sm (fun k => u k + v k) b = sm u b + sm v b := by
        intro u v b
        induction b with
        | zero => rfl
        | succ b ih2 =>
          show sm _ b + (u b + v b) = sm u b + u b + (sm v b + v b)
          rw [ih2]
          omega
      have e : (fun k => smI (fun p => f p k) ((a : Int) + 1)) = fun k => smI (fun p => f p k) a + f a k := by
        funext k
        exact smI_s _ (by omega)
      rw [e]
      unfold smI
      rw [hadd]
  have := key m.toNat
  rw [Int.toNat_of_nonneg hm] at this
  exact this
/-- the last one below n with value v, -4 without one -/
def fnd (f : Int → Int) (v : Int) (n : Int) : Int := Nat.rec (-4) (fun (i : Nat) (r : Int) => if f i = v then (i : Int) else r) n.toNat
theorem fnd_0 (f : Int → Int) (v : Int) : fnd f v 0 = -4 := rfl
theorem fnd_s (f : Int → Int) (v : Int) {n : Int} (hn : 0 ≤ n) : fnd f v (n + 1) = if f n = v then n else fnd f v n := by
  unfold fnd
  rw [show (n + 1).toNat = n.toNat + 1 by omega]
  show (if f (n.toNat : Int) = v then (n.toNat : Int) else _) = _
  rw [Int.toNat_of_nonneg hn]
theorem fnd_n {f : Int → Int} {v n : Int} (hn : 0 ≤ n) (h : ∀ i, 0 ≤ i → i < n → f i ≠ v) : fnd f v n = -4 := by
  have key : ∀ m : Nat, m ≤ n.toNat → fnd f v m = -4 := by
    intro m
    induction m with
    | zero => intro _; rfl
    | succ m ih =>
      intro hm
      rw [show ((m + 1 : Nat) : Int) = (m : Int) + 1 by omega, fnd_s _ _ (by omega), if_neg (h m (by omega) (by omega))]
      exact ih (by omega)
  have := key n.toNat (Nat.le_refl _)
  rw [Int.toNat_of_nonneg hn] at this
  exact this
theorem fnd_u {f : Int → Int} {v n p : Int} (h0 : 0 ≤ p) (h1 : p < n) (hp : f p = v) (h : ∀ i, p < i → i < n → f i ≠ v) : fnd f v n = p := by
  have key : ∀ m : Nat, p + 1 + m ≤ n → fnd f v (p + 1 + m) = p := by
    intro m
    induction m with
    | zero => intro _; rw [show p + 1 + ((0 : Nat) : Int) = p + 1 by omega, fnd_s _ _ h0, if_pos hp]
    | succ m ih =>
      intro hm
      rw [show p + 1 + ((m + 1 : Nat) : Int) = (p + 1 + (m : Int)) + 1 by omega, fnd_s _ _ (by omega), if_neg (h _ (by omega) (by omega))]
      exact ih (by omega)
  have := key (n - (p + 1)).toNat (by omega)
  rw [show p + 1 + (((n - (p + 1)).toNat : Nat) : Int) = n by omega] at this
  exact this
/-- how many of the first n stand before p -/
def rk (R : Int → Int → Prop) [∀ i j, Decidable (R i j)] (n p : Int) : Int := smI (fun i => bi (R i p)) n
theorem bi_b (p : Prop) [Decidable p] : 0 ≤ bi p ∧ bi p ≤ 1 := by
  rcases bi_01 p with e | e <;> rw [e] <;> decide
theorem rk_b (R : Int → Int → Prop) [∀ i j, Decidable (R i j)] {n p : Int} (hn : 0 ≤ n) : 0 ≤ rk R n p ∧ rk R n p ≤ n := by
  have := smI_b (f := fun i => bi (R i p)) (m := 1) hn (fun i _ _ => bi_b _)
  unfold rk
  omega
theorem rk_lt (R : Int → Int → Prop) [∀ i j, Decidable (R i j)] {n a b : Int} (hn : 0 ≤ n) (hab : R a b) (haa : ¬ R a a) (ha : 0 ≤ a) (han : a < n) (ht : ∀ i, 0 ≤ i → i < n → R i a → R i b) : rk R n a < rk R n b := by
  have key : ∀ m : Nat, (m : Int) ≤ n → smI (fun i => bi (R i a)) m ≤ smI (fun i => bi (R i b)) m ∧ (a < m → smI (fun i => bi (R i a)) m < smI (fun i => bi (R i b)) m) := by
    intro m
    induction m with
    | zero => intro _; exact ⟨Int.le_refl _, fun h => by omega⟩
    | succ m ih =>
      intro hm
      have h1 := ih (by omega)
      have h2 := bi_b (R m a)
      have h3 := bi_b (R m b)
      have h4 : bi (R m a) ≤ bi (R m b) := by
        by_cases e : R m a
        · rw [bi_t e, bi_t (ht m (by omega) (by omega) e)]
          exact Int.le_refl _
        · rw [bi_f e]
          exact h3.1
      rw [show ((m + 1 : Nat) : Int) = (m : Int) + 1 by omega, smI_s _ (by omega), smI_s _ (by omega)]
      refine ⟨by omega, fun h => ?_⟩
      by_cases e : a = m
      · have e1 : bi (R m a) = 0 := bi_f (by rw [← e]; exact haa)
        have e2 : bi (R m b) = 1 := bi_t (by rw [← e]; exact hab)
        omega
      · have := h1.2 (by omega)
        omega
  have := (key n.toNat (by omega)).2 (by omega)
  rw [Int.toNat_of_nonneg hn] at this
  exact this
/-- ranks under a strict total order differ -/
theorem rk_inj (R : Int → Int → Prop) [∀ i j, Decidable (R i j)] {n : Int} (hn : 0 ≤ n) (hi : ∀ i, ¬ R i i) (ht : ∀ i j k, R i j → R j k → R i k) (hc : ∀ i j, 0 ≤ i → i < n → 0 ≤ j → j < n → i ≠ j → R i j ∨ R j i) {a b : Int} (ha : 0 ≤ a ∧ a < n) (hb : 0 ≤ b ∧ b < n) (h : rk R n a = rk R n b) : a = b := by
  by_cases e : a = b
  · exact e
  · rcases hc a b ha.1 ha.2 hb.1 hb.2 e with r | r
    · have := rk_lt R hn r (hi a) ha.1 ha.2 (fun i _ _ x => ht i a b x r)
      omega
    · have := rk_lt R hn r (hi b) hb.1 hb.2 (fun i _ _ x => ht i b a x r)
      omega
abbrev pbf (T : Int → Int) (i p : Int) : Prop := T p < T i ∨ (T i = T p ∧ i < p)
theorem pbf_inj {T : Int → Int} {a b : Int} (ha : 0 ≤ a ∧ a < 7) (hb : 0 ≤ b ∧ b < 7) (h : rk (pbf T) 7 a = rk (pbf T) 7 b) : a = b :=
  rk_inj (pbf T) (by decide) (fun i x => by unfold pbf at x; omega) (fun i j k x y => by unfold pbf at x y ⊢; omega) (fun i j _ _ _ _ e => by unfold pbf; omega) ha hb h
def aPlate (S : Int → Int) (g : Nat → Int → Int) (p : Int) : Int := if 0 ≤ p ∧ p ≤ 6 then fnd (rk (pbf (cov S g (S 2))) 7) p 7 else -1
def bst (f : Int → Int) (k : Int) : Int := Nat.rec 0 (fun (n : Nat) (r : Int) => if f (n + 1) < f r then (n : Int) + 1 else r) k.toNat
theorem bst_0 (f : Int → Int) : bst f 0 = 0 := rfl
theorem bst_s (f : Int → Int) {k : Int} (hk : 0 ≤ k) : bst f (k + 1) = if f (k + 1) < f (bst f k) then k + 1 else bst f k := by
  unfold bst
  rw [show (k + 1).toNat = k.toNat + 1 by omega]
  show (if f ((k.toNat : Int) + 1) < f (Nat.rec 0 _ k.toNat) then (k.toNat : Int) + 1 else _) = _
  rw [Int.toNat_of_nonneg hk]
theorem bst_b (f : Int → Int) {k : Int} (hk : 0 ≤ k) : 0 ≤ bst f k ∧ bst f k ≤ k := by
  have key : ∀ m : Nat, 0 ≤ bst f m ∧ bst f m ≤ m := by
    intro m
    induction m with
    | zero => exact ⟨Int.le_refl _, Int.le_refl _⟩
    | succ m ih =>
      rw [show ((m + 1 : Nat) : Int) = (m : Int) + 1 by omega, bst_s _ (by omega)]
      split <;> omega
  have := key k.toNat
  rw [Int.toNat_of_nonneg hk] at this
  exact this
def aThrift (S : Int → Int) (g : Nat → Int → Int) : Int := bst (fun a => cov S g a 7) 100
theorem cov_b {S : Int → Int} {g : Nat → Int → Int} {c0 a p : Int} (w : WF S g c0) (ha : 0 ≤ a ∧ a ≤ 100) (hp : 0 ≤ p ∧ p ≤ 7) {k : Int} (hk : 0 ≤ k ∧ k ≤ S 0 * S 1) : 0 ≤ smI (fun k => tl (pA S g a k) p) k ∧ smI (fun k => tl (pA S g a k) p) k ≤ 1799280 := by
  have h1 := smI_b (f := fun k => tl (pA S g a k) p) (m := 12495) hk.1 (fun i _ _ => tl_b (pA_r w ha i) hp.1 hp.2)
  have h2 := nP w.1
  omega
section CR
variable {h : Zm} {F : Nat → Int → Int} {n : Nat} {S : Int → Int} {g : Nat → Int → Int} {c0 : Int}
theorem s_sumOfB {Q : Int → Zm → Prop} {a : Nat} {A : Int → Int} (hk : zkd h a = (1, 7)) (hF : ∀ i, 0 ≤ i → i < 7 → F a i = A i) (hA : ∀ i, 0 ≤ i → i < 7 → 0 ≤ A i ∧ A i ≤ 1799280) (q : Q (smI A 7) (zwI h F)) : mX6_sumOf a (zwI h F) Q := by
  unfold mX6_sumOf mX6_sumOf_H10
  refine f_len hk (lfp2_up2 (h := h) 7 (fun v i F' => F' = F ∧ 0 ≤ i ∧ v = smI A i) (fun X v i F' hi hI hX => ?_) 0 0 F (by decide) ⟨rfl, by decide, rfl⟩)
  obtain ⟨rfl, g2, g3⟩ := hI
  unfold mX6_sumOf_B10
  have hv := smI_b (f := A) (m := 1799280) (k := i) g2 (fun c x y => hA c x (by omega))
  refine f_lt ⟨by omega, by omega⟩ ⟨by decide, by decide⟩ (fun z => f_ldv hk g2 z (hF i g2 z) fun _ => hX z _ _ ⟨rfl, by omega, ?_⟩) (fun z => ?_)
  · rw [smI_s A g2, g3]
  · have : i = 7 := by have : ((7 : Nat) : Int) = 7 := rfl; omega
    rw [g3, this]
    exact q
theorem s_addUpPlates {Q : Zm → Prop} (kd : kD h n) (cs : CS F (n + 1) S g) (w : WF S g c0) (q : ∀ F', fr (n + 316) (n + 466) F F' → (∀ p, 0 ≤ p → p < 7 → F' (n + 465) p = cov S g (S 2) p) → Q (zwI h F')) : mX6_addUpPlates n (zwI h F) Q := by
  unfold mX6_addUpPlates mX6_addUpPlates_H2
  have ha := w.1.1.2.1
  have tlp : ∀ (A : Int → Int) (p : Int), p < 7 → tl A p = A p := fun A p hp => if_neg (by omega)
  refine lfp1_up (h := h) 7 (fun i F' => fr (n + 316) (n + 466) F F' ∧ 0 ≤ i ∧ ∀ p, 0 ≤ p → p < i → F' (n + 465) p = 0) (fun X i F' hi hI hX => ?_) 0 F (by decide) ⟨fr.rf, by decide, fun p a b => by omega⟩
  obtain ⟨f1, g2, g3⟩ := hI
  unfold mX6_addUpPlates_B2
  refine f_lt ⟨by omega, by omega⟩ ⟨by decide, by decide⟩ (fun z => f_gr kd.k kd.to (f_st kd.kto g2 z z_in0 (hX z _ ⟨f1.tr (fr.up (by omega) (by omega)), by omega, fun p a b => ?_⟩))) (fun z => ?_)
  · rw [up_e]
    split
    · rfl
    · exact g3 p a (by omega)
  · unfold mX6_addUpPlates_H23
    refine grid1 (fun k F' => fr (n + 316) (n + 466) F F' ∧ ∀ p, 0 ≤ p → p < 7 → F' (n + 465) p = smI (fun k => tl (pA S g (S 2) k) p) k) kd w.1 (fun k F' hI => hI.1.cs (by omega) cs) (fun Xo X y x k F' hk hkr hd hp hI hX => ?_) (fun F' hI => q F' hI.1 hI.2) ⟨f1, fun p a b => by rw [g3 p a (by omega)]; rfl⟩
    obtain ⟨f2, v2⟩ := hI
    refine f_rc kd.k (s_separateAt kd (f2.cs (by omega) cs) w hp fun F3 f3 e3 l3 => ?_)
    have hl : ∀ i, 0 ≤ i → i < 7 → F3 (n + 318) i = pA S g (S 2) k i := by
      unfold pA pB pT
      rw [hd.1, hd.2]
      exact l3
    unfold mX6_addUpPlates_H55
    refine lfp1_up (h := h) 7 (fun i F' => fr (n + 316) (n + 466) F F' ∧ 0 ≤ i ∧ (∀ p, 0 ≤ p → p < 7 → F' (n + 318) p = pA S g (S 2) k p) ∧ ∀ p, 0 ≤ p → p < 7 → F' (n + 465) p = smI (fun k => tl (pA S g (S 2) k) p) (if p < i then k + 1 else k)) (fun X2 i F' hi hI hX2 => ?_) 0 F3 (by decide) ⟨f2.tr (f3.wd (by omega) (by omega)), by decide, hl, fun p a b => by rw [if_neg (by omega), f3 _ _ (by omega)]; exact v2 p a b⟩
    obtain ⟨f4, i2, l4, v4⟩ := hI
    unfold mX6_addUpPlates_B55
    refine f_lt ⟨by omega, by omega⟩ ⟨by decide, by decide⟩ (fun u => ?_) (fun u => hX F' ⟨f4, fun p a b => by rw [v4 p a b, if_pos (by omega)]⟩)
    have h1 := cov_b w ha ⟨i2, by omega⟩ (k := k) ⟨hkr.1, by omega⟩
    have h2 := pA_r w ha k i i2 u
    refine f_gr kd.k kd.to (f_ldv kd.kto i2 u (v := smI (fun k => tl (pA S g (S 2) k) i) k) (by rw [v4 i i2 u, if_neg (by omega)]) fun _ => f_gr kd.k kd.px (f_gr kd.kp.1.1 kd.kp.1.2.2.2 (f_ldv kd.kp.2.2.2 i2 u (l4 i i2 u) fun _ => f_st kd.kto i2 u ⟨by omega, by omega⟩ (hX2 u _ ⟨f4.tr (fr.up (by omega) (by omega)), by omega, fun p a b => ?_, fun p a b => ?_⟩))))
    · rw [up_a (by omega)]
      exact l4 p a b
    · rw [up_e]
      by_cases e : p = i
      · subst e
        rw [if_pos ⟨rfl, rfl⟩, if_pos (by omega), smI_s _ hkr.1, tlp _ _ b]
      · rw [if_neg (by omega), v4 p a b]
        by_cases e2 : p < i
        · rw [if_pos e2, if_pos (by omega)]
        · rw [if_neg e2, if_neg (by omega)]
theorem s_coverage6 {Q : Int → Zm → Prop} {p : Int} (kd : kD h n) (cs : CS F (n + 1) S g) (w : WF S g c0) (hp : InR p) (q : ∀ F', fr (n + 316) (n + 466) F F' → Q (aCov S g p) (zwI h F')) : mX6_coverage n p (zwI h F) Q := by
  unfold mX6_coverage
  unfold aCov at q
  have ha := w.1.1.2.1
  have hN := nP w.1
  refine s_within hp z_in0 ⟨by decide, by decide⟩ (f_bi (fun z => ?_) (fun z => ?_))
  · rw [if_pos z] at q
    refine f_rc kd.k (s_addUpPlates kd cs w fun F1 f1 v1 => f_eq hp ⟨by decide, by decide⟩ (fun e => ?_) (fun e => ?_))
    · refine f_gr kd.k kd.to (s_sumOfB kd.kto v1 (fun i a b => cov_b w ha ⟨a, by omega⟩ ⟨by omega, Int.le_refl _⟩) ?_)
      have e1 : smI (cov S g (S 2)) 7 = cov S g (S 2) p := by
        rw [e]
        show smI (fun p => smI (fun k => tl (pA S g (S 2) k) p) (S 0 * S 1)) 7 = _
        rw [smI_swap _ _ (by decide)]
        unfold cov
        refine smI_c fun i a b => ?_
        show _ = tl (pA S g (S 2) i) 7
        rw [show tl (pA S g (S 2) i) 7 = smI (pA S g (S 2) i) 7 from if_pos rfl]
        exact smI_c fun j c d => if_neg (by omega)
      rw [e1]
      exact q F1 f1
    · exact f_gr kd.k kd.to (f_ldv kd.kto z.1 (by omega) (v1 p z.1 (by omega)) fun _ => q F1 f1)
  · rw [if_neg z] at q
    exact q F fr.rf
theorem s_platesBefore {Q : Int → Zm → Prop} {p : Int} {T : Int → Int} (kd : kD h n) (hp : 0 ≤ p ∧ p < 7) (hT : ∀ i, 0 ≤ i → i < 7 → F (n + 465) i = T i) (q : Q (rk (pbf T) 7 p) (zwI h F)) : mX6_platesBefore n p (zwI h F) Q := by
  unfold mX6_platesBefore mX6_platesBefore_H4
  refine lfp2_up2 (h := h) 7 (fun v i F' => F' = F ∧ 0 ≤ i ∧ v = rk (pbf T) i p) (fun X v i F' hi hI hX => ?_) 0 0 F (by decide) ⟨rfl, by decide, rfl⟩
  obtain ⟨rfl, g2, g3⟩ := hI
  unfold mX6_platesBefore_B4
  refine f_lt ⟨by omega, by omega⟩ ⟨by decide, by decide⟩ (fun z => ?_) (fun z => ?_)
  · have st : ∀ v', v' = v + bi (pbf T i p) → X v' (i + 1) (zwI h F') := fun v' e => hX z _ _ ⟨rfl, by omega, by rw [e, g3]; exact (smI_s _ g2).symm⟩
    have jn : ∀ s, s = bi (T i = T p ∧ i < p) → mX6_platesBefore_J35 X n p v i s (zwI h F') Q := by
      intro s hs
      unfold mX6_platesBefore_J35
      subst hs
      refine f_gr kd.k kd.to (f_ldv kd.kto g2 z (hT i g2 z) fun r1 => f_gr kd.k kd.to (f_ldv kd.kto hp.1 hp.2 (hT p hp.1 hp.2) fun r2 => f_le r1 r2 (fun u => f_bi (fun t => st _ ?_) (fun t => st _ ?_)) (fun u => st _ ?_)))
      · rw [bi_t (Or.inr t)]
      · rw [bi_f (fun y => by rcases y with y | y; omega; exact t y), Int.add_zero]
      · rw [bi_t (Or.inl u)]
    refine f_gr kd.k kd.to (f_ldv kd.kto g2 z (hT i g2 z) fun r1 => f_gr kd.k kd.to (f_ldv kd.kto hp.1 hp.2 (hT p hp.1 hp.2) fun r2 => f_eq r1 r2 (fun u => f_lt ⟨by omega, by omega⟩ ⟨by omega, by omega⟩ (fun t => jn 1 (bi_t ⟨u, t⟩).symm) (fun t => jn 0 (bi_f (fun y => by omega)).symm)) (fun u => jn 0 (bi_f (fun y => u y.1)).symm)))
  · have : i = 7 := by omega
    rw [g3, this]
    exact q
theorem s_plateAt6 {Q : Int → Zm → Prop} {p : Int} (kd : kD h n) (cs : CS F (n + 1) S g) (w : WF S g c0) (hp : InR p) (q : ∀ F', fr (n + 316) (n + 466) F F' → Q (aPlate S g p) (zwI h F')) : mX6_plateAt n p (zwI h F) Q := by
  unfold mX6_plateAt
  unfold aPlate at q
  refine s_isPlate6 hp (f_bi (fun z => ?_) (fun z => ?_))
  · rw [if_pos z] at q
    refine f_rc kd.k (s_addUpPlates kd cs w fun F1 f1 v1 => ?_)
    unfold mX6_plateAt_H15
    refine lfp1_up (h := h) 7 (fun i F' => F' = F1 ∧ 0 ≤ i ∧ ∀ c, 0 ≤ c → c < i → rk (pbf (cov S g (S 2))) 7 c ≠ p) (fun X i F' hi hI hX => ?_) 0 F1 (by decide) ⟨rfl, by decide, fun c a b => by omega⟩
    obtain ⟨rfl, g2, g3⟩ := hI
    unfold mX6_plateAt_B15
    refine f_lt ⟨by omega, by omega⟩ ⟨by decide, by decide⟩ (fun u => ?_) (fun u => ?_)
    · have hb := rk_b (pbf (cov S g (S 2))) (n := 7) (p := i) (by decide)
      refine f_rc kd.k (s_platesBefore kd ⟨g2, u⟩ v1 (f_eq ⟨by omega, by omega⟩ hp (fun e => ?_) (fun e => hX u _ ⟨rfl, by omega, fun c a b => ?_⟩)))
      · have := q F' f1
        rw [fnd_u g2 u e (fun j a b y => by have := pbf_inj ⟨by omega, b⟩ ⟨g2, u⟩ (y.trans e.symm); omega)] at this
        exact this
      · by_cases e2 : c = i
        · rw [e2]; exact e
        · exact g3 c a (by omega)
    · have := q F' f1
      rw [fnd_n (by decide) (fun j a b => g3 j a (by omega))] at this
      exact this
  · rw [if_neg z] at q
    exact q F fr.rf
theorem s_thriftiest6 {Q : Int → Zm → Prop} (kd : kD h n) (cs : CS F (n + 1) S g) (w : WF S g c0) (q : ∀ F', fr (n + 316) (n + 466) F F' → Q (aThrift S g) (zwI h F')) : mX6_thriftiestAmount n (zwI h F) Q := by
  unfold mX6_thriftiestAmount mX6_addUpNeeds mX6_addUpNeeds_H2
  have hs := w.1.1.1
  have tl7 : ∀ (A : Int → Int), tl A 7 = smI A 7 := fun A => if_pos rfl
  refine f_rc kd.k (lfp1_up (h := h) 101 (fun i F' => fr (n + 316) (n + 466) F F' ∧ 0 ≤ i ∧ ∀ p, 0 ≤ p → p < i → F' (n + 466) p = 0) (fun X i F' hi hI hX => ?_) 0 F (by decide) ⟨fr.rf, by decide, fun p a b => by omega⟩)
  obtain ⟨f1, g2, g3⟩ := hI
  unfold mX6_addUpNeeds_B2
  refine f_le ⟨by omega, by omega⟩ ⟨by decide, by decide⟩ (fun z => f_gr kd.k kd.ne (f_st kd.kne g2 (by omega) z_in0 (hX (by omega) _ ⟨f1.tr (fr.up (by omega) (by omega)), by omega, fun p a b => ?_⟩))) (fun z => ?_)
  · rw [up_e]
    split
    · rfl
    · exact g3 p a (by omega)
  · unfold mX6_addUpNeeds_H23
    refine grid1 (fun k F' => fr (n + 316) (n + 466) F F' ∧ ∀ a, 0 ≤ a → a ≤ 100 → F' (n + 466) a = smI (fun k => tl (pA S g a k) 7) k) kd w.1 (fun k F' hI => hI.1.cs (by omega) cs) (fun Xo X y x k F' hk hkr hd hp hI hX => ?_) (fun F' hI => ?_) ⟨f1, fun p a b => by rw [g3 p a (by omega)]; rfl⟩
    · obtain ⟨f2, v2⟩ := hI
      refine f_gr kd.k kd.px (f_gr kd.k kd.pg (f_rc kd.kp.1.1 (s_render kd.kp kd.ks (by omega) (f2.cs (by omega) cs) w (by omega) (by omega) fun F3 b3 t3 => ?_)))
      have f3 : fr (n + 316) (n + 316) F' F3 := b3.fr (Nat.le_refl _) (Nat.le_refl _)
      have ht : Tn F3 (n + 315 + 1) (pT S g k) := by
        unfold pT
        rw [hd.1, hd.2]
        exact t3
      unfold mX6_addUpNeeds_H62
      refine lfp1_up (h := h) 101 (fun i F' => fr (n + 316) (n + 466) F F' ∧ 0 ≤ i ∧ Tn F' (n + 315 + 1) (pT S g k) ∧ ∀ a, 0 ≤ a → a ≤ 100 → F' (n + 466) a = smI (fun k => tl (pA S g a k) 7) (if a < i then k + 1 else k)) (fun X2 i F' hi hI hX2 => ?_) 0 F3 (by decide) ⟨f2.tr (f3.wd (by omega) (by omega)), by decide, ht, fun p a b => by rw [if_neg (by omega), f3 _ _ (by omega)]; exact v2 p a b⟩
      obtain ⟨f4, i2, t4, v4⟩ := hI
      unfold mX6_addUpNeeds_B62
      refine f_le ⟨by omega, by omega⟩ ⟨by decide, by decide⟩ (fun u => ?_) (fun u => hX F' ⟨f4, fun p a b => by rw [v4 p a b, if_pos (by omega)]⟩)
      have h1 := cov_b w (a := i) ⟨i2, u⟩ (p := 7) (by decide) (k := k) ⟨hkr.1, by omega⟩
      have h2 := tl_b (pA_r w (a := i) ⟨i2, u⟩ k) (p := 7) (by decide) (by decide)
      rw [tl7] at h2
      have h3 := px_r w (k % S 0) (k / S 0)
      refine f_gr kd.k kd.px (f_gr kd.k kd.pg (f_rc kd.kp.1.1 (s_separate kd.kp kd.ks (by omega) (f4.cs (by omega) cs) w.1 t4 h3 ⟨i2, u⟩ fun F5 f5 e5 l5 => f_gr kd.k kd.ne (f_ldv (v := smI (fun k => tl (pA S g i k) 7) k) kd.kne i2 (by omega) (by rw [f5 _ _ (by omega), v4 i i2 u, if_neg (by omega)]) fun _ => f_gr kd.k kd.px (f_gr kd.kp.1.1 kd.kp.1.2.2.2 (s_sumOf kd.kp.2.2.2 l5 (pA_r w ⟨i2, u⟩ k) (f_st kd.kne i2 (by omega) ?_ (hX2 (by omega) _ ⟨(f4.tr (f5.wd (by omega) (by omega))).tr (fr.up (by omega) (by omega)), by omega, fun p a b => ?_, fun p a b => ?_⟩)))))))) 
      · show InR (_ + smI (pA S g i k) 7)
        exact ⟨by omega, by omega⟩
      · rw [up_a (by omega), f5 _ _ (by omega)]
        exact t4 p a b
      · rw [up_e]
        by_cases e : p = i
        · subst e
          rw [if_pos ⟨rfl, rfl⟩, if_pos (by omega), smI_s _ hkr.1, tl7]
          rfl
        · rw [if_neg (by omega), f5 _ _ (by omega), v4 p a b]
          by_cases e2 : p < i
          · rw [if_pos e2, if_pos (by omega)]
          · rw [if_neg e2, if_neg (by omega)]
    · obtain ⟨f2, v2⟩ := hI
      unfold mX6_thriftiestAmount_H8
      refine lfp2_up2 (h := h) 101 (fun v i F2 => F2 = F' ∧ 1 ≤ i ∧ v = bst (fun a => cov S g a 7) (i - 1)) (fun X v i F2 hi hI hX => ?_) 0 1 F' (by decide) ⟨rfl, by decide, rfl⟩
      obtain ⟨rfl, g2, g3⟩ := hI
      unfold mX6_thriftiestAmount_B8
      have hb := bst_b (fun a => cov S g a 7) (k := i - 1) (by omega)
      rw [← g3] at hb
      have es : bst (fun a => cov S g a 7) (i + 1 - 1) = if cov S g i 7 < cov S g v 7 then i else v := by
        have := bst_s (fun a => cov S g a 7) (k := i - 1) (by omega)
        rw [show i - 1 + 1 = i by omega, ← g3] at this
        rw [show i + 1 - 1 = i by omega]
        exact this
      refine f_le ⟨by omega, by omega⟩ ⟨by decide, by decide⟩ (fun u => f_gr kd.k kd.ne (f_ldv kd.kne (by omega) (by omega) (v2 i (by omega) (by omega)) fun r1 => f_gr kd.k kd.ne (f_ldv kd.kne (by omega) (by omega) (v2 v (by omega) (by omega)) fun r2 => f_lt r1 r2 (fun t => hX (by omega) _ _ ⟨rfl, by omega, ?_⟩) (fun t => hX (by omega) _ _ ⟨rfl, by omega, ?_⟩)))) (fun u => ?_)
      · rw [es]
        exact (if_pos t).symm
      · rw [es]
        exact (if_neg (by unfold cov; omega)).symm
      · have : i = 101 := by omega
        subst this
        rw [g3]
        exact q F2 f2
end CR
