/-! histories: remember, undo, hold, ends -/
def HB (h : Zm) (n : Nat) (b : Int → Nat) : Prop := (∀ i, 0 ≤ i → i < 5 → zR h (n + 53) i = b i ∧ ∃ j : Nat, j < 5 ∧ b i = n + 54 + 52 * j) ∧ ∀ i k, 0 ≤ i → i < k → k < 5 → b i ≠ b k
def pK (k : Int) : Int := if k < 5 then k + 1 else 5
def pH {α : Type} (H : Int → α) (k : Int) (x : α) : Int → α := fun i => if k < 5 then (if i = k then x else H i) else if i = 4 then x else H (i + 1)
/-- worlds that differ only in the history's references -/
def sw (n : Nat) (h h' : Zm) : Prop := (∀ a, zkd h' a = zkd h a) ∧ (∀ a k, a ≠ n + 53 → zR h' a k = zR h a k) ∧ h'.1.2 = h.1.2
theorem sw.rf {n : Nat} {h : Zm} : sw n h h := ⟨fun _ => rfl, fun _ _ _ => rfl, rfl⟩
theorem kC.sw {h h' : Zm} {C : Nat} (hk : ∀ a, zkd h' a = zkd h a) (hr : ∀ k, zR h' C k = zR h C k) (k : kC h C) : kC h' C := by
  unfold kC at k ⊢
  simp only [hk, hr]
  exact k
theorem kS.sw {h h' : Zm} {A : Nat} (hk : ∀ a, zkd h' a = zkd h a) (hr : ∀ a k, A ≤ a → a < A + 52 → zR h' a k = zR h a k) (k : kS h A) : kS h' A := by
  obtain ⟨k1, ⟨k2, k3, k4⟩, k5⟩ := k
  refine ⟨?_, ⟨?_, ?_, fun i a b => ?_⟩, fun p a b => ?_⟩
  · simp only [hk]
    rw [hr A 5 (by omega) (by omega), hr A 6 (by omega) (by omega), hr A 7 (by omega) (by omega)]
    exact k1
  · simp only [hk]
    rw [hr (A + 2) 0 (by omega) (by omega), hr (A + 2) 1 (by omega) (by omega), hr (A + 2) 2 (by omega) (by omega)]
    exact k2
  · simp only [hk]
    exact k3
  · simp only [hk]
    rw [hr (A + 3) i (by omega) (by omega)]
    exact k4 i a b
  · rw [hr (A + 30) p (by omega) (by omega)]
    exact ⟨(k5 p a b).1, (k5 p a b).2.sw hk (fun k => hr _ k (by omega) (by omega))⟩
theorem kM.sw {h h' : Zm} {M : Nat} (_ : ∀ a, zkd h' a = zkd h a) (_ : ∀ k, zR h' M k = zR h M k) (_ : kM h M) : kM h' M := trivial
theorem kD.sw {h h' : Zm} {n : Nat} (s : sw n h h') (k : kD h n) : kD h' n := by
  obtain ⟨k1, k2, k3, k4, k5, k6, k7⟩ := k
  have hr : ∀ a k, a ≠ n + 53 → zR h' a k = zR h a k := s.2.1
  have hk := s.1
  refine ⟨?_, ?_, k3.sw hk (fun a k x y => hr a k (by omega)), ?_, ?_, fun i hi => (k6 i hi).sw hk (fun a k x y => hr a k (by omega)), k7.sw hk (fun k => hr _ k (by omega))⟩
  · simp only [hk]
    rw [hr n 0 (by omega), hr n 1 (by omega), hr n 3 (by omega), hr n 4 (by omega), hr n 5 (by omega), hr n 6 (by omega), hr n 7 (by omega)]
    exact k1
  · simp only [hk]
    exact k2
  · unfold kP at k4 ⊢
    simp only [hk]
    rw [hr (n + 315) 0 (by omega), hr (n + 315) 1 (by omega), hr (n + 315) 2 (by omega)]
    exact k4
  · unfold kIk at k5 ⊢
    simp only [hk]
    rw [hr (n + 319) 0 (by omega)]
    refine ⟨k5.1, fun i a b => ?_⟩
    rw [hr (n + 319 + 1) i (by omega)]
    exact k5.2 i a b
theorem f_str {h : Zm} {F : Nat → Int → Int} {Q : Zm → Prop} {t d a m v : Nat} {i : Int} (hk : zkd h a = (t, m)) (h0 : 0 ≤ i) (h1 : i < (m : Int)) (hv : (zkd h v).1 = d) (q : Q (zwI (zsR h a i v) F)) : cStR (zwI h F) t d a i v Q := ⟨⟨by show (zkd h a).1 = t; rw [hk], h0, by show i < ((zkd h a).2 : Int); rw [hk]; exact h1⟩, hv, q⟩
theorem sw.st {n v : Nat} {h h' : Zm} {i : Int} (s : sw n h h') : sw n h (zsR h' (n + 53) i v) := ⟨s.1, fun a k x => by
  show (if a = n + 53 ∧ k = i then v else zR h' a k) = _
  rw [if_neg (fun y => x y.1)]
  exact s.2.1 a k x, s.2.2⟩
theorem zsR_e {h : Zm} {a v : Nat} {i k : Int} : zR (zsR h a i v) a k = if k = i then v else zR h a k := by
  show (if a = a ∧ k = i then v else zR h a k) = _
  by_cases e : k = i
  · rw [if_pos ⟨rfl, e⟩, if_pos e]
  · rw [if_neg (fun y => e y.2), if_neg e]
def HI (F : Nat → Int → Int) (b : Int → Nat) (Hs : Int → Int → Int) (Hg : Int → Nat → Int → Int) (k : Int) : Prop := ∀ i, 0 ≤ i → i < k → CS F (b i) (Hs i) (Hg i)
def CI (h : Zm) (F : Nat → Int → Int) (n : Nat) (S : Int → Int) (g : Nat → Int → Int) (Hs : Int → Int → Int) (Hg : Int → Nat → Int → Int) (b : Int → Nat) (k : Int) : Prop := kD h n ∧ HB h n b ∧ (F n 2 = k ∧ 0 ≤ k ∧ k ≤ 5) ∧ CS F (n + 1) S g ∧ HI F b Hs Hg k
def hf (n : Nat) (F F' : Nat → Int → Int) : Prop := ∀ a j, (a < n ∨ n + 313 < a) → F' a j = F a j
section HS
variable {h : Zm} {F : Nat → Int → Int} {n M : Nat} {S : Int → Int} {g : Nat → Int → Int} {c0 k : Int} {Hs : Int → Int → Int} {Hg : Int → Nat → Int → Int} {b : Int → Nat}
theorem HB.ks (hb : HB h n b) (kd : kD h n) {i : Int} (h0 : 0 ≤ i) (h1 : i < 5) : kS h (b i) := by
  obtain ⟨-, j, j1, j2⟩ := hb.1 i h0 h1
  rw [j2]
  exact kd.2.2.2.2.2.1 j j1
theorem s_rem59 {Q : Zm → Prop} (kd : kD h n) (hb : HB h n b) (hk : F n 2 = k ∧ 0 ≤ k ∧ k < 5) (cs : CS F (n + 1) S g) (hi : HI F b Hs Hg k) (w : WF S g c0) (q : ∀ F', hf n F F' → CI h F' n S g (fun i => if i = k then S else Hs i) (fun i => if i = k then g else Hg i) b (k + 1) → Q (zwI h F')) : mX6_remember_J59 n (zwI h F) Q := by
  unfold mX6_remember_J59
  obtain ⟨z1, j, j1, j2⟩ := hb.1 k hk.2.1 hk.2.2
  have hks := hb.ks kd hk.2.1 hk.2.2
  refine f_gr kd.k kd.hi (f_giv kd.k hk.1 fun _ => f_ldr kd.2.1.1 (by decide) hk.2.1 hk.2.2 z1 (f_gr kd.k kd.pg (f_rc hks.1.1 (s_copyState hks kd.ks (by omega) cs w fun F1 f1 c1 => f_giv kd.k (by rw [f1 _ _ (by omega)]; exact hk.1) fun _ => f_pi kd.k ⟨by omega, by omega⟩ (q _ ?_ ⟨kd, hb, ⟨up_s _ _ _ _, by omega, by omega⟩, ?_, ?_⟩)))))
  · intro a i ha
    rw [up_a (by omega)]
    exact f1 _ _ (by omega)
  · exact cs.keep fun a i x y => by rw [up_a (by omega)]; exact f1 _ _ (by omega)
  · intro i x y
    dsimp only
    by_cases e : i = k
    · rw [e, if_pos rfl, if_pos rfl]
      exact c1.keep fun a i x y => up_a (by omega)
    · rw [if_neg e, if_neg e]
      obtain ⟨y1, j', j1', j2'⟩ := hb.1 i x (by omega)
      have hne := hb.2 i k x (by omega) hk.2.2
      exact (hi i x (by omega)).keep fun a i x y => by rw [up_a (by omega)]; exact f1 _ _ (by omega)
theorem s_remember {Q : Zm → Prop} (ci : CI h F n S g Hs Hg b k) (w : WF S g c0) (q : ∀ h' F' b', sw n h h' → hf n F F' → CI h' F' n S g (pH Hs k S) (pH Hg k g) b' (pK k) → Q (zwI h' F')) : mX6_remember n (zwI h F) Q := by
  obtain ⟨kd, hb, hk, cs, hi⟩ := ci
  unfold mX6_remember
  refine f_giv kd.k hk.1 fun _ => f_eq ⟨by omega, by omega⟩ ⟨by decide, by decide⟩ (fun e => ?_) (fun e => ?_)
  · subst e
    have z0 := hb.1 0 (by decide) (by decide)
    have q2 : ∀ h' F', sw n h h' → (∀ i, 0 ≤ i → i < 5 → zR h' (n + 53) i = if i = 4 then b 0 else b (i + 1)) → F' = up F n 2 (5 - 1) → mX6_remember_J59 n (zwI h' F') Q := by
      intro h' F' s hr eF
      subst eF
      have hb' : HB h' n (fun i => if i = 4 then b 0 else b (i + 1)) := by
        refine ⟨fun i x y => ⟨hr i x y, ?_⟩, fun i k x y z => ?_⟩
        · dsimp only
          by_cases e : i = 4
          · rw [if_pos e]; exact z0.2
          · rw [if_neg e]; exact (hb.1 (i + 1) (by omega) (by omega)).2
        · dsimp only
          rw [if_neg (by omega)]
          by_cases e : k = 4
          · rw [if_pos e]; exact (hb.2 0 (i + 1) (by decide) (by omega) (by omega)).symm
          · rw [if_neg e]; exact hb.2 (i + 1) (k + 1) (by omega) (by omega) (by omega)
      refine s_rem59 (k := 4) (Hs := fun i => Hs (i + 1)) (Hg := fun i => Hg (i + 1)) (kd.sw s) hb' ⟨up_s _ _ _ _, by decide, by decide⟩ (cs.keep fun a j x y => up_a (by omega)) (fun i x y => ?_) w (fun F2 f2 c2 => q h' F2 (fun i => if i = 4 then b 0 else b (i + 1)) s (fun a j ha => ?_) ?_)
      · dsimp only
        rw [if_neg (by omega)]
        obtain ⟨y1, j', j1', j2'⟩ := hb.1 (i + 1) (by omega) (by omega)
        exact (hi (i + 1) (by omega) (by omega)).keep fun a j x y => up_a (by omega)
      · rw [f2 a j ha, up_a (by omega)]
      · have e1 : pH Hs 5 S = fun i => if i = 4 then S else Hs (i + 1) := by
          funext i
          exact if_neg (by decide)
        have e2 : pH Hg 5 g = fun i => if i = 4 then g else Hg (i + 1) := by
          funext i
          exact if_neg (by decide)
        rw [e1, e2]
        exact c2
    refine f_gr kd.k kd.hi (f_ldr kd.2.1.1 (by decide) (by decide) (by decide) z0.1 ?_)
    unfold mX6_remember_H17
    refine lfp1_i (fun x _ => (5 - x).toNat) (fun x m => ∃ h', m = zwI h' F ∧ sw n h h' ∧ (1 ≤ x ∧ x ≤ 5) ∧ ∀ i, 0 ≤ i → i < 5 → zR h' (n + 53) i = if i < x - 1 then b (i + 1) else b i) (fun X x m hI hX => ?_) 1 _ ⟨h, rfl, sw.rf, by decide, fun i a c => by rw [if_neg (by omega)]; exact (hb.1 i a c).1⟩
    obtain ⟨h', rfl, s, hx, hr⟩ := hI
    have kd' := kd.sw s
    unfold mX6_remember_B17
    refine f_lt ⟨by omega, by omega⟩ ⟨by decide, by decide⟩ (fun z => ?_) (fun z => ?_)
    · have hx2 := hr x (by omega) z
      rw [if_neg (by omega)] at hx2
      obtain ⟨-, j, j1, j2⟩ := hb.1 x (by omega) z
      have hv : (zkd h' (b x)).1 = 14 := by rw [j2, (kd'.2.2.2.2.2.1 j j1).1.1]
      refine f_gr kd'.k kd'.hi (f_gr kd'.k kd'.hi (f_ldr kd'.2.1.1 (by decide) (by omega) z hx2 (f_str kd'.2.1.1 (by omega) (by omega) hv (hX _ _ ⟨_, rfl, s.st, by omega, fun i a c => ?_⟩ (by omega)))))
      rw [zsR_e]
      by_cases e : i = x - 1
      · rw [if_pos e, if_pos (by omega)]
        congr 1
        omega
      · rw [if_neg e, hr i a c]
        by_cases e2 : i < x - 1
        · rw [if_pos e2, if_pos (by omega)]
        · rw [if_neg e2, if_neg (by omega)]
    · have hx5 : x = 5 := by omega
      subst hx5
      obtain ⟨-, j, j1, j2⟩ := z0
      have hv : (zkd h' (b 0)).1 = 14 := by rw [j2, (kd'.2.2.2.2.2.1 j j1).1.1]
      refine f_gr kd'.k kd'.hi (f_str kd'.2.1.1 (by decide) (by decide) hv ?_)
      have kd2 := kd.sw (s.st (v := b 0) (i := 4))
      refine f_giv kd2.k hk.1 fun _ => f_pi kd2.k ⟨by decide, by decide⟩ (q2 _ _ s.st (fun i a c => ?_) rfl)
      rw [zsR_e]
      by_cases e : i = 4
      · rw [if_pos e, if_pos e]
      · rw [if_neg e, if_neg e, hr i a c, if_pos (by omega)]
  · refine s_rem59 kd hb ⟨hk.1, hk.2.1, by omega⟩ cs hi w fun F2 f2 c2 => q h F2 b sw.rf f2 ?_
    have e1 : pH Hs k S = fun i => if i = k then S else Hs i := by
      funext i
      exact if_pos (by omega)
    have e2 : pH Hg k g = fun i => if i = k then g else Hg i := by
      funext i
      exact if_pos (by omega)
    have e3 : pK k = k + 1 := if_pos (by omega)
    rw [e1, e2, e3]
    exact c2
/-! the reference's -/
def RI (F : Nat → Int → Int) (M : Nat) (S : Int → Int) (Hs : Int → Int → Int) (k : Int) : Prop := RS F M S ∧ (F M 3 = k ∧ 0 ≤ k ∧ k ≤ 5) ∧ ∀ i j, 0 ≤ i → i < k → 0 ≤ j → j < 368 → F (M + 2) (368 * i + j) = Hs i j
def ef (M : Nat) (F F' : Nat → Int → Int) : Prop := ∀ a j, a ≠ M + 2 → ¬ (a = M ∧ j = 3) → F' a j = F a j
end HS
