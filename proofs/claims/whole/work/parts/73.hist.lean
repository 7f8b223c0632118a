/-! histories: remember, undo, hold, ends -/
def HB (h : Zm) (n : Nat) (b : Int → Nat) : Prop := (∀ i, 0 ≤ i → i < 5 → zR h (n + 53) i = b i ∧ ∃ j : Nat, j < 5 ∧ b i = n + 54 + 52 * j) ∧ ∀ i k, 0 ≤ i → i < k → k < 5 → b i ≠ b k
def pK (k : Int) : Int := if k < 5 then k + 1 else 5
def pH {α : Type} (H : Int → α) (k : Int) (x : α) : Int → α := fun i => if k < 5 then (if i = k then x else H i) else if i = 4 then x else H (i + 1)
/-- worlds that differ only in the history's references -/
def sw (n : Nat) (h h' : Zm) : Prop := (∀ a, zkd h' a = zkd h a) ∧ ∀ a k, a ≠ n + 53 → zR h' a k = zR h a k
theorem sw.rf {n : Nat} {h : Zm} : sw n h h := ⟨fun _ => rfl, fun _ _ _ => rfl⟩
theorem kC.sw {h h' : Zm} {C : Nat} (hk : ∀ a, zkd h' a = zkd h a) (hr : ∀ k, zR h' C k = zR h C k) (k : kC h C) : kC h' C := by
  unfold kC at k ⊢
  simp only [hk, hr]
  exact k
theorem kS.sw {h h' : Zm} {A : Nat} (hk : ∀ a, zkd h' a = zkd h a) (hr : ∀ a k, A ≤ a → a < A + 52 → zR h' a k = zR h a k) (k : kS h A) : kS h' A := by
  obtain ⟨k1, ⟨k2, k3, k4⟩, k5⟩ := k
  refine ⟨?_, ⟨?_, ?_, fun i a b => ?_⟩, fun p a b => ?_⟩
  · simp only [hk]
    rw [hr A 5 (by omega) (by omega), hr A 6 (by omega) (by omega), hr A 7 (by omega) (by omega)]
    exact k1
  · simp only [hk]
    rw [hr (A + 2) 0 (by omega) (by omega), hr (A + 2) 1 (by omega) (by omega), hr (A + 2) 2 (by omega) (by omega)]
    exact k2
  · simp only [hk]
    exact k3
  · simp only [hk]
    rw [hr (A + 3) i (by omega) (by omega)]
    exact k4 i a b
  · rw [hr (A + 30) p (by omega) (by omega)]
    exact ⟨(k5 p a b).1, (k5 p a b).2.sw hk (fun k => hr _ k (by omega) (by omega))⟩
theorem kM.sw {h h' : Zm} {M : Nat} (hk : ∀ a, zkd h' a = zkd h a) (hr : ∀ k, zR h' M k = zR h M k) (k : kM h M) : kM h' M := by
  unfold kM at k ⊢
  simp only [hk, hr]
  exact k
theorem kD.sw {h h' : Zm} {n : Nat} (s : sw n h h') (k : kD h n) : kD h' n := by
  obtain ⟨k1, k2, k3, k4, k5, k6, k7⟩ := k
  have hr : ∀ a k, a ≠ n + 53 → zR h' a k = zR h a k := s.2
  have hk := s.1
  refine ⟨?_, ?_, k3.sw hk (fun a k x y => hr a k (by omega)), ?_, ?_, fun i hi => (k6 i hi).sw hk (fun a k x y => hr a k (by omega)), k7.sw hk (fun k => hr _ k (by omega))⟩
  · simp only [hk]
    rw [hr n 0 (by omega), hr n 1 (by omega), hr n 3 (by omega), hr n 4 (by omega), hr n 5 (by omega), hr n 6 (by omega), hr n 7 (by omega)]
    exact k1
  · simp only [hk]
    exact k2
  · unfold kP at k4 ⊢
    simp only [hk]
    rw [hr (n + 315) 0 (by omega), hr (n + 315) 1 (by omega), hr (n + 315) 2 (by omega)]
    exact k4
  · unfold kIk at k5 ⊢
    simp only [hk]
    rw [hr (n + 319) 0 (by omega)]
    refine ⟨k5.1, fun i a b => ?_⟩
    rw [hr (n + 319 + 1) i (by omega)]
    exact k5.2 i a b
theorem f_str {h : Zm} {F : Nat → Int → Int} {Q : Zm → Prop} {t d a m v : Nat} {i : Int} (hk : zkd h a = (t, m)) (h0 : 0 ≤ i) (h1 : i < (m : Int)) (hv : (zkd h v).1 = d) (q : Q (zwI (zsR h a i v) F)) : cStR (zwI h F) t d a i v Q := ⟨⟨by show (zkd h a).1 = t; rw [hk], h0, by show i < ((zkd h a).2 : Int); rw [hk]; exact h1⟩, hv, q⟩
theorem sw.st {n v : Nat} {h h' : Zm} {i : Int} (s : sw n h h') : sw n h (zsR h' (n + 53) i v) := ⟨s.1, fun a k x => by
  show (if a = n + 53 ∧ k = i then v else zR h' a k) = _
  rw [if_neg (fun y => x y.1)]
  exact s.2 a k x⟩
theorem zsR_e {h : Zm} {a v : Nat} {i k : Int} : zR (zsR h a i v) a k = if k = i then v else zR h a k := by
  show (if a = a ∧ k = i then v else zR h a k) = _
  by_cases e : k = i
  · rw [if_pos ⟨rfl, e⟩, if_pos e]
  · rw [if_neg (fun y => e y.2), if_neg e]
def HI (F : Nat → Int → Int) (b : Int → Nat) (Hs : Int → Int → Int) (Hg : Int → Nat → Int → Int) (k : Int) : Prop := ∀ i, 0 ≤ i → i < k → CS F (b i) (Hs i) (Hg i)
def CI (h : Zm) (F : Nat → Int → Int) (n : Nat) (S : Int → Int) (g : Nat → Int → Int) (Hs : Int → Int → Int) (Hg : Int → Nat → Int → Int) (b : Int → Nat) (k : Int) : Prop := kD h n ∧ HB h n b ∧ (F n 2 = k ∧ 0 ≤ k ∧ k ≤ 5) ∧ CS F (n + 1) S g ∧ HI F b Hs Hg k
def hf (n : Nat) (F F' : Nat → Int → Int) : Prop := ∀ a j, (a < n ∨ n + 313 < a) → F' a j = F a j
section HS
variable {h : Zm} {F : Nat → Int → Int} {n M : Nat} {S : Int → Int} {g : Nat → Int → Int} {c0 k : Int} {Hs : Int → Int → Int} {Hg : Int → Nat → Int → Int} {b : Int → Nat}
theorem HB.ks (hb : HB h n b) (kd : kD h n) {i : Int} (h0 : 0 ≤ i) (h1 : i < 5) : kS h (b i) := by
  obtain ⟨-, j, j1, j2⟩ := hb.1 i h0 h1
  rw [j2]
  exact kd.2.2.2.2.2.1 j j1
theorem s_rem59 {Q : Zm → Prop} (kd : kD h n) (hb : HB h n b) (hk : F n 2 = k ∧ 0 ≤ k ∧ k < 5) (cs : CS F (n + 1) S g) (hi : HI F b Hs Hg k) (w : WF S g c0) (q : ∀ F', hf n F F' → CI h F' n S g (fun i => if i = k then S else Hs i) (fun i => if i = k then g else Hg i) b (k + 1) → Q (zwI h F')) : mX6_remember_J59 n (zwI h F) Q := by
  unfold mX6_remember_J59
  obtain ⟨z1, j, j1, j2⟩ := hb.1 k hk.2.1 hk.2.2
  have hks := hb.ks kd hk.2.1 hk.2.2
  refine f_gr kd.k kd.hi (f_giv kd.k hk.1 fun _ => f_ldr kd.2.1.1 (by decide) hk.2.1 hk.2.2 z1 (f_gr kd.k kd.pg (f_rc hks.1.1 (s_copyState hks kd.ks (by omega) cs w fun F1 f1 c1 => f_giv kd.k (by rw [f1 _ _ (by omega)]; exact hk.1) fun _ => f_pi kd.k ⟨by omega, by omega⟩ (q _ ?_ ⟨kd, hb, ⟨up_s _ _ _ _, by omega, by omega⟩, ?_, ?_⟩)))))
  · intro a i ha
    rw [up_a (by omega)]
    exact f1 _ _ (by omega)
  · exact cs.keep fun a i x y => by rw [up_a (by omega)]; exact f1 _ _ (by omega)
  · intro i x y
    dsimp only
    by_cases e : i = k
    · rw [e, if_pos rfl, if_pos rfl]
      exact c1.keep fun a i x y => up_a (by omega)
    · rw [if_neg e, if_neg e]
      obtain ⟨y1, j', j1', j2'⟩ := hb.1 i x (by omega)
      have hne := hb.2 i k x (by omega) hk.2.2
      exact (hi i x (by omega)).keep fun a i x y => by rw [up_a (by omega)]; exact f1 _ _ (by omega)
theorem s_remember {Q : Zm → Prop} (ci : CI h F n S g Hs Hg b k) (w : WF S g c0) (q : ∀ h' F' b', sw n h h' → hf n F F' → CI h' F' n S g (pH Hs k S) (pH Hg k g) b' (pK k) → Q (zwI h' F')) : mX6_remember n (zwI h F) Q := by
  obtain ⟨kd, hb, hk, cs, hi⟩ := ci
  unfold mX6_remember
  refine f_giv kd.k hk.1 fun _ => f_eq ⟨by omega, by omega⟩ ⟨by decide, by decide⟩ (fun e => ?_) (fun e => ?_)
  · subst e
    have z0 := hb.1 0 (by decide) (by decide)
    have q2 : ∀ h' F', sw n h h' → (∀ i, 0 ≤ i → i < 5 → zR h' (n + 53) i = if i = 4 then b 0 else b (i + 1)) → F' = up F n 2 (5 - 1) → mX6_remember_J59 n (zwI h' F') Q := by
      intro h' F' s hr eF
      subst eF
      have hb' : HB h' n (fun i => if i = 4 then b 0 else b (i + 1)) := by
        refine ⟨fun i x y => ⟨hr i x y, ?_⟩, fun i k x y z => ?_⟩
        · dsimp only
          by_cases e : i = 4
          · rw [if_pos e]; exact z0.2
          · rw [if_neg e]; exact (hb.1 (i + 1) (by omega) (by omega)).2
        · dsimp only
          rw [if_neg (by omega)]
          by_cases e : k = 4
          · rw [if_pos e]; exact (hb.2 0 (i + 1) (by decide) (by omega) (by omega)).symm
          · rw [if_neg e]; exact hb.2 (i + 1) (k + 1) (by omega) (by omega) (by omega)
      refine s_rem59 (k := 4) (Hs := fun i => Hs (i + 1)) (Hg := fun i => Hg (i + 1)) (kd.sw s) hb' ⟨up_s _ _ _ _, by decide, by decide⟩ (cs.keep fun a j x y => up_a (by omega)) (fun i x y => ?_) w (fun F2 f2 c2 => q h' F2 (fun i => if i = 4 then b 0 else b (i + 1)) s (fun a j ha => ?_) ?_)
      · dsimp only
        rw [if_neg (by omega)]
        obtain ⟨y1, j', j1', j2'⟩ := hb.1 (i + 1) (by omega) (by omega)
        exact (hi (i + 1) (by omega) (by omega)).keep fun a j x y => up_a (by omega)
      · rw [f2 a j ha, up_a (by omega)]
      · have e1 : pH Hs 5 S = fun i => if i = 4 then S else Hs (i + 1) := by
          funext i
          exact if_neg (by decide)
        have e2 : pH Hg 5 g = fun i => if i = 4 then g else Hg (i + 1) := by
          funext i
          exact if_neg (by decide)
        rw [e1, e2]
        exact c2
    refine f_gr kd.k kd.hi (f_ldr kd.2.1.1 (by decide) (by decide) (by decide) z0.1 ?_)
    unfold mX6_remember_H17
    refine lfp1_i (fun x _ => (5 - x).toNat) (fun x m => ∃ h', m = zwI h' F ∧ sw n h h' ∧ (1 ≤ x ∧ x ≤ 5) ∧ ∀ i, 0 ≤ i → i < 5 → zR h' (n + 53) i = if i < x - 1 then b (i + 1) else b i) (fun X x m hI hX => ?_) 1 _ ⟨h, rfl, sw.rf, by decide, fun i a c => by rw [if_neg (by omega)]; exact (hb.1 i a c).1⟩
    obtain ⟨h', rfl, s, hx, hr⟩ := hI
    have kd' := kd.sw s
    unfold mX6_remember_B17
    refine f_lt ⟨by omega, by omega⟩ ⟨by decide, by decide⟩ (fun z => ?_) (fun z => ?_)
    · have hx2 := hr x (by omega) z
      rw [if_neg (by omega)] at hx2
      obtain ⟨-, j, j1, j2⟩ := hb.1 x (by omega) z
      have hv : (zkd h' (b x)).1 = 14 := by rw [j2, (kd'.2.2.2.2.2.1 j j1).1.1]
      refine f_gr kd'.k kd'.hi (f_gr kd'.k kd'.hi (f_ldr kd'.2.1.1 (by decide) (by omega) z hx2 (f_str kd'.2.1.1 (by omega) (by omega) hv (hX _ _ ⟨_, rfl, s.st, by omega, fun i a c => ?_⟩ (by omega)))))
      rw [zsR_e]
      by_cases e : i = x - 1
      · rw [if_pos e, if_pos (by omega)]
        congr 1
        omega
      · rw [if_neg e, hr i a c]
        by_cases e2 : i < x - 1
        · rw [if_pos e2, if_pos (by omega)]
        · rw [if_neg e2, if_neg (by omega)]
    · have hx5 : x = 5 := by omega
      subst hx5
      obtain ⟨-, j, j1, j2⟩ := z0
      have hv : (zkd h' (b 0)).1 = 14 := by rw [j2, (kd'.2.2.2.2.2.1 j j1).1.1]
      refine f_gr kd'.k kd'.hi (f_str kd'.2.1.1 (by decide) (by decide) hv ?_)
      have kd2 := kd.sw (s.st (v := b 0) (i := 4))
      refine f_giv kd2.k hk.1 fun _ => f_pi kd2.k ⟨by decide, by decide⟩ (q2 _ _ s.st (fun i a c => ?_) rfl)
      rw [zsR_e]
      by_cases e : i = 4
      · rw [if_pos e, if_pos e]
      · rw [if_neg e, if_neg e, hr i a c, if_pos (by omega)]
  · refine s_rem59 kd hb ⟨hk.1, hk.2.1, by omega⟩ cs hi w fun F2 f2 c2 => q h F2 b sw.rf f2 ?_
    have e1 : pH Hs k S = fun i => if i = k then S else Hs i := by
      funext i
      exact if_pos (by omega)
    have e2 : pH Hg k g = fun i => if i = k then g else Hg i := by
      funext i
      exact if_pos (by omega)
    have e3 : pK k = k + 1 := if_pos (by omega)
    rw [e1, e2, e3]
    exact c2
theorem s_undo6 {Q : Int → Zm → Prop} (ci : CI h F n S g Hs Hg b k) (hw : ∀ i, 0 ≤ i → i < k → WF (Hs i) (Hg i) c0) (t : 0 < k → ∀ F', hf n F F' → CI h F' n (Hs (k - 1)) (Hg (k - 1)) Hs Hg b (k - 1) → Q (k - 1) (zwI h F')) (f : k = 0 → Q (-2) (zwI h F)) : mX6_undo n (zwI h F) Q := by
  obtain ⟨kd, hb, hk, cs, hi⟩ := ci
  unfold mX6_undo
  refine f_giv kd.k hk.1 fun _ => f_eq ⟨by omega, by omega⟩ z_in0 f (fun e => f_giv kd.k hk.1 fun _ => f_pi kd.k ⟨by omega, by omega⟩ ?_)
  obtain ⟨z1, j, j1, j2⟩ := hb.1 (k - 1) (by omega) (by omega)
  have hks := hb.ks kd (i := k - 1) (by omega) (by omega)
  refine f_gr kd.k kd.pg (f_gr kd.k kd.hi (f_giv kd.k (up_s _ _ _ _) fun _ => f_ldr kd.2.1.1 (by decide) (by omega) (by omega) z1 (f_rc kd.ks.1.1 (s_copyState kd.ks hks (by omega) ((hi (k - 1) (by omega) (by omega)).keep fun a j x y => up_a (by omega)) (hw (k - 1) (by omega) (by omega)) fun F1 f1 c1 => f_giv (v := k - 1) kd.k (by rw [f1 _ _ (by omega)]; exact up_s _ _ _ _) fun _ => t (by omega) F1 (fun a j ha => by rw [f1 _ _ (by omega), up_a (by omega)]) ⟨kd, hb, ⟨by rw [f1 _ _ (by omega)]; exact up_s _ _ _ _, by omega, by omega⟩, c1, fun i x y => ?_⟩))))
  obtain ⟨y1, j', j1', j2'⟩ := hb.1 i x (by omega)
  exact (hi i x (by omega)).keep fun a j x y => by rw [f1 _ _ (by omega), up_a (by omega)]
/-! the reference's -/
def RI (F : Nat → Int → Int) (M : Nat) (S : Int → Int) (Hs : Int → Int → Int) (k : Int) : Prop := RS F M S ∧ (F M 3 = k ∧ 0 ≤ k ∧ k ≤ 5) ∧ ∀ i j, 0 ≤ i → i < k → 0 ≤ j → j < 368 → F (M + 2) (368 * i + j) = Hs i j
theorem s_hold {Q : Zm → Prop} (km : kM h M) (hS : RS F M S) (q : ∀ F', bu (M + 3) F F' → (∀ j, 0 ≤ j → j < 368 → F' (M + 3) j = S j) → Q (zwI h F')) : mX7_hold M (zwI h F) Q := by
  unfold mX7_hold mX7_hold_H2
  refine lfp1_up (h := h) 368 (fun i F' => bu (M + 3) F F' ∧ 0 ≤ i ∧ ∀ j, 0 ≤ j → j < i → F' (M + 3) j = S j) (fun X i F' hi hI hX => ?_) 0 F (by decide) ⟨bu.rf, by decide, fun c x y => by omega⟩
  obtain ⟨f1, g2, g3⟩ := hI
  unfold mX7_hold_B2
  refine f_lt ⟨by omega, by omega⟩ ⟨by decide, by decide⟩ (fun z => f_gr km.1 km.r2 (f_gr km.1 km.r0 (f_ldv (v := S i) km.k0 g2 (by omega) (by rw [f1 _ _ (by omega)]; exact hS i g2 z) fun r => f_st km.k2 g2 (by omega) r (hX z _ ⟨f1.tr bu.up, by omega, fun j x y => ?_⟩)))) (fun z => q F' f1 (fun j x y => g3 j x (by omega)))
  rw [up_e]
  by_cases e : j = i
  · rw [if_pos ⟨rfl, e⟩, e]
  · rw [if_neg (by omega)]; exact g3 j x (by omega)
def ef (M : Nat) (F F' : Nat → Int → Int) : Prop := ∀ a j, a ≠ M + 2 → ¬ (a = M ∧ j = 3) → F' a j = F a j
theorem s_ends51 {Q : Int → Zm → Prop} {S0 : Int → Int} {v : Int} (km : kM h M) (hv : InR v) (hA : ∀ j, 0 ≤ j → j < 368 → F (M + 3) j = S0 j) (hk : F M 3 = k ∧ 0 ≤ k ∧ k < 5) (hp : ∀ i j, 0 ≤ i → i < k → 0 ≤ j → j < 368 → F (M + 2) (368 * i + j) = Hs i j) (q : ∀ F', ef M F F' → F' M 3 = k + 1 → (∀ i j, 0 ≤ i → i < k + 1 → 0 ≤ j → j < 368 → F' (M + 2) (368 * i + j) = (if i = k then S0 else Hs i) j) → Q v (zwI h F')) : mX7_ends_H51 M v 0 (zwI h F) Q := by
  unfold mX7_ends_H51
  refine lfp1_up (h := h) 368 (fun x F' => bu (M + 2) F F' ∧ 0 ≤ x ∧ (∀ j, 0 ≤ j → j < x → F' (M + 2) (368 * k + j) = S0 j) ∧ ∀ j, j < 368 * k → F' (M + 2) j = F (M + 2) j) (fun X x F' hx hI hX => ?_) 0 F (by decide) ⟨bu.rf, by decide, fun c x y => by omega, fun _ _ => rfl⟩
  obtain ⟨f1, g2, g3, g4⟩ := hI
  unfold mX7_ends_B51
  refine f_lt ⟨by omega, by omega⟩ ⟨by decide, by decide⟩ (fun z => f_gr km.1 km.r1 (f_giv (v := k) km.1 (by rw [f1 _ _ (by omega)]; exact hk.1) fun _ => f_gr km.1 km.r2 (f_ldv (v := S0 x) km.k2 g2 (by omega) (by rw [f1 _ _ (by omega)]; exact hA x g2 z) fun r => f_st km.k1 (by omega) (by omega) r (hX z _ ⟨f1.tr bu.up, by omega, fun j a c => ?_, fun j a => ?_⟩)))) (fun z => ?_)
  · rw [up_e]
    by_cases e : j = x
    · rw [if_pos ⟨rfl, by omega⟩, e]
    · rw [if_neg (by omega)]; exact g3 j a (by omega)
  · rw [up_n (by omega)]; exact g4 j a
  · refine f_giv (v := k) km.1 (by rw [f1 _ _ (by omega)]; exact hk.1) fun _ => f_pi km.1 ⟨by omega, by omega⟩ (q _ (fun a j x y => ?_) (up_s _ _ _ _) (fun i j a c x y => ?_))
    · rw [up_n y]
      exact f1 a j x
    · rw [up_a (by omega)]
      by_cases e : i = k
      · rw [if_pos e, e]
        exact g3 j x (by omega)
      · rw [if_neg e, g4 _ (by omega)]
        exact hp i j a (by omega) x y
theorem s_ends {Q : Int → Zm → Prop} {S0 : Int → Int} {v : Int} (km : kM h M) (hv : InR v) (hA : ∀ j, 0 ≤ j → j < 368 → F (M + 3) j = S0 j) (hk : F M 3 = k ∧ 0 ≤ k ∧ k ≤ 5) (hp : ∀ i j, 0 ≤ i → i < k → 0 ≤ j → j < 368 → F (M + 2) (368 * i + j) = Hs i j) (q : ∀ F', ef M F F' → F' M 3 = pK k → (∀ i j, 0 ≤ i → i < pK k → 0 ≤ j → j < 368 → F' (M + 2) (368 * i + j) = pH Hs k S0 i j) → Q v (zwI h F')) : mX7_ends M v (zwI h F) Q := by
  unfold mX7_ends
  refine f_giv km.1 hk.1 fun _ => f_eq ⟨by omega, by omega⟩ ⟨by decide, by decide⟩ (fun e => ?_) (fun e => ?_)
  · subst e
    unfold mX7_ends_H10
    refine lfp1_up (h := h) 1472 (fun x F' => bu (M + 2) F F' ∧ 0 ≤ x ∧ (∀ j, 0 ≤ j → j < x → F' (M + 2) j = F (M + 2) (j + 368)) ∧ ∀ j, x ≤ j → F' (M + 2) j = F (M + 2) j) (fun X x F' hx hI hX => ?_) 0 F (by decide) ⟨bu.rf, by decide, fun c x y => by omega, fun _ _ => rfl⟩
    obtain ⟨f1, g2, g3, g4⟩ := hI
    unfold mX7_ends_B10
    refine f_lt ⟨by omega, by omega⟩ ⟨by decide, by decide⟩ (fun z => f_gr km.1 km.r1 (f_gr km.1 km.r1 (f_ldv (v := F (M + 2) (x + 368)) km.k1 (by omega) (by omega) (g4 _ (by omega)) fun r => f_st km.k1 g2 (by omega) r (hX z _ ⟨f1.tr bu.up, by omega, fun j a c => ?_, fun j a => ?_⟩)))) (fun z => ?_)
    · rw [up_e]
      by_cases e : j = x
      · rw [if_pos ⟨rfl, e⟩, e]
      · rw [if_neg (by omega)]; exact g3 j a (by omega)
    · rw [up_n (by omega)]; exact g4 j (by omega)
    · refine f_giv (v := 5) km.1 (by rw [f1 _ _ (by omega)]; exact hk.1) fun _ => f_pi km.1 ⟨by decide, by decide⟩ (s_ends51 (k := 4) (S0 := S0) (Hs := fun i => Hs (i + 1)) km hv (fun j a c => ?_) ⟨up_s _ _ _ _, by decide, by decide⟩ (fun i j a c x y => ?_) (fun F2 f2 e2 p2 => q F2 (fun a j x y => ?_) e2 (fun i j a c x y => ?_)))
      · rw [up_a (by omega), f1 _ _ (by omega)]; exact hA j a c
      · rw [up_a (by omega), g3 _ (by omega) (by omega)]
        have := hp (i + 1) j (by omega) (by omega) x y
        rw [show 368 * i + j + 368 = 368 * (i + 1) + j by omega]
        exact this
      · rw [f2 a j x y, up_n y]
        exact f1 a j x
      · have c : i < 5 := c
        rw [p2 i j a c x y]
        show _ = (if (5 : Int) < 5 then _ else if i = 4 then S0 else Hs (i + 1)) j
        rw [if_neg (show ¬ (5 : Int) < 5 by decide)]
  · refine s_ends51 (S0 := S0) (Hs := Hs) km hv hA ⟨hk.1, hk.2.1, by omega⟩ hp (fun F2 f2 e2 p2 => q F2 f2 (by rw [e2]; exact (if_pos (by omega)).symm) (fun i j a c x y => ?_))
    have e3 : pK k = k + 1 := if_pos (by omega)
    rw [p2 i j a (by omega) x y]
    show _ = (if k < 5 then (if i = k then S0 else Hs i) else _) j
    rw [if_pos (show k < 5 by omega)]
theorem pK_r (h0 : 0 ≤ k) (h1 : k ≤ 5) : 0 ≤ pK k ∧ pK k ≤ 5 := by
  unfold pK
  split <;> omega
def qe (M : Nat) (F F' : Nat → Int → Int) : Prop := ∀ a j, (a < M ∨ M + 17 < a ∨ a = M + 4 ∨ a = M + 5) → F' a j = F a j
/-- the reference's row becomes S' -/
theorem s_endsI {Q : Int → Zm → Prop} {F0 : Nat → Int → Int} {S' : Int → Int} {v : Int} (km : kM h M) (hv : InR v) (ri : RI F0 M S Hs k) (hf : ∀ a j, a ≠ M + 1 → a ≠ M + 3 → F a j = F0 a j) (hA : ∀ j, 0 ≤ j → j < 368 → F (M + 3) j = S j) (hS : RS F M S') (q : ∀ F', RI F' M S' (pH Hs k S) (pK k) → qe M F0 F' → Q v (zwI h F')) : mX7_ends M v (zwI h F) Q := by
  obtain ⟨r1, r2, r3⟩ := ri
  refine s_ends (S0 := S) (Hs := Hs) km hv hA (by rw [hf _ _ (by omega) (by omega)]; exact r2) (fun i j a c x y => by rw [hf _ _ (by omega) (by omega)]; exact r3 i j a c x y) (fun F2 f2 e2 p2 => q F2 ⟨fun j a c => ?_, ⟨e2, pK_r r2.2.1 r2.2.2⟩, p2⟩ (fun a j ha => ?_))
  · rw [f2 _ _ (by omega) (by omega)]; exact hS j a c
  · rw [f2 _ _ (by omega) (by omega)]; exact hf _ _ (by omega) (by omega)
theorem s_becomes {Q : Int → Zm → Prop} {x v : Int} (km : kM h M) (ri : RI F M S Hs k) (hx : 0 ≤ x ∧ x < 368) (hv : InR v) (q : ∀ F', RI F' M (fun j => if j = x then v else S j) (pH Hs k S) (pK k) → qe M F F' → Q (S x) (zwI h F')) : mX7_becomes M x v (zwI h F) Q := by
  unfold mX7_becomes
  refine f_rc km.1 (s_hold km ri.1 fun F1 b1 v1 => ?_)
  have hS1 : RS F1 M S := fun j a c => by rw [b1 _ _ (by omega)]; exact ri.1 j a c
  refine r_ld km hS1 hx.1 hx.2 fun r => f_gr km.1 km.r0 (f_st km.k0 hx.1 (by omega) hv (f_rc km.1 (s_endsI km r ri (fun a j x y => ?_) (fun j a c => ?_) (fun j a c => ?_) q)))
  · rw [up_a x]; exact b1 _ _ y
  · rw [up_a (by omega)]; exact v1 j a c
  · rw [up_e]
    by_cases e : j = x
    · rw [if_pos ⟨rfl, e⟩, if_pos e]
    · rw [if_neg (fun y => e y.2), if_neg e]
      exact hS1 j a c
theorem s_undo7 {Q : Int → Zm → Prop} (km : kM h M) (ri : RI F M S Hs k) (t : 0 < k → ∀ F', RI F' M (Hs (k - 1)) Hs (k - 1) → qe M F F' → Q (k - 1) (zwI h F')) (f : k = 0 → Q (-2) (zwI h F)) : mX7_undo M (zwI h F) Q := by
  obtain ⟨r1, r2, r3⟩ := ri
  unfold mX7_undo
  refine f_giv km.1 r2.1 fun _ => f_eq ⟨by omega, by omega⟩ z_in0 f (fun e => f_giv km.1 r2.1 fun _ => f_pi km.1 ⟨by omega, by omega⟩ ?_)
  unfold mX7_undo_H22
  refine lfp1_up (h := h) 368 (fun x F' => bu (M + 1) (up F M 3 (k - 1)) F' ∧ 0 ≤ x ∧ (∀ j, 0 ≤ j → j < x → F' (M + 1) j = Hs (k - 1) j)) (fun X x F' hx hI hX => ?_) 0 _ (by decide) ⟨bu.rf, by decide, fun c x y => by omega⟩
  obtain ⟨f1, g2, g3⟩ := hI
  have h3 : F' M 3 = k - 1 := by rw [f1 _ _ (by omega)]; exact up_s _ _ _ _
  unfold mX7_undo_B22
  refine f_lt ⟨by omega, by omega⟩ ⟨by decide, by decide⟩ (fun z => f_gr km.1 km.r0 (f_gr km.1 km.r1 (f_giv km.1 h3 fun _ => f_ldv (v := Hs (k - 1) x) km.k1 (by omega) (by omega) (by rw [f1 _ _ (by omega), up_a (by omega)]; exact r3 (k - 1) x (by omega) (by omega) g2 z) fun r => f_st km.k0 g2 (by omega) r (hX z _ ⟨f1.tr bu.up, by omega, fun j a c => ?_⟩)))) (fun z => ?_)
  · rw [up_e]
    by_cases e : j = x
    · rw [if_pos ⟨rfl, e⟩, e]
    · rw [if_neg (by omega)]; exact g3 j a (by omega)
  · refine f_giv km.1 h3 fun _ => t (by omega) F' ⟨fun j a c => g3 j a (by omega), ⟨h3, by omega, by omega⟩, fun i j a c x y => ?_⟩ (fun a j ha => ?_)
    · rw [f1 _ _ (by omega), up_a (by omega)]
      exact r3 i j a (by omega) x y
    · rw [f1 _ _ (by omega), up_a (by omega)]
end HS
