/-! size, settings, knockouts: both sides -/
def okv (x v : Int) : Prop := (0 ≤ x ∧ x < 8) ∧ (x = 0 → 1 ≤ v ∧ v ≤ 12) ∧ (x = 1 → 1 ≤ v ∧ v ≤ 12) ∧ (x = 2 → 0 ≤ v ∧ v ≤ 100) ∧ (x = 3 → 0 ≤ v ∧ v ≤ 255) ∧ (x = 4 → 0 ≤ v ∧ v ≤ 1785) ∧ (5 ≤ x → v = 0 ∨ v = 1)
theorem WF_ru {S : Int → Int} {g : Nat → Int → Int} {c x v : Int} (o : okv x v) (w : WF S g c) : WF (ru S x v) g c := by
  obtain ⟨o0, o1, o2, o3, o4, o5, o6⟩ := o
  refine w.of_nq (ru_nq (by omega)) (ru_n (by omega)) ?_
  obtain ⟨⟨⟨a0, a1⟩, a2, a3, a4⟩, b, d, e⟩ := w.1
  have cs : ∀ j, ru S x v j = if j = x then v else S j := fun _ => rfl
  refine ⟨⟨⟨?_, ?_⟩, ?_, ?_, ?_⟩, fun j p q => ?_, ?_, ru_wfS (by omega) e⟩
  · rw [cs]; split <;> omega
  · rw [cs]; split <;> omega
  · rw [cs]; split <;> omega
  · rw [cs]; split <;> omega
  · rw [cs]; split <;> omega
  · have := b j p q
    rw [cs]; split <;> omega
  · rw [cs]; split <;> omega
theorem CS_st {F : Nat → Int → Int} {A : Nat} {S : Int → Int} {g : Nat → Int → Int} {x v : Int} (hx : 0 ≤ x ∧ x < 5) (cs : CS F A S g) : CS (up F A x v) A (ru S x v) g := by
  refine cs.of_nq (ru_nq (by omega)) (fun b j p q => up_a (by omega)) (fun j p q => ?_) (fun j p q => ?_) (fun p a b => CC_ru (by omega) a ((cs.2.2.1 p a b).keep fun b j p q => up_a (by omega)))
  · rw [up_e]
    by_cases e : j = x
    · rw [if_pos ⟨rfl, e⟩, e, ru_s]
    · rw [if_neg (fun y => e y.2), ru_n e]
      exact cs.1 j p q
  · rw [up_a (by omega), ru_n (by omega)]
    exact cs.2.1 j p q
theorem CS_kn {F : Nat → Int → Int} {A : Nat} {S : Int → Int} {g : Nat → Int → Int} {x v : Int} (hx : 0 ≤ x ∧ x < 3) (cs : CS F A S g) : CS (up F (A + 1) x v) A (ru S (5 + x) v) g := by
  refine cs.of_nq (ru_nq (by omega)) (fun b j p q => up_a (by omega)) (fun j p q => ?_) (fun j p q => ?_) (fun p a b => CC_ru (by omega) a ((cs.2.2.1 p a b).keep fun b j p q => up_a (by omega)))
  · rw [up_a (by omega), ru_n (by omega)]
    exact cs.1 j p q
  · rw [up_e]
    by_cases e : j = x
    · rw [if_pos ⟨rfl, e⟩, e, ru_s]
    · rw [if_neg (fun y => e y.2), ru_n (by omega)]
      exact cs.2.1 j p q
/-- the page's block changes -/
theorem CI.pg {h : Zm} {F F' : Nat → Int → Int} {n : Nat} {S S' : Int → Int} {g g' : Nat → Int → Int} {Hs : Int → Int → Int} {Hg : Int → Nat → Int → Int} {b : Int → Nat} {k : Int} (ci : CI h F n S g Hs Hg b k) (f : fr (n + 1) (n + 52) F F') (cs : CS F' (n + 1) S' g') : CI h F' n S' g' Hs Hg b k := by
  obtain ⟨kd, hb, hk, -, hi⟩ := ci
  refine ⟨kd, hb, ⟨by rw [f _ _ (by omega)]; exact hk.1, hk.2⟩, cs, fun i x y => ?_⟩
  obtain ⟨z, j, j1, j2⟩ := hb.1 i x (by omega)
  exact (hi i x y).keep fun a j u v => f _ _ (by omega)
theorem fr.hf {n lo up : Nat} {F F' : Nat → Int → Int} (h : fr lo up F F') (h1 : n ≤ lo) (h2 : up ≤ n + 313) : hf n F F' := fun a j q => h a j (by omega)
theorem hf.tr {n : Nat} {F G H : Nat → Int → Int} (h1 : hf n F G) (h2 : hf n G H) : hf n F H := fun a j q => (h2 a j q).trans (h1 a j q)
section ST
variable {h : Zm} {F : Nat → Int → Int} {n M : Nat} {S : Int → Int} {g : Nat → Int → Int} {c0 k : Int} {Hs : Int → Int → Int} {Hg : Int → Nat → Int → Int} {b : Int → Nat}
theorem s_setSize6 {Q : Int → Zm → Prop} {x y : Int} (ci : CI h F n S g Hs Hg b k) (w : WF S g c0) (hx : InR x) (hy : InR y) (t : (1 ≤ x ∧ x ≤ 12) ∧ (1 ≤ y ∧ y ≤ 12) → ∀ h' F' b', sw n h h' → hf n F F' → CI h' F' n (ru (ru S 0 x) 1 y) g (pH Hs k S) (pH Hg k g) b' (pK k) → Q (100 * S 0 + S 1) (zwI h' F')) (f : ¬ ((1 ≤ x ∧ x ≤ 12) ∧ (1 ≤ y ∧ y ≤ 12)) → Q (-1) (zwI h F)) : mX6_setSize n x y (zwI h F) Q := by
  unfold mX6_setSize
  have kd := ci.1
  have cs := ci.2.2.2.1
  refine s_within hx ⟨by decide, by decide⟩ ⟨by decide, by decide⟩ (f_bi (fun z => s_within hy ⟨by decide, by decide⟩ ⟨by decide, by decide⟩ (f_bi (fun z2 => ?_) (fun z2 => f (fun y => z2 y.2)))) (fun z => f (fun y => z y.1)))
  refine f_gr kd.k kd.pg (f_giv kd.ks.1.1 (cs.1 0 (by decide) (by decide)) fun _ => f_gr kd.k kd.pg (f_giv kd.ks.1.1 (cs.1 1 (by decide) (by decide)) fun _ => f_rc kd.k (s_remember ci w fun h' F' b' s f' ci' => ?_)))
  have kd' := ci'.1
  exact f_gr kd'.k kd'.pg (f_pi kd'.ks.1.1 hx (f_gr kd'.k kd'.pg (f_pi kd'.ks.1.1 hy (t ⟨z, z2⟩ h' _ b' s (f'.tr (((fr.up (by omega) (by omega) : fr (n + 1) (n + 1) _ _).tr (fr.up (by omega) (by omega))).hf (by omega) (by omega))) (ci'.pg ((fr.up (by omega) (by omega)).tr (fr.up (by omega) (by omega))) (CS_st (by decide) (CS_st (by decide) ci'.2.2.2.1)))))))
theorem s_set6 {Q : Int → Zm → Prop} {x v : Int} (ci : CI h F n S g Hs Hg b k) (w : WF S g c0) (hx : InR x) (hv : InR v) (t : (0 ≤ x ∧ x ≤ 2) ∧ okv (2 + x) v → ∀ h' F' b', sw n h h' → hf n F F' → CI h' F' n (ru S (2 + x) v) g (pH Hs k S) (pH Hg k g) b' (pK k) → Q (S (2 + x)) (zwI h' F')) (f : ¬ ((0 ≤ x ∧ x ≤ 2) ∧ okv (2 + x) v) → Q (-1) (zwI h F)) : mX6_set n x v (zwI h F) Q := by
  unfold mX6_set
  have kd := ci.1
  refine s_within hx z_in0 ⟨by decide, by decide⟩ (f_bi (fun z => ?_) (fun z => f (fun y => z y.1)))
  have key : ∀ m, InR m → (x = 0 → m = 100) → (x = 1 → m = 255) → (x = 2 → m = 1785) → mX6_within v 0 m (zwI h F) fun v6 h5 => cEq v6 0 (Q (-1) h5) (cRc h5 16 n <| mX6_remember n h5 fun h7 => cEq x 0 (cGr h7 16 n 0 fun r16 => cGi h7 14 r16 2 fun v17 => cGr h7 16 n 0 fun r18 => cPi h7 14 r18 2 v fun h19 => Q v17 h19) (cEq x 1 (cGr h7 16 n 0 fun r12 => cGi h7 14 r12 3 fun v13 => cGr h7 16 n 0 fun r14 => cPi h7 14 r14 3 v fun h15 => Q v13 h15) (cGr h7 16 n 0 fun r8 => cGi h7 14 r8 4 fun v9 => cGr h7 16 n 0 fun r10 => cPi h7 14 r10 4 v fun h11 => Q v9 h11))) := by
    intro m hm m0 m1 m2
    refine s_within hv z_in0 hm (f_bi (fun z2 => ?_) (fun z2 => f (fun y => z2 ?_)))
    · have ok : (0 ≤ x ∧ x ≤ 2) ∧ okv (2 + x) v := ⟨z, by omega, fun e => by omega, fun e => by omega, fun e => by have := m0 (by omega); omega, fun e => by have := m1 (by omega); omega, fun e => by have := m2 (by omega); omega, fun e => by omega⟩
      refine f_rc kd.k (s_remember ci w fun h' F' b' s f' ci' => ?_)
      have kd' := ci'.1
      have cs' := ci'.2.2.2.1
      have fin : ∀ y, y = 2 + x → cGr (zwI h' F') 16 n 0 fun r16 => cGi (zwI h' F') 14 r16 y fun v17 => cGr (zwI h' F') 16 n 0 fun r18 => cPi (zwI h' F') 14 r18 y v fun h19 => Q v17 h19 := by
        intro y e
        subst e
        exact f_gr kd'.k kd'.pg (f_giv kd'.ks.1.1 (cs'.1 (2 + x) (by omega) (by omega)) fun _ => f_gr kd'.k kd'.pg (f_pi kd'.ks.1.1 hv (t ok h' _ b' s (f'.tr ((fr.up (by omega) (by omega) : fr (n + 1) (n + 1) _ _).hf (by omega) (by omega))) (ci'.pg (fr.up (by omega) (by omega)) (CS_st (by omega) cs')))))
      exact f_eq hx z_in0 (fun e => fin 2 (by omega)) (fun e => f_eq hx ⟨by decide, by decide⟩ (fun e2 => fin 3 (by omega)) (fun e2 => fin 4 (by omega)))
    · have := y.2
      unfold okv at this
      rcases (show x = 0 ∨ x = 1 ∨ x = 2 by omega) with e | e | e
      · have := m0 e; omega
      · have := m1 e; omega
      · have := m2 e; omega
  unfold mX6_greatestSetting
  exact f_eq hx z_in0 (fun e => key 100 ⟨by decide, by decide⟩ (fun _ => rfl) (fun y => by omega) (fun y => by omega)) (fun e => f_eq hx ⟨by decide, by decide⟩ (fun e2 => key 255 ⟨by decide, by decide⟩ (fun y => by omega) (fun y => rfl) (fun y => by omega)) (fun e2 => key 1785 ⟨by decide, by decide⟩ (fun y => by omega) (fun y => by omega) (fun y => rfl)))
theorem s_setKnockout6 {Q : Int → Zm → Prop} {x v : Int} (ci : CI h F n S g Hs Hg b k) (w : WF S g c0) (hx : InR x) (hv : InR v) (t : (0 ≤ x ∧ x ≤ 2) ∧ (0 ≤ v ∧ v ≤ 1) → ∀ h' F' b', sw n h h' → hf n F F' → CI h' F' n (ru S (5 + x) v) g (pH Hs k S) (pH Hg k g) b' (pK k) → Q (S (5 + x)) (zwI h' F')) (f : ¬ ((0 ≤ x ∧ x ≤ 2) ∧ (0 ≤ v ∧ v ≤ 1)) → Q (-1) (zwI h F)) : mX6_setKnockout n x v (zwI h F) Q := by
  unfold mX6_setKnockout
  have kd := ci.1
  refine s_within hx z_in0 ⟨by decide, by decide⟩ (f_bi (fun z => s_within hv z_in0 ⟨by decide, by decide⟩ (f_bi (fun z2 => ?_) (fun z2 => f (fun y => z2 y.2)))) (fun z => f (fun y => z y.1)))
  refine f_rc kd.k (s_remember ci w fun h' F' b' s f' ci' => ?_)
  have kd' := ci'.1
  have cs' := ci'.2.2.2.1
  exact f_gr kd'.k kd'.pg (f_gr kd'.ks.1.1 kd'.ks.1.2.1 (f_ldv kd'.ks.1.2.2.2.2.1 z.1 (by omega) (cs'.2.1 x z.1 (by omega)) fun _ => f_gr kd'.k kd'.pg (f_gr kd'.ks.1.1 kd'.ks.1.2.1 (f_st kd'.ks.1.2.2.2.2.1 z.1 (by omega) hv (t ⟨z, z2⟩ h' _ b' s (f'.tr ((fr.up (by omega) (by omega) : fr (n + 2) (n + 2) _ _).hf (by omega) (by omega))) (ci'.pg (fr.up (by omega) (by omega)) (CS_kn (by omega) cs')))))))
end ST
