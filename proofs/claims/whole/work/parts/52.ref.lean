/-! the reference's own cells, and its curves -/
def kMt : List (Nat × Nat × Nat × Nat) := [(0, 1, 1, 368), (1, 2, 1, 1840), (2, 3, 1, 368), (4, 4, 1, 4), (5, 5, 1, 3), (6, 6, 2, 24), (7, 7, 1, 256), (8, 8, 1, 24), (10, 9, 1, 24), (11, 10, 1, 24), (12, 11, 1, 24), (13, 12, 1, 24), (14, 13, 1, 6), (15, 14, 1, 7), (16, 15, 1, 7), (17, 16, 1, 7), (18, 17, 1, 1296)]
/-- the reference at M: what lies where -/
def kM (h : Zm) (M : Nat) : Prop := zkd h M = (17, 20) ∧ ∀ e ∈ kMt, zR h M (e.1 : Int) = M + e.2.1 ∧ zkd h (M + e.2.1) = (e.2.2.1, e.2.2.2)
section KM
variable {h : Zm} {M : Nat}
theorem kM.r0 (k : kM h M) : zR h M 0 = M + 1 := (k.2 (0, 1, 1, 368) (by decide)).1
theorem kM.k0 (k : kM h M) : zkd h (M + 1) = (1, 368) := (k.2 (0, 1, 1, 368) (by decide)).2
theorem kM.r1 (k : kM h M) : zR h M 1 = M + 2 := (k.2 (1, 2, 1, 1840) (by decide)).1
theorem kM.k1 (k : kM h M) : zkd h (M + 2) = (1, 1840) := (k.2 (1, 2, 1, 1840) (by decide)).2
theorem kM.r2 (k : kM h M) : zR h M 2 = M + 3 := (k.2 (2, 3, 1, 368) (by decide)).1
theorem kM.k2 (k : kM h M) : zkd h (M + 3) = (1, 368) := (k.2 (2, 3, 1, 368) (by decide)).2
theorem kM.r4 (k : kM h M) : zR h M 4 = M + 4 := (k.2 (4, 4, 1, 4) (by decide)).1
theorem kM.k4 (k : kM h M) : zkd h (M + 4) = (1, 4) := (k.2 (4, 4, 1, 4) (by decide)).2
theorem kM.r5 (k : kM h M) : zR h M 5 = M + 5 := (k.2 (5, 5, 1, 3) (by decide)).1
theorem kM.k5 (k : kM h M) : zkd h (M + 5) = (1, 3) := (k.2 (5, 5, 1, 3) (by decide)).2
theorem kM.r6 (k : kM h M) : zR h M 6 = M + 6 := (k.2 (6, 6, 2, 24) (by decide)).1
theorem kM.k6 (k : kM h M) : zkd h (M + 6) = (2, 24) := (k.2 (6, 6, 2, 24) (by decide)).2
theorem kM.r7 (k : kM h M) : zR h M 7 = M + 7 := (k.2 (7, 7, 1, 256) (by decide)).1
theorem kM.k7 (k : kM h M) : zkd h (M + 7) = (1, 256) := (k.2 (7, 7, 1, 256) (by decide)).2
theorem kM.r8 (k : kM h M) : zR h M 8 = M + 8 := (k.2 (8, 8, 1, 24) (by decide)).1
theorem kM.k8 (k : kM h M) : zkd h (M + 8) = (1, 24) := (k.2 (8, 8, 1, 24) (by decide)).2
theorem kM.r10 (k : kM h M) : zR h M 10 = M + 9 := (k.2 (10, 9, 1, 24) (by decide)).1
theorem kM.k10 (k : kM h M) : zkd h (M + 9) = (1, 24) := (k.2 (10, 9, 1, 24) (by decide)).2
theorem kM.r11 (k : kM h M) : zR h M 11 = M + 10 := (k.2 (11, 10, 1, 24) (by decide)).1
theorem kM.k11 (k : kM h M) : zkd h (M + 10) = (1, 24) := (k.2 (11, 10, 1, 24) (by decide)).2
theorem kM.r12 (k : kM h M) : zR h M 12 = M + 11 := (k.2 (12, 11, 1, 24) (by decide)).1
theorem kM.k12 (k : kM h M) : zkd h (M + 11) = (1, 24) := (k.2 (12, 11, 1, 24) (by decide)).2
theorem kM.r13 (k : kM h M) : zR h M 13 = M + 12 := (k.2 (13, 12, 1, 24) (by decide)).1
theorem kM.k13 (k : kM h M) : zkd h (M + 12) = (1, 24) := (k.2 (13, 12, 1, 24) (by decide)).2
theorem kM.r14 (k : kM h M) : zR h M 14 = M + 13 := (k.2 (14, 13, 1, 6) (by decide)).1
theorem kM.k14 (k : kM h M) : zkd h (M + 13) = (1, 6) := (k.2 (14, 13, 1, 6) (by decide)).2
theorem kM.r15 (k : kM h M) : zR h M 15 = M + 14 := (k.2 (15, 14, 1, 7) (by decide)).1
theorem kM.k15 (k : kM h M) : zkd h (M + 14) = (1, 7) := (k.2 (15, 14, 1, 7) (by decide)).2
theorem kM.r16 (k : kM h M) : zR h M 16 = M + 15 := (k.2 (16, 15, 1, 7) (by decide)).1
theorem kM.k16 (k : kM h M) : zkd h (M + 15) = (1, 7) := (k.2 (16, 15, 1, 7) (by decide)).2
theorem kM.r17 (k : kM h M) : zR h M 17 = M + 16 := (k.2 (17, 16, 1, 7) (by decide)).1
theorem kM.k17 (k : kM h M) : zkd h (M + 16) = (1, 7) := (k.2 (17, 16, 1, 7) (by decide)).2
theorem kM.r18 (k : kM h M) : zR h M 18 = M + 17 := (k.2 (18, 17, 1, 1296) (by decide)).1
theorem kM.k18 (k : kM h M) : zkd h (M + 17) = (1, 1296) := (k.2 (18, 17, 1, 1296) (by decide)).2
end KM
/-- the reference's row of numbers is S -/
def RS (F : Nat → Int → Int) (M : Nat) (S : Int → Int) : Prop := ∀ j, 0 ≤ j → j < 368 → F (M + 1) j = S j
def cp (S : Int → Int) (p : Int) : Int → Int := fun i => S (9 + 17 * p + 1 + 2 * i)
def cq (S : Int → Int) (p : Int) : Int → Int := fun i => S (9 + 17 * p + 2 + 2 * i)
def cc (S : Int → Int) (p : Int) : Int := S (9 + 17 * p)
/-- a row's curves are curves -/
def wfS (S : Int → Int) : Prop := ∀ p, 0 ≤ p → p < 7 → wfC (cc S p) (cp S p) (cq S p)
section RM
variable {h : Zm} {F : Nat → Int → Int} {M : Nat} {S : Int → Int}
theorem r_ld {Q : Int → Prop} {i : Int} (k : kM h M) (hS : RS F M S) (h0 : 0 ≤ i) (h1 : i < 368) (q : InR (S i) → Q (S i)) : cGr (zwI h F) 17 M 0 fun r => cLd (zwI h F) 1 r i Q :=
  f_gr k.1 k.r0 (f_ldv k.k0 h0 h1 (hS i h0 h1) q)
theorem s_of {Q : Int → Zm → Prop} {x w : Int} (k : kM h M) (hS : RS F M S) (h0 : 0 ≤ x) (h1 : x < 24) (h2 : 0 ≤ w) (h3 : w < 10) (q : InR (S (128 + 10 * x + w)) → Q (S (128 + 10 * x + w)) (zwI h F)) : mX7_of M x w (zwI h F) Q := by
  unfold mX7_of
  exact r_ld k hS (by omega) (by omega) q
theorem s_isNode {Q : Int → Zm → Prop} {x : Int} (k : kM h M) (hS : RS F M S) (hx : InR x) (q : Q (bi ((0 ≤ x ∧ x < 24) ∧ 0 ≤ S (128 + 10 * x))) (zwI h F)) : mX7_isNode M x (zwI h F) Q := by
  unfold mX7_isNode
  refine s_in hx z_in0 ⟨by decide, by decide⟩ (f_bi (fun c => f_rc k.1 (s_of k hS (by omega) (by omega) (by omega) (by omega) fun hr => ?_)) (fun c => ?_))
  · rw [Int.add_zero] at hr ⊢
    refine f_lt hr z_in0 (fun z => ?_) (fun z => ?_)
    · rw [bi_f (by omega)] at q; exact q
    · rw [bi_t ⟨by omega, z⟩] at q; exact q
  · rw [bi_f (by omega)] at q; exact q
theorem s_isPlate7 {Q : Int → Zm → Prop} {x : Int} {m : Zm} (hx : InR x) (q : Q (bi (0 ≤ x ∧ x ≤ 6)) m) : mX7_isPlate x m Q := by
  unfold mX7_isPlate
  exact s_in hx z_in0 ⟨by decide, by decide⟩ ⟨bi_01 _, q⟩
theorem s_isValue7 {Q : Int → Zm → Prop} {x : Int} {m : Zm} (hx : InR x) (q : Q (bi (0 ≤ x ∧ x ≤ 255)) m) : mX7_isValue x m Q := by
  unfold mX7_isValue
  exact s_in hx z_in0 ⟨by decide, by decide⟩ ⟨bi_01 _, q⟩
theorem s_isOffset7 {Q : Int → Zm → Prop} {x : Int} {m : Zm} (hx : InR x) (q : Q (bi (-12 ≤ x ∧ x ≤ 12)) m) : mX7_isOffset x m Q := by
  unfold mX7_isOffset
  exact s_in hx ⟨by decide, by decide⟩ ⟨by decide, by decide⟩ ⟨bi_01 _, q⟩
theorem s_isPlate6 {Q : Int → Zm → Prop} {x : Int} {m : Zm} (hx : InR x) (q : Q (bi (0 ≤ x ∧ x ≤ 6)) m) : mX6_isPlate x m Q := by
  unfold mX6_isPlate
  exact s_within hx z_in0 ⟨by decide, by decide⟩ ⟨bi_01 _, q⟩
theorem s_isPart6 {Q : Int → Zm → Prop} {x : Int} {m : Zm} (hx : InR x) (q : Q (bi (0 ≤ x ∧ x ≤ 255)) m) : mX6_isPart x m Q := by
  unfold mX6_isPart
  exact s_within hx z_in0 ⟨by decide, by decide⟩ ⟨bi_01 _, q⟩
theorem s_isOffset6 {Q : Int → Zm → Prop} {x : Int} {m : Zm} (hx : InR x) (q : Q (bi (-12 ≤ x ∧ x ≤ 12)) m) : mX6_isOffset x m Q := by
  unfold mX6_isOffset
  exact s_within hx ⟨by decide, by decide⟩ ⟨by decide, by decide⟩ ⟨bi_01 _, q⟩
theorem s_pointAt {Q : Int → Zm → Prop} {p v k0 : Int} (k : kM h M) (hS : RS F M S) (hp : 0 ≤ p ∧ p < 7) (hw : wfC (cc S p) (cp S p) (cq S p)) (hv : InR v) (h0 : 0 ≤ k0) (h1 : k0 < cc S p) (h2 : ∀ j, 0 ≤ j → j < k0 → cp S p j < v) (h3 : v ≤ cp S p k0) (q : Q k0 (zwI h F)) : mX7_pointAt M p v (zwI h F) Q := by
  unfold mX7_pointAt mX7_pointAt_H11
  have hc := hw.1
  refine lfp1_up (h := h) k0 (fun i F' => F' = F ∧ 0 ≤ i) (fun X i F' hi hI hX => ?_) 0 F h0 ⟨rfl, Int.le_refl _⟩
  obtain ⟨rfl, hi0⟩ := hI
  unfold mX7_pointAt_B11
  refine r_ld k hS (by omega) (by omega) fun hr => f_lt hr hv (fun z => ?_) (fun z => ?_)
  · have hlt : i < k0 := by
      rcases Int.lt_or_le i k0 with y | y
      · exact y
      · have : i = k0 := by omega
        subst this
        unfold cp at h3
        omega
    exact hX hlt _ ⟨rfl, by omega⟩
  · have : i = k0 := by
      rcases Int.lt_or_le i k0 with y | y
      · have := h2 i hi0 y
        unfold cp at this
        omega
      · omega
    subst this
    exact q
theorem s_valueOf {Q : Int → Zm → Prop} {p v : Int} (k : kM h M) (hS : RS F M S) (hp : 0 ≤ p ∧ p < 7) (hw : wfC (cc S p) (cp S p) (cq S p)) (hv0 : 0 ≤ v) (hv : v ≤ 255) (q : Q (cval (cp S p) (cq S p) v) (zwI h F)) : mX7_valueOf M p v (zwI h F) Q := by
  unfold mX7_valueOf
  have hc := hw.1
  obtain ⟨i, h0, h1, h2, h3⟩ := c_place hw hv
  rw [cval_at hw h0 h1 h2 h3] at q
  refine f_rc k.1 (s_pointAt k hS hp hw ⟨by omega, by omega⟩ h0 h1 h2 h3 ?_)
  have b1 := hw.2.2.2.2.2 i h0 h1
  have e1 : S (9 + 17 * p + 1 + 2 * i) = cp S p i := rfl
  have e2 : S (9 + 17 * p + 2 + 2 * i) = cq S p i := rfl
  refine r_ld k hS (by omega) (by omega) fun _ => r_ld k hS (by omega) (by omega) fun _ => ?_
  rw [e1, e2]
  unfold cat at q
  refine f_eq ⟨by omega, by omega⟩ ⟨by omega, by omega⟩ (fun z => ?_) (fun z => ?_)
  · rw [if_pos z] at q; exact q
  · rw [if_neg z] at q
    have hi0 : i ≠ 0 := fun y => by
      subst y
      have := hw.2.1
      omega
    have b0 := hw.2.2.2.2.2 (i - 1) (by omega) (by omega)
    have hp1 := h2 (i - 1) (by omega) (by omega)
    have hq := hw.2.2.2.2.1 (i - 1) i (by omega) (by omega) h1
    have e3 : S (9 + 17 * p + 2 * i - 1) = cp S p (i - 1) := by unfold cp; congr 1; omega
    have e4 : S (9 + 17 * p + 2 * i) = cq S p (i - 1) := by unfold cq; congr 1; omega
    refine r_ld k hS (by omega) (by omega) fun _ => r_ld k hS (by omega) (by omega) fun _ => ?_
    rw [e3, e4]
    have := mul_bd (a := cq S p i - cq S p (i - 1)) (b := v - cp S p (i - 1)) (A := 255) (B := 255) (by omega) (by omega) (by omega) (by omega)
    exact ⟨⟨by omega, by omega⟩, ⟨by omega, by omega⟩, q⟩
end RM
