/-! what is asked of nodes and curves; box and ink -/
theorem gd_b {S : Int → Int} {g : Nat → Int → Int} {c0 k : Int} (w : WF S g c0) (hl : live S k) : 0 ≤ gd g k ∧ gd g k ≤ 4 := by
  refine ⟨w.2.2.1.2.2.1 k hl, ?_⟩
  by_cases e : k = 0
  · rw [e, w.2.2.1.1.1]; decide
  · exact (w.2.2.1.2.1 k hl e).2.2.1.2
abbrev isN (S : Int → Int) (x : Int) : Prop := (0 ≤ x ∧ x < 24) ∧ 0 ≤ nk S x
def aInfo (S : Int → Int) (g : Nat → Int → Int) (x w : Int) : Int := if isN S x ∧ (0 ≤ w ∧ w ≤ 5) then (if w = 0 then nk S x else if w = 1 then np S x else if w = 2 then gd g x else if w = 3 then chs S x (S 8 + 1) else if w = 4 then en g (pos g x) - pos g x - 1 else if x = 0 then 0 else chs S (np S x) (no S x)) else -1
def aCurve (S : Int → Int) (p v : Int) : Int := if (0 ≤ p ∧ p ≤ 6) ∧ (0 ≤ v ∧ v ≤ 255) then cval (cp S p) (cq S p) v else -1
def inv (f : Int → Int) (v : Int) : Int := if ffi (fun x => v ≤ f x) 256 < 256 then ffi (fun x => v ≤ f x) 256 else -4
def aInv (S : Int → Int) (p v : Int) : Int := if (0 ≤ p ∧ p ≤ 6) ∧ (0 ≤ v ∧ v ≤ 255) then inv (cval (cp S p) (cq S p)) v else -1
section NI
variable {h : Zm} {F : Nat → Int → Int} {A n M : Nat} {S : Int → Int} {g : Nat → Int → Int} {c0 : Int}
theorem s_has {Q : Int → Zm → Prop} {x : Int} (kt : kT h A) (cs : CS F A S g) (wn : WN S) (hx : InR x) (q : Q (bi (isN S x)) (zwI h F)) : mX5_has (A + 2) x (zwI h F) Q := by
  unfold mX5_has
  obtain ⟨⟨k1, k2, k3, k4⟩, ⟨k5, k6, k7⟩, k8⟩ := kt
  refine s_within hx z_in0 ⟨by decide, by decide⟩ (f_bi (fun z => ?_) (fun z => ?_))
  · have h8 := k8 x z.1 (by omega)
    have hn := wn.2.1 x z.1 (by omega)
    refine f_gr k1 k2 (f_ldr k5 (by decide) z.1 (by omega) h8.1 (f_giv h8.2 (cs.2.2.2.2 x z.1 (by omega)).1.1 fun r => f_eq r ⟨by decide, by decide⟩ (fun e => ?_) (fun e => ?_)))
    · rw [bi_f (fun y => by have := y.2; omega)] at q; exact q
    · rw [bi_t ⟨⟨z.1, by omega⟩, by omega⟩] at q; exact q
  · rw [bi_f (fun y => z ⟨y.1.1, by have := y.1.2; omega⟩)] at q; exact q
theorem s_startOf {Q : Int → Zm → Prop} {x : Int} (kt : kT h A) (cs : CS F A S g) (w : WF S g c0) (hl : live S x) (q : Q (pos g x) (zwI h F)) : mX5_startOf (A + 2) x (zwI h F) Q := by
  unfold mX5_startOf mX5_startOf_H2
  obtain ⟨⟨k1, k2, k3, k4⟩, ⟨k5, k6, k7⟩, k8⟩ := kt
  have wo := w.2.2.2
  have hc := wo.1.1
  have hlx := hl.1
  obtain ⟨⟨p0, p1⟩, p2⟩ := pos_ok wo hl
  refine lfp1_up (h := h) (pos g x) (fun i F' => F' = F ∧ 0 ≤ i) (fun X i F' hi hI hX => ?_) 0 F p0 ⟨rfl, Int.le_refl _⟩
  obtain ⟨rfl, i0⟩ := hI
  unfold mX5_startOf_B2
  have hli := wo.2.1 i i0 (by omega)
  have hli' := hli.1
  refine f_giv k1 cs.2.2.2.1.1 fun _ => f_lt ⟨by omega, by omega⟩ ⟨by omega, by omega⟩ (fun z => f_gr k1 k3 (f_ldv k6 i0 (by omega) (cs.2.2.2.1.2 i i0 z) fun _ => f_eq ⟨by omega, by omega⟩ ⟨by omega, by omega⟩ (fun e => ?_) (fun e => hX ?_ _ ⟨rfl, by omega⟩))) (fun z => by omega)
  · have := pos_u wo i0 z e
    rw [this] at q
    exact q
  · rcases Int.lt_or_le i (pos g x) with y | y
    · exact y
    · have : i = pos g x := by omega
      rw [this] at e
      exact absurd p2 e
theorem s_endOf {Q : Int → Zm → Prop} {x : Int} (kt : kT h A) (cs : CS F A S g) (w : WF S g c0) (hl : live S x) (q : Q (en g (pos g x)) (zwI h F)) : mX5_endOf (A + 2) x (zwI h F) Q := by
  unfold mX5_endOf
  obtain ⟨⟨k1, k2, k3, k4⟩, ⟨k5, k6, k7⟩, k8⟩ := id kt
  have wo := w.2.2.2
  have hc := wo.1.1
  have hlx := hl.1
  obtain ⟨⟨p0, p1⟩, p2⟩ := pos_ok wo hl
  have hd := gd_b w hl
  refine f_rc k1 (s_startOf kt cs w hl (f_rc k1 (s_nodeAt kt hlx.1 hlx.2 (f_giv (k8 x hlx.1 hlx.2).2 ((cs.2.2.2.2 x hlx.1 hlx.2).2 hl.2).1.2 fun _ => ?_))))
  unfold mX5_endOf_H17
  have hse := en_SE p0 p1
  refine lfp1_up (h := h) (en g (pos g x)) (fun i F' => F' = F ∧ pos g x < i) (fun X i F' hi hI hX => ?_) (pos g x + 1) F (by have := hse.1; omega) ⟨rfl, by omega⟩
  obtain ⟨rfl, i0⟩ := hI
  unfold mX5_endOf_B17
  have he := hse.1
  refine f_giv k1 cs.2.2.2.1.1 fun _ => f_lt ⟨by omega, by omega⟩ ⟨by omega, by omega⟩ (fun z => ?_) (fun z => ?_)
  · have hli := wo.2.1 i (by omega) z
    have hdi := gd_b w hli
    refine f_gr k1 k3 (f_ldv k6 (by omega) (by omega) (cs.2.2.2.1.2 i (by omega) z) fun _ => f_rc k1 (s_nodeAt kt hli.1.1 hli.1.2 (f_giv (k8 _ hli.1.1 hli.1.2).2 ((cs.2.2.2.2 _ hli.1.1 hli.1.2).2 hli.2).1.2 fun _ => f_le ⟨by omega, by omega⟩ ⟨by omega, by omega⟩ (fun e => ?_) (fun e => hX ?_ _ ⟨rfl, by omega⟩))))
    · have ei : i = en g (pos g x) := by
        rcases Int.lt_or_le i (en g (pos g x)) with y | y
        · have := hse.2.1 i i0 y
          rw [p2] at this
          omega
        · omega
      refine f_giv k1 cs.2.2.2.1.1 fun _ => s_min ⟨by omega, by omega⟩ ⟨by omega, by omega⟩ ?_
      rw [show min i (gc g) = en g (pos g x) by omega]
      exact q
    · rcases Int.lt_or_le i (en g (pos g x)) with y | y
      · exact y
      · have ei : i = en g (pos g x) := by omega
        have := hse.2.2 (by omega)
        rw [p2, ← ei] at this
        omega
  · refine f_giv k1 cs.2.2.2.1.1 fun _ => s_min ⟨by omega, by omega⟩ ⟨by omega, by omega⟩ ?_
    rw [show min i (gc g) = en g (pos g x) by omega]
    exact q
theorem s_childrenOf {Q : Int → Zm → Prop} {x : Int} (kt : kT h A) (cs : CS F A S g) (w : WF S g c0) (hx : InR x) (q : Q (chs S x (S 8 + 1)) (zwI h F)) : mX5_childrenOf (A + 2) x (zwI h F) Q := by
  unfold mX5_childrenOf mX5_childrenOf_H4
  obtain ⟨⟨k1, k2, k3, k4⟩, ⟨k5, k6, k7⟩, k8⟩ := id kt
  have wo := w.2.2.2
  have hc := wo.1.1
  rw [chs_all w] at q
  refine lfp2_up2 (h := h) (gc g) (fun v i F' => F' = F ∧ 1 ≤ i ∧ v = smI (fun i => bi (1 ≤ i ∧ np S (go g i) = x)) i) (fun X v i F' hi hI hX => ?_) 0 1 F (by omega) ⟨rfl, by decide, rfl⟩
  obtain ⟨rfl, i0, i1⟩ := hI
  have hb := smI_b (f := fun i => bi (1 ≤ i ∧ np S (go g i) = x)) (m := 1) (k := i) (by omega) (fun i _ _ => bi_b _)
  have es := smI_s (fun i => bi (1 ≤ i ∧ np S (go g i) = x)) (k := i) (by omega)
  unfold mX5_childrenOf_B4
  refine f_giv k1 cs.2.2.2.1.1 fun _ => f_lt ⟨by omega, by omega⟩ ⟨by omega, by omega⟩ (fun z => ?_) (fun z => ?_)
  · have hli := wo.2.1 i (by omega) z
    refine f_gr k1 k3 (f_ldv k6 (by omega) (by omega) (cs.2.2.2.1.2 i (by omega) z) fun _ => f_rc k1 (s_nodeAt kt hli.1.1 hli.1.2 (f_giv (k8 _ hli.1.1 hli.1.2).2 ((cs.2.2.2.2 _ hli.1.1 hli.1.2).2 hli.2).1.1 fun r => f_eq r hx (fun e => hX z _ _ ⟨rfl, by omega, ?_⟩) (fun e => hX z _ _ ⟨rfl, by omega, ?_⟩))))
    · rw [es, bi_t ⟨i0, e⟩, i1]
    · rw [es, bi_f (fun y => e y.2), i1, Int.add_zero]
  · have : i = gc g := by omega
    rw [i1, this]
    exact q
theorem s_placeOf {Q : Int → Zm → Prop} {x : Int} (kt : kT h A) (cs : CS F A S g) (w : WF S g c0) (hl : live S x) (q : Q (if x = 0 then 0 else chs S (np S x) (no S x)) (zwI h F)) : mX5_placeOf (A + 2) x (zwI h F) Q := by
  unfold mX5_placeOf
  obtain ⟨⟨k1, k2, k3, k4⟩, ⟨k5, k6, k7⟩, k8⟩ := id kt
  have wo := w.2.2.2
  have hc := wo.1.1
  have hlx := hl.1
  obtain ⟨⟨p0, p1⟩, p2⟩ := pos_ok wo hl
  refine f_rc k1 (s_nodeAt kt hlx.1 hlx.2 (f_giv (k8 x hlx.1 hlx.2).2 ((cs.2.2.2.2 x hlx.1 hlx.2).2 hl.2).1.1 fun rp => ?_))
  unfold mX5_placeOf_H14
  refine lfp2_up2 (h := h) (gc g) (fun v i F' => F' = F ∧ 1 ≤ i ∧ (x ≠ 0 → i ≤ pos g x) ∧ v = smI (fun i => bi ((1 ≤ i ∧ i < pos g x) ∧ np S (go g i) = np S x)) i ∧ (x = 0 → v = 0)) (fun X v i F' hi hI hX => ?_) 0 1 F (by omega) ⟨rfl, by decide, fun e => ?_, rfl, fun _ => rfl⟩
  · obtain ⟨rfl, i0, i1, i2, i3⟩ := hI
    have hb := smI_b (f := fun i => bi ((1 ≤ i ∧ i < pos g x) ∧ np S (go g i) = np S x)) (m := 1) (k := i) (by omega) (fun i _ _ => bi_b _)
    have es := smI_s (fun i => bi ((1 ≤ i ∧ i < pos g x) ∧ np S (go g i) = np S x)) (k := i) (by omega)
    unfold mX5_placeOf_B14
    refine f_giv k1 cs.2.2.2.1.1 fun _ => f_lt ⟨by omega, by omega⟩ ⟨by omega, by omega⟩ (fun z => ?_) (fun z => ?_)
    · have hli := wo.2.1 i (by omega) z
      have hli' := hli.1
      refine f_gr k1 k3 (f_ldv k6 (by omega) (by omega) (cs.2.2.2.1.2 i (by omega) z) fun _ => f_eq ⟨by omega, by omega⟩ ⟨by omega, by omega⟩ (fun e => f_eq ⟨by omega, by omega⟩ z_in0 (fun e0 => ?_) (fun e0 => ?_)) (fun e => f_gr k1 k3 (f_ldv k6 (by omega) (by omega) (cs.2.2.2.1.2 i (by omega) z) fun _ => f_rc k1 (s_nodeAt kt hli.1.1 hli.1.2 (f_giv (k8 _ hli.1.1 hli.1.2).2 ((cs.2.2.2.2 _ hli.1.1 hli.1.2).2 hli.2).1.1 fun r => f_eq r rp (fun e2 => hX z _ _ ⟨rfl, by omega, ?_, ?_, ?_⟩) (fun e2 => hX z _ _ ⟨rfl, by omega, ?_, ?_, ?_⟩))))))
      · rw [if_pos e0] at q; exact q
      · rw [if_neg e0, chs_at w hl e0] at q
        have ep := pos_u wo (by omega) z e
        have : smI (fun i => bi ((1 ≤ i ∧ i < pos g x) ∧ np S (go g i) = np S x)) (gc g) = v := by
          rw [i2]
          have key : ∀ m : Nat, i + m ≤ gc g → smI (fun i => bi ((1 ≤ i ∧ i < pos g x) ∧ np S (go g i) = np S x)) (i + m) = smI (fun i => bi ((1 ≤ i ∧ i < pos g x) ∧ np S (go g i) = np S x)) i := by
            intro m
            induction m with
            | zero => intro _; rw [show i + ((0 : Nat) : Int) = i by omega]
            | succ m ih =>
              intro hm
              rw [show i + ((m + 1 : Nat) : Int) = (i + (m : Int)) + 1 by omega, smI_s _ (by omega), ih (by omega), bi_f (fun y => by omega), Int.add_zero]
          have := key (gc g - i).toNat (by omega)
          rw [show i + (((gc g - i).toNat : Nat) : Int) = gc g by omega] at this
          exact this
        rw [this] at q
        exact q
      · intro e0
        have := i1 e0
        have : i ≠ pos g x := fun y => e (by rw [y]; exact p2)
        omega
      · have hne : i ≠ pos g x := fun y => e (by rw [y]; exact p2)
        by_cases e0 : x = 0
        · exfalso
          have h1 := (w.2.2.1.2.1 _ hli (o_pos wo i0 z)).1.1
          rw [e2, e0, w.2.1.1.2.1] at h1
          omega
        · have := i1 e0
          rw [es, bi_t ⟨⟨i0, by omega⟩, e2⟩, i2]
      · intro e0
        exfalso
        have h1 := (w.2.2.1.2.1 _ hli (o_pos wo i0 z)).1.1
        rw [e2, e0, w.2.1.1.2.1] at h1
        omega
      · intro e0
        have := i1 e0
        have : i ≠ pos g x := fun y => e (by rw [y]; exact p2)
        omega
      · rw [es, bi_f (fun y => e2 y.2), i2, Int.add_zero]
      · exact i3
    · refine f_eq ⟨by omega, by omega⟩ z_in0 (fun e0 => ?_) (fun e0 => ?_)
      · rw [if_pos e0] at q; exact q
      · have := i1 e0
        omega
  · rcases Int.lt_or_le (pos g x) 1 with z | z
    · have : pos g x = 0 := by omega
      rw [this, wo.1.2] at p2
      exact absurd p2.symm e
    · exact z
theorem s_nodeInfo6 {Q : Int → Zm → Prop} {x p : Int} (kd : kD h n) (cs : CS F (n + 1) S g) (w : WF S g c0) (hx : InR x) (hp : InR p) (q : Q (aInfo S g x p) (zwI h F)) : mX6_nodeInfo n x p (zwI h F) Q := by
  unfold mX6_nodeInfo
  unfold aInfo at q
  obtain ⟨⟨k1, k2, k3, k4⟩, ⟨k5, k6, k7⟩, k8⟩ := id kd.ks.2.1
  refine f_gr kd.k kd.pg (f_gr kd.ks.1.1 kd.ks.1.2.2.1 (f_rc k1 (s_has kd.ks.2.1 cs w.2.1 hx (f_bi (fun z => ⟨hp, fun e => ?_, fun e => ?_, fun e => ?_, fun e => ?_, fun e => ?_, fun e => ?_, fun e => ?_⟩) (fun z => ?_)))))
  · rw [if_pos ⟨z, by omega⟩, if_pos e] at q
    exact f_gr kd.k kd.pg (f_gr kd.ks.1.1 kd.ks.1.2.2.1 (f_rc k1 (s_nodeAt kd.ks.2.1 z.1.1 z.1.2 (f_giv (k8 x z.1.1 z.1.2).2 (cs.2.2.2.2 x z.1.1 z.1.2).1.1 fun _ => q))))
  · rw [if_pos ⟨z, by omega⟩, if_neg (by omega), if_pos e] at q
    exact f_gr kd.k kd.pg (f_gr kd.ks.1.1 kd.ks.1.2.2.1 (f_rc k1 (s_nodeAt kd.ks.2.1 z.1.1 z.1.2 (f_giv (k8 x z.1.1 z.1.2).2 ((cs.2.2.2.2 x z.1.1 z.1.2).2 z.2).1.1 fun _ => q))))
  · rw [if_pos ⟨z, by omega⟩, if_neg (by omega), if_neg (by omega), if_pos e] at q
    exact f_gr kd.k kd.pg (f_gr kd.ks.1.1 kd.ks.1.2.2.1 (f_rc k1 (s_nodeAt kd.ks.2.1 z.1.1 z.1.2 (f_giv (k8 x z.1.1 z.1.2).2 ((cs.2.2.2.2 x z.1.1 z.1.2).2 z.2).1.2 fun _ => q))))
  · rw [if_pos ⟨z, by omega⟩, if_neg (by omega), if_neg (by omega), if_neg (by omega), if_pos e] at q
    exact f_gr kd.k kd.pg (f_gr kd.ks.1.1 kd.ks.1.2.2.1 (f_rc k1 (s_childrenOf kd.ks.2.1 cs w hx q)))
  · rw [if_pos ⟨z, by omega⟩, if_neg (by omega), if_neg (by omega), if_neg (by omega), if_neg (by omega), if_pos e] at q
    refine f_gr kd.k kd.pg (f_gr kd.ks.1.1 kd.ks.1.2.2.1 (f_rc k1 ?_))
    unfold mX5_belowOf
    exact f_rc k1 (s_endOf kd.ks.2.1 cs w z (f_rc k1 (s_startOf kd.ks.2.1 cs w z q)))
  · rw [if_pos ⟨z, by omega⟩, if_neg (by omega), if_neg (by omega), if_neg (by omega), if_neg (by omega), if_neg (by omega)] at q
    exact f_gr kd.k kd.pg (f_gr kd.ks.1.1 kd.ks.1.2.2.1 (f_rc k1 (s_placeOf kd.ks.2.1 cs w z q)))
  · rw [if_neg (fun y => by omega)] at q
    exact q
  · rw [if_neg (fun y => z y.1)] at q
    exact q
theorem s_nodeCount6 {Q : Int → Zm → Prop} (kd : kD h n) (cs : CS F (n + 1) S g) (q : Q (gc g) (zwI h F)) : mX6_nodeCount n (zwI h F) Q := by
  unfold mX6_nodeCount
  exact f_gr kd.k kd.pg (f_gr kd.ks.1.1 kd.ks.1.2.2.1 (f_giv kd.ks.2.1.1.1 cs.2.2.2.1.1 fun _ => q))
theorem s_curve6 {Q : Int → Zm → Prop} {p v : Int} (kd : kD h n) (cs : CS F (n + 1) S g) (ws : WS S c0) (hp : InR p) (hv : InR v) (q : Q (aCurve S p v) (zwI h F)) : mX6_curve n p v (zwI h F) Q := by
  unfold mX6_curve
  unfold aCurve at q
  refine s_isPlate6 hp (f_bi (fun z => s_isPart6 hv (f_bi (fun z2 => ?_) (fun z2 => ?_))) (fun z => ?_))
  · rw [if_pos ⟨z, z2⟩] at q
    have hc := kd.ks.2.2 p z.1 (by omega)
    exact f_gr kd.k kd.pg (f_gr kd.ks.1.1 kd.ks.1.2.2.2.1 (f_ldr kd.ks.1.2.2.2.2.2 (by decide) z.1 (by omega) hc.1 (f_rc hc.2.1 (s_valueAt hc.2 (cs.2.2.1 p z.1 (by omega)) (ws.2.2.2 p z.1 (by omega)) z2.1 z2.2 q))))
  · rw [if_neg (fun y => z2 y.2)] at q; exact q
  · rw [if_neg (fun y => z y.1)] at q; exact q
theorem s_inverse6 {Q : Int → Zm → Prop} {p v : Int} (kd : kD h n) (cs : CS F (n + 1) S g) (ws : WS S c0) (hp : InR p) (hv : InR v) (q : Q (aInv S p v) (zwI h F)) : mX6_inverse n p v (zwI h F) Q := by
  unfold mX6_inverse
  unfold aInv at q
  refine s_isPlate6 hp (f_bi (fun z => s_isPart6 hv (f_bi (fun z2 => ?_) (fun z2 => ?_))) (fun z => ?_))
  · rw [if_pos ⟨z, z2⟩] at q
    unfold inv at q
    have hc := kd.ks.2.2 p z.1 (by omega)
    have hw := ws.2.2.2 p z.1 (by omega)
    refine f_gr kd.k kd.pg (f_gr kd.ks.1.1 kd.ks.1.2.2.2.1 (f_ldr kd.ks.1.2.2.2.2.2 (by decide) z.1 (by omega) hc.1 ?_))
    unfold mX6_inverse_H29
    refine lfp1_up (h := h) 256 (fun i F' => F' = F ∧ 0 ≤ i ∧ ∀ c, 0 ≤ c → c < i → ¬ v ≤ cval (cp S p) (cq S p) c) (fun X i F' hi hI hX => ?_) 0 F (by decide) ⟨rfl, by decide, fun c a b => by omega⟩
    obtain ⟨rfl, i0, i1⟩ := hI
    unfold mX6_inverse_B29
    refine f_le ⟨by omega, by omega⟩ ⟨by decide, by decide⟩ (fun u => f_rc hc.2.1 (s_valueAt hc.2 (cs.2.2.1 p z.1 (by omega)) hw i0 u ?_)) (fun u => ?_)
    · have hr := cval_r hw i0 u
      refine f_lt ⟨by omega, by omega⟩ hv (fun e => hX (by omega) _ ⟨rfl, by omega, fun c a b => ?_⟩) (fun e => ?_)
      · by_cases ec : c = i
        · rw [ec]; omega
        · exact i1 c a (by omega)
      · have := ffi_f (P := fun x => v ≤ cval (cp S p) (cq S p) x) (n := 256) i0 (by omega) e i1
        rw [this, if_pos (by omega)] at q
        exact q
    · have := ffi_n (P := fun x => v ≤ cval (cp S p) (cq S p) x) (n := 256) (by decide) (fun c a b => i1 c a (by omega))
      rw [this, if_neg (by decide)] at q
      exact q
  · rw [if_neg (fun y => z2 y.2)] at q; exact q
  · rw [if_neg (fun y => z y.1)] at q; exact q
theorem s_curve7 {Q : Int → Zm → Prop} {p v : Int} (km : kM h M) (hS : RS F M S) (ws : WS S c0) (hp : InR p) (hv : InR v) (q : Q (aCurve S p v) (zwI h F)) : mX7_curve M p v (zwI h F) Q := by
  unfold mX7_curve
  unfold aCurve at q
  refine s_isPlate7 hp (f_bi (fun z => s_isValue7 hv (f_bi (fun z2 => ?_) (fun z2 => ?_))) (fun z => ?_))
  · rw [if_pos ⟨z, z2⟩] at q
    exact f_rc km.1 (s_valueOf km hS ⟨z.1, by omega⟩ (ws.2.2.2 p z.1 (by omega)) z2.1 z2.2 q)
  · rw [if_neg (fun y => z2 y.2)] at q; exact q
  · rw [if_neg (fun y => z y.1)] at q; exact q
theorem s_inverse7 {Q : Int → Zm → Prop} {p v : Int} (km : kM h M) (hS : RS F M S) (ws : WS S c0) (hp : InR p) (hv : InR v) (q : Q (aInv S p v) (zwI h F)) : mX7_inverse M p v (zwI h F) Q := by
  unfold mX7_inverse
  unfold aInv at q
  refine s_isPlate7 hp (f_bi (fun z => s_isValue7 hv (f_bi (fun z2 => ?_) (fun z2 => ?_))) (fun z => ?_))
  · rw [if_pos ⟨z, z2⟩] at q
    unfold inv at q
    have hw := ws.2.2.2 p z.1 (by omega)
    unfold mX7_inverse_H18
    refine lfp1_up (h := h) 256 (fun i F' => F' = F ∧ 0 ≤ i ∧ ∀ c, 0 ≤ c → c < i → ¬ v ≤ cval (cp S p) (cq S p) c) (fun X i F' hi hI hX => ?_) 0 F (by decide) ⟨rfl, by decide, fun c a b => by omega⟩
    obtain ⟨rfl, i0, i1⟩ := hI
    unfold mX7_inverse_B18
    refine f_lt ⟨by omega, by omega⟩ ⟨by decide, by decide⟩ (fun u => f_rc km.1 (s_valueOf km hS ⟨z.1, by omega⟩ hw i0 (by omega) ?_)) (fun u => ?_)
    · have hr := cval_r hw i0 (show i ≤ 255 by omega)
      refine f_lt ⟨by omega, by omega⟩ hv (fun e => hX (by omega) _ ⟨rfl, by omega, fun c a b => ?_⟩) (fun e => f_lt ⟨by omega, by omega⟩ ⟨by decide, by decide⟩ (fun _ => ?_) (fun y => by omega))
      · by_cases ec : c = i
        · rw [ec]; omega
        · exact i1 c a (by omega)
      · have := ffi_f (P := fun x => v ≤ cval (cp S p) (cq S p) x) (n := 256) i0 (by omega) e i1
        rw [this, if_pos (by omega)] at q
        exact q
    · refine f_lt ⟨by omega, by omega⟩ ⟨by decide, by decide⟩ (fun y => by omega) (fun _ => ?_)
      have := ffi_n (P := fun x => v ≤ cval (cp S p) (cq S p) x) (n := 256) (by decide) (fun c a b => i1 c a (by omega))
      rw [this, if_neg (by decide)] at q
      exact q
  · rw [if_neg (fun y => z2 y.2)] at q; exact q
  · rw [if_neg (fun y => z y.1)] at q; exact q
theorem s_depth {Q : Int → Zm → Prop} {x : Int} (km : kM h M) (hS : RS F M S) (w : WF S g c0) (hl : live S x) (q : Q (gd g x) (zwI h F)) : mX7_depth M x (zwI h F) Q := by
  unfold mX7_depth mX7_depth_H4
  have hd := gd_b w hl
  refine lfp2_i (fun _ k _ => (gd g k).toNat) (fun v k m => m = zwI h F ∧ live S k ∧ 0 ≤ v ∧ v + gd g k = gd g x) (fun X v k m hI hX => ?_) 0 x _ ⟨rfl, hl, Int.le_refl _, by omega⟩
  obtain ⟨rfl, lk, v0, v1⟩ := hI
  have hk := lk.1
  have hdk := gd_b w lk
  unfold mX7_depth_B4
  refine f_eq ⟨by omega, by omega⟩ z_in0 (fun e => ?_) (fun e => f_rc km.1 (s_ofp km hS hk.1 hk.2 fun _ => ?_))
  · rw [e, w.2.2.1.1.1] at v1
    rw [show v = gd g x by omega]
    exact q
  · have hp := w.2.2.1.2.1 k lk e
    have hdp := gd_b w hp.1
    exact hX _ _ _ ⟨rfl, hp.1, by omega, by omega⟩ (by omega)
theorem s_isBelow {Q : Int → Zm → Prop} {k x : Int} (km : kM h M) (hS : RS F M S) (w : WF S g c0) (lk : live S k) (lx : live S x) (q : Q (bi (pos g x ≤ pos g k ∧ pos g k < en g (pos g x))) (zwI h F)) : mX7_isBelow M k x (zwI h F) Q := by
  unfold mX7_isBelow mX7_isBelow_H2
  have wo := w.2.2.2
  have hx := lx.1
  obtain ⟨⟨p0, p1⟩, p2⟩ := pos_ok wo lx
  have hse := en_SE p0 p1
  refine lfp1_i (fun k _ => (pos g k).toNat) (fun k' m => m = zwI h F ∧ live S k' ∧ ((pos g x ≤ pos g k' ∧ pos g k' < en g (pos g x)) ↔ (pos g x ≤ pos g k ∧ pos g k < en g (pos g x)))) (fun X k' m hI hX => ?_) k _ ⟨rfl, lk, Iff.rfl⟩
  obtain ⟨rfl, lk', hi⟩ := hI
  have hk := lk'.1
  unfold mX7_isBelow_B2
  refine f_eq ⟨by omega, by omega⟩ ⟨by omega, by omega⟩ (fun e => f_eq ⟨by omega, by omega⟩ ⟨by omega, by omega⟩ (fun _ => ?_) (fun y => absurd e y)) (fun e => f_eq ⟨by omega, by omega⟩ z_in0 (fun e0 => f_eq ⟨by omega, by omega⟩ ⟨by omega, by omega⟩ (fun y => absurd y e) (fun _ => ?_)) (fun e0 => f_rc km.1 (s_ofp km hS hk.1 hk.2 fun _ => ?_)))
  · rw [bi_t (hi.mp (by rw [e]; have := hse.1; omega))] at q
    exact q
  · rw [bi_f (fun y => by
      have h1 := hi.mpr y
      rw [e0, pos_0 wo] at h1
      have : pos g x = 0 := by omega
      exact e (pos_i wo lk' lx (by rw [e0, pos_0 wo, this])))] at q
    exact q
  · have hp := w.2.2.1.2.1 k' lk' e0
    obtain ⟨⟨r0, r1⟩, r2⟩ := pos_ok wo lk'
    have r3 : 1 ≤ pos g k' := by
      rcases Int.lt_or_le (pos g k') 1 with z | z
      · have : pos g k' = 0 := by omega
        rw [this, wo.1.2] at r2
        exact absurd r2.symm e0
      · exact z
    have hne : pos g k' ≠ pos g x := fun y => e (pos_i wo lk' lx y)
    have h1 := seg_par w p0 hse r3 r1 hne
    have h2 := (par_pos w r3 r1).1
    rw [r2] at h1 h2
    exact hX _ _ ⟨rfl, hp.1, h1.symm.trans hi⟩ (by omega)
theorem s_countBelow {Q : Int → Zm → Prop} {x : Int} (km : kM h M) (hS : RS F M S) (w : WF S g c0) (lx : live S x) (q : Q (en g (pos g x) - pos g x - 1) (zwI h F)) : mX7_countBelow M x (zwI h F) Q := by
  unfold mX7_countBelow mX7_countBelow_H4
  rw [← cnb_e w lx] at q
  have hx := lx.1
  refine lfp2_up2 (h := h) 24 (fun v i F' => F' = F ∧ 1 ≤ i ∧ v = smI (fun k => bi ((1 ≤ k ∧ k ≠ x) ∧ 0 ≤ nk S k ∧ (pos g x ≤ pos g k ∧ pos g k < en g (pos g x)))) i) (fun X v i F' hi hI hX => ?_) 0 1 F (by decide) ⟨rfl, by decide, rfl⟩
  obtain ⟨rfl, i0, i1⟩ := hI
  have es := smI_s (fun k => bi ((1 ≤ k ∧ k ≠ x) ∧ 0 ≤ nk S k ∧ (pos g x ≤ pos g k ∧ pos g k < en g (pos g x)))) (k := i) (by omega)
  unfold mX7_countBelow_B4
  refine f_lt ⟨by omega, by omega⟩ ⟨by decide, by decide⟩ (fun z => f_eq ⟨by omega, by omega⟩ ⟨by omega, by omega⟩ (fun e => hX z _ _ ⟨rfl, by omega, ?_⟩) (fun e => f_rc km.1 (s_ofk km hS (by omega) z fun r => f_lt r z_in0 (fun e2 => hX z _ _ ⟨rfl, by omega, ?_⟩) (fun e2 => f_rc km.1 (s_isBelow km hS w ⟨⟨by omega, z⟩, e2⟩ lx (f_bi (fun t => hX z _ _ ⟨rfl, by omega, ?_⟩) (fun t => hX z _ _ ⟨rfl, by omega, ?_⟩))))))) (fun z => ?_)
  · rw [es, bi_f (fun y => y.1.2 e), i1]
  · rw [es, bi_f (fun y => by omega), i1]
  · rw [es, bi_t ⟨⟨i0, e⟩, e2, t⟩, i1]
  · rw [es, bi_f (fun y => t y.2.2), i1]
  · have : i = 24 := by omega
    subst this
    rw [i1]
    exact q
theorem s_children {Q : Int → Zm → Prop} {x b : Int} (km : kM h M) (hS : RS F M S) (hx : InR x) (hb : InR b) (q : Q (chs S x b) (zwI h F)) : mX7_children M x b (zwI h F) Q := by
  unfold mX7_children mX7_children_H5
  refine lfp2_up2 (h := h) 24 (fun v i F' => F' = F ∧ 1 ≤ i ∧ v = smI (fun k => bi (1 ≤ k ∧ 0 ≤ nk S k ∧ np S k = x ∧ no S k < b)) i) (fun X v i F' hi hI hX => ?_) 0 1 F (by decide) ⟨rfl, by decide, rfl⟩
  obtain ⟨rfl, i0, i1⟩ := hI
  have es := smI_s (fun k => bi (1 ≤ k ∧ 0 ≤ nk S k ∧ np S k = x ∧ no S k < b)) (k := i) (by omega)
  unfold mX7_children_B5
  refine f_lt ⟨by omega, by omega⟩ ⟨by decide, by decide⟩ (fun z => f_rc km.1 (s_isChild km hS (by omega) z hx fun r hr => ?_)) (fun z => ?_)
  · rcases hr with ⟨rfl, hn⟩ | ⟨rfl, hc⟩
    · refine f_eq z_in0 z_in0 (fun _ => hX z _ _ ⟨rfl, by omega, ?_⟩) (fun y => absurd rfl y)
      rw [es, bi_f (fun y => hn ⟨⟨⟨by omega, z⟩, y.2.1⟩, y.1, y.2.2.1⟩), i1]
    · refine f_eq ⟨by decide, by decide⟩ z_in0 (fun y => absurd y (by decide)) (fun _ => f_rc km.1 (s_ofo km hS (by omega) z fun r => f_lt r hb (fun e => hX z _ _ ⟨rfl, by omega, ?_⟩) (fun e => hX z _ _ ⟨rfl, by omega, ?_⟩)))
      · rw [es, bi_t ⟨i0, hc.1.2, hc.2.2, e⟩, i1]
      · rw [es, bi_f (fun y => by omega), i1]
  · have : i = 24 := by omega
    subst this
    rw [i1]
    exact q
theorem s_nodeInfo7 {Q : Int → Zm → Prop} {x p : Int} (km : kM h M) (hS : RS F M S) (w : WF S g c0) (hc9 : c0 ≤ 1000) (hx : InR x) (hp : InR p) (q : Q (aInfo S g x p) (zwI h F)) : mX7_nodeInfo M x p (zwI h F) Q := by
  unfold mX7_nodeInfo
  unfold aInfo at q
  have h8 := w.1.2.2.1
  refine f_rc km.1 (s_isNode km hS hx (f_bi (fun z => s_in hp z_in0 ⟨by decide, by decide⟩ (f_bi (fun z2 => ⟨hp, fun e => ?_, fun e => ?_, fun e => ?_, fun e => ?_, fun e => ?_, fun e => ?_⟩) (fun z2 => ?_))) (fun z => ?_)))
  · rw [if_pos ⟨z, z2⟩, if_pos e] at q
    exact f_rc km.1 (s_ofk km hS z.1.1 z.1.2 fun _ => q)
  · rw [if_pos ⟨z, z2⟩, if_neg (by omega), if_pos e] at q
    exact f_rc km.1 (s_ofp km hS z.1.1 z.1.2 fun _ => q)
  · rw [if_pos ⟨z, z2⟩, if_neg (by omega), if_neg (by omega), if_pos e] at q
    exact f_rc km.1 (s_depth km hS w z q)
  · rw [if_pos ⟨z, z2⟩, if_neg (by omega), if_neg (by omega), if_neg (by omega), if_pos e] at q
    exact r_ld km hS (by decide) (by decide) fun _ => f_rc km.1 (s_children km hS hx ⟨by omega, by omega⟩ q)
  · rw [if_pos ⟨z, z2⟩, if_neg (by omega), if_neg (by omega), if_neg (by omega), if_neg (by omega), if_pos e] at q
    exact f_rc km.1 (s_countBelow km hS w z q)
  · rw [if_pos ⟨z, z2⟩, if_neg (by omega), if_neg (by omega), if_neg (by omega), if_neg (by omega), if_neg (by omega)] at q
    refine f_eq hx z_in0 (fun e0 => ?_) (fun e0 => ?_)
    · rw [if_pos e0] at q; exact q
    · rw [if_neg e0] at q
      exact f_rc km.1 (s_ofp km hS z.1.1 z.1.2 fun r1 => f_rc km.1 (s_ofo km hS z.1.1 z.1.2 fun r2 => f_rc km.1 (s_children km hS r1 r2 q)))
  · rw [if_neg (fun y => z2 y.2)] at q
    exact q
  · rw [if_neg (fun y => z y.1)] at q
    exact q
theorem s_nodeCount7 {Q : Int → Zm → Prop} (km : kM h M) (hS : RS F M S) (w : WF S g c0) (q : Q (gc g) (zwI h F)) : mX7_nodeCount M (zwI h F) Q := by
  unfold mX7_nodeCount
  refine f_rc km.1 (s_countBelow km hS w (live0 w.2.1) ?_)
  rw [pos_0 w.2.2.2, en_0 w, show gc g - 0 - 1 + 1 = gc g by omega]
  exact q
end NI
