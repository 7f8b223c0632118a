/-! questions about the page: their answers, and the class's -/
section KD
variable {h : Zm} {n : Nat}
theorem kD.k (k : kD h n) : zkd h n = (16, 8) := k.1.1
theorem kD.pg (k : kD h n) : zR h n 0 = n + 1 := k.1.2.1
theorem kD.hi (k : kD h n) : zR h n 1 = n + 53 := k.1.2.2.1
theorem kD.dr (k : kD h n) : zR h n 3 = n + 314 := k.1.2.2.2.1
theorem kD.px (k : kD h n) : zR h n 4 = n + 315 := k.1.2.2.2.2.1
theorem kD.to (k : kD h n) : zR h n 6 = n + 465 := k.1.2.2.2.2.2.2.1
theorem kD.kto (k : kD h n) : zkd h (n + 465) = (1, 7) := k.2.1.2.1
theorem kD.ks (k : kD h n) : kS h (n + 1) := k.2.2.1
theorem kD.kp (k : kD h n) : kP h (n + 315) := k.2.2.2.1
end KD
theorem gdiv {W x y : Int} (h0 : 0 ≤ x) (h1 : x < W) : (y * W + x) % W = x ∧ (y * W + x) / W = y := by
  rw [Int.add_comm, Int.add_mul_emod_self_right, Int.add_mul_ediv_right _ _ (by omega), Int.emod_eq_of_lt h0 h1, Int.ediv_eq_zero_of_lt h0 h1]
  exact ⟨rfl, by omega⟩
def pT (S : Int → Int) (g : Nat → Int → Int) (k : Int) : Int → Int := rnd S g (k % S 0) (k / S 0) (gc g).toNat
def pB (S : Int → Int) (g : Nat → Int → Int) (a k : Int) : Int → Int := bef S a (pT S g k)
def pA (S : Int → Int) (g : Nat → Int → Int) (a k : Int) : Int → Int := aft S (pB S g a k)
def mxI (f : Int → Int) (k : Int) : Int := Nat.rec 0 (fun (n : Nat) (r : Int) => max r (f n)) k.toNat
theorem mxI_s (f : Int → Int) {k : Int} (hk : 0 ≤ k) : mxI f (k + 1) = max (mxI f k) (f k) := by
  unfold mxI
  rw [show (k + 1).toNat = k.toNat + 1 by omega]
  show max _ (f (k.toNat : Int)) = _
  rw [Int.toNat_of_nonneg hk]
theorem mxI_b {f : Int → Int} {m k : Int} (hm : 0 ≤ m) (hf : ∀ i : Int, 0 ≤ i → i < k → 0 ≤ f i ∧ f i ≤ m) : 0 ≤ mxI f k ∧ mxI f k ≤ m := by
  have key : ∀ n : Nat, n ≤ k.toNat → 0 ≤ mxI f n ∧ mxI f n ≤ m := by
    intro n
    induction n with
    | zero => intro _; exact ⟨Int.le_refl _, hm⟩
    | succ n ih =>
      intro h
      have h1 := ih (by omega)
      have h2 := hf n (by omega) (by omega)
      rw [show ((n + 1 : Nat) : Int) = (n : Int) + 1 by omega, mxI_s f (by omega)]
      omega
  rcases Int.lt_or_le k 0 with z | z
  · unfold mxI
    rw [show k.toNat = 0 by omega]
    exact ⟨Int.le_refl _, hm⟩
  · have := key k.toNat (Nat.le_refl _)
    rw [Int.toNat_of_nonneg z] at this
    exact this
abbrev isP (S : Int → Int) (x y : Int) : Prop := (0 ≤ x ∧ x ≤ S 0 - 1) ∧ (0 ≤ y ∧ y ≤ S 1 - 1)
def aRend (S : Int → Int) (g : Nat → Int → Int) (x y w : Int) : Int := if isP S x y ∧ (0 ≤ w ∧ w ≤ 5) then rnd S g x y (gc g).toNat w else -1
def aInk (S : Int → Int) (g : Nat → Int → Int) (x y p : Int) : Int := if isP S x y ∧ (0 ≤ p ∧ p ≤ 7) then tl (aft S (bef S (S 2) (rnd S g x y (gc g).toNat))) p else -1
def tch (S : Int → Int) (g : Nat → Int → Int) (x y : Int) : Nat → Int
  | 0 => -4
  | t + 1 => if inb S g (go g ((t : Int) + 1)) x y ∧ 0 < gop g (np S (go g ((t : Int) + 1))) then go g ((t : Int) + 1) else tch S g x y t
def aTouch (S : Int → Int) (g : Nat → Int → Int) (x y : Int) : Int := if isP S x y then tch S g x y (gc g - 1).toNat else -1
def cov (S : Int → Int) (g : Nat → Int → Int) (a p : Int) : Int := smI (fun k => tl (pA S g a k) p) (S 0 * S 1)
def aCov (S : Int → Int) (g : Nat → Int → Int) (p : Int) : Int := if 0 ≤ p ∧ p ≤ 7 then cov S g (S 2) p else -1
def aGreat (S : Int → Int) (g : Nat → Int → Int) : Int := mxI (fun k => smI (pA S g (S 2) k) 7) (S 0 * S 1)
def aNeed (S : Int → Int) (g : Nat → Int → Int) : Int := mxI (fun k => smI (pB S g (S 2) k) 7) (S 0 * S 1)
def aLim (S : Int → Int) (g : Nat → Int → Int) : Int := smI (fun k => bi (¬ sm7 (pB S g (S 2) k) (pA S g (S 2) k))) (S 0 * S 1)
def aDis (S : Int → Int) (g : Nat → Int → Int) : Int := smI (fun k => bi (dsn (pB S g (S 2) k) (pA S g (S 2) k))) (S 0 * S 1)
theorem px_r {S : Int → Int} {g : Nat → Int → Int} {c0 : Int} (w : WF S g c0) (x y : Int) : tb (rnd S g x y (gc g).toNat) := rnd_r w x y _ (by have := w.2.2.2.1.1; omega)
theorem pB_r {S : Int → Int} {g : Nat → Int → Int} {c0 a : Int} (w : WF S g c0) (ha : 0 ≤ a ∧ a ≤ 100) (k : Int) : b7 (pB S g a k) := fun _ x y => bef_r w.1 (px_r w _ _) ha x y
theorem pA_r {S : Int → Int} {g : Nat → Int → Int} {c0 a : Int} (w : WF S g c0) (ha : 0 ≤ a ∧ a ≤ 100) (k : Int) : r7 (pA S g a k) := fun _ x y => aft_r w.1 (pB_r w ha k) x y
theorem nP {S : Int → Int} {c0 : Int} (w : WS S c0) : 1 ≤ S 0 * S 1 ∧ S 0 * S 1 ≤ 144 := by
  have h := w.1.1
  have h1 := mul_bd (a := S 0) (b := S 1) (A := 12) (B := 12) (by omega) h.1.2 (by omega) h.2.2
  have h2 : 1 * 1 ≤ S 0 * S 1 := Int.mul_le_mul h.1.1 h.2.1 (by decide) (by omega)
  omega
theorem kP_lt {W H x y : Int} (h0 : 0 ≤ x) (h1 : x < W) (h2 : 0 ≤ y) (h3 : y < H) : 0 ≤ y * W + x ∧ y * W + x < W * H := by
  have a1 : 0 ≤ y * W := Int.mul_nonneg h2 (by omega)
  have a2 : (y + 1) * W ≤ H * W := Int.mul_le_mul_of_nonneg_right (by omega) (by omega)
  rw [Int.add_mul, Int.one_mul, Int.mul_comm H W] at a2
  omega
section CQ
variable {h : Zm} {F : Nat → Int → Int} {n : Nat} {S : Int → Int} {g : Nat → Int → Int} {c0 : Int}
theorem s_isPixel6 {Q : Int → Zm → Prop} {x y : Int} (kd : kD h n) (cs : CS F (n + 1) S g) (ws : WS S c0) (hx : InR x) (hy : InR y) (q : Q (bi (isP S x y)) (zwI h F)) : mX6_isPixel n x y (zwI h F) Q := by
  unfold mX6_isPixel
  have hs := ws.1.1
  refine f_gr kd.k kd.pg (f_giv kd.ks.1.1 (cs.1 0 (by decide) (by decide)) fun _ => s_within hx z_in0 ⟨by omega, by omega⟩ (f_bi (fun z => f_gr kd.k kd.pg (f_giv kd.ks.1.1 (cs.1 1 (by decide) (by decide)) fun _ => s_within hy z_in0 ⟨by omega, by omega⟩ (f_bi (fun z2 => ?_) (fun z2 => ?_)))) (fun z => ?_)))
  · rw [bi_t ⟨z, z2⟩] at q; exact q
  · rw [bi_f (fun v => z2 v.2)] at q; exact q
  · rw [bi_f (fun v => z v.1)] at q; exact q
theorem s_separateAt {Q : Zm → Prop} {x y : Int} (kd : kD h n) (cs : CS F (n + 1) S g) (w : WF S g c0) (hp : isP S x y) (q : ∀ F', fr (n + 316) (n + 318) F F' → (∀ i, 0 ≤ i → i < 7 → F' (n + 317) i = bef S (S 2) (rnd S g x y (gc g).toNat) i) → (∀ i, 0 ≤ i → i < 7 → F' (n + 318) i = aft S (bef S (S 2) (rnd S g x y (gc g).toNat)) i) → Q (zwI h F')) : mX6_separateAt n x y (zwI h F) Q := by
  unfold mX6_separateAt
  have hs := w.1.1.1
  have ha := w.1.1.2.1
  refine f_gr kd.k kd.px (f_gr kd.k kd.pg (f_rc kd.kp.1.1 (s_render kd.kp kd.ks (by omega) cs w (by omega) (by omega) fun F1 b1 t1 => ?_)))
  have f1 : fr (n + 316) (n + 318) F F1 := (b1.fr (Nat.le_refl _) (Nat.le_refl _) : fr (n + 316) (n + 316) F F1).wd (by omega) (by omega)
  have cs1 := f1.cs (by omega) cs
  exact f_gr kd.k kd.px (f_gr kd.k kd.pg (f_gr kd.k kd.pg (f_giv kd.ks.1.1 (cs1.1 2 (by decide) (by decide)) fun _ => f_rc kd.kp.1.1 (s_separate kd.kp kd.ks (by omega) cs1 w.1 t1 (px_r w x y) ha fun F2 f2 e2 l2 => q F2 (f1.tr (f2.wd (by omega) (by omega))) e2 l2))))
theorem s_rendered6 {Q : Int → Zm → Prop} {x y p : Int} (kd : kD h n) (cs : CS F (n + 1) S g) (w : WF S g c0) (hx : InR x) (hy : InR y) (hp : InR p) (q : ∀ F', fr (n + 316) (n + 466) F F' → Q (aRend S g x y p) (zwI h F')) : mX6_rendered n x y p (zwI h F) Q := by
  unfold mX6_rendered
  have hs := w.1.1.1
  unfold aRend at q
  refine f_rc kd.k (s_isPixel6 kd cs w.1 hx hy (f_bi (fun z => s_within hp z_in0 ⟨by decide, by decide⟩ (f_bi (fun z2 => ?_) (fun z2 => ?_))) (fun z => ?_)))
  · rw [if_pos ⟨z, z2⟩] at q
    exact f_gr kd.k kd.px (f_gr kd.k kd.pg (f_rc kd.kp.1.1 (s_render kd.kp kd.ks (by omega) cs w (by omega) (by omega) fun F1 b1 t1 => f_gr kd.k kd.px (f_gr kd.kp.1.1 kd.kp.1.2.1 (f_ldv kd.kp.2.1 z2.1 (by omega) (t1 p z2.1 (by omega)) fun _ => q F1 ((b1.fr (Nat.le_refl _) (Nat.le_refl _) : fr (n + 316) (n + 316) F F1).wd (by omega) (by omega)))))))
  · rw [if_neg (fun v => z2 v.2)] at q
    exact q F fr.rf
  · rw [if_neg (fun v => z v.1)] at q
    exact q F fr.rf
theorem s_ink6 {Q : Int → Zm → Prop} {x y p : Int} (kd : kD h n) (cs : CS F (n + 1) S g) (w : WF S g c0) (hx : InR x) (hy : InR y) (hp : InR p) (q : ∀ F', fr (n + 316) (n + 466) F F' → Q (aInk S g x y p) (zwI h F')) : mX6_ink n x y p (zwI h F) Q := by
  unfold mX6_ink
  unfold aInk at q
  have ha := w.1.1.2.1
  refine f_rc kd.k (s_isPixel6 kd cs w.1 hx hy (f_bi (fun z => s_within hp z_in0 ⟨by decide, by decide⟩ (f_bi (fun z2 => ?_) (fun z2 => ?_))) (fun z => ?_)))
  · rw [if_pos ⟨z, z2⟩] at q
    exact f_rc kd.k (s_separateAt kd cs w z fun F1 f1 e1 l1 => f_gr kd.k kd.px (f_rc kd.kp.1.1 (s_valueOf3 kd.kp z2 l1 (fun i a b => aft_r w.1 (fun i a b => bef_r w.1 (px_r w x y) ha a b) a b) (q F1 (f1.wd (by omega) (by omega))))))
  · rw [if_neg (fun v => z2 v.2)] at q
    exact q F fr.rf
  · rw [if_neg (fun v => z v.1)] at q
    exact q F fr.rf
theorem s_touchedBy6 {Q : Int → Zm → Prop} {x y : Int} (kd : kD h n) (cs : CS F (n + 1) S g) (w : WF S g c0) (hx : InR x) (hy : InR y) (q : Q (aTouch S g x y) (zwI h F)) : mX6_touchedBy n x y (zwI h F) Q := by
  unfold mX6_touchedBy
  unfold aTouch at q
  have hs := w.1.1.1
  have wo := w.2.2.2
  have hc1 := wo.1.1
  obtain ⟨⟨k1, k2, k3, k4⟩, ⟨k5, k6, k7⟩, k8⟩ := id kd.ks.2.1
  refine f_rc kd.k (s_isPixel6 kd cs w.1 hx hy (f_bi (fun z => ?_) (fun z => ?_)))
  · rw [if_pos z] at q
    refine f_gr kd.k kd.pg (f_gr kd.ks.1.1 kd.ks.1.2.2.1 (f_giv k1 cs.2.2.2.1.1 fun _ => ?_))
    unfold mX6_touchedBy_H27
    refine lfp1_i (fun i _ => i.toNat) (fun i m => m = zwI h F ∧ (0 ≤ i ∧ i < gc g) ∧ tch S g x y i.toNat = tch S g x y (gc g - 1).toNat) (fun X i m hI hX => ?_) _ _ ⟨rfl, by omega, rfl⟩
    obtain ⟨rfl, g2, g3⟩ := hI
    unfold mX6_touchedBy_B27
    refine f_le ⟨by omega, by omega⟩ z_in0 (fun e => ?_) (fun e => ?_)
    · have : i = 0 := by omega
      subst this
      rw [← g3] at q
      exact q
    · have hl := wo.2.1 i g2.1 g2.2
      have hne0 := o_pos wo (by omega) g2.2
      have hp := w.2.2.1.2.1 _ hl hne0
      have ho := g_op w.2.1 w.2.2.1 hp.1 hp.2.1
      have ns := cs.2.2.2.2 _ hl.1.1 hl.1.2
      have nsp := cs.2.2.2.2 _ hp.1.1.1 hp.1.1.2
      have hkn := (k8 _ hl.1.1 hl.1.2).2
      have hkp := (k8 _ hp.1.1.1 hp.1.1.2).2
      have hparent := ((ns.2 hl.2).1).1
      have hg := ((nsp.2 hp.1.2).2.1 hp.2.1).2
      have e1 : i.toNat = (i - 1).toNat + 1 := by omega
      have e2 : (((i - 1).toNat : Nat) : Int) + 1 = i := by omega
      have e3 : tch S g x y i.toNat = if inb S g (go g i) x y ∧ 0 < gop g (np S (go g i)) then go g i else tch S g x y (i - 1).toNat := by
        rw [e1]
        show (if inb S g (go g ((((i - 1).toNat : Nat) : Int) + 1)) x y ∧ _ then _ else _) = _
        rw [e2]
      have nx : tch S g x y (i - 1).toNat = tch S g x y (gc g - 1).toNat → X (i + -1) (zwI h F) := fun t => hX _ _ ⟨rfl, by omega, by rw [← t]; rfl⟩ (by omega)
      refine f_gr k1 k3 (f_ldv k6 g2.1 (by omega) (cs.2.2.2.1.2 i g2.1 g2.2) fun _ => f_rc k1 (s_nodeAt kd.ks.2.1 hl.1.1 hl.1.2 (f_giv hkn hparent fun _ => f_rc k1 (s_nodeAt kd.ks.2.1 hp.1.1.1 hp.1.1.2 (f_giv hkp hg.1 fun ro => f_le ro z_in0 (fun u => nx ?_) (fun u => f_giv hkp hg.2.1 fun _ => f_giv hkp hg.2.2 fun _ => f_rc hkn (s_contains hkn ns w.2.1 hl ⟨by omega, by omega⟩ ⟨by omega, by omega⟩ (f_bi (fun v => ?_) (fun v => nx ?_)))))))))
      · rw [e3, if_neg (fun t => by omega)] at g3
        exact g3
      · rw [e3, if_pos ⟨v, u⟩] at g3
        rw [g3]
        exact q
      · rw [e3, if_neg (fun t => v t.1)] at g3
        exact g3
  · rw [if_neg z] at q
    exact q
end CQ
