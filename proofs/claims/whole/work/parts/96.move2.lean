/-! a node moves: both sides -/
section MC
variable {h : Zm} {F : Nat → Int → Int} {A n M : Nat} {S : Int → Int} {g : Nat → Int → Int} {c0 k : Int} {Hs : Int → Int → Int} {Hg : Int → Nat → Int → Int} {b : Int → Nat}
theorem s_canHang {Q : Int → Zm → Prop} {x P : Int} (kt : kT h A) (cs : CS F A S g) (w : WF S g c0) (hx : live S x) (hP : live S P) (t : cH S g x P → Q 1 (zwI h F)) (f : ¬ cH S g x P → Q 0 (zwI h F)) : mX5_canHang (A + 2) x P (zwI h F) Q := by
  unfold mX5_canHang
  obtain ⟨⟨k1, k2, k3, k4⟩, ⟨k5, k6, k7⟩, k8⟩ := id kt
  have wo := w.2.2.2
  have hc := wo.1.1
  have hxr := hx.1
  have hPr := hP.1
  obtain ⟨⟨p0, p1⟩, p2⟩ := pos_ok wo hx
  have he := (en_SE p0 p1).1
  have hd := gd_b w hx
  have hdP := gd_b w hP
  have os := cs.os
  refine f_rc k1 (s_startOf kt cs w hx (f_rc k1 (s_endOf kt cs w hx (f_rc k1 (s_nodeAt kt hxr.1 hxr.2 (f_giv (k8 x hxr.1 hxr.2).2 (os.2.2 x hx) fun _ => ?_))))))
  unfold mX5_canHang_H26
  refine lfp2_up2 (h := h) (en g (pos g x)) (fun v i F' => F' = F ∧ pos g x ≤ i ∧ (gd g x ≤ v ∧ v ≤ 4) ∧ (∀ t, pos g x ≤ t → t < i → gd g (go g t) ≤ v ∧ go g t ≠ P) ∧ (v = gd g x ∨ ∃ t, (pos g x ≤ t ∧ t < i) ∧ gd g (go g t) = v)) (fun X v i F' hi hI hX => ?_) (gd g x) (pos g x) F (by omega) ⟨rfl, Int.le_refl _, by omega, fun t a b => by omega, Or.inl rfl⟩
  obtain ⟨rfl, i0, i1, i2, i3⟩ := hI
  unfold mX5_canHang_B26
  refine f_lt ⟨by omega, by omega⟩ ⟨by omega, by omega⟩ (fun z => ?_) (fun z => ?_)
  · have hl := wo.2.1 i (by omega) (by omega)
    have hlr := hl.1
    have hdl := gd_b w hl
    refine f_gr k1 k3 (f_ldv k6 (by omega) (by omega) (os.2.1 i (by omega) (by omega)) fun _ => f_eq ⟨by omega, by omega⟩ ⟨by omega, by omega⟩ (fun e => f (fun y => y.1 ?_)) (fun e => f_gr k1 k3 (f_ldv k6 (by omega) (by omega) (os.2.1 i (by omega) (by omega)) fun _ => f_rc k1 (s_nodeAt kt hlr.1 hlr.2 (f_giv (k8 _ hlr.1 hlr.2).2 (os.2.2 _ hl) fun _ => s_max ⟨by omega, by omega⟩ ⟨by omega, by omega⟩ (hX z _ _ ⟨rfl, by omega, by omega, fun t a b => ?_, ?_⟩))))))
    · rw [pos_u wo (by omega) (by omega) e]
      exact ⟨i0, z⟩
    · by_cases et : t = i
      · rw [et]; exact ⟨by omega, e⟩
      · have := i2 t a (by omega)
        exact ⟨by omega, this.2⟩
    · by_cases y : v ≤ gd g (go g i)
      · exact Or.inr ⟨i, ⟨i0, by omega⟩, by omega⟩
      · rcases i3 with e3 | ⟨t, t1, t2⟩
        · exact Or.inl (by omega)
        · exact Or.inr ⟨t, ⟨t1.1, by omega⟩, by omega⟩
  · have ei : i = en g (pos g x) := by omega
    have nsP := cs.2.2.2.2 P hPr.1 hPr.2
    have i4 : ∃ t, (pos g x ≤ t ∧ t < i) ∧ gd g (go g t) = v := by
      rcases i3 with e3 | e3
      · exact ⟨pos g x, by omega, by rw [p2, e3]⟩
      · exact e3
    have o1 : ¬ (pos g x ≤ pos g P ∧ pos g P < en g (pos g x)) := fun y => (i2 (pos g P) y.1 (by omega)).2 (pos_ok wo hP).2
    refine f_rc k1 (s_nodeAt kt hPr.1 hPr.2 (f_giv (k8 P hPr.1 hPr.2).2 (os.2.2 P hP) fun _ => f_rc k1 (s_nodeAt kt hxr.1 hxr.2 (f_giv (k8 x hxr.1 hxr.2).2 (os.2.2 x hx) fun _ => f_rc k1 (s_nodeAt kt hPr.1 hPr.2 (f_giv (k8 P hPr.1 hPr.2).2 nsP.1.1 fun r => f_eq r z_in0 (fun e => f_le ⟨by omega, by omega⟩ ⟨by decide, by decide⟩ (fun y => t ⟨o1, e, fun t a b => ?_⟩) (fun y => f (fun q => ?_))) (fun e => f (fun q => e q.2.1))))))))
    · have := (i2 t a (by omega)).1
      omega
    · obtain ⟨t, t1, t2⟩ := i4
      have := q.2.2 t t1.1 (by omega)
      omega
theorem s_hang {Q : Zm → Prop} {x P : Int} (kt : kT h A) (cs : CS F A S g) (w : WF S g c0) (hx : live S x) (hx0 : x ≠ 0) (hP : live S P) (m : cH S g x P) (q : ∀ F', fr (A + 2) (A + 29) F F' → CS F' A (rowM S x P) (gMov S g x P) → Q (zwI h F')) : mX5_hang (A + 2) x P (zwI h F) Q := by
  unfold mX5_hang
  obtain ⟨⟨k1, k2, k3, k4⟩, ⟨k5, k6, k7⟩, k8⟩ := id kt
  have wo := w.2.2.2
  have hc := wo.1.1
  have hxr := hx.1
  have hPr := hP.1
  obtain ⟨⟨p0, p1⟩, p2⟩ := pos_ok wo hx
  have he := (en_SE p0 p1).1
  have p3 := pos_1 w hx hx0
  have w' := WF_mov w hx hx0 hP m
  have w0 := WF_kill w hx hx0
  have kl := rKill_KL (s := pos g x) (e := en g (pos g x)) w
  have hP' := (kl.1 P).mpr ⟨hP, m.1⟩
  obtain ⟨r0, r8, rp, -⟩ := rowM_e (S := S) (x := x) (P := P) hxr.1
  have nkM : ∀ k, 0 ≤ k → nk (rowM S x P) k = nk S k := fun k a => r0 _ (by omega) (by omega) (by omega)
  have pM : ∀ k, 0 ≤ k → k ≠ x → np (rowM S x P) k = np S k := fun k a b => r0 _ (by omega) (by omega) (by omega)
  have fM : ∀ k j, 0 ≤ k → 0 ≤ j → j < 7 → nf (rowM S x P) k j = nf S k j := fun k j a b d => r0 _ (by omega) (by omega) (by omega)
  have q0 : go g (pos g x + 0) = x := by rw [Int.add_zero]; exact p2
  have eg : gMov S g x P = mkG (rowM S x P) (dMov g x P) (oin (gcut g (pos g x) (en g (pos g x) - pos g x)) (en (gcut g (pos g x) (en g (pos g x) - pos g x)) (pos (gcut g (pos g x) (en g (pos g x) - pos g x)) P)) (en g (pos g x) - pos g x) (fun t => go g (pos g x + t))) (gc (gcut g (pos g x) (en g (pos g x) - pos g x)) + (en g (pos g x) - pos g x)) := rfl
  have gc0 : gc (gcut g (pos g x) (en g (pos g x) - pos g x)) = gc g - (en g (pos g x) - pos g x) := rfl
  have go0 : ∀ t, go (gcut g (pos g x) (en g (pos g x) - pos g x)) t = if t < pos g x then go g t else go g (t + (en g (pos g x) - pos g x)) := fun _ => rfl
  refine f_rc k1 (s_cutOut kt cs.os w hx fun F1 f1 n1 c1 o1 => f_rc k1 ?_)
  have os0 : OS F1 A (rKill S g (pos g x) (en g (pos g x))) (gcut g (pos g x) (en g (pos g x) - pos g x)) := ⟨n1, fun t a b => by rw [go0]; exact o1 t a b, fun k hl => by
    have := hl.1
    rw [f1 _ _ (by omega) (by omega) (by omega)]
    exact cs.os.2.2 k ((kl.1 k).mp hl).1⟩
  refine s_putIn (L := en g (pos g x) - pos g x) (qs := fun t => go g (pos g x + t)) kt os0 w0 hP' ⟨by omega, by rw [gc0]; omega⟩ c1 (by show 0 ≤ go g (pos g x + 0) ∧ go g (pos g x + 0) < 24; rw [q0]; exact hxr) (fun F2 f2 n2 o2 e2 => ?_)
  have f2 : ∀ b j, b ≠ A + 28 → b ≠ A + 29 → ¬ (b = A + 2 ∧ j = 3) → ¬ (b = A + 4 + x.toNat ∧ j = 1) → F2 b j = F b j := fun b j u v y z => by
    rw [f2 b j u v y (by show ¬ (b = A + 4 + (go g (pos g x + 0)).toNat ∧ j = 1); rw [q0]; exact z)]
    exact f1 b j u v y
  have e2 : F2 (A + 4 + x.toNat) 1 = P := by
    have e2 : F2 (A + 4 + (go g (pos g x + 0)).toNat) 1 = P := e2
    rw [q0] at e2
    exact e2
  rw [eg] at w' q
  have n0 := (cs.2.2.2.2 0 (by decide) (by decide)).2 (live0 w.2.1).2
  have e0 : A + 4 + (0 : Int).toNat = A + 4 := rfl
  rw [e0] at n0
  have n00 := n0.2.1 w.2.1.1.1
  have wt := w.2.2.1.1
  refine s_settleB kt w' ⟨fun j u v => ?_, fun j u v => ?_, fun p u v => ?_, ⟨n2, o2⟩, fun k u v => ?_, ?_⟩ (fun F4 f4 c4 => q F4 (fun b j u => ?_) c4)
  · rw [f2 _ _ (by omega) (by omega) (by omega) (by omega), r0 _ (by omega) (by omega) (by omega)]; exact cs.1 j u v
  · rw [f2 _ _ (by omega) (by omega) (by omega) (by omega), r0 _ (by omega) (by omega) (by omega)]; exact cs.2.1 j u v
  · have hw := (w.1.2.2.2 p u v).1
    have e1 : cc (rowM S x P) p = cc S p := r0 _ (by omega) (by omega) (by omega)
    rw [e1]
    exact CC_cg ((cs.2.2.1 p u v).keep fun b j y z => f2 _ _ (by omega) (by omega) (by omega) (by omega)) (fun i y z => ⟨r0 _ (by omega) (by omega) (by omega), r0 _ (by omega) (by omega) (by omega)⟩)
  · have nb := (cs.2.2.2.2 k u v).nb
    have ef : ∀ j, j ≠ 1 → F2 (A + 4 + k.toNat) j = F (A + 4 + k.toNat) j := fun j hj => f2 _ _ (by omega) (by omega) (by omega) (fun y => hj y.2)
    have ep : 0 ≤ nk S k → F2 (A + 4 + k.toNat) 1 = np (rowM S x P) k := fun hk => by
      by_cases e : k = x
      · rw [e, rp]; exact e2
      · rw [pM k u e, f2 _ _ (by omega) (by omega) (by omega) (by omega)]
        exact (nb.2 hk).1
    unfold NB at nb ⊢
    rw [nkM k u, fM k 0 u (by decide) (by decide), fM k 1 u (by decide) (by decide), fM k 2 u (by decide) (by decide), fM k 3 u (by decide) (by decide), fM k 4 u (by decide) (by decide), fM k 5 u (by decide) (by decide), fM k 6 u (by decide) (by decide), ef 0 (by decide), ef 3 (by decide), ef 4 (by decide), ef 5 (by decide), ef 9 (by decide), ef 10 (by decide), ef 11 (by decide), ef 12 (by decide), ef 13 (by decide), ef 14 (by decide), ef 15 (by decide), ef 16 (by decide), ef 17 (by decide)]
    exact ⟨nb.1, fun hk => ⟨ep hk, (nb.2 hk).2⟩⟩
  · rw [f2 _ _ (by omega) (by omega) (by omega) (by omega), f2 _ _ (by omega) (by omega) (by omega) (by omega), f2 _ _ (by omega) (by omega) (by omega) (by omega), f2 _ _ (by omega) (by omega) (by omega) (by omega), n0.1.2, n00.2.1, n00.2.2.1, n00.2.2.2]
    exact wt
  · rw [f4 _ _ (by omega), f2 _ _ (by omega) (by omega) (by omega) (by omega)]
theorem gMov_d (w : WF S g c0) {x P : Int} (hx : live S x) : gd (gMov S g x P) x = gd g P + 1 := by
  obtain ⟨⟨p0, p1⟩, p2⟩ := pos_ok w.2.2.2 hx
  have he := (en_SE p0 p1).1
  show (if pos g x ≤ pos g x ∧ pos g x < en g (pos g x) then gd g x + (gd g P + 1 - gd g x) else gd g x) = _
  rw [if_pos ⟨Int.le_refl _, he.1⟩]
  omega
theorem s_move6 {Q : Int → Zm → Prop} {x P : Int} (ci : CI h F n S g Hs Hg b k) (w : WF S g c0) (hx : InR x) (hP : InR P) (t : isN S x → isN S P → x ≠ 0 → cH S g x P → ∀ h' F' b', sw n h h' → hf n F F' → CI h' F' n (rowM S x P) (gMov S g x P) (pH Hs k S) (pH Hg k g) b' (pK k) → Q (gd g P + 1) (zwI h' F')) (f1 : ¬ (isN S x ∧ isN S P) → Q (-1) (zwI h F)) (f2 : isN S x ∧ isN S P → ¬ (x ≠ 0 ∧ cH S g x P) → Q (-2) (zwI h F)) : mX6_move n x P (zwI h F) Q := by
  unfold mX6_move
  have kd := ci.1
  have cs := ci.2.2.2.1
  have k1 := kd.ks.2.1.1.1
  refine f_gr kd.k kd.pg (f_gr kd.ks.1.1 kd.ks.1.2.2.1 (f_rc k1 (s_has kd.ks.2.1 cs w.2.1 hx (f_bi (fun z => f_gr kd.k kd.pg (f_gr kd.ks.1.1 kd.ks.1.2.2.1 (f_rc k1 (s_has kd.ks.2.1 cs w.2.1 hP (f_bi (fun z2 => f_eq hx z_in0 (fun e => f2 ⟨z, z2⟩ (fun y => y.1 e)) (fun e => ?_)) (fun z2 => f1 (fun y => z2 y.2))))))) (fun z => f1 (fun y => z y.1))))))
  refine f_gr kd.k kd.pg (f_gr kd.ks.1.1 kd.ks.1.2.2.1 (f_rc k1 (s_canHang kd.ks.2.1 cs w z z2 (fun m => f_eq ⟨by decide, by decide⟩ z_in0 (fun y => absurd y (by decide)) (fun _ => f_rc kd.k (s_remember ci w fun h' F' b' s f' ci' => ?_))) (fun m => f_eq z_in0 z_in0 (fun _ => f2 ⟨z, z2⟩ (fun y => m y.2)) (fun y => absurd rfl y)))))
  have kd' := ci'.1
  have cs' := ci'.2.2.2.1
  have hxr := z.1
  have w' := WF_mov w z e z2 m
  have lx : live (rowM S x P) x := ⟨hxr, by rw [show nk (rowM S x P) x = nk S x from (rowM_e hxr.1).1 _ (by omega) (by omega) (by omega)]; exact z.2⟩
  refine f_gr kd'.k kd'.pg (f_gr kd'.ks.1.1 kd'.ks.1.2.2.1 (f_rc kd'.ks.2.1.1.1 (s_hang kd'.ks.2.1 cs' w z e z2 m fun F2 g2 c2 => f_gr kd'.k kd'.pg (f_gr kd'.ks.1.1 kd'.ks.1.2.2.1 (f_rc kd'.ks.2.1.1.1 (s_nodeAt kd'.ks.2.1 hxr.1 hxr.2 (f_giv (v := gd g P + 1) (kd'.ks.2.1.2.2 x hxr.1 hxr.2).2 (by rw [← gMov_d (P := P) w z]; exact c2.os.2.2 x lx) fun _ => t z z2 e m h' F2 b' s (f'.tr (g2.hf (by omega) (by omega))) (ci'.pg (g2.wd (by omega) (by omega)) c2))))))))
theorem s_move7 {Q : Int → Zm → Prop} {x P : Int} (km : kM h M) (ri : RI F M S Hs k) (w : WF S g c0) (hc9 : c0 ≤ 1000) (hx : InR x) (hP : InR P) (t : isN S x → isN S P → x ≠ 0 → cH S g x P → ∀ F', RI F' M (rowM S x P) (pH Hs k S) (pK k) → qe M F F' → Q (gd g P + 1) (zwI h F')) (f1 : ¬ (isN S x ∧ isN S P) → Q (-1) (zwI h F)) (f2 : isN S x ∧ isN S P → ¬ (x ≠ 0 ∧ cH S g x P) → Q (-2) (zwI h F)) : mX7_move M x P (zwI h F) Q := by
  unfold mX7_move
  have hS := ri.1
  refine f_rc km.1 (s_isNode km hS hx (f_bi (fun z => f_rc km.1 (s_isNode km hS hP (f_bi (fun z2 => f_eq hx z_in0 (fun e => f2 ⟨z, z2⟩ (fun y => y.1 e)) (fun e => ?_)) (fun z2 => f1 (fun y => z2 y.2))))) (fun z => f1 (fun y => z y.1))))
  have lx : live S x := z
  have lP : live S P := z2
  have wo := w.2.2.2
  have hc := wo.1.1
  have hd := gd_b w lx
  have hdP := gd_b w lP
  have h8 := w.1.2.2.1
  have hxr := lx.1
  have hPr := lP.1
  obtain ⟨⟨p0, p1⟩, p2⟩ := pos_ok wo lx
  have he := (en_SE p0 p1).1
  have p3 := pos_1 w lx e
  refine f_rc km.1 (s_ofk km hS hPr.1 hPr.2 fun r => f_eq r z_in0 (fun e2 => f_rc km.1 (s_isBelow km hS w lP lx (f_bi (fun y => f2 ⟨z, z2⟩ (fun q => q.2.1 y)) (fun y => f_rc km.1 (s_depth km hS w lP (f_rc km.1 (s_depth km hS w lx ?_))))))) (fun e2 => f2 ⟨z, z2⟩ (fun q => e2 q.2.2.1)))
  unfold mX7_move_H60
  refine lfp1_up (h := h) 24 (fun i F' => F' = F ∧ 1 ≤ i ∧ ∀ c, 1 ≤ c → c < i → live S c → (pos g x ≤ pos g c ∧ pos g c < en g (pos g x)) → gd g c + (gd g P + 1 - gd g x) ≤ 4) (fun X i F' hi hI hX => ?_) 1 F (by decide) ⟨rfl, by decide, fun c a b => by omega⟩
  obtain ⟨rfl, i0, i1⟩ := hI
  unfold mX7_move_B60
  refine f_lt ⟨by omega, by omega⟩ ⟨by decide, by decide⟩ (fun u => ?_) (fun u => ?_)
  · have st : (live S i → (pos g x ≤ pos g i ∧ pos g i < en g (pos g x)) → gd g i + (gd g P + 1 - gd g x) ≤ 4) → X (i + 1) (zwI h F') := fun hi => hX u _ ⟨rfl, by omega, fun c a b => by
      by_cases ec : c = i
      · rw [ec]; exact hi
      · exact i1 c a (by omega)⟩
    refine f_rc km.1 (s_ofk km hS (by omega) u fun r => f_lt r z_in0 (fun v => st (fun l => by have := l.2; omega)) (fun v => ?_))
    have li : live S i := ⟨⟨by omega, u⟩, v⟩
    have hdi := gd_b w li
    refine f_rc km.1 (s_isBelow km hS w li lx (f_bi (fun v2 => f_rc km.1 (s_depth km hS w li (f_le ⟨by omega, by omega⟩ ⟨by decide, by decide⟩ (fun v3 => st (fun _ _ => v3)) (fun v3 => f2 ⟨z, z2⟩ (fun q => ?_))))) (fun v2 => st (fun _ q => absurd q v2))))
    have := q.2.2.2 (pos g i) v2.1 v2.2
    rw [(pos_ok wo li).2] at this
    omega
  · have m : cH S g x P := ⟨y, e2, fun t a b => by
      have hl := wo.2.1 t (by omega) (by omega)
      have h1 := o_pos wo (t := t) (by omega) (by omega)
      have h2 := hl.1
      exact i1 _ (by omega) (by omega) hl (by rw [pos_u wo (by omega) (by omega) rfl]; exact ⟨a, b⟩)⟩
    have w' := WF_mov w lx e lP m
    have lx' : live (rowM S x P) x := ⟨hxr, by rw [show nk (rowM S x P) x = nk S x from (rowM_e hxr.1).1 _ (by omega) (by omega) (by omega)]; exact z.2⟩
    have t := t z z2 e m
    refine f_rc km.1 (s_hold km hS fun F1 b1 v1 => ?_)
    have hS1 : RS F1 M S := fun j a c => by rw [b1 _ _ (by omega)]; exact hS j a c
    have hSM : RS (up (up (up F1 (M + 1) 8 (S 8 + 1)) (M + 1) (128 + 10 * x + 1) P) (M + 1) (128 + 10 * x + 2) (S 8 + 1)) M (rowM S x P) := RS_ru (RS_ru (RS_ru hS1))
    refine f_gr km.1 km.r0 (f_ldv km.k0 (by decide) (by decide) (hS1 8 (by decide) (by decide)) fun _ => f_st km.k0 (by decide) (by decide) ⟨by omega, by omega⟩ (f_gr km.1 km.r0 (f_st km.k0 (by omega) (by omega) hP (f_gr km.1 km.r0 (f_gr km.1 km.r0 (f_ldv (v := S 8 + 1) km.k0 (by decide) (by decide) (by rw [up_n (by omega)]; exact up_s _ _ _ _) fun _ => f_st km.k0 (by omega) (by omega) ⟨by omega, by omega⟩ (f_rc km.1 (s_depth km hSM w' lx' ?_))))))))
    rw [gMov_d w lx]
    refine f_rc km.1 (s_endsI (F0 := F') (S := S) km ⟨by omega, by omega⟩ ri (fun a j x y => ?_) (fun j a c => ?_) hSM t)
    · rw [up_a x, up_a x, up_a x]; exact b1 _ _ y
    · rw [up_a (by omega), up_a (by omega), up_a (by omega)]; exact v1 j a c
end MC
