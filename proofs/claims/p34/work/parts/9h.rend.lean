/-! the law's renders: the loop over the nodes -/
section RM
variable {h : Zm} {F : Nat → Int → Int} {S : Int → Int} {g : Nat → Int → Int} {c : Int} {N r : Nat} {Q : Int → Zm → Prop} {x y : Int}
theorem rnd_skip {s : Nat} : ∀ m : Nat, (∀ u : Int, (s : Int) ≤ u → u < (s : Int) + m → nk S (go g u) = 0) → rnd S g x y (s + m) = rnd S g x y s := by
  intro m
  induction m with
  | zero => intro _; rfl
  | succ m ih =>
    intro hz
    rw [← ih (fun u a b => hz u a (by omega))]
    show (if inb S g (go g ((s + m : Nat) : Int)) x y then _ else _) = _
    rw [if_neg (fun v => v.1 (hz _ (by omega) (by omega)))]
    rfl
theorem tch_skip {s : Nat} : ∀ m : Nat, (∀ u : Int, (s : Int) < u → u ≤ (s : Int) + m → nk S (go g u) = 0) → tch S g x y (s + m) = tch S g x y s := by
  intro m
  induction m with
  | zero => intro _; rfl
  | succ m ih =>
    intro hz
    rw [← ih (fun u a b => hz u a (by omega))]
    show (if inb S g (go g (((s + m : Nat) : Int) + 1)) x y ∧ _ then _ else _) = _
    rw [if_neg (fun v => v.1.1 (hz _ (by omega) (by omega)))]
    rfl
theorem l_renders (kw : kLw h N) (hn : h.1.2 = r) (hr : N + 9 < r) (lt : LT F N S) (ls : LSt F N S) (w : WF S g c) (hc : c ≤ 4000) (hx : 0 ≤ x ∧ x < 12) (hy : 0 ≤ y ∧ y < 12) (q : ∀ F', (∀ b j, b ≠ N + 7 → b ≠ r → F' b j = F b j) → Tn F' (N + 7) (rnd S g x y (gc g).toNat) → Q (tch S g x y (gc g - 1).toNat) (zwI (zal h 1 3) F')) : mL_renders N (N + 1) (N + 2) (N + 3) (N + 4) (N + 5) x y (N + 7) (zwI h F) Q := by
  unfold mL_renders
  refine f_nw (N := r) hn ?_
  have kr : zkd (zal h 1 3) r = (1, 3) := by rw [kz_al]; exact if_pos hn.symm
  have kw1 : kLw (zal h 1 3) N := kw.to fun a x1 x2 => by rw [kz_al]; exact if_neg (by omega)
  have fz0 : ∀ b j, b ≠ N + 7 → b ≠ r → fz F r b j = F b j := fun b j _ z => fz_n z
  generalize zal h 1 3 = h1 at kr kw1 q ⊢
  generalize fz F r = F0 at fz0 ⊢
  have hgc := w.2.2.2.1.1
  have t := tp_of w hc
  have hKd : ∀ F' : Nat → Int → Int, (∀ b j, b ≠ N + 7 → b ≠ r → F' b j = F b j) → ∀ j, 1 ≤ j → j < 24 → F' N j = nk S j ∧ -1 ≤ nk S j ∧ nk S j ≤ 2 := fun F' f j a b => ⟨by rw [f _ _ (by omega) (by omega)]; exact lt.1 j (by omega) b, w.2.1.2.1 j (by omega) b⟩
  have hpa : ∀ F' : Nat → Int → Int, (∀ b j, b ≠ N + 7 → b ≠ r → F' b j = F b j) → ∀ j, 1 ≤ j → j < 24 → F' (N + 1) j = lp S j := fun F' f j a b => by rw [f _ _ (by omega) (by omega)]; exact lt.2.1 j a b
  have hco : ∀ F' : Nat → Int → Int, (∀ b j, b ≠ N + 7 → b ≠ r → F' b j = F b j) → ∀ j, 1 ≤ j → j < 24 → F' (N + 2) j = lcn S j := fun F' f j a b => by rw [f _ _ (by omega) (by omega)]; exact lt.2.2.1.1 j a b
  -- the loop over the nodes
  have main : ∀ (F' : Nat → Int → Int) (a b : Int), (∃ s : Nat, (∀ b j, b ≠ N + 7 → b ≠ r → F' b j = F b j) ∧ (s : Int) + 1 ≤ gc g ∧ Tn F' (N + 7) (rnd S g x y (s + 1)) ∧ a = tch S g x y s ∧ ((b = -1 ∧ ∀ u : Int, (s : Int) + 1 ≤ u → u < gc g → nk S (go g u) = 0) ∨ ((s : Int) + 1 < gc g ∧ b = go g ((s : Int) + 1) ∧ nk S (go g ((s : Int) + 1)) ≠ 0))) → mL_renders_H52 N (N + 1) (N + 2) (N + 3) (N + 4) (N + 5) x y (N + 7) r a b (zwI h1 F') Q := by
    intro F1 a1 b1 hI1
    unfold mL_renders_H52
    refine lfp2_i (fun _ b _ => if b ≤ 0 then 0 else (gc g - pos g b).toNat) (fun a b m => ∃ F', m = zwI h1 F' ∧ (∃ s : Nat, (∀ b j, b ≠ N + 7 → b ≠ r → F' b j = F b j) ∧ (s : Int) + 1 ≤ gc g ∧ Tn F' (N + 7) (rnd S g x y (s + 1)) ∧ a = tch S g x y s ∧ ((b = -1 ∧ ∀ u : Int, (s : Int) + 1 ≤ u → u < gc g → nk S (go g u) = 0) ∨ ((s : Int) + 1 < gc g ∧ b = go g ((s : Int) + 1) ∧ nk S (go g ((s : Int) + 1)) ≠ 0)))) (fun X a b m hI hX => ?_) a1 b1 _ ⟨F1, rfl, hI1⟩
    obtain ⟨F', rfl, s, f, hs, hT, rfl, hb⟩ := hI
    unfold mL_renders_B52
    rcases hb with ⟨rfl, hz⟩ | ⟨hs2, rfl, h0⟩
    · refine f_le ⟨by decide, by decide⟩ z_in0 (fun _ => ?_) (fun z => by omega)
      have e1 : (gc g).toNat = s + 1 + ((gc g).toNat - (s + 1)) := by omega
      have e2 : (gc g - 1).toNat = s + ((gc g).toNat - (s + 1)) := by omega
      have q1 := q F' f
      rw [e1, e2, rnd_skip _ (fun u a b => hz u (by omega) (by omega)), tch_skip _ (fun u a b => hz u (by omega) (by omega))] at q1
      exact q1 hT
    · have hl := w.2.2.2.2.1 ((s : Int) + 1) (by omega) hs2
      have hk0 := o_pos w.2.2.2 (t := (s : Int) + 1) (by omega) hs2
      have hps := pos_u w.2.2.2 (i := (s : Int) + 1) (by omega) hs2 rfl
      have hkk := hl.1
      have hr1 := rnd_r w x y (s + 1) (by omega)
      -- the next node
      have nxt : ∀ (F2 : Nat → Int → Int) (a2 : Int), (∀ b j, b ≠ N + 7 → b ≠ r → F2 b j = F b j) → Tn F2 (N + 7) (rnd S g x y (s + 1 + 1)) → a2 = tch S g x y (s + 1) → mL_renders_J379 X N (N + 1) (N + 2) (N + 3) (N + 4) (N + 5) x y (N + 7) r a2 (go g ((s : Int) + 1)) (zwI h1 F2) Q := by
        intro F2 a2 f2 t2 e2
        unfold mL_renders_J379
        refine l_keyOf (cm := lcn S) kw1.pa kw1.cm (hpa F2 f2) (hco F2 f2) t (by omega) hkk.2 ?_
        have hky := ky_b t (show 0 ≤ go g ((s : Int) + 1) by omega) hkk.2
        refine l_next (K := nk S) kw1.kd kw1.pa kw1.cm (hKd F2 f2) (hpa F2 f2) (hco F2 f2) t hky (fun nx hnx => ?_)
        rcases nx_pos w hc (t := (s : Int) + 1) (by omega) hs2 hnx with ⟨e, z⟩ | ⟨u, ⟨u0, u1⟩, e, z0, z⟩
        · refine hX _ _ _ ⟨F2, rfl, s + 1, f2, by omega, t2, e2, Or.inl ⟨e, fun u a b => z u (by omega) b⟩⟩ ?_
          rw [if_pos (show nx ≤ 0 by omega), if_neg (by omega), hps]
          omega
        · have eu : (u.toNat : Int) = u := by omega
          have hlu := w.2.2.2.2.1 u (by omega) u1
          have hku := o_pos w.2.2.2 (t := u) (by omega) u1
          have hpu := pos_u w.2.2.2 (i := u) (by omega) u1 rfl
          have hlu1 := hlu.1
          refine hX _ _ _ ⟨F2, rfl, (u - 1).toNat, f2, by omega, ?_, ?_, Or.inr ?_⟩ ?_
          · rw [show (u - 1).toNat + 1 = s + 1 + 1 + (u.toNat - (s + 2)) by omega, rnd_skip _ (fun v a b => z v (by omega) (by omega))]
            exact t2
          · rw [e2, show (u - 1).toNat = s + 1 + (u.toNat - (s + 2)) by omega, tch_skip (s := s + 1) _ (fun v a b => z v (by omega) (by omega))]
          · rw [show (((u - 1).toNat : Nat) : Int) + 1 = u by omega]
            exact ⟨u1, e, z0⟩
          · rw [e, if_neg (by omega), if_neg (by omega), hps, hpu]
            omega
      have ht := w.2.2.1.2.1 _ hl hk0
      have hgo := g_op w.2.1 w.2.2.1 ht.1 ht.2.1
      have hbx := w.2.1.2.2.2.1 _ hl h0
      refine f_le ⟨by omega, by omega⟩ z_in0 (fun z => by omega) (fun _ => ?_)
      refine l_above kw1.pa kw1.bx kr ⟨by omega, by omega⟩ (lt.keep fun a j a1 a2 => f _ _ (by omega) (by omega)) w hc hl hk0 (fun F2 b2 o0 o1 o2 => ?_)
      have f2 : ∀ b j, b ≠ N + 7 → b ≠ r → F2 b j = F b j := fun b j u v => by rw [b2 _ _ v]; exact f b j u v
      have t2 : Tn F2 (N + 7) (rnd S g x y (s + 1)) := fun j a b => by rw [b2 _ _ (by omega)]; exact hT j a b
      have eB : F2 (N + 3) (go g ((s : Int) + 1)) = nf S (go g ((s : Int) + 1)) 0 + 12 + 32 * (nf S (go g ((s : Int) + 1)) 1 + 12) + 1024 * nf S (go g ((s : Int) + 1)) 2 + 16384 * nf S (go g ((s : Int) + 1)) 3 := by
        rw [f2 _ _ (by omega) (by omega), lt.2.2.2.1 _ hl]
        exact if_neg h0
      have out : ¬ inb S g (go g ((s : Int) + 1)) x y → mL_renders_J379 X N (N + 1) (N + 2) (N + 3) (N + 4) (N + 5) x y (N + 7) r (tch S g x y s) (go g ((s : Int) + 1)) (zwI h1 F2) Q := fun no => by
        refine nxt F2 _ f2 ?_ ?_
        · have e : rnd S g x y (s + 1 + 1) = rnd S g x y (s + 1) := by
            show (if inb S g (go g ((s + 1 : Nat) : Int)) x y then _ else _) = _
            rw [show ((s + 1 : Nat) : Int) = (s : Int) + 1 by omega, if_neg no]
          rw [e]
          exact t2
        · show _ = (if inb S g (go g ((s : Int) + 1)) x y ∧ 0 < gop g (np S (go g ((s : Int) + 1))) then go g ((s : Int) + 1) else tch S g x y s)
          rw [if_neg (fun v => no v.1)]
      have inn : ∀ a2, a2 = tch S g x y (s + 1) → inb S g (go g ((s : Int) + 1)) x y → mL_renders_H167 X N (N + 1) (N + 2) (N + 3) (N + 4) (N + 5) x y (N + 7) r a2 (go g ((s : Int) + 1)) 0 (zwI h1 F2) Q := fun a2 e2 yes => by
        refine l_pulls kw1 kr (by omega) (lt.keep fun a j a1 a2 => f2 _ _ (by omega) (by omega)) (ls.keep fun a j a1 a2 => f2 _ _ (by omega) (by omega)) w hl h0 hk0 t2 hr1 o0 hgo.1 (fun F3 b3 t3 => nxt F3 a2 (fun b j u v => by rw [b3 _ _ u]; exact f2 b j u v) ?_ e2)
        have e : rnd S g x y (s + 1 + 1) = pnt S (gop g (np S (go g ((s : Int) + 1)))) (go g ((s : Int) + 1)) (rnd S g x y (s + 1)) := by
          show (if inb S g (go g ((s + 1 : Nat) : Int)) x y then _ else _) = _
          rw [show ((s + 1 : Nat) : Int) = (s : Int) + 1 by omega, if_pos yes]
        rw [e]
        exact t3
      have et : tch S g x y (s + 1) = (if inb S g (go g ((s : Int) + 1)) x y ∧ 0 < gop g (np S (go g ((s : Int) + 1))) then go g ((s : Int) + 1) else tch S g x y s) := rfl
      generalize go g ((s : Int) + 1) = k at *
      refine f_ldv kr (by decide) (by decide) o1 fun _ => f_ldv kw1.bx (by omega) (by omega) eB fun _ => f_remv (v := nf S k 0 + 12) ⟨by omega, by omega⟩ ⟨by decide, by decide⟩ (by omega) (f_ldv kr (by decide) (by decide) o2 fun _ => f_ldv kw1.bx (by omega) (by omega) eB fun _ => f_divv (v := nf S k 1 + 12 + 32 * nf S k 2 + 512 * nf S k 3) ⟨by omega, by omega⟩ ⟨by decide, by decide⟩ (by omega) (f_remv (v := nf S k 1 + 12) ⟨by omega, by omega⟩ ⟨by decide, by decide⟩ (by omega) ?_))
      refine f_lt ⟨by omega, by omega⟩ z_in0 (fun z1 => out fun v => by have := v.2.1; omega) (fun z1 => f_ldv kw1.bx (by omega) (by omega) eB fun _ => f_divv (v := nf S k 2 + 16 * nf S k 3) ⟨by omega, by omega⟩ ⟨by decide, by decide⟩ (by omega) (f_remv (v := nf S k 2) ⟨by omega, by omega⟩ ⟨by decide, by decide⟩ (by omega) ?_))
      refine f_lt ⟨by omega, by omega⟩ ⟨by omega, by omega⟩ (fun z2 => f_lt ⟨by omega, by omega⟩ z_in0 (fun z3 => out fun v => by have := v.2.2; omega) (fun z3 => f_ldv kw1.bx (by omega) (by omega) eB fun _ => f_divv (v := nf S k 3) ⟨by omega, by omega⟩ ⟨by decide, by decide⟩ (by omega) (f_lt ⟨by omega, by omega⟩ ⟨by omega, by omega⟩ (fun z4 => ?_) (fun z4 => out fun v => by have := v.2.2; omega)))) (fun z2 => out fun v => by have := v.2.1; omega)
      have yes : inb S g k x y := ⟨h0, ⟨by omega, by omega⟩, by omega, by omega⟩
      refine f_ldv kr (by decide) (by decide) o0 fun ro => f_le ro z_in0 (fun z5 => inn _ ?_ yes) (fun z5 => inn _ ?_ yes)
      · rw [et, if_neg (fun v => by omega)]
      · rw [et, if_pos ⟨yes, z5⟩]
  -- the cells of a pixel, and the first node
  unfold mL_renders_H12
  refine lfp1_up (h := h1) 6 (fun i F' => (∀ b j, b ≠ N + 7 → b ≠ r → F' b j = F b j) ∧ 0 ≤ i ∧ ∀ j, 0 ≤ j → j < i → F' (N + 7) j = if j < 3 then 255 else 0) (fun X i F' hi hI hX => ?_) 0 F0 (by decide) ⟨fz0, by decide, fun j a b => by omega⟩
  obtain ⟨g1, g2, g3⟩ := hI
  have nw : ∀ v : Int, v = (if i < 3 then 255 else 0) → i < 6 → X (i + 1) (zwI h1 (up F' (N + 7) i v)) := fun v hv z => by
    refine hX z _ ⟨fun b j u1 u2 => by rw [up_a u1]; exact g1 b j u1 u2, by omega, fun j a b => ?_⟩
    rw [up_e]
    split
    · rename_i u
      rw [hv, u.2]
    · rename_i u
      exact g3 j a (by
        have : ¬ j = i := fun n => u ⟨rfl, n⟩
        omega)
  unfold mL_renders_B12
  refine f_lt ⟨by omega, by omega⟩ ⟨by decide, by decide⟩ (fun z => f_lt ⟨by omega, by omega⟩ ⟨by decide, by decide⟩ (fun z3 => f_st kw1.px g2 (by omega) ⟨by decide, by decide⟩ (nw 255 (if_pos z3).symm z)) (fun z3 => f_st kw1.px g2 (by omega) ⟨by decide, by decide⟩ (nw 0 (if_neg (by omega)).symm z))) (fun z => ?_)
  have e0 : KY S g (go g 0) = 0 := by rw [w.2.2.2.1.2]; exact ky_0 t
  refine l_next (K := nk S) kw1.kd kw1.pa kw1.cm (hKd F' g1) (hpa F' g1) (hco F' g1) t ⟨by decide, by decide⟩ (fun nx hnx => ?_)
  have hnx2 : NX (nk S) (KY S g) (KY S g (go g 0)) nx := by rw [e0]; exact hnx
  have t0 : Tn F' (N + 7) (rnd S g x y (0 + 1)) := by
    have e : rnd S g x y (0 + 1) = rnd S g x y 0 := rnd_skip 1 (fun u a b => by
      rw [show u = 0 by omega, w.2.2.2.1.2]
      exact w.2.1.1.1)
    rw [e]
    exact fun j a b => g3 j a (by omega)
  refine main F' _ _ ?_
  rcases nx_pos w hc (t := 0) (by decide) (by omega) hnx2 with ⟨e, z⟩ | ⟨u, ⟨u0, u1⟩, e, z0, z⟩
  · exact ⟨0, g1, by omega, t0, rfl, Or.inl ⟨e, fun u a b => z u (by omega) b⟩⟩
  · refine ⟨(u - 1).toNat, g1, by omega, ?_, ?_, Or.inr ?_⟩
    · rw [show (u - 1).toNat + 1 = 0 + 1 + (u.toNat - 1) by omega, rnd_skip _ (fun v a b => z v (by omega) (by omega))]
      exact t0
    · rw [show (u - 1).toNat = 0 + (u.toNat - 1) by omega, tch_skip _ (fun v a b => z v (by omega) (by omega))]
      rfl
    · rw [show (((u - 1).toNat : Nat) : Int) + 1 = u by omega]
      exact ⟨u1, e, z0⟩
end RM
