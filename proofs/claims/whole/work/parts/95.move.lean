/-! a node moves: the row and its ghosts -/
def cH (S : Int → Int) (g : Nat → Int → Int) (x P : Int) : Prop := ¬ (pos g x ≤ pos g P ∧ pos g P < en g (pos g x)) ∧ nk S P = 0 ∧ ∀ t, pos g x ≤ t → t < en g (pos g x) → gd g (go g t) + (gd g P + 1 - gd g x) ≤ 4
def rowM (S : Int → Int) (x P : Int) : Int → Int := ru (ru (ru S 8 (S 8 + 1)) (128 + 10 * x + 1) P) (128 + 10 * x + 2) (S 8 + 1)
def dMov (g : Nat → Int → Int) (x P : Int) : Int → Int := fun y => if pos g x ≤ pos g y ∧ pos g y < en g (pos g x) then gd g y + (gd g P + 1 - gd g x) else gd g y
def gMov (S : Int → Int) (g : Nat → Int → Int) (x P : Int) : Nat → Int → Int := mkG (rowM S x P) (dMov g x P) (oin (gcut g (pos g x) (en g (pos g x) - pos g x)) (en (gcut g (pos g x) (en g (pos g x) - pos g x)) (pos (gcut g (pos g x) (en g (pos g x) - pos g x)) P)) (en g (pos g x) - pos g x) (fun t => go g (pos g x + t))) (gc (gcut g (pos g x) (en g (pos g x) - pos g x)) + (en g (pos g x) - pos g x))
theorem rowM_e {S : Int → Int} {x P : Int} (h0 : 0 ≤ x) : (∀ j, j ≠ 8 → j ≠ 128 + 10 * x + 1 → j ≠ 128 + 10 * x + 2 → rowM S x P j = S j) ∧ rowM S x P 8 = S 8 + 1 ∧ np (rowM S x P) x = P ∧ no (rowM S x P) x = S 8 + 1 := by
  unfold np no rowM
  refine ⟨fun j a b c => ?_, ?_, ?_, ?_⟩
  · rw [ru_n c, ru_n b, ru_n a]
  · rw [ru_n (by omega), ru_n (by omega)]; exact ru_s
  · rw [ru_n (by omega)]; exact ru_s
  · exact ru_s
theorem WS_8 {S S' : Int → Int} {c : Int} (a1 : ∀ j, 0 ≤ j → j < 128 → j ≠ 8 → S' j = S j) (a2 : S' 8 = S 8 + 1) (w : WS S c) : WS S' (c + 1) := by
  have h8 := w.2.2.1
  have ws0 : WS (ru S' 8 (S 8)) c := WS_cg (fun j p q => by
    by_cases e : j = 8
    · rw [e, ru_s]
    · rw [ru_n e]; exact a1 j p q e) w
  obtain ⟨⟨x0, x2⟩, y, z, ws⟩ := ws0
  have en : ∀ j, j ≠ 8 → ru S' 8 (S 8) j = S' j := fun j h => ru_n h
  refine ⟨⟨?_, ?_⟩, fun j p q => ?_, ?_, fun r p q => ?_⟩
  · rw [en 0 (by decide), en 1 (by decide)] at x0; exact x0
  · rw [en 2 (by decide), en 3 (by decide), en 4 (by decide)] at x2; exact x2
  · have := y j p q
    rw [en _ (by omega)] at this; exact this
  · omega
  · have w2 := ws r p q
    have e : cc (ru S' 8 (S 8)) r = cc S' r := en _ (by omega)
    rw [e] at w2
    exact wfC_cg w2 (fun i u v => ⟨(en _ (by omega)).symm, (en _ (by omega)).symm⟩)
section MV
variable {S : Int → Int} {g : Nat → Int → Int} {c x P : Int}
theorem pos_1 (w : WF S g c) (hx : live S x) (hx0 : x ≠ 0) : 1 ≤ pos g x := by
  have wo := w.2.2.2
  obtain ⟨⟨p0, p1⟩, p2⟩ := pos_ok wo hx
  rcases Int.lt_or_le (pos g x) 1 with z | z
  · have : pos g x = 0 := by omega
    rw [this, wo.1.2] at p2
    exact absurd p2.symm hx0
  · exact z
theorem WF_mov (w : WF S g c) (hx : live S x) (hx0 : x ≠ 0) (hP : live S P) (m : cH S g x P) : WF (rowM S x P) (gMov S g x P) (c + 1) := by
  have wo := w.2.2.2
  have wt := w.2.2.1
  have wn := w.2.1
  obtain ⟨m1, m2, m3⟩ := m
  obtain ⟨⟨p0, p1⟩, p2⟩ := pos_ok wo hx
  have p3 := pos_1 w hx hx0
  have he := en_SE p0 p1
  have he1 := he.1
  have w0 := WF_kill w hx hx0
  have kl := rKill_KL (s := pos g x) (e := en g (pos g x)) w
  have hxr := hx.1
  have hc := wo.1.1
  have h8 := w.1.2.2.1
  obtain ⟨r0, r8, rp, ro⟩ := rowM_e (S := S) (x := x) (P := P) hxr.1
  have k8 : rKill S g (pos g x) (en g (pos g x)) 8 = S 8 := rKill_o (by omega)
  have nkM : ∀ k, 0 ≤ k → nk (rowM S x P) k = nk S k := fun k a => r0 _ (by omega) (by omega) (by omega)
  have lM : ∀ k, live (rowM S x P) k ↔ live S k := fun k => ⟨fun h => ⟨h.1, by have := nkM k h.1.1; have := h.2; omega⟩, fun h => ⟨h.1, by have := nkM k h.1.1; have := h.2; omega⟩⟩
  have pM : ∀ k, 0 ≤ k → k ≠ x → np (rowM S x P) k = np S k ∧ no (rowM S x P) k = no S k := fun k a b => ⟨r0 _ (by omega) (by omega) (by omega), r0 _ (by omega) (by omega) (by omega)⟩
  have fM : ∀ k j, 0 ≤ k → 0 ≤ j → j < 7 → nf (rowM S x P) k j = nf S k j := fun k j a b d => r0 _ (by omega) (by omega) (by omega)
  have inS : ∀ t, 0 ≤ t → t < en g (pos g x) - pos g x → live S (go g (pos g x + t)) ∧ pos g (go g (pos g x + t)) = pos g x + t := fun t a b => ⟨wo.2.1 _ (by omega) (by omega), pos_u wo (by omega) (by omega) rfl⟩
  have dM : ∀ t, 0 ≤ t → t < en g (pos g x) - pos g x → dMov g x P (go g (pos g x + t)) = gd g (go g (pos g x + t)) + (gd g P + 1 - gd g x) := fun t a b => if_pos (by rw [(inS t a b).2]; omega)
  have q0 : go g (pos g x + 0) = x := by rw [Int.add_zero]; exact p2
  have wn' : WN (rowM S x P) := by
    refine ⟨?_, fun k a b => ?_, fun k h z => ?_, fun k h z => ?_, fun k h z => ?_, fun k h z => ?_⟩
    · rw [nkM 0 (by decide), (pM 0 (by decide) (Ne.symm hx0)).1, fM 0 0 (by decide) (by decide) (by decide), fM 0 1 (by decide) (by decide) (by decide), fM 0 2 (by decide) (by decide) (by decide)]
      exact wn.1
    · rw [nkM k a]; exact wn.2.1 k a b
    · have h0 := h.1.1
      rw [nkM k h0] at z
      rw [fM k 0 h0 (by decide) (by decide), fM k 1 h0 (by decide) (by decide), fM k 2 h0 (by decide) (by decide)]
      exact wn.2.2.1 k ((lM k).mp h) z
    · have h0 := h.1.1
      rw [nkM k h0] at z
      rw [fM k 0 h0 (by decide) (by decide), fM k 1 h0 (by decide) (by decide), fM k 2 h0 (by decide) (by decide), fM k 3 h0 (by decide) (by decide)]
      exact wn.2.2.2.1 k ((lM k).mp h) z
    · have h0 := h.1.1
      rw [nkM k h0] at z
      rw [fM k 4 h0 (by decide) (by decide), fM k 5 h0 (by decide) (by decide), fM k 6 h0 (by decide) (by decide)]
      exact wn.2.2.2.2.1 k ((lM k).mp h) z
    · have h0 := h.1.1
      rw [nkM k h0] at z
      rw [fM k 4 h0 (by decide) (by decide), fM k 5 h0 (by decide) (by decide)]
      exact wn.2.2.2.2.2 k ((lM k).mp h) z
  have ws' : WS (rowM S x P) (c + 1) := WS_8 (fun j a b d => r0 j d (by omega) (by omega)) r8 w.1
  unfold gMov
  refine WF_ins w0 ⟨⟨⟨(kl.1 P).mpr ⟨hP, m1⟩, ?_⟩, by omega, ?_⟩, ⟨fun t a b => ⟨(inS t a b).1.1, fun y => ((kl.1 _).mp y).2 ?_⟩, fun t u a b d => wo.2.2.1 _ _ (by omega) (by omega) (by omega)⟩, fun k => ?_, fun k h => ?_, ⟨⟨?_, ?_⟩, fun k h h0 hp => ?_⟩, fun t a b => ?_, fun t u a b d y => ?_, fun t a b => ⟨?_, ?_⟩, ?_⟩ wn' ws'
  · exact (kl.2.2.1 P ((kl.1 P).mpr ⟨hP, m1⟩)).trans m2
  · show gc g - (en g (pos g x) - pos g x) + (en g (pos g x) - pos g x) ≤ 24
    omega
  · show pos g x ≤ pos g (go g (pos g x + t)) ∧ pos g (go g (pos g x + t)) < en g (pos g x)
    rw [(inS t a b).2]
    omega
  · constructor
    · intro h
      have h := (lM k).mp h
      by_cases y : pos g x ≤ pos g k ∧ pos g k < en g (pos g x)
      · refine Or.inr ⟨pos g k - pos g x, by omega, ?_⟩
        show go g (pos g x + (pos g k - pos g x)) = k
        rw [show pos g x + (pos g k - pos g x) = pos g k by omega]
        exact (pos_ok wo h).2
      · exact Or.inl ((kl.1 k).mpr ⟨h, y⟩)
    · rintro (h | ⟨t, ⟨a, b⟩, rfl⟩)
      · exact (lM k).mpr ((kl.1 k).mp h).1
      · exact (lM _).mpr (inS t a b).1
  · have hk := (kl.1 k).mp h
    have ne : k ≠ x := fun e => hk.2 (by rw [e]; exact ⟨Int.le_refl _, he1.1⟩)
    have k4 := kl.2.2.2 k h.1.1 h.1.2
    exact ⟨(nkM k h.1.1).trans (kl.2.2.1 k h).symm, (pM k h.1.1 ne).1.trans k4.1.symm, (pM k h.1.1 ne).2.trans k4.2.1.symm, if_neg hk.2⟩
  · show np (rowM S x P) (go g (pos g x + 0)) = P
    rw [q0]; exact rp
  · show dMov g x P (go g (pos g x + 0)) = gd g P + 1
    rw [dM 0 (Int.le_refl _) (by omega), q0]
    omega
  · have hk := (kl.1 k).mp h
    have k4 := kl.2.2.2 k h.1.1 h.1.2
    show no (rKill S g (pos g x) (en g (pos g x))) k < no (rowM S x P) (go g (pos g x + 0))
    rw [q0, ro, k4.2.1]
    have := (wt.2.1 k hk.1 h0).2.2.2.2
    omega
  · obtain ⟨⟨j0, j1⟩, j2, j3, j4⟩ := par_pos w (i := pos g x + t) (by omega) (by omega)
    have sp := (seg_par w p0 he (show 1 ≤ pos g x + t by omega) (by omega) (by omega)).mp ⟨by omega, by omega⟩
    have hl := inS t (by omega) b
    have ne : go g (pos g x + t) ≠ x := fun y => by have := hl.2; rw [y] at this; omega
    have wt1 := wt.2.1 _ hl.1 (o_pos wo (by omega) (by omega))
    have hlr := hl.1.1
    have hpr := wt1.1.1
    obtain ⟨tj, htj⟩ : ∃ tj, pos g (np S (go g (pos g x + t))) = pos g x + tj := ⟨pos g (np S (go g (pos g x + t))) - pos g x, by omega⟩
    rw [htj] at j0 j1 j2 j3 sp
    refine ⟨tj, by omega, ?_, ?_, ?_, fun r a2 b2 => ?_⟩
    · show go g (pos g x + tj) = np (rowM S x P) (go g (pos g x + t))
      rw [(pM _ hlr.1 ne).1]; exact j2
    · show nk (rowM S x P) (go g (pos g x + tj)) = 0
      rw [j2, nkM _ hpr.1]; exact wt1.2.1
    · show dMov g x P (go g (pos g x + t)) = dMov g x P (go g (pos g x + tj)) + 1
      rw [dM t (by omega) b, dM tj (by omega) (by omega), j2]
      omega
    · show dMov g x P (go g (pos g x + t)) ≤ dMov g x P (go g (pos g x + r))
      rw [dM t (by omega) b, dM r (by omega) (by omega)]
      have := j3 (pos g x + r) (by omega) (by omega)
      omega
  · have ht := inS t (by omega) (by omega)
    have hu := inS u (by omega) d
    have nt : go g (pos g x + t) ≠ x := fun y => by have := ht.2; rw [y] at this; omega
    have nu : go g (pos g x + u) ≠ x := fun y => by have := hu.2; rw [y] at this; omega
    have y : np (rowM S x P) (go g (pos g x + t)) = np (rowM S x P) (go g (pos g x + u)) := y
    show no (rowM S x P) (go g (pos g x + t)) < no (rowM S x P) (go g (pos g x + u))
    rw [(pM _ ht.1.1.1 nt).1, (pM _ hu.1.1.1 nu).1] at y
    rw [(pM _ ht.1.1.1 nt).2, (pM _ hu.1.1.1 nu).2]
    exact wo.2.2.2.2.2 _ _ (by omega) (by omega) (by omega) y
  · show dMov g x P (go g (pos g x + t)) ≤ 4
    rw [dM t a b]
    exact m3 _ (by omega) (by omega)
  · show 1 ≤ no (rowM S x P) (go g (pos g x + t)) ∧ no (rowM S x P) (go g (pos g x + t)) ≤ rowM S x P 8
    rw [r8]
    by_cases e0 : t = 0
    · rw [e0, q0, ro]; omega
    · have ht := inS t a b
      have nt : go g (pos g x + t) ≠ x := fun y => by have := ht.2; rw [y] at this; omega
      rw [(pM _ ht.1.1.1 nt).2]
      have := (wt.2.1 _ ht.1 (o_pos wo (by omega) (by omega))).2.2.2
      omega
  · rw [k8, r8]; omega
end MV
